theorem mc_L_moor (X : mv_X) (d : Nat) (h : mv_H) (a0 : Nat) (v1 : Int32) (v2 : Int32) (v3 : Int32) (v4 : Int32) (a5 : Nat) : mv_call X (d + 1) 285 [.ref a0, .int v1, .int v2, .int v3, .int v4, .ref a5] h = mv_run X (mv_call X d) m_L_moor 0 [.ref a0, .int v1, .int v2, .int v3, .int v4, .ref a5, .retAddr 0] [] h := rfl
theorem bk_L_moor_0 (X : mv_X) (call : mv_G) (h : mv_H) (a0 : Nat) (v1 : Int32) (v2 : Int32) (v3 : Int32) (v4 : Int32) (a5 : Nat) : mv_run X call m_L_moor 0 [.ref a0, .int v1, .int v2, .int v3, .int v4, .ref a5, .retAddr 0] [] h =
  mv_run X call m_L_moor 9 [.ref a0, .int v1, .int v2, .int v3, .int v4, .ref a5, .retAddr 0] [.int v4, .int v3, .int v2, .int v1, .ref a0, .int (nZ 0), .ref a5] h :=
  (s_aload rfl rfl).trans <| (s_iconst rfl).trans <| (s_aload_n rfl rfl).trans <| (s_iload_n rfl rfl).trans <| (s_iload_n rfl rfl).trans <| (s_iload_n rfl rfl).trans <| (s_iload rfl rfl).trans <| rfl
theorem bk_L_moor_9 (X : mv_X) (call : mv_G) (h : mv_H) (a0 : Nat) (v1 : Int32) (v2 : Int32) (v3 : Int32) (v4 : Int32) (a5 : Nat) (s0 : Int32) (s1 : Int32) (s2 : Int32) (s3 : Int32) (s4 : Nat) (s5 : Int32) (s6 : Nat) : mv_run X call m_L_moor 9 [.ref a0, .int v1, .int v2, .int v3, .int v4, .ref a5, .retAddr 0] [.int s0, .int s1, .int s2, .int s3, .ref s4, .int s5, .ref s6] h =
  mv_rcv X h [.ref s4, .int s3, .int s2, .int s1, .int s0] 12 (mv_clI call 84 [.ref s4, .int s3, .int s2, .int s1, .int s0] h (mv_thr [(0, 14, 19, 0, 6), (0, 14, 23, 3, 6)] 9 [.ref a0, .int v1, .int v2, .int v3, .int v4, .ref a5, .retAddr 0] (mv_run X call m_L_moor)) fun x1 h1 =>
  mv_run X call m_L_moor 12 [.ref a0, .int v1, .int v2, .int v3, .int v4, .ref a5, .retAddr 0] [.int x1, .int s5, .ref s6] h1) :=
  (s_v1 [.ref s4, .int s3, .int s2, .int s1, .int s0] [.int s5, .ref s6] rfl rfl (fun _ => rfl)).trans <| c_rcv <| c_clI fun x1 h1 => rfl
theorem bk_L_moor_12 (X : mv_X) (call : mv_G) (h : mv_H) (a0 : Nat) (v1 : Int32) (v2 : Int32) (v3 : Int32) (v4 : Int32) (a5 : Nat) (s0 : Int32) (s1 : Int32) (s2 : Nat) : mv_run X call m_L_moor 12 [.ref a0, .int v1, .int v2, .int v3, .int v4, .ref a5, .retAddr 0] [.int s0, .int s1, .ref s2] h =
  mv_as h 3 s2 s1 (.long (s0).toInt64) fun h1 =>
  (some (.inl (some (.int (nZ 0))), h1)) :=
  (s_i2l rfl).trans <| (s_lastore rfl).trans <| c_as fun h1 => (s_goto rfl).trans <| (s_iconst rfl).trans <| s_iret1 rfl rfl
theorem bk_L_moor_19 (X : mv_X) (call : mv_G) (h : mv_H) (a0 : Nat) (v1 : Int32) (v2 : Int32) (v3 : Int32) (v4 : Int32) (a5 : Nat) : mv_run X call m_L_moor 19 [.ref a0, .int v1, .int v2, .int v3, .int v4, .ref a5, .retAddr 0] [] h =
  (some (.inl (some (.int (nZ 1))), h)) :=
  (s_iconst rfl).trans <| s_iret1 rfl rfl
theorem bk_L_moor_23 (X : mv_X) (call : mv_G) (h : mv_H) (a0 : Nat) (v1 : Int32) (v2 : Int32) (v3 : Int32) (v4 : Int32) (a5 : Nat) : mv_run X call m_L_moor 23 [.ref a0, .int v1, .int v2, .int v3, .int v4, .ref a5, .retAddr 0] [] h =
  (some (.inl (some (.int (nZ 2))), h)) :=
  (s_iconst rfl).trans <| s_iret1 rfl rfl
theorem mc_L_castOff (X : mv_X) (d : Nat) (h : mv_H) (a0 : Nat) (v1 : Int32) (a2 : Nat) : mv_call X (d + 1) 286 [.ref a0, .int v1, .ref a2] h = mv_run X (mv_call X d) m_L_castOff 0 [.ref a0, .int v1, .ref a2, .retAddr 0] [] h := rfl
theorem bk_L_castOff_0 (X : mv_X) (call : mv_G) (h : mv_H) (a0 : Nat) (v1 : Int32) (a2 : Nat) : mv_run X call m_L_castOff 0 [.ref a0, .int v1, .ref a2, .retAddr 0] [] h =
  mv_run X call m_L_castOff 4 [.ref a0, .int v1, .ref a2, .retAddr 0] [.int v1, .ref a0, .int (nZ 0), .ref a2] h :=
  (s_aload_n rfl rfl).trans <| (s_iconst rfl).trans <| (s_aload_n rfl rfl).trans <| (s_iload_n rfl rfl).trans <| rfl
theorem bk_L_castOff_4 (X : mv_X) (call : mv_G) (h : mv_H) (a0 : Nat) (v1 : Int32) (a2 : Nat) (s0 : Int32) (s1 : Nat) (s2 : Int32) (s3 : Nat) : mv_run X call m_L_castOff 4 [.ref a0, .int v1, .ref a2, .retAddr 0] [.int s0, .ref s1, .int s2, .ref s3] h =
  mv_rcv X h [.ref s1, .int s0] 12 (mv_clI call 85 [.ref s1, .int s0] h (mv_thr [(0, 9, 13, 1, 3)] 4 [.ref a0, .int v1, .ref a2, .retAddr 0] (mv_run X call m_L_castOff)) fun x1 h1 =>
  mv_run X call m_L_castOff 7 [.ref a0, .int v1, .ref a2, .retAddr 0] [.int x1, .int s2, .ref s3] h1) :=
  (s_v1 [.ref s1, .int s0] [.int s2, .ref s3] rfl rfl (fun _ => rfl)).trans <| c_rcv <| c_clI fun x1 h1 => rfl
theorem bk_L_castOff_7 (X : mv_X) (call : mv_G) (h : mv_H) (a0 : Nat) (v1 : Int32) (a2 : Nat) (s0 : Int32) (s1 : Int32) (s2 : Nat) : mv_run X call m_L_castOff 7 [.ref a0, .int v1, .ref a2, .retAddr 0] [.int s0, .int s1, .ref s2] h =
  mv_as h 3 s2 s1 (.long (s0).toInt64) fun h1 =>
  (some (.inl (some (.int (nZ 0))), h1)) :=
  (s_i2l rfl).trans <| (s_lastore rfl).trans <| c_as fun h1 => (s_goto rfl).trans <| (s_iconst rfl).trans <| s_iret1 rfl rfl
theorem bk_L_castOff_13 (X : mv_X) (call : mv_G) (h : mv_H) (a0 : Nat) (v1 : Int32) (a2 : Nat) : mv_run X call m_L_castOff 13 [.ref a0, .int v1, .ref a2, .retAddr 0] [] h =
  (some (.inl (some (.int (nZ 1))), h)) :=
  (s_iconst rfl).trans <| s_iret1 rfl rfl
theorem mc_L_isMoored (X : mv_X) (d : Nat) (h : mv_H) (a0 : Nat) (v1 : Int32) (a2 : Nat) : mv_call X (d + 1) 287 [.ref a0, .int v1, .ref a2] h = mv_run X (mv_call X d) m_L_isMoored 0 [.ref a0, .int v1, .ref a2, .retAddr 0] [] h := rfl
theorem bk_L_isMoored_0 (X : mv_X) (call : mv_G) (h : mv_H) (a0 : Nat) (v1 : Int32) (a2 : Nat) : mv_run X call m_L_isMoored 0 [.ref a0, .int v1, .ref a2, .retAddr 0] [] h =
  mv_run X call m_L_isMoored 4 [.ref a0, .int v1, .ref a2, .retAddr 0] [.int v1, .ref a0, .int (nZ 0), .ref a2] h :=
  (s_aload_n rfl rfl).trans <| (s_iconst rfl).trans <| (s_aload_n rfl rfl).trans <| (s_iload_n rfl rfl).trans <| rfl
theorem bk_L_isMoored_4 (X : mv_X) (call : mv_G) (h : mv_H) (a0 : Nat) (v1 : Int32) (a2 : Nat) (s0 : Int32) (s1 : Nat) (s2 : Int32) (s3 : Nat) : mv_run X call m_L_isMoored 4 [.ref a0, .int v1, .ref a2, .retAddr 0] [.int s0, .ref s1, .int s2, .ref s3] h =
  mv_rcv X h [.ref s1, .int s0] 12 (mv_clI call 87 [.ref s1, .int s0] h (mv_thr [(0, 16, 20, 0, 3)] 4 [.ref a0, .int v1, .ref a2, .retAddr 0] (mv_run X call m_L_isMoored)) fun x1 h1 =>
  mv_run X call m_L_isMoored 7 [.ref a0, .int v1, .ref a2, .retAddr 0] [.int x1, .int s2, .ref s3] h1) :=
  (s_v1 [.ref s1, .int s0] [.int s2, .ref s3] rfl rfl (fun _ => rfl)).trans <| c_rcv <| c_clI fun x1 h1 => rfl
theorem bk_L_isMoored_7 (X : mv_X) (call : mv_G) (h : mv_H) (a0 : Nat) (v1 : Int32) (a2 : Nat) (s0 : Int32) (s1 : Int32) (s2 : Nat) : mv_run X call m_L_isMoored 7 [.ref a0, .int v1, .ref a2, .retAddr 0] [.int s0, .int s1, .ref s2] h =
  if s0 = 0 then 
  (mv_as h 3 s2 s1 (.long (Int64.ofNat 0)) fun h1 =>
    (some (.inl (some (.int (nZ 0))), h1)))
  else (mv_as h 3 s2 s1 (.long (Int64.ofNat 1)) fun h2 =>
    (some (.inl (some (.int (nZ 0))), h2))) :=
  (s_if_eq rfl).trans <| c_ite ((s_lconst 0 rfl rfl).trans <| (s_lastore rfl).trans <| c_as fun h1 => (s_goto rfl).trans <| (s_iconst rfl).trans <| s_iret1 rfl rfl) ((s_lconst 1 rfl rfl).trans <| (s_goto rfl).trans <| (s_lastore rfl).trans <| c_as fun h2 => (s_goto rfl).trans <| (s_iconst rfl).trans <| s_iret1 rfl rfl)
theorem bk_L_isMoored_20 (X : mv_X) (call : mv_G) (h : mv_H) (a0 : Nat) (v1 : Int32) (a2 : Nat) : mv_run X call m_L_isMoored 20 [.ref a0, .int v1, .ref a2, .retAddr 0] [] h =
  (some (.inl (some (.int (nZ 1))), h)) :=
  (s_iconst rfl).trans <| s_iret1 rfl rfl
theorem mc_L_lift (X : mv_X) (d : Nat) (h : mv_H) (a0 : Nat) (v1 : Int32) (a2 : Nat) : mv_call X (d + 1) 288 [.ref a0, .int v1, .ref a2] h = mv_run X (mv_call X d) m_L_lift 0 [.ref a0, .int v1, .ref a2, .retAddr 0] [] h := rfl
theorem bk_L_lift_0 (X : mv_X) (call : mv_G) (h : mv_H) (a0 : Nat) (v1 : Int32) (a2 : Nat) : mv_run X call m_L_lift 0 [.ref a0, .int v1, .ref a2, .retAddr 0] [] h =
  mv_run X call m_L_lift 4 [.ref a0, .int v1, .ref a2, .retAddr 0] [.int v1, .ref a0, .int (nZ 0), .ref a2] h :=
  (s_aload_n rfl rfl).trans <| (s_iconst rfl).trans <| (s_aload_n rfl rfl).trans <| (s_iload_n rfl rfl).trans <| rfl
theorem bk_L_lift_4 (X : mv_X) (call : mv_G) (h : mv_H) (a0 : Nat) (v1 : Int32) (a2 : Nat) (s0 : Int32) (s1 : Nat) (s2 : Int32) (s3 : Nat) : mv_run X call m_L_lift 4 [.ref a0, .int v1, .ref a2, .retAddr 0] [.int s0, .ref s1, .int s2, .ref s3] h =
  mv_rcv X h [.ref s1, .int s0] 12 (mv_clI call 88 [.ref s1, .int s0] h (mv_thr [(0, 9, 13, 1, 3)] 4 [.ref a0, .int v1, .ref a2, .retAddr 0] (mv_run X call m_L_lift)) fun x1 h1 =>
  mv_run X call m_L_lift 7 [.ref a0, .int v1, .ref a2, .retAddr 0] [.int x1, .int s2, .ref s3] h1) :=
  (s_v1 [.ref s1, .int s0] [.int s2, .ref s3] rfl rfl (fun _ => rfl)).trans <| c_rcv <| c_clI fun x1 h1 => rfl
theorem bk_L_lift_7 (X : mv_X) (call : mv_G) (h : mv_H) (a0 : Nat) (v1 : Int32) (a2 : Nat) (s0 : Int32) (s1 : Int32) (s2 : Nat) : mv_run X call m_L_lift 7 [.ref a0, .int v1, .ref a2, .retAddr 0] [.int s0, .int s1, .ref s2] h =
  mv_as h 3 s2 s1 (.long (s0).toInt64) fun h1 =>
  (some (.inl (some (.int (nZ 0))), h1)) :=
  (s_i2l rfl).trans <| (s_lastore rfl).trans <| c_as fun h1 => (s_goto rfl).trans <| (s_iconst rfl).trans <| s_iret1 rfl rfl
theorem bk_L_lift_13 (X : mv_X) (call : mv_G) (h : mv_H) (a0 : Nat) (v1 : Int32) (a2 : Nat) : mv_run X call m_L_lift 13 [.ref a0, .int v1, .ref a2, .retAddr 0] [] h =
  (some (.inl (some (.int (nZ 1))), h)) :=
  (s_iconst rfl).trans <| s_iret1 rfl rfl
theorem mc_L_ballast (X : mv_X) (d : Nat) (h : mv_H) (a0 : Nat) (v1 : Int32) (a2 : Nat) : mv_call X (d + 1) 289 [.ref a0, .int v1, .ref a2] h = mv_run X (mv_call X d) m_L_ballast 0 [.ref a0, .int v1, .ref a2, .retAddr 0] [] h := rfl
theorem bk_L_ballast_0 (X : mv_X) (call : mv_G) (h : mv_H) (a0 : Nat) (v1 : Int32) (a2 : Nat) : mv_run X call m_L_ballast 0 [.ref a0, .int v1, .ref a2, .retAddr 0] [] h =
  mv_run X call m_L_ballast 4 [.ref a0, .int v1, .ref a2, .retAddr 0] [.int v1, .ref a0, .int (nZ 0), .ref a2] h :=
  (s_aload_n rfl rfl).trans <| (s_iconst rfl).trans <| (s_aload_n rfl rfl).trans <| (s_iload_n rfl rfl).trans <| rfl
theorem bk_L_ballast_4 (X : mv_X) (call : mv_G) (h : mv_H) (a0 : Nat) (v1 : Int32) (a2 : Nat) (s0 : Int32) (s1 : Nat) (s2 : Int32) (s3 : Nat) : mv_run X call m_L_ballast 4 [.ref a0, .int v1, .ref a2, .retAddr 0] [.int s0, .ref s1, .int s2, .ref s3] h =
  mv_rcv X h [.ref s1, .int s0] 12 (mv_clI call 89 [.ref s1, .int s0] h (mv_thr [(0, 9, 13, 1, 3)] 4 [.ref a0, .int v1, .ref a2, .retAddr 0] (mv_run X call m_L_ballast)) fun x1 h1 =>
  mv_run X call m_L_ballast 7 [.ref a0, .int v1, .ref a2, .retAddr 0] [.int x1, .int s2, .ref s3] h1) :=
  (s_v1 [.ref s1, .int s0] [.int s2, .ref s3] rfl rfl (fun _ => rfl)).trans <| c_rcv <| c_clI fun x1 h1 => rfl
theorem bk_L_ballast_7 (X : mv_X) (call : mv_G) (h : mv_H) (a0 : Nat) (v1 : Int32) (a2 : Nat) (s0 : Int32) (s1 : Int32) (s2 : Nat) : mv_run X call m_L_ballast 7 [.ref a0, .int v1, .ref a2, .retAddr 0] [.int s0, .int s1, .ref s2] h =
  mv_as h 3 s2 s1 (.long (s0).toInt64) fun h1 =>
  (some (.inl (some (.int (nZ 0))), h1)) :=
  (s_i2l rfl).trans <| (s_lastore rfl).trans <| c_as fun h1 => (s_goto rfl).trans <| (s_iconst rfl).trans <| s_iret1 rfl rfl
theorem bk_L_ballast_13 (X : mv_X) (call : mv_G) (h : mv_H) (a0 : Nat) (v1 : Int32) (a2 : Nat) : mv_run X call m_L_ballast 13 [.ref a0, .int v1, .ref a2, .retAddr 0] [] h =
  (some (.inl (some (.int (nZ 1))), h)) :=
  (s_iconst rfl).trans <| s_iret1 rfl rfl
theorem mc_L_height (X : mv_X) (d : Nat) (h : mv_H) (a0 : Nat) (v1 : Int32) (a2 : Nat) : mv_call X (d + 1) 290 [.ref a0, .int v1, .ref a2] h = mv_run X (mv_call X d) m_L_height 0 [.ref a0, .int v1, .ref a2, .retAddr 0] [] h := rfl
theorem bk_L_height_0 (X : mv_X) (call : mv_G) (h : mv_H) (a0 : Nat) (v1 : Int32) (a2 : Nat) : mv_run X call m_L_height 0 [.ref a0, .int v1, .ref a2, .retAddr 0] [] h =
  mv_run X call m_L_height 4 [.ref a0, .int v1, .ref a2, .retAddr 0] [.int v1, .ref a0, .int (nZ 0), .ref a2] h :=
  (s_aload_n rfl rfl).trans <| (s_iconst rfl).trans <| (s_aload_n rfl rfl).trans <| (s_iload_n rfl rfl).trans <| rfl
theorem bk_L_height_4 (X : mv_X) (call : mv_G) (h : mv_H) (a0 : Nat) (v1 : Int32) (a2 : Nat) (s0 : Int32) (s1 : Nat) (s2 : Int32) (s3 : Nat) : mv_run X call m_L_height 4 [.ref a0, .int v1, .ref a2, .retAddr 0] [.int s0, .ref s1, .int s2, .ref s3] h =
  mv_rcv X h [.ref s1, .int s0] 12 (mv_clI call 90 [.ref s1, .int s0] h (mv_thr [(0, 9, 13, 1, 3)] 4 [.ref a0, .int v1, .ref a2, .retAddr 0] (mv_run X call m_L_height)) fun x1 h1 =>
  mv_run X call m_L_height 7 [.ref a0, .int v1, .ref a2, .retAddr 0] [.int x1, .int s2, .ref s3] h1) :=
  (s_v1 [.ref s1, .int s0] [.int s2, .ref s3] rfl rfl (fun _ => rfl)).trans <| c_rcv <| c_clI fun x1 h1 => rfl
theorem bk_L_height_7 (X : mv_X) (call : mv_G) (h : mv_H) (a0 : Nat) (v1 : Int32) (a2 : Nat) (s0 : Int32) (s1 : Int32) (s2 : Nat) : mv_run X call m_L_height 7 [.ref a0, .int v1, .ref a2, .retAddr 0] [.int s0, .int s1, .ref s2] h =
  mv_as h 3 s2 s1 (.long (s0).toInt64) fun h1 =>
  (some (.inl (some (.int (nZ 0))), h1)) :=
  (s_i2l rfl).trans <| (s_lastore rfl).trans <| c_as fun h1 => (s_goto rfl).trans <| (s_iconst rfl).trans <| s_iret1 rfl rfl
theorem bk_L_height_13 (X : mv_X) (call : mv_G) (h : mv_H) (a0 : Nat) (v1 : Int32) (a2 : Nat) : mv_run X call m_L_height 13 [.ref a0, .int v1, .ref a2, .retAddr 0] [] h =
  (some (.inl (some (.int (nZ 1))), h)) :=
  (s_iconst rfl).trans <| s_iret1 rfl rfl
theorem mc_L_isBursting (X : mv_X) (d : Nat) (h : mv_H) (a0 : Nat) (v1 : Int32) (a2 : Nat) : mv_call X (d + 1) 291 [.ref a0, .int v1, .ref a2] h = mv_run X (mv_call X d) m_L_isBursting 0 [.ref a0, .int v1, .ref a2, .retAddr 0] [] h := rfl
theorem bk_L_isBursting_0 (X : mv_X) (call : mv_G) (h : mv_H) (a0 : Nat) (v1 : Int32) (a2 : Nat) : mv_run X call m_L_isBursting 0 [.ref a0, .int v1, .ref a2, .retAddr 0] [] h =
  mv_run X call m_L_isBursting 4 [.ref a0, .int v1, .ref a2, .retAddr 0] [.int v1, .ref a0, .int (nZ 0), .ref a2] h :=
  (s_aload_n rfl rfl).trans <| (s_iconst rfl).trans <| (s_aload_n rfl rfl).trans <| (s_iload_n rfl rfl).trans <| rfl
theorem bk_L_isBursting_4 (X : mv_X) (call : mv_G) (h : mv_H) (a0 : Nat) (v1 : Int32) (a2 : Nat) (s0 : Int32) (s1 : Nat) (s2 : Int32) (s3 : Nat) : mv_run X call m_L_isBursting 4 [.ref a0, .int v1, .ref a2, .retAddr 0] [.int s0, .ref s1, .int s2, .ref s3] h =
  mv_rcv X h [.ref s1, .int s0] 12 (mv_clI call 91 [.ref s1, .int s0] h (mv_thr [(0, 16, 20, 1, 3)] 4 [.ref a0, .int v1, .ref a2, .retAddr 0] (mv_run X call m_L_isBursting)) fun x1 h1 =>
  mv_run X call m_L_isBursting 7 [.ref a0, .int v1, .ref a2, .retAddr 0] [.int x1, .int s2, .ref s3] h1) :=
  (s_v1 [.ref s1, .int s0] [.int s2, .ref s3] rfl rfl (fun _ => rfl)).trans <| c_rcv <| c_clI fun x1 h1 => rfl
theorem bk_L_isBursting_7 (X : mv_X) (call : mv_G) (h : mv_H) (a0 : Nat) (v1 : Int32) (a2 : Nat) (s0 : Int32) (s1 : Int32) (s2 : Nat) : mv_run X call m_L_isBursting 7 [.ref a0, .int v1, .ref a2, .retAddr 0] [.int s0, .int s1, .ref s2] h =
  if s0 = 0 then 
  (mv_as h 3 s2 s1 (.long (Int64.ofNat 0)) fun h1 =>
    (some (.inl (some (.int (nZ 0))), h1)))
  else (mv_as h 3 s2 s1 (.long (Int64.ofNat 1)) fun h2 =>
    (some (.inl (some (.int (nZ 0))), h2))) :=
  (s_if_eq rfl).trans <| c_ite ((s_lconst 0 rfl rfl).trans <| (s_lastore rfl).trans <| c_as fun h1 => (s_goto rfl).trans <| (s_iconst rfl).trans <| s_iret1 rfl rfl) ((s_lconst 1 rfl rfl).trans <| (s_goto rfl).trans <| (s_lastore rfl).trans <| c_as fun h2 => (s_goto rfl).trans <| (s_iconst rfl).trans <| s_iret1 rfl rfl)
theorem bk_L_isBursting_20 (X : mv_X) (call : mv_G) (h : mv_H) (a0 : Nat) (v1 : Int32) (a2 : Nat) : mv_run X call m_L_isBursting 20 [.ref a0, .int v1, .ref a2, .retAddr 0] [] h =
  (some (.inl (some (.int (nZ 1))), h)) :=
  (s_iconst rfl).trans <| s_iret1 rfl rfl
theorem mc_L_berthByHeight (X : mv_X) (d : Nat) (h : mv_H) (a0 : Nat) (v1 : Int32) (a2 : Nat) : mv_call X (d + 1) 292 [.ref a0, .int v1, .ref a2] h = mv_run X (mv_call X d) m_L_berthByHeight 0 [.ref a0, .int v1, .ref a2, .retAddr 0] [] h := rfl
theorem bk_L_berthByHeight_0 (X : mv_X) (call : mv_G) (h : mv_H) (a0 : Nat) (v1 : Int32) (a2 : Nat) : mv_run X call m_L_berthByHeight 0 [.ref a0, .int v1, .ref a2, .retAddr 0] [] h =
  mv_run X call m_L_berthByHeight 4 [.ref a0, .int v1, .ref a2, .retAddr 0] [.int v1, .ref a0, .int (nZ 0), .ref a2] h :=
  (s_aload_n rfl rfl).trans <| (s_iconst rfl).trans <| (s_aload_n rfl rfl).trans <| (s_iload_n rfl rfl).trans <| rfl
theorem bk_L_berthByHeight_4 (X : mv_X) (call : mv_G) (h : mv_H) (a0 : Nat) (v1 : Int32) (a2 : Nat) (s0 : Int32) (s1 : Nat) (s2 : Int32) (s3 : Nat) : mv_run X call m_L_berthByHeight 4 [.ref a0, .int v1, .ref a2, .retAddr 0] [.int s0, .ref s1, .int s2, .ref s3] h =
  mv_rcv X h [.ref s1, .int s0] 12 (mv_clI call 92 [.ref s1, .int s0] h (mv_thr [(0, 9, 13, 1, 3)] 4 [.ref a0, .int v1, .ref a2, .retAddr 0] (mv_run X call m_L_berthByHeight)) fun x1 h1 =>
  mv_run X call m_L_berthByHeight 7 [.ref a0, .int v1, .ref a2, .retAddr 0] [.int x1, .int s2, .ref s3] h1) :=
  (s_v1 [.ref s1, .int s0] [.int s2, .ref s3] rfl rfl (fun _ => rfl)).trans <| c_rcv <| c_clI fun x1 h1 => rfl
theorem bk_L_berthByHeight_7 (X : mv_X) (call : mv_G) (h : mv_H) (a0 : Nat) (v1 : Int32) (a2 : Nat) (s0 : Int32) (s1 : Int32) (s2 : Nat) : mv_run X call m_L_berthByHeight 7 [.ref a0, .int v1, .ref a2, .retAddr 0] [.int s0, .int s1, .ref s2] h =
  mv_as h 3 s2 s1 (.long (s0).toInt64) fun h1 =>
  (some (.inl (some (.int (nZ 0))), h1)) :=
  (s_i2l rfl).trans <| (s_lastore rfl).trans <| c_as fun h1 => (s_goto rfl).trans <| (s_iconst rfl).trans <| s_iret1 rfl rfl
theorem bk_L_berthByHeight_13 (X : mv_X) (call : mv_G) (h : mv_H) (a0 : Nat) (v1 : Int32) (a2 : Nat) : mv_run X call m_L_berthByHeight 13 [.ref a0, .int v1, .ref a2, .retAddr 0] [] h =
  (some (.inl (some (.int (nZ 1))), h)) :=
  (s_iconst rfl).trans <| s_iret1 rfl rfl
theorem mc_L_load (X : mv_X) (d : Nat) (h : mv_H) (a0 : Nat) (v1 : Int32) (v2 : Int32) (a3 : Nat) : mv_call X (d + 1) 293 [.ref a0, .int v1, .int v2, .ref a3] h = mv_run X (mv_call X d) m_L_load 0 [.ref a0, .int v1, .int v2, .ref a3, .retAddr 0] [] h := rfl
theorem bk_L_load_0 (X : mv_X) (call : mv_G) (h : mv_H) (a0 : Nat) (v1 : Int32) (v2 : Int32) (a3 : Nat) : mv_run X call m_L_load 0 [.ref a0, .int v1, .int v2, .ref a3, .retAddr 0] [] h =
  mv_run X call m_L_load 5 [.ref a0, .int v1, .int v2, .ref a3, .retAddr 0] [.int v2, .int v1, .ref a0, .int (nZ 0), .ref a3] h :=
  (s_aload_n rfl rfl).trans <| (s_iconst rfl).trans <| (s_aload_n rfl rfl).trans <| (s_iload_n rfl rfl).trans <| (s_iload_n rfl rfl).trans <| rfl
theorem bk_L_load_5 (X : mv_X) (call : mv_G) (h : mv_H) (a0 : Nat) (v1 : Int32) (v2 : Int32) (a3 : Nat) (s0 : Int32) (s1 : Int32) (s2 : Nat) (s3 : Int32) (s4 : Nat) : mv_run X call m_L_load 5 [.ref a0, .int v1, .int v2, .ref a3, .retAddr 0] [.int s0, .int s1, .ref s2, .int s3, .ref s4] h =
  mv_rcv X h [.ref s2, .int s1, .int s0] 12 (mv_clI call 93 [.ref s2, .int s1, .int s0] h (mv_thr [(0, 10, 15, 1, 4), (0, 10, 19, 0, 4), (0, 10, 23, 3, 4)] 5 [.ref a0, .int v1, .int v2, .ref a3, .retAddr 0] (mv_run X call m_L_load)) fun x1 h1 =>
  mv_run X call m_L_load 8 [.ref a0, .int v1, .int v2, .ref a3, .retAddr 0] [.int x1, .int s3, .ref s4] h1) :=
  (s_v1 [.ref s2, .int s1, .int s0] [.int s3, .ref s4] rfl rfl (fun _ => rfl)).trans <| c_rcv <| c_clI fun x1 h1 => rfl
theorem bk_L_load_8 (X : mv_X) (call : mv_G) (h : mv_H) (a0 : Nat) (v1 : Int32) (v2 : Int32) (a3 : Nat) (s0 : Int32) (s1 : Int32) (s2 : Nat) : mv_run X call m_L_load 8 [.ref a0, .int v1, .int v2, .ref a3, .retAddr 0] [.int s0, .int s1, .ref s2] h =
  mv_as h 3 s2 s1 (.long (s0).toInt64) fun h1 =>
  (some (.inl (some (.int (nZ 0))), h1)) :=
  (s_i2l rfl).trans <| (s_lastore rfl).trans <| c_as fun h1 => (s_goto rfl).trans <| (s_iconst rfl).trans <| s_iret1 rfl rfl
theorem bk_L_load_15 (X : mv_X) (call : mv_G) (h : mv_H) (a0 : Nat) (v1 : Int32) (v2 : Int32) (a3 : Nat) : mv_run X call m_L_load 15 [.ref a0, .int v1, .int v2, .ref a3, .retAddr 0] [] h =
  (some (.inl (some (.int (nZ 1))), h)) :=
  (s_iconst rfl).trans <| s_iret1 rfl rfl
theorem bk_L_load_19 (X : mv_X) (call : mv_G) (h : mv_H) (a0 : Nat) (v1 : Int32) (v2 : Int32) (a3 : Nat) : mv_run X call m_L_load 19 [.ref a0, .int v1, .int v2, .ref a3, .retAddr 0] [] h =
  (some (.inl (some (.int (nZ 2))), h)) :=
  (s_iconst rfl).trans <| s_iret1 rfl rfl
theorem bk_L_load_23 (X : mv_X) (call : mv_G) (h : mv_H) (a0 : Nat) (v1 : Int32) (v2 : Int32) (a3 : Nat) : mv_run X call m_L_load 23 [.ref a0, .int v1, .int v2, .ref a3, .retAddr 0] [] h =
  (some (.inl (some (.int (nZ 3))), h)) :=
  (s_iconst rfl).trans <| s_iret1 rfl rfl
theorem mc_L_drop (X : mv_X) (d : Nat) (h : mv_H) (a0 : Nat) (v1 : Int32) (v2 : Int32) (a3 : Nat) : mv_call X (d + 1) 294 [.ref a0, .int v1, .int v2, .ref a3] h = mv_run X (mv_call X d) m_L_drop 0 [.ref a0, .int v1, .int v2, .ref a3, .retAddr 0] [] h := rfl
theorem bk_L_drop_0 (X : mv_X) (call : mv_G) (h : mv_H) (a0 : Nat) (v1 : Int32) (v2 : Int32) (a3 : Nat) : mv_run X call m_L_drop 0 [.ref a0, .int v1, .int v2, .ref a3, .retAddr 0] [] h =
  mv_run X call m_L_drop 5 [.ref a0, .int v1, .int v2, .ref a3, .retAddr 0] [.int v2, .int v1, .ref a0, .int (nZ 0), .ref a3] h :=
  (s_aload_n rfl rfl).trans <| (s_iconst rfl).trans <| (s_aload_n rfl rfl).trans <| (s_iload_n rfl rfl).trans <| (s_iload_n rfl rfl).trans <| rfl
theorem bk_L_drop_5 (X : mv_X) (call : mv_G) (h : mv_H) (a0 : Nat) (v1 : Int32) (v2 : Int32) (a3 : Nat) (s0 : Int32) (s1 : Int32) (s2 : Nat) (s3 : Int32) (s4 : Nat) : mv_run X call m_L_drop 5 [.ref a0, .int v1, .int v2, .ref a3, .retAddr 0] [.int s0, .int s1, .ref s2, .int s3, .ref s4] h =
  mv_rcv X h [.ref s2, .int s1, .int s0] 12 (mv_clI call 94 [.ref s2, .int s1, .int s0] h (mv_thr [(0, 10, 15, 1, 4), (0, 10, 19, 2, 4)] 5 [.ref a0, .int v1, .int v2, .ref a3, .retAddr 0] (mv_run X call m_L_drop)) fun x1 h1 =>
  mv_run X call m_L_drop 8 [.ref a0, .int v1, .int v2, .ref a3, .retAddr 0] [.int x1, .int s3, .ref s4] h1) :=
  (s_v1 [.ref s2, .int s1, .int s0] [.int s3, .ref s4] rfl rfl (fun _ => rfl)).trans <| c_rcv <| c_clI fun x1 h1 => rfl
theorem bk_L_drop_8 (X : mv_X) (call : mv_G) (h : mv_H) (a0 : Nat) (v1 : Int32) (v2 : Int32) (a3 : Nat) (s0 : Int32) (s1 : Int32) (s2 : Nat) : mv_run X call m_L_drop 8 [.ref a0, .int v1, .int v2, .ref a3, .retAddr 0] [.int s0, .int s1, .ref s2] h =
  mv_as h 3 s2 s1 (.long (s0).toInt64) fun h1 =>
  (some (.inl (some (.int (nZ 0))), h1)) :=
  (s_i2l rfl).trans <| (s_lastore rfl).trans <| c_as fun h1 => (s_goto rfl).trans <| (s_iconst rfl).trans <| s_iret1 rfl rfl
theorem bk_L_drop_15 (X : mv_X) (call : mv_G) (h : mv_H) (a0 : Nat) (v1 : Int32) (v2 : Int32) (a3 : Nat) : mv_run X call m_L_drop 15 [.ref a0, .int v1, .int v2, .ref a3, .retAddr 0] [] h =
  (some (.inl (some (.int (nZ 1))), h)) :=
  (s_iconst rfl).trans <| s_iret1 rfl rfl
theorem bk_L_drop_19 (X : mv_X) (call : mv_G) (h : mv_H) (a0 : Nat) (v1 : Int32) (v2 : Int32) (a3 : Nat) : mv_run X call m_L_drop 19 [.ref a0, .int v1, .int v2, .ref a3, .retAddr 0] [] h =
  (some (.inl (some (.int (nZ 2))), h)) :=
  (s_iconst rfl).trans <| s_iret1 rfl rfl
theorem mc_L_rise (X : mv_X) (d : Nat) (h : mv_H) (a0 : Nat) (v1 : Int32) (v2 : Int32) (a3 : Nat) : mv_call X (d + 1) 295 [.ref a0, .int v1, .int v2, .ref a3] h = mv_run X (mv_call X d) m_L_rise 0 [.ref a0, .int v1, .int v2, .ref a3, .retAddr 0] [] h := rfl
theorem bk_L_rise_0 (X : mv_X) (call : mv_G) (h : mv_H) (a0 : Nat) (v1 : Int32) (v2 : Int32) (a3 : Nat) : mv_run X call m_L_rise 0 [.ref a0, .int v1, .int v2, .ref a3, .retAddr 0] [] h =
  mv_run X call m_L_rise 5 [.ref a0, .int v1, .int v2, .ref a3, .retAddr 0] [.int v2, .int v1, .ref a0, .int (nZ 0), .ref a3] h :=
  (s_aload_n rfl rfl).trans <| (s_iconst rfl).trans <| (s_aload_n rfl rfl).trans <| (s_iload_n rfl rfl).trans <| (s_iload_n rfl rfl).trans <| rfl
theorem bk_L_rise_5 (X : mv_X) (call : mv_G) (h : mv_H) (a0 : Nat) (v1 : Int32) (v2 : Int32) (a3 : Nat) (s0 : Int32) (s1 : Int32) (s2 : Nat) (s3 : Int32) (s4 : Nat) : mv_run X call m_L_rise 5 [.ref a0, .int v1, .int v2, .ref a3, .retAddr 0] [.int s0, .int s1, .ref s2, .int s3, .ref s4] h =
  mv_rcv X h [.ref s2, .int s1, .int s0] 12 (mv_clI call 95 [.ref s2, .int s1, .int s0] h (mv_thr [(0, 10, 15, 1, 4), (0, 10, 19, 0, 4), (0, 10, 23, 3, 4)] 5 [.ref a0, .int v1, .int v2, .ref a3, .retAddr 0] (mv_run X call m_L_rise)) fun x1 h1 =>
  mv_run X call m_L_rise 8 [.ref a0, .int v1, .int v2, .ref a3, .retAddr 0] [.int x1, .int s3, .ref s4] h1) :=
  (s_v1 [.ref s2, .int s1, .int s0] [.int s3, .ref s4] rfl rfl (fun _ => rfl)).trans <| c_rcv <| c_clI fun x1 h1 => rfl
theorem bk_L_rise_8 (X : mv_X) (call : mv_G) (h : mv_H) (a0 : Nat) (v1 : Int32) (v2 : Int32) (a3 : Nat) (s0 : Int32) (s1 : Int32) (s2 : Nat) : mv_run X call m_L_rise 8 [.ref a0, .int v1, .int v2, .ref a3, .retAddr 0] [.int s0, .int s1, .ref s2] h =
  mv_as h 3 s2 s1 (.long (s0).toInt64) fun h1 =>
  (some (.inl (some (.int (nZ 0))), h1)) :=
  (s_i2l rfl).trans <| (s_lastore rfl).trans <| c_as fun h1 => (s_goto rfl).trans <| (s_iconst rfl).trans <| s_iret1 rfl rfl
theorem bk_L_rise_15 (X : mv_X) (call : mv_G) (h : mv_H) (a0 : Nat) (v1 : Int32) (v2 : Int32) (a3 : Nat) : mv_run X call m_L_rise 15 [.ref a0, .int v1, .int v2, .ref a3, .retAddr 0] [] h =
  (some (.inl (some (.int (nZ 1))), h)) :=
  (s_iconst rfl).trans <| s_iret1 rfl rfl
theorem bk_L_rise_19 (X : mv_X) (call : mv_G) (h : mv_H) (a0 : Nat) (v1 : Int32) (v2 : Int32) (a3 : Nat) : mv_run X call m_L_rise 19 [.ref a0, .int v1, .int v2, .ref a3, .retAddr 0] [] h =
  (some (.inl (some (.int (nZ 2))), h)) :=
  (s_iconst rfl).trans <| s_iret1 rfl rfl
theorem bk_L_rise_23 (X : mv_X) (call : mv_G) (h : mv_H) (a0 : Nat) (v1 : Int32) (v2 : Int32) (a3 : Nat) : mv_run X call m_L_rise 23 [.ref a0, .int v1, .int v2, .ref a3, .retAddr 0] [] h =
  (some (.inl (some (.int (nZ 3))), h)) :=
  (s_iconst rfl).trans <| s_iret1 rfl rfl
theorem mc_L_bagCount (X : mv_X) (d : Nat) (h : mv_H) (a0 : Nat) (v1 : Int32) (a2 : Nat) : mv_call X (d + 1) 296 [.ref a0, .int v1, .ref a2] h = mv_run X (mv_call X d) m_L_bagCount 0 [.ref a0, .int v1, .ref a2, .retAddr 0] [] h := rfl
theorem bk_L_bagCount_0 (X : mv_X) (call : mv_G) (h : mv_H) (a0 : Nat) (v1 : Int32) (a2 : Nat) : mv_run X call m_L_bagCount 0 [.ref a0, .int v1, .ref a2, .retAddr 0] [] h =
  mv_run X call m_L_bagCount 4 [.ref a0, .int v1, .ref a2, .retAddr 0] [.int v1, .ref a0, .int (nZ 0), .ref a2] h :=
  (s_aload_n rfl rfl).trans <| (s_iconst rfl).trans <| (s_aload_n rfl rfl).trans <| (s_iload_n rfl rfl).trans <| rfl
theorem bk_L_bagCount_4 (X : mv_X) (call : mv_G) (h : mv_H) (a0 : Nat) (v1 : Int32) (a2 : Nat) (s0 : Int32) (s1 : Nat) (s2 : Int32) (s3 : Nat) : mv_run X call m_L_bagCount 4 [.ref a0, .int v1, .ref a2, .retAddr 0] [.int s0, .ref s1, .int s2, .ref s3] h =
  mv_rcv X h [.ref s1, .int s0] 12 (mv_clI call 96 [.ref s1, .int s0] h (mv_thr [(0, 9, 13, 1, 3)] 4 [.ref a0, .int v1, .ref a2, .retAddr 0] (mv_run X call m_L_bagCount)) fun x1 h1 =>
  mv_run X call m_L_bagCount 7 [.ref a0, .int v1, .ref a2, .retAddr 0] [.int x1, .int s2, .ref s3] h1) :=
  (s_v1 [.ref s1, .int s0] [.int s2, .ref s3] rfl rfl (fun _ => rfl)).trans <| c_rcv <| c_clI fun x1 h1 => rfl
theorem bk_L_bagCount_7 (X : mv_X) (call : mv_G) (h : mv_H) (a0 : Nat) (v1 : Int32) (a2 : Nat) (s0 : Int32) (s1 : Int32) (s2 : Nat) : mv_run X call m_L_bagCount 7 [.ref a0, .int v1, .ref a2, .retAddr 0] [.int s0, .int s1, .ref s2] h =
  mv_as h 3 s2 s1 (.long (s0).toInt64) fun h1 =>
  (some (.inl (some (.int (nZ 0))), h1)) :=
  (s_i2l rfl).trans <| (s_lastore rfl).trans <| c_as fun h1 => (s_goto rfl).trans <| (s_iconst rfl).trans <| s_iret1 rfl rfl
theorem bk_L_bagCount_13 (X : mv_X) (call : mv_G) (h : mv_H) (a0 : Nat) (v1 : Int32) (a2 : Nat) : mv_run X call m_L_bagCount 13 [.ref a0, .int v1, .ref a2, .retAddr 0] [] h =
  (some (.inl (some (.int (nZ 1))), h)) :=
  (s_iconst rfl).trans <| s_iret1 rfl rfl
theorem mc_L_bagWeight (X : mv_X) (d : Nat) (h : mv_H) (a0 : Nat) (v1 : Int32) (v2 : Int32) (a3 : Nat) : mv_call X (d + 1) 297 [.ref a0, .int v1, .int v2, .ref a3] h = mv_run X (mv_call X d) m_L_bagWeight 0 [.ref a0, .int v1, .int v2, .ref a3, .retAddr 0] [] h := rfl
theorem bk_L_bagWeight_0 (X : mv_X) (call : mv_G) (h : mv_H) (a0 : Nat) (v1 : Int32) (v2 : Int32) (a3 : Nat) : mv_run X call m_L_bagWeight 0 [.ref a0, .int v1, .int v2, .ref a3, .retAddr 0] [] h =
  mv_run X call m_L_bagWeight 5 [.ref a0, .int v1, .int v2, .ref a3, .retAddr 0] [.int v2, .int v1, .ref a0, .int (nZ 0), .ref a3] h :=
  (s_aload_n rfl rfl).trans <| (s_iconst rfl).trans <| (s_aload_n rfl rfl).trans <| (s_iload_n rfl rfl).trans <| (s_iload_n rfl rfl).trans <| rfl
theorem bk_L_bagWeight_5 (X : mv_X) (call : mv_G) (h : mv_H) (a0 : Nat) (v1 : Int32) (v2 : Int32) (a3 : Nat) (s0 : Int32) (s1 : Int32) (s2 : Nat) (s3 : Int32) (s4 : Nat) : mv_run X call m_L_bagWeight 5 [.ref a0, .int v1, .int v2, .ref a3, .retAddr 0] [.int s0, .int s1, .ref s2, .int s3, .ref s4] h =
  mv_rcv X h [.ref s2, .int s1, .int s0] 12 (mv_clI call 97 [.ref s2, .int s1, .int s0] h (mv_thr [(0, 10, 15, 1, 4), (0, 10, 19, 2, 4)] 5 [.ref a0, .int v1, .int v2, .ref a3, .retAddr 0] (mv_run X call m_L_bagWeight)) fun x1 h1 =>
  mv_run X call m_L_bagWeight 8 [.ref a0, .int v1, .int v2, .ref a3, .retAddr 0] [.int x1, .int s3, .ref s4] h1) :=
  (s_v1 [.ref s2, .int s1, .int s0] [.int s3, .ref s4] rfl rfl (fun _ => rfl)).trans <| c_rcv <| c_clI fun x1 h1 => rfl
theorem bk_L_bagWeight_8 (X : mv_X) (call : mv_G) (h : mv_H) (a0 : Nat) (v1 : Int32) (v2 : Int32) (a3 : Nat) (s0 : Int32) (s1 : Int32) (s2 : Nat) : mv_run X call m_L_bagWeight 8 [.ref a0, .int v1, .int v2, .ref a3, .retAddr 0] [.int s0, .int s1, .ref s2] h =
  mv_as h 3 s2 s1 (.long (s0).toInt64) fun h1 =>
  (some (.inl (some (.int (nZ 0))), h1)) :=
  (s_i2l rfl).trans <| (s_lastore rfl).trans <| c_as fun h1 => (s_goto rfl).trans <| (s_iconst rfl).trans <| s_iret1 rfl rfl
theorem bk_L_bagWeight_15 (X : mv_X) (call : mv_G) (h : mv_H) (a0 : Nat) (v1 : Int32) (v2 : Int32) (a3 : Nat) : mv_run X call m_L_bagWeight 15 [.ref a0, .int v1, .int v2, .ref a3, .retAddr 0] [] h =
  (some (.inl (some (.int (nZ 1))), h)) :=
  (s_iconst rfl).trans <| s_iret1 rfl rfl
theorem bk_L_bagWeight_19 (X : mv_X) (call : mv_G) (h : mv_H) (a0 : Nat) (v1 : Int32) (v2 : Int32) (a3 : Nat) : mv_run X call m_L_bagWeight 19 [.ref a0, .int v1, .int v2, .ref a3, .retAddr 0] [] h =
  (some (.inl (some (.int (nZ 2))), h)) :=
  (s_iconst rfl).trans <| s_iret1 rfl rfl
theorem mc_L_fewestDrops (X : mv_X) (d : Nat) (h : mv_H) (a0 : Nat) (v1 : Int32) (v2 : Int32) (a3 : Nat) : mv_call X (d + 1) 298 [.ref a0, .int v1, .int v2, .ref a3] h = mv_run X (mv_call X d) m_L_fewestDrops 0 [.ref a0, .int v1, .int v2, .ref a3, .retAddr 0] [] h := rfl
theorem bk_L_fewestDrops_0 (X : mv_X) (call : mv_G) (h : mv_H) (a0 : Nat) (v1 : Int32) (v2 : Int32) (a3 : Nat) : mv_run X call m_L_fewestDrops 0 [.ref a0, .int v1, .int v2, .ref a3, .retAddr 0] [] h =
  mv_run X call m_L_fewestDrops 5 [.ref a0, .int v1, .int v2, .ref a3, .retAddr 0] [.int v2, .int v1, .ref a0, .int (nZ 0), .ref a3] h :=
  (s_aload_n rfl rfl).trans <| (s_iconst rfl).trans <| (s_aload_n rfl rfl).trans <| (s_iload_n rfl rfl).trans <| (s_iload_n rfl rfl).trans <| rfl
theorem bk_L_fewestDrops_5 (X : mv_X) (call : mv_G) (h : mv_H) (a0 : Nat) (v1 : Int32) (v2 : Int32) (a3 : Nat) (s0 : Int32) (s1 : Int32) (s2 : Nat) (s3 : Int32) (s4 : Nat) : mv_run X call m_L_fewestDrops 5 [.ref a0, .int v1, .int v2, .ref a3, .retAddr 0] [.int s0, .int s1, .ref s2, .int s3, .ref s4] h =
  mv_rcv X h [.ref s2, .int s1, .int s0] 12 (mv_clI call 98 [.ref s2, .int s1, .int s0] h (mv_thr [(0, 10, 15, 0, 4), (0, 10, 19, 1, 4)] 5 [.ref a0, .int v1, .int v2, .ref a3, .retAddr 0] (mv_run X call m_L_fewestDrops)) fun x1 h1 =>
  mv_run X call m_L_fewestDrops 8 [.ref a0, .int v1, .int v2, .ref a3, .retAddr 0] [.int x1, .int s3, .ref s4] h1) :=
  (s_v1 [.ref s2, .int s1, .int s0] [.int s3, .ref s4] rfl rfl (fun _ => rfl)).trans <| c_rcv <| c_clI fun x1 h1 => rfl
theorem bk_L_fewestDrops_8 (X : mv_X) (call : mv_G) (h : mv_H) (a0 : Nat) (v1 : Int32) (v2 : Int32) (a3 : Nat) (s0 : Int32) (s1 : Int32) (s2 : Nat) : mv_run X call m_L_fewestDrops 8 [.ref a0, .int v1, .int v2, .ref a3, .retAddr 0] [.int s0, .int s1, .ref s2] h =
  mv_as h 3 s2 s1 (.long (s0).toInt64) fun h1 =>
  (some (.inl (some (.int (nZ 0))), h1)) :=
  (s_i2l rfl).trans <| (s_lastore rfl).trans <| c_as fun h1 => (s_goto rfl).trans <| (s_iconst rfl).trans <| s_iret1 rfl rfl
theorem bk_L_fewestDrops_15 (X : mv_X) (call : mv_G) (h : mv_H) (a0 : Nat) (v1 : Int32) (v2 : Int32) (a3 : Nat) : mv_run X call m_L_fewestDrops 15 [.ref a0, .int v1, .int v2, .ref a3, .retAddr 0] [] h =
  (some (.inl (some (.int (nZ 1))), h)) :=
  (s_iconst rfl).trans <| s_iret1 rfl rfl
theorem bk_L_fewestDrops_19 (X : mv_X) (call : mv_G) (h : mv_H) (a0 : Nat) (v1 : Int32) (v2 : Int32) (a3 : Nat) : mv_run X call m_L_fewestDrops 19 [.ref a0, .int v1, .int v2, .ref a3, .retAddr 0] [] h =
  (some (.inl (some (.int (nZ 2))), h)) :=
  (s_iconst rfl).trans <| s_iret1 rfl rfl
theorem mc_L_fewestDropsBySets (X : mv_X) (d : Nat) (h : mv_H) (a0 : Nat) (v1 : Int32) (v2 : Int32) (a3 : Nat) : mv_call X (d + 1) 299 [.ref a0, .int v1, .int v2, .ref a3] h = mv_run X (mv_call X d) m_L_fewestDropsBySets 0 [.ref a0, .int v1, .int v2, .ref a3, .retAddr 0] [] h := rfl
theorem bk_L_fewestDropsBySets_0 (X : mv_X) (call : mv_G) (h : mv_H) (a0 : Nat) (v1 : Int32) (v2 : Int32) (a3 : Nat) : mv_run X call m_L_fewestDropsBySets 0 [.ref a0, .int v1, .int v2, .ref a3, .retAddr 0] [] h =
  mv_run X call m_L_fewestDropsBySets 5 [.ref a0, .int v1, .int v2, .ref a3, .retAddr 0] [.int v2, .int v1, .ref a0, .int (nZ 0), .ref a3] h :=
  (s_aload_n rfl rfl).trans <| (s_iconst rfl).trans <| (s_aload_n rfl rfl).trans <| (s_iload_n rfl rfl).trans <| (s_iload_n rfl rfl).trans <| rfl
theorem bk_L_fewestDropsBySets_5 (X : mv_X) (call : mv_G) (h : mv_H) (a0 : Nat) (v1 : Int32) (v2 : Int32) (a3 : Nat) (s0 : Int32) (s1 : Int32) (s2 : Nat) (s3 : Int32) (s4 : Nat) : mv_run X call m_L_fewestDropsBySets 5 [.ref a0, .int v1, .int v2, .ref a3, .retAddr 0] [.int s0, .int s1, .ref s2, .int s3, .ref s4] h =
  mv_rcv X h [.ref s2, .int s1, .int s0] 12 (mv_clI call 99 [.ref s2, .int s1, .int s0] h (mv_thr [(0, 10, 15, 0, 4), (0, 10, 19, 1, 4)] 5 [.ref a0, .int v1, .int v2, .ref a3, .retAddr 0] (mv_run X call m_L_fewestDropsBySets)) fun x1 h1 =>
  mv_run X call m_L_fewestDropsBySets 8 [.ref a0, .int v1, .int v2, .ref a3, .retAddr 0] [.int x1, .int s3, .ref s4] h1) :=
  (s_v1 [.ref s2, .int s1, .int s0] [.int s3, .ref s4] rfl rfl (fun _ => rfl)).trans <| c_rcv <| c_clI fun x1 h1 => rfl
theorem bk_L_fewestDropsBySets_8 (X : mv_X) (call : mv_G) (h : mv_H) (a0 : Nat) (v1 : Int32) (v2 : Int32) (a3 : Nat) (s0 : Int32) (s1 : Int32) (s2 : Nat) : mv_run X call m_L_fewestDropsBySets 8 [.ref a0, .int v1, .int v2, .ref a3, .retAddr 0] [.int s0, .int s1, .ref s2] h =
  mv_as h 3 s2 s1 (.long (s0).toInt64) fun h1 =>
  (some (.inl (some (.int (nZ 0))), h1)) :=
  (s_i2l rfl).trans <| (s_lastore rfl).trans <| c_as fun h1 => (s_goto rfl).trans <| (s_iconst rfl).trans <| s_iret1 rfl rfl
theorem bk_L_fewestDropsBySets_15 (X : mv_X) (call : mv_G) (h : mv_H) (a0 : Nat) (v1 : Int32) (v2 : Int32) (a3 : Nat) : mv_run X call m_L_fewestDropsBySets 15 [.ref a0, .int v1, .int v2, .ref a3, .retAddr 0] [] h =
  (some (.inl (some (.int (nZ 1))), h)) :=
  (s_iconst rfl).trans <| s_iret1 rfl rfl
theorem bk_L_fewestDropsBySets_19 (X : mv_X) (call : mv_G) (h : mv_H) (a0 : Nat) (v1 : Int32) (v2 : Int32) (a3 : Nat) : mv_run X call m_L_fewestDropsBySets 19 [.ref a0, .int v1, .int v2, .ref a3, .retAddr 0] [] h =
  (some (.inl (some (.int (nZ 2))), h)) :=
  (s_iconst rfl).trans <| s_iret1 rfl rfl
theorem mc_L_dropWeight (X : mv_X) (d : Nat) (h : mv_H) (a0 : Nat) (v1 : Int32) (v2 : Int32) (a3 : Nat) : mv_call X (d + 1) 300 [.ref a0, .int v1, .int v2, .ref a3] h = mv_run X (mv_call X d) m_L_dropWeight 0 [.ref a0, .int v1, .int v2, .ref a3, .retAddr 0] [] h := rfl
theorem bk_L_dropWeight_0 (X : mv_X) (call : mv_G) (h : mv_H) (a0 : Nat) (v1 : Int32) (v2 : Int32) (a3 : Nat) : mv_run X call m_L_dropWeight 0 [.ref a0, .int v1, .int v2, .ref a3, .retAddr 0] [] h =
  mv_run X call m_L_dropWeight 5 [.ref a0, .int v1, .int v2, .ref a3, .retAddr 0] [.int v2, .int v1, .ref a0, .int (nZ 0), .ref a3] h :=
  (s_aload_n rfl rfl).trans <| (s_iconst rfl).trans <| (s_aload_n rfl rfl).trans <| (s_iload_n rfl rfl).trans <| (s_iload_n rfl rfl).trans <| rfl
theorem bk_L_dropWeight_5 (X : mv_X) (call : mv_G) (h : mv_H) (a0 : Nat) (v1 : Int32) (v2 : Int32) (a3 : Nat) (s0 : Int32) (s1 : Int32) (s2 : Nat) (s3 : Int32) (s4 : Nat) : mv_run X call m_L_dropWeight 5 [.ref a0, .int v1, .int v2, .ref a3, .retAddr 0] [.int s0, .int s1, .ref s2, .int s3, .ref s4] h =
  mv_rcv X h [.ref s2, .int s1, .int s0] 12 (mv_clI call 100 [.ref s2, .int s1, .int s0] h (mv_thr [(0, 10, 15, 0, 4), (0, 10, 19, 1, 4)] 5 [.ref a0, .int v1, .int v2, .ref a3, .retAddr 0] (mv_run X call m_L_dropWeight)) fun x1 h1 =>
  mv_run X call m_L_dropWeight 8 [.ref a0, .int v1, .int v2, .ref a3, .retAddr 0] [.int x1, .int s3, .ref s4] h1) :=
  (s_v1 [.ref s2, .int s1, .int s0] [.int s3, .ref s4] rfl rfl (fun _ => rfl)).trans <| c_rcv <| c_clI fun x1 h1 => rfl
theorem bk_L_dropWeight_8 (X : mv_X) (call : mv_G) (h : mv_H) (a0 : Nat) (v1 : Int32) (v2 : Int32) (a3 : Nat) (s0 : Int32) (s1 : Int32) (s2 : Nat) : mv_run X call m_L_dropWeight 8 [.ref a0, .int v1, .int v2, .ref a3, .retAddr 0] [.int s0, .int s1, .ref s2] h =
  mv_as h 3 s2 s1 (.long (s0).toInt64) fun h1 =>
  (some (.inl (some (.int (nZ 0))), h1)) :=
  (s_i2l rfl).trans <| (s_lastore rfl).trans <| c_as fun h1 => (s_goto rfl).trans <| (s_iconst rfl).trans <| s_iret1 rfl rfl
theorem bk_L_dropWeight_15 (X : mv_X) (call : mv_G) (h : mv_H) (a0 : Nat) (v1 : Int32) (v2 : Int32) (a3 : Nat) : mv_run X call m_L_dropWeight 15 [.ref a0, .int v1, .int v2, .ref a3, .retAddr 0] [] h =
  (some (.inl (some (.int (nZ 1))), h)) :=
  (s_iconst rfl).trans <| s_iret1 rfl rfl
theorem bk_L_dropWeight_19 (X : mv_X) (call : mv_G) (h : mv_H) (a0 : Nat) (v1 : Int32) (v2 : Int32) (a3 : Nat) : mv_run X call m_L_dropWeight 19 [.ref a0, .int v1, .int v2, .ref a3, .retAddr 0] [] h =
  (some (.inl (some (.int (nZ 2))), h)) :=
  (s_iconst rfl).trans <| s_iret1 rfl rfl
theorem mc_L_setWind (X : mv_X) (d : Nat) (h : mv_H) (a0 : Nat) (v1 : Int32) (v2 : Int32) (a3 : Nat) : mv_call X (d + 1) 301 [.ref a0, .int v1, .int v2, .ref a3] h = mv_run X (mv_call X d) m_L_setWind 0 [.ref a0, .int v1, .int v2, .ref a3, .retAddr 0] [] h := rfl
theorem bk_L_setWind_0 (X : mv_X) (call : mv_G) (h : mv_H) (a0 : Nat) (v1 : Int32) (v2 : Int32) (a3 : Nat) : mv_run X call m_L_setWind 0 [.ref a0, .int v1, .int v2, .ref a3, .retAddr 0] [] h =
  mv_run X call m_L_setWind 5 [.ref a0, .int v1, .int v2, .ref a3, .retAddr 0] [.int v2, .int v1, .ref a0, .int (nZ 0), .ref a3] h :=
  (s_aload_n rfl rfl).trans <| (s_iconst rfl).trans <| (s_aload_n rfl rfl).trans <| (s_iload_n rfl rfl).trans <| (s_iload_n rfl rfl).trans <| rfl
theorem bk_L_setWind_5 (X : mv_X) (call : mv_G) (h : mv_H) (a0 : Nat) (v1 : Int32) (v2 : Int32) (a3 : Nat) (s0 : Int32) (s1 : Int32) (s2 : Nat) (s3 : Int32) (s4 : Nat) : mv_run X call m_L_setWind 5 [.ref a0, .int v1, .int v2, .ref a3, .retAddr 0] [.int s0, .int s1, .ref s2, .int s3, .ref s4] h =
  mv_rcv X h [.ref s2, .int s1, .int s0] 12 (mv_clI call 101 [.ref s2, .int s1, .int s0] h (mv_thr [(0, 10, 15, 0, 4), (0, 10, 19, 3, 4)] 5 [.ref a0, .int v1, .int v2, .ref a3, .retAddr 0] (mv_run X call m_L_setWind)) fun x1 h1 =>
  mv_run X call m_L_setWind 8 [.ref a0, .int v1, .int v2, .ref a3, .retAddr 0] [.int x1, .int s3, .ref s4] h1) :=
  (s_v1 [.ref s2, .int s1, .int s0] [.int s3, .ref s4] rfl rfl (fun _ => rfl)).trans <| c_rcv <| c_clI fun x1 h1 => rfl
theorem bk_L_setWind_8 (X : mv_X) (call : mv_G) (h : mv_H) (a0 : Nat) (v1 : Int32) (v2 : Int32) (a3 : Nat) (s0 : Int32) (s1 : Int32) (s2 : Nat) : mv_run X call m_L_setWind 8 [.ref a0, .int v1, .int v2, .ref a3, .retAddr 0] [.int s0, .int s1, .ref s2] h =
  mv_as h 3 s2 s1 (.long (s0).toInt64) fun h1 =>
  (some (.inl (some (.int (nZ 0))), h1)) :=
  (s_i2l rfl).trans <| (s_lastore rfl).trans <| c_as fun h1 => (s_goto rfl).trans <| (s_iconst rfl).trans <| s_iret1 rfl rfl
theorem bk_L_setWind_15 (X : mv_X) (call : mv_G) (h : mv_H) (a0 : Nat) (v1 : Int32) (v2 : Int32) (a3 : Nat) : mv_run X call m_L_setWind 15 [.ref a0, .int v1, .int v2, .ref a3, .retAddr 0] [] h =
  (some (.inl (some (.int (nZ 1))), h)) :=
  (s_iconst rfl).trans <| s_iret1 rfl rfl
theorem bk_L_setWind_19 (X : mv_X) (call : mv_G) (h : mv_H) (a0 : Nat) (v1 : Int32) (v2 : Int32) (a3 : Nat) : mv_run X call m_L_setWind 19 [.ref a0, .int v1, .int v2, .ref a3, .retAddr 0] [] h =
  (some (.inl (some (.int (nZ 2))), h)) :=
  (s_iconst rfl).trans <| s_iret1 rfl rfl
theorem mc_L_wind (X : mv_X) (d : Nat) (h : mv_H) (a0 : Nat) (v1 : Int32) (a2 : Nat) : mv_call X (d + 1) 302 [.ref a0, .int v1, .ref a2] h = mv_run X (mv_call X d) m_L_wind 0 [.ref a0, .int v1, .ref a2, .retAddr 0] [] h := rfl
theorem bk_L_wind_0 (X : mv_X) (call : mv_G) (h : mv_H) (a0 : Nat) (v1 : Int32) (a2 : Nat) : mv_run X call m_L_wind 0 [.ref a0, .int v1, .ref a2, .retAddr 0] [] h =
  mv_run X call m_L_wind 4 [.ref a0, .int v1, .ref a2, .retAddr 0] [.int v1, .ref a0, .int (nZ 0), .ref a2] h :=
  (s_aload_n rfl rfl).trans <| (s_iconst rfl).trans <| (s_aload_n rfl rfl).trans <| (s_iload_n rfl rfl).trans <| rfl
theorem bk_L_wind_4 (X : mv_X) (call : mv_G) (h : mv_H) (a0 : Nat) (v1 : Int32) (a2 : Nat) (s0 : Int32) (s1 : Nat) (s2 : Int32) (s3 : Nat) : mv_run X call m_L_wind 4 [.ref a0, .int v1, .ref a2, .retAddr 0] [.int s0, .ref s1, .int s2, .ref s3] h =
  mv_rcv X h [.ref s1, .int s0] 12 (mv_clI call 102 [.ref s1, .int s0] h (mv_thr [(0, 9, 13, 0, 3)] 4 [.ref a0, .int v1, .ref a2, .retAddr 0] (mv_run X call m_L_wind)) fun x1 h1 =>
  mv_run X call m_L_wind 7 [.ref a0, .int v1, .ref a2, .retAddr 0] [.int x1, .int s2, .ref s3] h1) :=
  (s_v1 [.ref s1, .int s0] [.int s2, .ref s3] rfl rfl (fun _ => rfl)).trans <| c_rcv <| c_clI fun x1 h1 => rfl
theorem bk_L_wind_7 (X : mv_X) (call : mv_G) (h : mv_H) (a0 : Nat) (v1 : Int32) (a2 : Nat) (s0 : Int32) (s1 : Int32) (s2 : Nat) : mv_run X call m_L_wind 7 [.ref a0, .int v1, .ref a2, .retAddr 0] [.int s0, .int s1, .ref s2] h =
  mv_as h 3 s2 s1 (.long (s0).toInt64) fun h1 =>
  (some (.inl (some (.int (nZ 0))), h1)) :=
  (s_i2l rfl).trans <| (s_lastore rfl).trans <| c_as fun h1 => (s_goto rfl).trans <| (s_iconst rfl).trans <| s_iret1 rfl rfl
theorem bk_L_wind_13 (X : mv_X) (call : mv_G) (h : mv_H) (a0 : Nat) (v1 : Int32) (a2 : Nat) : mv_run X call m_L_wind 13 [.ref a0, .int v1, .ref a2, .retAddr 0] [] h =
  (some (.inl (some (.int (nZ 1))), h)) :=
  (s_iconst rfl).trans <| s_iret1 rfl rfl
theorem mc_L_top (X : mv_X) (d : Nat) (h : mv_H) (a0 : Nat) (v1 : Int32) (a2 : Nat) : mv_call X (d + 1) 303 [.ref a0, .int v1, .ref a2] h = mv_run X (mv_call X d) m_L_top 0 [.ref a0, .int v1, .ref a2, .retAddr 0] [] h := rfl
theorem bk_L_top_0 (X : mv_X) (call : mv_G) (h : mv_H) (a0 : Nat) (v1 : Int32) (a2 : Nat) : mv_run X call m_L_top 0 [.ref a0, .int v1, .ref a2, .retAddr 0] [] h =
  mv_run X call m_L_top 4 [.ref a0, .int v1, .ref a2, .retAddr 0] [.int v1, .ref a0, .int (nZ 0), .ref a2] h :=
  (s_aload_n rfl rfl).trans <| (s_iconst rfl).trans <| (s_aload_n rfl rfl).trans <| (s_iload_n rfl rfl).trans <| rfl
theorem bk_L_top_4 (X : mv_X) (call : mv_G) (h : mv_H) (a0 : Nat) (v1 : Int32) (a2 : Nat) (s0 : Int32) (s1 : Nat) (s2 : Int32) (s3 : Nat) : mv_run X call m_L_top 4 [.ref a0, .int v1, .ref a2, .retAddr 0] [.int s0, .ref s1, .int s2, .ref s3] h =
  mv_rcv X h [.ref s1, .int s0] 12 (mv_clI call 103 [.ref s1, .int s0] h (mv_thr [(0, 9, 13, 1, 3)] 4 [.ref a0, .int v1, .ref a2, .retAddr 0] (mv_run X call m_L_top)) fun x1 h1 =>
  mv_run X call m_L_top 7 [.ref a0, .int v1, .ref a2, .retAddr 0] [.int x1, .int s2, .ref s3] h1) :=
  (s_v1 [.ref s1, .int s0] [.int s2, .ref s3] rfl rfl (fun _ => rfl)).trans <| c_rcv <| c_clI fun x1 h1 => rfl
theorem bk_L_top_7 (X : mv_X) (call : mv_G) (h : mv_H) (a0 : Nat) (v1 : Int32) (a2 : Nat) (s0 : Int32) (s1 : Int32) (s2 : Nat) : mv_run X call m_L_top 7 [.ref a0, .int v1, .ref a2, .retAddr 0] [.int s0, .int s1, .ref s2] h =
  mv_as h 3 s2 s1 (.long (s0).toInt64) fun h1 =>
  (some (.inl (some (.int (nZ 0))), h1)) :=
  (s_i2l rfl).trans <| (s_lastore rfl).trans <| c_as fun h1 => (s_goto rfl).trans <| (s_iconst rfl).trans <| s_iret1 rfl rfl
theorem bk_L_top_13 (X : mv_X) (call : mv_G) (h : mv_H) (a0 : Nat) (v1 : Int32) (a2 : Nat) : mv_run X call m_L_top 13 [.ref a0, .int v1, .ref a2, .retAddr 0] [] h =
  (some (.inl (some (.int (nZ 1))), h)) :=
  (s_iconst rfl).trans <| s_iret1 rfl rfl
theorem mc_L_longestCalm (X : mv_X) (d : Nat) (h : mv_H) (a0 : Nat) (v1 : Int32) (a2 : Nat) : mv_call X (d + 1) 304 [.ref a0, .int v1, .ref a2] h = mv_run X (mv_call X d) m_L_longestCalm 0 [.ref a0, .int v1, .ref a2, .retAddr 0] [] h := rfl
theorem bk_L_longestCalm_0 (X : mv_X) (call : mv_G) (h : mv_H) (a0 : Nat) (v1 : Int32) (a2 : Nat) : mv_run X call m_L_longestCalm 0 [.ref a0, .int v1, .ref a2, .retAddr 0] [] h =
  mv_run X call m_L_longestCalm 4 [.ref a0, .int v1, .ref a2, .retAddr 0] [.int v1, .ref a0, .int (nZ 0), .ref a2] h :=
  (s_aload_n rfl rfl).trans <| (s_iconst rfl).trans <| (s_aload_n rfl rfl).trans <| (s_iload_n rfl rfl).trans <| rfl
theorem bk_L_longestCalm_4 (X : mv_X) (call : mv_G) (h : mv_H) (a0 : Nat) (v1 : Int32) (a2 : Nat) (s0 : Int32) (s1 : Nat) (s2 : Int32) (s3 : Nat) : mv_run X call m_L_longestCalm 4 [.ref a0, .int v1, .ref a2, .retAddr 0] [.int s0, .ref s1, .int s2, .ref s3] h =
  mv_rcv X h [.ref s1, .int s0] 12 (mv_clI call 106 [.ref s1, .int s0] h (mv_thr [(0, 9, 13, 0, 3)] 4 [.ref a0, .int v1, .ref a2, .retAddr 0] (mv_run X call m_L_longestCalm)) fun x1 h1 =>
  mv_run X call m_L_longestCalm 7 [.ref a0, .int v1, .ref a2, .retAddr 0] [.int x1, .int s2, .ref s3] h1) :=
  (s_v1 [.ref s1, .int s0] [.int s2, .ref s3] rfl rfl (fun _ => rfl)).trans <| c_rcv <| c_clI fun x1 h1 => rfl
theorem bk_L_longestCalm_7 (X : mv_X) (call : mv_G) (h : mv_H) (a0 : Nat) (v1 : Int32) (a2 : Nat) (s0 : Int32) (s1 : Int32) (s2 : Nat) : mv_run X call m_L_longestCalm 7 [.ref a0, .int v1, .ref a2, .retAddr 0] [.int s0, .int s1, .ref s2] h =
  mv_as h 3 s2 s1 (.long (s0).toInt64) fun h1 =>
  (some (.inl (some (.int (nZ 0))), h1)) :=
  (s_i2l rfl).trans <| (s_lastore rfl).trans <| c_as fun h1 => (s_goto rfl).trans <| (s_iconst rfl).trans <| s_iret1 rfl rfl
theorem bk_L_longestCalm_13 (X : mv_X) (call : mv_G) (h : mv_H) (a0 : Nat) (v1 : Int32) (a2 : Nat) : mv_run X call m_L_longestCalm 13 [.ref a0, .int v1, .ref a2, .retAddr 0] [] h =
  (some (.inl (some (.int (nZ 1))), h)) :=
  (s_iconst rfl).trans <| s_iret1 rfl rfl
theorem mc_L_longestCalmByTrying (X : mv_X) (d : Nat) (h : mv_H) (a0 : Nat) (v1 : Int32) (a2 : Nat) : mv_call X (d + 1) 305 [.ref a0, .int v1, .ref a2] h = mv_run X (mv_call X d) m_L_longestCalmByTrying 0 [.ref a0, .int v1, .ref a2, .retAddr 0] [] h := rfl
theorem bk_L_longestCalmByTrying_0 (X : mv_X) (call : mv_G) (h : mv_H) (a0 : Nat) (v1 : Int32) (a2 : Nat) : mv_run X call m_L_longestCalmByTrying 0 [.ref a0, .int v1, .ref a2, .retAddr 0] [] h =
  mv_run X call m_L_longestCalmByTrying 4 [.ref a0, .int v1, .ref a2, .retAddr 0] [.int v1, .ref a0, .int (nZ 0), .ref a2] h :=
  (s_aload_n rfl rfl).trans <| (s_iconst rfl).trans <| (s_aload_n rfl rfl).trans <| (s_iload_n rfl rfl).trans <| rfl
theorem bk_L_longestCalmByTrying_4 (X : mv_X) (call : mv_G) (h : mv_H) (a0 : Nat) (v1 : Int32) (a2 : Nat) (s0 : Int32) (s1 : Nat) (s2 : Int32) (s3 : Nat) : mv_run X call m_L_longestCalmByTrying 4 [.ref a0, .int v1, .ref a2, .retAddr 0] [.int s0, .ref s1, .int s2, .ref s3] h =
  mv_rcv X h [.ref s1, .int s0] 12 (mv_clI call 107 [.ref s1, .int s0] h (mv_thr [(0, 9, 13, 0, 3)] 4 [.ref a0, .int v1, .ref a2, .retAddr 0] (mv_run X call m_L_longestCalmByTrying)) fun x1 h1 =>
  mv_run X call m_L_longestCalmByTrying 7 [.ref a0, .int v1, .ref a2, .retAddr 0] [.int x1, .int s2, .ref s3] h1) :=
  (s_v1 [.ref s1, .int s0] [.int s2, .ref s3] rfl rfl (fun _ => rfl)).trans <| c_rcv <| c_clI fun x1 h1 => rfl
theorem bk_L_longestCalmByTrying_7 (X : mv_X) (call : mv_G) (h : mv_H) (a0 : Nat) (v1 : Int32) (a2 : Nat) (s0 : Int32) (s1 : Int32) (s2 : Nat) : mv_run X call m_L_longestCalmByTrying 7 [.ref a0, .int v1, .ref a2, .retAddr 0] [.int s0, .int s1, .ref s2] h =
  mv_as h 3 s2 s1 (.long (s0).toInt64) fun h1 =>
  (some (.inl (some (.int (nZ 0))), h1)) :=
  (s_i2l rfl).trans <| (s_lastore rfl).trans <| c_as fun h1 => (s_goto rfl).trans <| (s_iconst rfl).trans <| s_iret1 rfl rfl
theorem bk_L_longestCalmByTrying_13 (X : mv_X) (call : mv_G) (h : mv_H) (a0 : Nat) (v1 : Int32) (a2 : Nat) : mv_run X call m_L_longestCalmByTrying 13 [.ref a0, .int v1, .ref a2, .retAddr 0] [] h =
  (some (.inl (some (.int (nZ 1))), h)) :=
  (s_iconst rfl).trans <| s_iret1 rfl rfl
theorem mc_L_addPilot (X : mv_X) (d : Nat) (h : mv_H) (a0 : Nat) (v1 : Int32) (v2 : Int32) (v3 : Int32) (a4 : Nat) : mv_call X (d + 1) 306 [.ref a0, .int v1, .int v2, .int v3, .ref a4] h = mv_run X (mv_call X d) m_L_addPilot 0 [.ref a0, .int v1, .int v2, .int v3, .ref a4, .retAddr 0] [] h := rfl
theorem bk_L_addPilot_0 (X : mv_X) (call : mv_G) (h : mv_H) (a0 : Nat) (v1 : Int32) (v2 : Int32) (v3 : Int32) (a4 : Nat) : mv_run X call m_L_addPilot 0 [.ref a0, .int v1, .int v2, .int v3, .ref a4, .retAddr 0] [] h =
  mv_run X call m_L_addPilot 7 [.ref a0, .int v1, .int v2, .int v3, .ref a4, .retAddr 0] [.int v3, .int v2, .int v1, .ref a0, .int (nZ 0), .ref a4] h :=
  (s_aload rfl rfl).trans <| (s_iconst rfl).trans <| (s_aload_n rfl rfl).trans <| (s_iload_n rfl rfl).trans <| (s_iload_n rfl rfl).trans <| (s_iload_n rfl rfl).trans <| rfl
theorem bk_L_addPilot_7 (X : mv_X) (call : mv_G) (h : mv_H) (a0 : Nat) (v1 : Int32) (v2 : Int32) (v3 : Int32) (a4 : Nat) (s0 : Int32) (s1 : Int32) (s2 : Int32) (s3 : Nat) (s4 : Int32) (s5 : Nat) : mv_run X call m_L_addPilot 7 [.ref a0, .int v1, .int v2, .int v3, .ref a4, .retAddr 0] [.int s0, .int s1, .int s2, .ref s3, .int s4, .ref s5] h =
  mv_rcv X h [.ref s3, .int s2, .int s1, .int s0] 12 (mv_clI call 108 [.ref s3, .int s2, .int s1, .int s0] h (mv_thr [(0, 12, 17, 0, 5), (0, 12, 21, 3, 5)] 7 [.ref a0, .int v1, .int v2, .int v3, .ref a4, .retAddr 0] (mv_run X call m_L_addPilot)) fun x1 h1 =>
  mv_run X call m_L_addPilot 10 [.ref a0, .int v1, .int v2, .int v3, .ref a4, .retAddr 0] [.int x1, .int s4, .ref s5] h1) :=
  (s_v1 [.ref s3, .int s2, .int s1, .int s0] [.int s4, .ref s5] rfl rfl (fun _ => rfl)).trans <| c_rcv <| c_clI fun x1 h1 => rfl
theorem bk_L_addPilot_10 (X : mv_X) (call : mv_G) (h : mv_H) (a0 : Nat) (v1 : Int32) (v2 : Int32) (v3 : Int32) (a4 : Nat) (s0 : Int32) (s1 : Int32) (s2 : Nat) : mv_run X call m_L_addPilot 10 [.ref a0, .int v1, .int v2, .int v3, .ref a4, .retAddr 0] [.int s0, .int s1, .ref s2] h =
  mv_as h 3 s2 s1 (.long (s0).toInt64) fun h1 =>
  (some (.inl (some (.int (nZ 0))), h1)) :=
  (s_i2l rfl).trans <| (s_lastore rfl).trans <| c_as fun h1 => (s_goto rfl).trans <| (s_iconst rfl).trans <| s_iret1 rfl rfl
theorem bk_L_addPilot_17 (X : mv_X) (call : mv_G) (h : mv_H) (a0 : Nat) (v1 : Int32) (v2 : Int32) (v3 : Int32) (a4 : Nat) : mv_run X call m_L_addPilot 17 [.ref a0, .int v1, .int v2, .int v3, .ref a4, .retAddr 0] [] h =
  (some (.inl (some (.int (nZ 1))), h)) :=
  (s_iconst rfl).trans <| s_iret1 rfl rfl
theorem bk_L_addPilot_21 (X : mv_X) (call : mv_G) (h : mv_H) (a0 : Nat) (v1 : Int32) (v2 : Int32) (v3 : Int32) (a4 : Nat) : mv_run X call m_L_addPilot 21 [.ref a0, .int v1, .int v2, .int v3, .ref a4, .retAddr 0] [] h =
  (some (.inl (some (.int (nZ 2))), h)) :=
  (s_iconst rfl).trans <| s_iret1 rfl rfl
theorem mc_L_removePilot (X : mv_X) (d : Nat) (h : mv_H) (a0 : Nat) (v1 : Int32) (a2 : Nat) : mv_call X (d + 1) 307 [.ref a0, .int v1, .ref a2] h = mv_run X (mv_call X d) m_L_removePilot 0 [.ref a0, .int v1, .ref a2, .retAddr 0] [] h := rfl
theorem bk_L_removePilot_0 (X : mv_X) (call : mv_G) (h : mv_H) (a0 : Nat) (v1 : Int32) (a2 : Nat) : mv_run X call m_L_removePilot 0 [.ref a0, .int v1, .ref a2, .retAddr 0] [] h =
  mv_run X call m_L_removePilot 4 [.ref a0, .int v1, .ref a2, .retAddr 0] [.int v1, .ref a0, .int (nZ 0), .ref a2] h :=
  (s_aload_n rfl rfl).trans <| (s_iconst rfl).trans <| (s_aload_n rfl rfl).trans <| (s_iload_n rfl rfl).trans <| rfl
theorem bk_L_removePilot_4 (X : mv_X) (call : mv_G) (h : mv_H) (a0 : Nat) (v1 : Int32) (a2 : Nat) (s0 : Int32) (s1 : Nat) (s2 : Int32) (s3 : Nat) : mv_run X call m_L_removePilot 4 [.ref a0, .int v1, .ref a2, .retAddr 0] [.int s0, .ref s1, .int s2, .ref s3] h =
  mv_rcv X h [.ref s1, .int s0] 12 (mv_clI call 109 [.ref s1, .int s0] h (mv_thr [(0, 9, 13, 2, 3)] 4 [.ref a0, .int v1, .ref a2, .retAddr 0] (mv_run X call m_L_removePilot)) fun x1 h1 =>
  mv_run X call m_L_removePilot 7 [.ref a0, .int v1, .ref a2, .retAddr 0] [.int x1, .int s2, .ref s3] h1) :=
  (s_v1 [.ref s1, .int s0] [.int s2, .ref s3] rfl rfl (fun _ => rfl)).trans <| c_rcv <| c_clI fun x1 h1 => rfl
theorem bk_L_removePilot_7 (X : mv_X) (call : mv_G) (h : mv_H) (a0 : Nat) (v1 : Int32) (a2 : Nat) (s0 : Int32) (s1 : Int32) (s2 : Nat) : mv_run X call m_L_removePilot 7 [.ref a0, .int v1, .ref a2, .retAddr 0] [.int s0, .int s1, .ref s2] h =
  mv_as h 3 s2 s1 (.long (s0).toInt64) fun h1 =>
  (some (.inl (some (.int (nZ 0))), h1)) :=
  (s_i2l rfl).trans <| (s_lastore rfl).trans <| c_as fun h1 => (s_goto rfl).trans <| (s_iconst rfl).trans <| s_iret1 rfl rfl
theorem bk_L_removePilot_13 (X : mv_X) (call : mv_G) (h : mv_H) (a0 : Nat) (v1 : Int32) (a2 : Nat) : mv_run X call m_L_removePilot 13 [.ref a0, .int v1, .ref a2, .retAddr 0] [] h =
  (some (.inl (some (.int (nZ 1))), h)) :=
  (s_iconst rfl).trans <| s_iret1 rfl rfl
theorem mc_L_isOnDuty (X : mv_X) (d : Nat) (h : mv_H) (a0 : Nat) (v1 : Int32) (v2 : Int32) (a3 : Nat) : mv_call X (d + 1) 308 [.ref a0, .int v1, .int v2, .ref a3] h = mv_run X (mv_call X d) m_L_isOnDuty 0 [.ref a0, .int v1, .int v2, .ref a3, .retAddr 0] [] h := rfl
theorem bk_L_isOnDuty_0 (X : mv_X) (call : mv_G) (h : mv_H) (a0 : Nat) (v1 : Int32) (v2 : Int32) (a3 : Nat) : mv_run X call m_L_isOnDuty 0 [.ref a0, .int v1, .int v2, .ref a3, .retAddr 0] [] h =
  mv_run X call m_L_isOnDuty 5 [.ref a0, .int v1, .int v2, .ref a3, .retAddr 0] [.int v2, .int v1, .ref a0, .int (nZ 0), .ref a3] h :=
  (s_aload_n rfl rfl).trans <| (s_iconst rfl).trans <| (s_aload_n rfl rfl).trans <| (s_iload_n rfl rfl).trans <| (s_iload_n rfl rfl).trans <| rfl
theorem bk_L_isOnDuty_5 (X : mv_X) (call : mv_G) (h : mv_H) (a0 : Nat) (v1 : Int32) (v2 : Int32) (a3 : Nat) (s0 : Int32) (s1 : Int32) (s2 : Nat) (s3 : Int32) (s4 : Nat) : mv_run X call m_L_isOnDuty 5 [.ref a0, .int v1, .int v2, .ref a3, .retAddr 0] [.int s0, .int s1, .ref s2, .int s3, .ref s4] h =
  mv_rcv X h [.ref s2, .int s1, .int s0] 12 (mv_clI call 111 [.ref s2, .int s1, .int s0] h (mv_thr [(0, 17, 22, 2, 4), (0, 17, 26, 0, 4)] 5 [.ref a0, .int v1, .int v2, .ref a3, .retAddr 0] (mv_run X call m_L_isOnDuty)) fun x1 h1 =>
  mv_run X call m_L_isOnDuty 8 [.ref a0, .int v1, .int v2, .ref a3, .retAddr 0] [.int x1, .int s3, .ref s4] h1) :=
  (s_v1 [.ref s2, .int s1, .int s0] [.int s3, .ref s4] rfl rfl (fun _ => rfl)).trans <| c_rcv <| c_clI fun x1 h1 => rfl
theorem bk_L_isOnDuty_8 (X : mv_X) (call : mv_G) (h : mv_H) (a0 : Nat) (v1 : Int32) (v2 : Int32) (a3 : Nat) (s0 : Int32) (s1 : Int32) (s2 : Nat) : mv_run X call m_L_isOnDuty 8 [.ref a0, .int v1, .int v2, .ref a3, .retAddr 0] [.int s0, .int s1, .ref s2] h =
  if s0 = 0 then 
  (mv_as h 3 s2 s1 (.long (Int64.ofNat 0)) fun h1 =>
    (some (.inl (some (.int (nZ 0))), h1)))
  else (mv_as h 3 s2 s1 (.long (Int64.ofNat 1)) fun h2 =>
    (some (.inl (some (.int (nZ 0))), h2))) :=
  (s_if_eq rfl).trans <| c_ite ((s_lconst 0 rfl rfl).trans <| (s_lastore rfl).trans <| c_as fun h1 => (s_goto rfl).trans <| (s_iconst rfl).trans <| s_iret1 rfl rfl) ((s_lconst 1 rfl rfl).trans <| (s_goto rfl).trans <| (s_lastore rfl).trans <| c_as fun h2 => (s_goto rfl).trans <| (s_iconst rfl).trans <| s_iret1 rfl rfl)
theorem bk_L_isOnDuty_22 (X : mv_X) (call : mv_G) (h : mv_H) (a0 : Nat) (v1 : Int32) (v2 : Int32) (a3 : Nat) : mv_run X call m_L_isOnDuty 22 [.ref a0, .int v1, .int v2, .ref a3, .retAddr 0] [] h =
  (some (.inl (some (.int (nZ 1))), h)) :=
  (s_iconst rfl).trans <| s_iret1 rfl rfl
theorem bk_L_isOnDuty_26 (X : mv_X) (call : mv_G) (h : mv_H) (a0 : Nat) (v1 : Int32) (v2 : Int32) (a3 : Nat) : mv_run X call m_L_isOnDuty 26 [.ref a0, .int v1, .int v2, .ref a3, .retAddr 0] [] h =
  (some (.inl (some (.int (nZ 2))), h)) :=
  (s_iconst rfl).trans <| s_iret1 rfl rfl
theorem mc_L_canCrew (X : mv_X) (d : Nat) (h : mv_H) (a0 : Nat) (v1 : Int32) (v2 : Int32) (a3 : Nat) : mv_call X (d + 1) 309 [.ref a0, .int v1, .int v2, .ref a3] h = mv_run X (mv_call X d) m_L_canCrew 0 [.ref a0, .int v1, .int v2, .ref a3, .retAddr 0] [] h := rfl
theorem bk_L_canCrew_0 (X : mv_X) (call : mv_G) (h : mv_H) (a0 : Nat) (v1 : Int32) (v2 : Int32) (a3 : Nat) : mv_run X call m_L_canCrew 0 [.ref a0, .int v1, .int v2, .ref a3, .retAddr 0] [] h =
  mv_run X call m_L_canCrew 5 [.ref a0, .int v1, .int v2, .ref a3, .retAddr 0] [.int v2, .int v1, .ref a0, .int (nZ 0), .ref a3] h :=
  (s_aload_n rfl rfl).trans <| (s_iconst rfl).trans <| (s_aload_n rfl rfl).trans <| (s_iload_n rfl rfl).trans <| (s_iload_n rfl rfl).trans <| rfl
theorem bk_L_canCrew_5 (X : mv_X) (call : mv_G) (h : mv_H) (a0 : Nat) (v1 : Int32) (v2 : Int32) (a3 : Nat) (s0 : Int32) (s1 : Int32) (s2 : Nat) (s3 : Int32) (s4 : Nat) : mv_run X call m_L_canCrew 5 [.ref a0, .int v1, .int v2, .ref a3, .retAddr 0] [.int s0, .int s1, .ref s2, .int s3, .ref s4] h =
  mv_rcv X h [.ref s2, .int s1, .int s0] 12 (mv_clI call 112 [.ref s2, .int s1, .int s0] h (mv_thr [(0, 17, 22, 2, 4), (0, 17, 26, 1, 4)] 5 [.ref a0, .int v1, .int v2, .ref a3, .retAddr 0] (mv_run X call m_L_canCrew)) fun x1 h1 =>
  mv_run X call m_L_canCrew 8 [.ref a0, .int v1, .int v2, .ref a3, .retAddr 0] [.int x1, .int s3, .ref s4] h1) :=
  (s_v1 [.ref s2, .int s1, .int s0] [.int s3, .ref s4] rfl rfl (fun _ => rfl)).trans <| c_rcv <| c_clI fun x1 h1 => rfl
theorem bk_L_canCrew_8 (X : mv_X) (call : mv_G) (h : mv_H) (a0 : Nat) (v1 : Int32) (v2 : Int32) (a3 : Nat) (s0 : Int32) (s1 : Int32) (s2 : Nat) : mv_run X call m_L_canCrew 8 [.ref a0, .int v1, .int v2, .ref a3, .retAddr 0] [.int s0, .int s1, .ref s2] h =
  if s0 = 0 then 
  (mv_as h 3 s2 s1 (.long (Int64.ofNat 0)) fun h1 =>
    (some (.inl (some (.int (nZ 0))), h1)))
  else (mv_as h 3 s2 s1 (.long (Int64.ofNat 1)) fun h2 =>
    (some (.inl (some (.int (nZ 0))), h2))) :=
  (s_if_eq rfl).trans <| c_ite ((s_lconst 0 rfl rfl).trans <| (s_lastore rfl).trans <| c_as fun h1 => (s_goto rfl).trans <| (s_iconst rfl).trans <| s_iret1 rfl rfl) ((s_lconst 1 rfl rfl).trans <| (s_goto rfl).trans <| (s_lastore rfl).trans <| c_as fun h2 => (s_goto rfl).trans <| (s_iconst rfl).trans <| s_iret1 rfl rfl)
theorem bk_L_canCrew_22 (X : mv_X) (call : mv_G) (h : mv_H) (a0 : Nat) (v1 : Int32) (v2 : Int32) (a3 : Nat) : mv_run X call m_L_canCrew 22 [.ref a0, .int v1, .int v2, .ref a3, .retAddr 0] [] h =
  (some (.inl (some (.int (nZ 1))), h)) :=
  (s_iconst rfl).trans <| s_iret1 rfl rfl
theorem bk_L_canCrew_26 (X : mv_X) (call : mv_G) (h : mv_H) (a0 : Nat) (v1 : Int32) (v2 : Int32) (a3 : Nat) : mv_run X call m_L_canCrew 26 [.ref a0, .int v1, .int v2, .ref a3, .retAddr 0] [] h =
  (some (.inl (some (.int (nZ 2))), h)) :=
  (s_iconst rfl).trans <| s_iret1 rfl rfl
theorem mc_L_pass (X : mv_X) (d : Nat) (h : mv_H) (a0 : Nat) (v1 : Int32) (a2 : Nat) : mv_call X (d + 1) 310 [.ref a0, .int v1, .ref a2] h = mv_run X (mv_call X d) m_L_pass 0 [.ref a0, .int v1, .ref a2, .retAddr 0] [] h := rfl
theorem bk_L_pass_0 (X : mv_X) (call : mv_G) (h : mv_H) (a0 : Nat) (v1 : Int32) (a2 : Nat) : mv_run X call m_L_pass 0 [.ref a0, .int v1, .ref a2, .retAddr 0] [] h =
  mv_run X call m_L_pass 4 [.ref a0, .int v1, .ref a2, .retAddr 0] [.int v1, .ref a0, .int (nZ 0), .ref a2] h :=
  (s_aload_n rfl rfl).trans <| (s_iconst rfl).trans <| (s_aload_n rfl rfl).trans <| (s_iload_n rfl rfl).trans <| rfl
theorem bk_L_pass_4 (X : mv_X) (call : mv_G) (h : mv_H) (a0 : Nat) (v1 : Int32) (a2 : Nat) (s0 : Int32) (s1 : Nat) (s2 : Int32) (s3 : Nat) : mv_run X call m_L_pass 4 [.ref a0, .int v1, .ref a2, .retAddr 0] [.int s0, .ref s1, .int s2, .ref s3] h =
  mv_rcv X h [.ref s1, .int s0] 12 (mv_clI call 115 [.ref s1, .int s0] h (mv_thr [(0, 9, 13, 0, 3)] 4 [.ref a0, .int v1, .ref a2, .retAddr 0] (mv_run X call m_L_pass)) fun x1 h1 =>
  mv_run X call m_L_pass 7 [.ref a0, .int v1, .ref a2, .retAddr 0] [.int x1, .int s2, .ref s3] h1) :=
  (s_v1 [.ref s1, .int s0] [.int s2, .ref s3] rfl rfl (fun _ => rfl)).trans <| c_rcv <| c_clI fun x1 h1 => rfl
theorem bk_L_pass_7 (X : mv_X) (call : mv_G) (h : mv_H) (a0 : Nat) (v1 : Int32) (a2 : Nat) (s0 : Int32) (s1 : Int32) (s2 : Nat) : mv_run X call m_L_pass 7 [.ref a0, .int v1, .ref a2, .retAddr 0] [.int s0, .int s1, .ref s2] h =
  mv_as h 3 s2 s1 (.long (s0).toInt64) fun h1 =>
  (some (.inl (some (.int (nZ 0))), h1)) :=
  (s_i2l rfl).trans <| (s_lastore rfl).trans <| c_as fun h1 => (s_goto rfl).trans <| (s_iconst rfl).trans <| s_iret1 rfl rfl
theorem bk_L_pass_13 (X : mv_X) (call : mv_G) (h : mv_H) (a0 : Nat) (v1 : Int32) (a2 : Nat) : mv_run X call m_L_pass 13 [.ref a0, .int v1, .ref a2, .retAddr 0] [] h =
  (some (.inl (some (.int (nZ 1))), h)) :=
  (s_iconst rfl).trans <| s_iret1 rfl rfl
theorem mc_L_meanHeight (X : mv_X) (d : Nat) (h : mv_H) (a0 : Nat) (a1 : Nat) : mv_call X (d + 1) 311 [.ref a0, .ref a1] h = mv_run X (mv_call X d) m_L_meanHeight 0 [.ref a0, .ref a1, .retAddr 0] [] h := rfl
theorem bk_L_meanHeight_0 (X : mv_X) (call : mv_G) (h : mv_H) (a0 : Nat) (a1 : Nat) : mv_run X call m_L_meanHeight 0 [.ref a0, .ref a1, .retAddr 0] [] h =
  mv_run X call m_L_meanHeight 3 [.ref a0, .ref a1, .retAddr 0] [.ref a0, .int (nZ 0), .ref a1] h :=
  (s_aload_n rfl rfl).trans <| (s_iconst rfl).trans <| (s_aload_n rfl rfl).trans <| rfl
theorem bk_L_meanHeight_3 (X : mv_X) (call : mv_G) (h : mv_H) (a0 : Nat) (a1 : Nat) (s0 : Nat) (s1 : Int32) (s2 : Nat) : mv_run X call m_L_meanHeight 3 [.ref a0, .ref a1, .retAddr 0] [.ref s0, .int s1, .ref s2] h =
  mv_rcv X h [.ref s0] 12 (mv_clD call 123 [.ref s0] h (mv_thr [(0, 7, 11, 5, 2)] 3 [.ref a0, .ref a1, .retAddr 0] (mv_run X call m_L_meanHeight)) fun d1 h1 =>
  mv_run X call m_L_meanHeight 6 [.ref a0, .ref a1, .retAddr 0] [.double d1, .int s1, .ref s2] h1) :=
  (s_v5 [.ref s0] [.int s1, .ref s2] rfl rfl (fun _ => rfl)).trans <| c_rcv <| c_clD fun d1 h1 => rfl
theorem bk_L_meanHeight_6 (X : mv_X) (call : mv_G) (h : mv_H) (a0 : Nat) (a1 : Nat) (s0 : UInt64) (s1 : Int32) (s2 : Nat) : mv_run X call m_L_meanHeight 6 [.ref a0, .ref a1, .retAddr 0] [.double s0, .int s1, .ref s2] h =
  mv_as h 5 s2 s1 (.double s0) fun h1 =>
  (some (.inl (some (.int (nZ 0))), h1)) :=
  (s_dastore rfl).trans <| c_as fun h1 => (s_goto rfl).trans <| (s_iconst rfl).trans <| s_iret1 rfl rfl
theorem bk_L_meanHeight_11 (X : mv_X) (call : mv_G) (h : mv_H) (a0 : Nat) (a1 : Nat) : mv_run X call m_L_meanHeight 11 [.ref a0, .ref a1, .retAddr 0] [] h =
  (some (.inl (some (.int (nZ 1))), h)) :=
  (s_iconst rfl).trans <| s_iret1 rfl rfl
theorem mc_L_strain (X : mv_X) (d : Nat) (h : mv_H) (a0 : Nat) (v1 : Int32) (a2 : Nat) : mv_call X (d + 1) 312 [.ref a0, .int v1, .ref a2] h = mv_run X (mv_call X d) m_L_strain 0 [.ref a0, .int v1, .ref a2, .retAddr 0] [] h := rfl
theorem bk_L_strain_0 (X : mv_X) (call : mv_G) (h : mv_H) (a0 : Nat) (v1 : Int32) (a2 : Nat) : mv_run X call m_L_strain 0 [.ref a0, .int v1, .ref a2, .retAddr 0] [] h =
  mv_run X call m_L_strain 4 [.ref a0, .int v1, .ref a2, .retAddr 0] [.int v1, .ref a0, .int (nZ 0), .ref a2] h :=
  (s_aload_n rfl rfl).trans <| (s_iconst rfl).trans <| (s_aload_n rfl rfl).trans <| (s_iload_n rfl rfl).trans <| rfl
theorem bk_L_strain_4 (X : mv_X) (call : mv_G) (h : mv_H) (a0 : Nat) (v1 : Int32) (a2 : Nat) (s0 : Int32) (s1 : Nat) (s2 : Int32) (s3 : Nat) : mv_run X call m_L_strain 4 [.ref a0, .int v1, .ref a2, .retAddr 0] [.int s0, .ref s1, .int s2, .ref s3] h =
  mv_rcv X h [.ref s1, .int s0] 12 (mv_clF call 124 [.ref s1, .int s0] h (mv_thr [(0, 9, 13, 1, 3)] 4 [.ref a0, .int v1, .ref a2, .retAddr 0] (mv_run X call m_L_strain)) fun f1 h1 =>
  mv_run X call m_L_strain 7 [.ref a0, .int v1, .ref a2, .retAddr 0] [.float f1, .int s2, .ref s3] h1) :=
  (s_v4 [.ref s1, .int s0] [.int s2, .ref s3] rfl rfl (fun _ => rfl)).trans <| c_rcv <| c_clF fun f1 h1 => rfl
theorem bk_L_strain_7 (X : mv_X) (call : mv_G) (h : mv_H) (a0 : Nat) (v1 : Int32) (a2 : Nat) (s0 : UInt32) (s1 : Int32) (s2 : Nat) : mv_run X call m_L_strain 7 [.ref a0, .int v1, .ref a2, .retAddr 0] [.float s0, .int s1, .ref s2] h =
  mv_chk (decide ((FP.f2d s0) &&& 0x7fffffffffffffff ≤ 0x7ff0000000000000)) (
  mv_as h 5 s2 s1 (.double (FP.f2d s0)) fun h1 =>
  (some (.inl (some (.int (nZ 0))), h1))) :=
  (s_f2d rfl).trans <| c_chk <| (s_dastore rfl).trans <| c_as fun h1 => (s_goto rfl).trans <| (s_iconst rfl).trans <| s_iret1 rfl rfl
theorem bk_L_strain_13 (X : mv_X) (call : mv_G) (h : mv_H) (a0 : Nat) (v1 : Int32) (a2 : Nat) : mv_run X call m_L_strain 13 [.ref a0, .int v1, .ref a2, .retAddr 0] [] h =
  (some (.inl (some (.int (nZ 1))), h)) :=
  (s_iconst rfl).trans <| s_iret1 rfl rfl
theorem mc_L_feed (X : mv_X) (d : Nat) (h : mv_H) (a0 : Nat) (v1 : Int32) (a2 : Nat) : mv_call X (d + 1) 313 [.ref a0, .int v1, .ref a2] h = mv_run X (mv_call X d) m_L_feed 0 [.ref a0, .int v1, .ref a2, .retAddr 0] [] h := rfl
theorem bk_L_feed_0 (X : mv_X) (call : mv_G) (h : mv_H) (a0 : Nat) (v1 : Int32) (a2 : Nat) : mv_run X call m_L_feed 0 [.ref a0, .int v1, .ref a2, .retAddr 0] [] h =
  mv_run X call m_L_feed 4 [.ref a0, .int v1, .ref a2, .retAddr 0] [.int v1, .ref a0, .int (nZ 0), .ref a2] h :=
  (s_aload_n rfl rfl).trans <| (s_iconst rfl).trans <| (s_aload_n rfl rfl).trans <| (s_iload_n rfl rfl).trans <| rfl
theorem bk_L_feed_4 (X : mv_X) (call : mv_G) (h : mv_H) (a0 : Nat) (v1 : Int32) (a2 : Nat) (s0 : Int32) (s1 : Nat) (s2 : Int32) (s3 : Nat) : mv_run X call m_L_feed 4 [.ref a0, .int v1, .ref a2, .retAddr 0] [.int s0, .ref s1, .int s2, .ref s3] h =
  mv_rcv X h [.ref s1, .int s0] 12 (mv_clI call 125 [.ref s1, .int s0] h (mv_thr [(0, 9, 13, 4, 3)] 4 [.ref a0, .int v1, .ref a2, .retAddr 0] (mv_run X call m_L_feed)) fun x1 h1 =>
  mv_run X call m_L_feed 7 [.ref a0, .int v1, .ref a2, .retAddr 0] [.int x1, .int s2, .ref s3] h1) :=
  (s_v1 [.ref s1, .int s0] [.int s2, .ref s3] rfl rfl (fun _ => rfl)).trans <| c_rcv <| c_clI fun x1 h1 => rfl
theorem bk_L_feed_7 (X : mv_X) (call : mv_G) (h : mv_H) (a0 : Nat) (v1 : Int32) (a2 : Nat) (s0 : Int32) (s1 : Int32) (s2 : Nat) : mv_run X call m_L_feed 7 [.ref a0, .int v1, .ref a2, .retAddr 0] [.int s0, .int s1, .ref s2] h =
  mv_as h 3 s2 s1 (.long (s0).toInt64) fun h1 =>
  (some (.inl (some (.int (nZ 0))), h1)) :=
  (s_i2l rfl).trans <| (s_lastore rfl).trans <| c_as fun h1 => (s_goto rfl).trans <| (s_iconst rfl).trans <| s_iret1 rfl rfl
theorem bk_L_feed_13 (X : mv_X) (call : mv_G) (h : mv_H) (a0 : Nat) (v1 : Int32) (a2 : Nat) : mv_run X call m_L_feed 13 [.ref a0, .int v1, .ref a2, .retAddr 0] [] h =
  (some (.inl (some (.int (nZ 1))), h)) :=
  (s_iconst rfl).trans <| s_iret1 rfl rfl
theorem mc_L_execute (X : mv_X) (d : Nat) (h : mv_H) (a0 : Nat) (a1 : Nat) : mv_call X (d + 1) 314 [.ref a0, .ref a1] h = mv_run X (mv_call X d) m_L_execute 0 [.ref a0, .ref a1, .retAddr 0] [] h := rfl
theorem bk_L_execute_0 (X : mv_X) (call : mv_G) (h : mv_H) (a0 : Nat) (a1 : Nat) : mv_run X call m_L_execute 0 [.ref a0, .ref a1, .retAddr 0] [] h =
  mv_run X call m_L_execute 3 [.ref a0, .ref a1, .retAddr 0] [.ref a0, .int (nZ 0), .ref a1] h :=
  (s_aload_n rfl rfl).trans <| (s_iconst rfl).trans <| (s_aload_n rfl rfl).trans <| rfl
theorem bk_L_execute_3 (X : mv_X) (call : mv_G) (h : mv_H) (a0 : Nat) (a1 : Nat) (s0 : Nat) (s1 : Int32) (s2 : Nat) : mv_run X call m_L_execute 3 [.ref a0, .ref a1, .retAddr 0] [.ref s0, .int s1, .ref s2] h =
  mv_rcv X h [.ref s0] 12 (mv_clI call 126 [.ref s0] h (mv_thr [(0, 8, 12, 0, 2), (0, 8, 15, 3, 2)] 3 [.ref a0, .ref a1, .retAddr 0] (mv_run X call m_L_execute)) fun x1 h1 =>
  mv_run X call m_L_execute 6 [.ref a0, .ref a1, .retAddr 0] [.int x1, .int s1, .ref s2] h1) :=
  (s_v1 [.ref s0] [.int s1, .ref s2] rfl rfl (fun _ => rfl)).trans <| c_rcv <| c_clI fun x1 h1 => rfl
theorem bk_L_execute_6 (X : mv_X) (call : mv_G) (h : mv_H) (a0 : Nat) (a1 : Nat) (s0 : Int32) (s1 : Int32) (s2 : Nat) : mv_run X call m_L_execute 6 [.ref a0, .ref a1, .retAddr 0] [.int s0, .int s1, .ref s2] h =
  mv_as h 3 s2 s1 (.long (s0).toInt64) fun h1 =>
  (some (.inl (some (.int (nZ 0))), h1)) :=
  (s_i2l rfl).trans <| (s_lastore rfl).trans <| c_as fun h1 => (s_goto rfl).trans <| (s_iconst rfl).trans <| s_iret1 rfl rfl
theorem bk_L_execute_12 (X : mv_X) (call : mv_G) (h : mv_H) (a0 : Nat) (a1 : Nat) : mv_run X call m_L_execute 12 [.ref a0, .ref a1, .retAddr 0] [] h =
  (some (.inl (some (.int (nZ 1))), h)) :=
  (s_iconst rfl).trans <| s_iret1 rfl rfl
theorem bk_L_execute_15 (X : mv_X) (call : mv_G) (h : mv_H) (a0 : Nat) (a1 : Nat) : mv_run X call m_L_execute 15 [.ref a0, .ref a1, .retAddr 0] [] h =
  (some (.inl (some (.int (nZ 2))), h)) :=
  (s_iconst rfl).trans <| s_iret1 rfl rfl
theorem mc_L_faultPosition (X : mv_X) (d : Nat) (h : mv_H) (a0 : Nat) (a1 : Nat) : mv_call X (d + 1) 315 [.ref a0, .ref a1] h = mv_run X (mv_call X d) m_L_faultPosition 0 [.ref a0, .ref a1, .retAddr 0] [] h := rfl
theorem bk_L_faultPosition_0 (X : mv_X) (call : mv_G) (h : mv_H) (a0 : Nat) (a1 : Nat) : mv_run X call m_L_faultPosition 0 [.ref a0, .ref a1, .retAddr 0] [] h =
  mv_run X call m_L_faultPosition 3 [.ref a0, .ref a1, .retAddr 0] [.ref a0, .int (nZ 0), .ref a1] h :=
  (s_aload_n rfl rfl).trans <| (s_iconst rfl).trans <| (s_aload_n rfl rfl).trans <| rfl
theorem bk_L_faultPosition_3 (X : mv_X) (call : mv_G) (h : mv_H) (a0 : Nat) (a1 : Nat) (s0 : Nat) (s1 : Int32) (s2 : Nat) : mv_run X call m_L_faultPosition 3 [.ref a0, .ref a1, .retAddr 0] [.ref s0, .int s1, .ref s2] h =
  mv_rcv X h [.ref s0] 12 (mv_clI call 127 [.ref s0] h (mv_thr [(0, 8, 12, 1, 2)] 3 [.ref a0, .ref a1, .retAddr 0] (mv_run X call m_L_faultPosition)) fun x1 h1 =>
  mv_run X call m_L_faultPosition 6 [.ref a0, .ref a1, .retAddr 0] [.int x1, .int s1, .ref s2] h1) :=
  (s_v1 [.ref s0] [.int s1, .ref s2] rfl rfl (fun _ => rfl)).trans <| c_rcv <| c_clI fun x1 h1 => rfl
theorem bk_L_faultPosition_6 (X : mv_X) (call : mv_G) (h : mv_H) (a0 : Nat) (a1 : Nat) (s0 : Int32) (s1 : Int32) (s2 : Nat) : mv_run X call m_L_faultPosition 6 [.ref a0, .ref a1, .retAddr 0] [.int s0, .int s1, .ref s2] h =
  mv_as h 3 s2 s1 (.long (s0).toInt64) fun h1 =>
  (some (.inl (some (.int (nZ 0))), h1)) :=
  (s_i2l rfl).trans <| (s_lastore rfl).trans <| c_as fun h1 => (s_goto rfl).trans <| (s_iconst rfl).trans <| s_iret1 rfl rfl
theorem bk_L_faultPosition_12 (X : mv_X) (call : mv_G) (h : mv_H) (a0 : Nat) (a1 : Nat) : mv_run X call m_L_faultPosition 12 [.ref a0, .ref a1, .retAddr 0] [] h =
  (some (.inl (some (.int (nZ 1))), h)) :=
  (s_iconst rfl).trans <| s_iret1 rfl rfl
theorem mc_L_writeBalloon (X : mv_X) (d : Nat) (h : mv_H) (a0 : Nat) (v1 : Int32) (a2 : Nat) : mv_call X (d + 1) 316 [.ref a0, .int v1, .ref a2] h = mv_run X (mv_call X d) m_L_writeBalloon 0 [.ref a0, .int v1, .ref a2, .retAddr 0] [] h := rfl
theorem bk_L_writeBalloon_0 (X : mv_X) (call : mv_G) (h : mv_H) (a0 : Nat) (v1 : Int32) (a2 : Nat) : mv_run X call m_L_writeBalloon 0 [.ref a0, .int v1, .ref a2, .retAddr 0] [] h =
  mv_run X call m_L_writeBalloon 4 [.ref a0, .int v1, .ref a2, .retAddr 0] [.int v1, .ref a0, .int (nZ 0), .ref a2] h :=
  (s_aload_n rfl rfl).trans <| (s_iconst rfl).trans <| (s_aload_n rfl rfl).trans <| (s_iload_n rfl rfl).trans <| rfl
theorem bk_L_writeBalloon_4 (X : mv_X) (call : mv_G) (h : mv_H) (a0 : Nat) (v1 : Int32) (a2 : Nat) (s0 : Int32) (s1 : Nat) (s2 : Int32) (s3 : Nat) : mv_run X call m_L_writeBalloon 4 [.ref a0, .int v1, .ref a2, .retAddr 0] [.int s0, .ref s1, .int s2, .ref s3] h =
  mv_rcv X h [.ref s1, .int s0] 12 (mv_clI call 128 [.ref s1, .int s0] h (mv_thr [(0, 9, 13, 1, 3)] 4 [.ref a0, .int v1, .ref a2, .retAddr 0] (mv_run X call m_L_writeBalloon)) fun x1 h1 =>
  mv_run X call m_L_writeBalloon 7 [.ref a0, .int v1, .ref a2, .retAddr 0] [.int x1, .int s2, .ref s3] h1) :=
  (s_v1 [.ref s1, .int s0] [.int s2, .ref s3] rfl rfl (fun _ => rfl)).trans <| c_rcv <| c_clI fun x1 h1 => rfl
theorem bk_L_writeBalloon_7 (X : mv_X) (call : mv_G) (h : mv_H) (a0 : Nat) (v1 : Int32) (a2 : Nat) (s0 : Int32) (s1 : Int32) (s2 : Nat) : mv_run X call m_L_writeBalloon 7 [.ref a0, .int v1, .ref a2, .retAddr 0] [.int s0, .int s1, .ref s2] h =
  mv_as h 3 s2 s1 (.long (s0).toInt64) fun h1 =>
  (some (.inl (some (.int (nZ 0))), h1)) :=
  (s_i2l rfl).trans <| (s_lastore rfl).trans <| c_as fun h1 => (s_goto rfl).trans <| (s_iconst rfl).trans <| s_iret1 rfl rfl
theorem bk_L_writeBalloon_13 (X : mv_X) (call : mv_G) (h : mv_H) (a0 : Nat) (v1 : Int32) (a2 : Nat) : mv_run X call m_L_writeBalloon 13 [.ref a0, .int v1, .ref a2, .retAddr 0] [] h =
  (some (.inl (some (.int (nZ 1))), h)) :=
  (s_iconst rfl).trans <| s_iret1 rfl rfl
theorem mc_L_lineCharacter (X : mv_X) (d : Nat) (h : mv_H) (a0 : Nat) (v1 : Int32) (a2 : Nat) : mv_call X (d + 1) 317 [.ref a0, .int v1, .ref a2] h = mv_run X (mv_call X d) m_L_lineCharacter 0 [.ref a0, .int v1, .ref a2, .retAddr 0] [] h := rfl
theorem bk_L_lineCharacter_0 (X : mv_X) (call : mv_G) (h : mv_H) (a0 : Nat) (v1 : Int32) (a2 : Nat) : mv_run X call m_L_lineCharacter 0 [.ref a0, .int v1, .ref a2, .retAddr 0] [] h =
  mv_run X call m_L_lineCharacter 4 [.ref a0, .int v1, .ref a2, .retAddr 0] [.int v1, .ref a0, .int (nZ 0), .ref a2] h :=
  (s_aload_n rfl rfl).trans <| (s_iconst rfl).trans <| (s_aload_n rfl rfl).trans <| (s_iload_n rfl rfl).trans <| rfl
theorem bk_L_lineCharacter_4 (X : mv_X) (call : mv_G) (h : mv_H) (a0 : Nat) (v1 : Int32) (a2 : Nat) (s0 : Int32) (s1 : Nat) (s2 : Int32) (s3 : Nat) : mv_run X call m_L_lineCharacter 4 [.ref a0, .int v1, .ref a2, .retAddr 0] [.int s0, .ref s1, .int s2, .ref s3] h =
  mv_rcv X h [.ref s1, .int s0] 12 (mv_clI call 129 [.ref s1, .int s0] h (mv_thr [(0, 9, 13, 2, 3)] 4 [.ref a0, .int v1, .ref a2, .retAddr 0] (mv_run X call m_L_lineCharacter)) fun x1 h1 =>
  mv_run X call m_L_lineCharacter 7 [.ref a0, .int v1, .ref a2, .retAddr 0] [.int x1, .int s2, .ref s3] h1) :=
  (s_v1 [.ref s1, .int s0] [.int s2, .ref s3] rfl rfl (fun _ => rfl)).trans <| c_rcv <| c_clI fun x1 h1 => rfl
theorem bk_L_lineCharacter_7 (X : mv_X) (call : mv_G) (h : mv_H) (a0 : Nat) (v1 : Int32) (a2 : Nat) (s0 : Int32) (s1 : Int32) (s2 : Nat) : mv_run X call m_L_lineCharacter 7 [.ref a0, .int v1, .ref a2, .retAddr 0] [.int s0, .int s1, .ref s2] h =
  mv_as h 3 s2 s1 (.long (s0).toInt64) fun h1 =>
  (some (.inl (some (.int (nZ 0))), h1)) :=
  (s_i2l rfl).trans <| (s_lastore rfl).trans <| c_as fun h1 => (s_goto rfl).trans <| (s_iconst rfl).trans <| s_iret1 rfl rfl
theorem bk_L_lineCharacter_13 (X : mv_X) (call : mv_G) (h : mv_H) (a0 : Nat) (v1 : Int32) (a2 : Nat) : mv_run X call m_L_lineCharacter 13 [.ref a0, .int v1, .ref a2, .retAddr 0] [] h =
  (some (.inl (some (.int (nZ 1))), h)) :=
  (s_iconst rfl).trans <| s_iret1 rfl rfl
theorem mc_L_denial (X : mv_X) (d : Nat) (h : mv_H) (a0 : Nat) (a1 : Nat) : mv_call X (d + 1) 318 [.ref a0, .ref a1] h = mv_run X (mv_call X d) m_L_denial 0 [.ref a0, .ref a1, .retAddr 0] [] h := rfl
theorem bk_L_denial_0 (X : mv_X) (call : mv_G) (h : mv_H) (a0 : Nat) (a1 : Nat) : mv_run X call m_L_denial 0 [.ref a0, .ref a1, .retAddr 0] [] h =
  mv_run X call m_L_denial 3 [.ref a0, .ref a1, .retAddr 0] [.ref a0, .int (nZ 0), .ref a1] h :=
  (s_aload_n rfl rfl).trans <| (s_iconst rfl).trans <| (s_aload_n rfl rfl).trans <| rfl
theorem bk_L_denial_3 (X : mv_X) (call : mv_G) (h : mv_H) (a0 : Nat) (a1 : Nat) (s0 : Nat) (s1 : Int32) (s2 : Nat) : mv_run X call m_L_denial 3 [.ref a0, .ref a1, .retAddr 0] [.ref s0, .int s1, .ref s2] h =
  mv_rcv X h [.ref s0] 12 (mv_clI call 130 [.ref s0] h (mv_thr [(0, 8, 12, 1, 2)] 3 [.ref a0, .ref a1, .retAddr 0] (mv_run X call m_L_denial)) fun x1 h1 =>
  mv_run X call m_L_denial 6 [.ref a0, .ref a1, .retAddr 0] [.int x1, .int s1, .ref s2] h1) :=
  (s_v1 [.ref s0] [.int s1, .ref s2] rfl rfl (fun _ => rfl)).trans <| c_rcv <| c_clI fun x1 h1 => rfl
theorem bk_L_denial_6 (X : mv_X) (call : mv_G) (h : mv_H) (a0 : Nat) (a1 : Nat) (s0 : Int32) (s1 : Int32) (s2 : Nat) : mv_run X call m_L_denial 6 [.ref a0, .ref a1, .retAddr 0] [.int s0, .int s1, .ref s2] h =
  mv_as h 3 s2 s1 (.long (s0).toInt64) fun h1 =>
  (some (.inl (some (.int (nZ 0))), h1)) :=
  (s_i2l rfl).trans <| (s_lastore rfl).trans <| c_as fun h1 => (s_goto rfl).trans <| (s_iconst rfl).trans <| s_iret1 rfl rfl
theorem bk_L_denial_12 (X : mv_X) (call : mv_G) (h : mv_H) (a0 : Nat) (a1 : Nat) : mv_run X call m_L_denial 12 [.ref a0, .ref a1, .retAddr 0] [] h =
  (some (.inl (some (.int (nZ 1))), h)) :=
  (s_iconst rfl).trans <| s_iret1 rfl rfl
theorem mc_L_denialDetail (X : mv_X) (d : Nat) (h : mv_H) (a0 : Nat) (a1 : Nat) : mv_call X (d + 1) 319 [.ref a0, .ref a1] h = mv_run X (mv_call X d) m_L_denialDetail 0 [.ref a0, .ref a1, .retAddr 0] [] h := rfl
theorem bk_L_denialDetail_0 (X : mv_X) (call : mv_G) (h : mv_H) (a0 : Nat) (a1 : Nat) : mv_run X call m_L_denialDetail 0 [.ref a0, .ref a1, .retAddr 0] [] h =
  mv_run X call m_L_denialDetail 3 [.ref a0, .ref a1, .retAddr 0] [.ref a0, .int (nZ 0), .ref a1] h :=
  (s_aload_n rfl rfl).trans <| (s_iconst rfl).trans <| (s_aload_n rfl rfl).trans <| rfl
theorem bk_L_denialDetail_3 (X : mv_X) (call : mv_G) (h : mv_H) (a0 : Nat) (a1 : Nat) (s0 : Nat) (s1 : Int32) (s2 : Nat) : mv_run X call m_L_denialDetail 3 [.ref a0, .ref a1, .retAddr 0] [.ref s0, .int s1, .ref s2] h =
  mv_rcv X h [.ref s0] 12 (mv_clI call 131 [.ref s0] h (mv_thr [(0, 8, 12, 1, 2)] 3 [.ref a0, .ref a1, .retAddr 0] (mv_run X call m_L_denialDetail)) fun x1 h1 =>
  mv_run X call m_L_denialDetail 6 [.ref a0, .ref a1, .retAddr 0] [.int x1, .int s1, .ref s2] h1) :=
  (s_v1 [.ref s0] [.int s1, .ref s2] rfl rfl (fun _ => rfl)).trans <| c_rcv <| c_clI fun x1 h1 => rfl
theorem bk_L_denialDetail_6 (X : mv_X) (call : mv_G) (h : mv_H) (a0 : Nat) (a1 : Nat) (s0 : Int32) (s1 : Int32) (s2 : Nat) : mv_run X call m_L_denialDetail 6 [.ref a0, .ref a1, .retAddr 0] [.int s0, .int s1, .ref s2] h =
  mv_as h 3 s2 s1 (.long (s0).toInt64) fun h1 =>
  (some (.inl (some (.int (nZ 0))), h1)) :=
  (s_i2l rfl).trans <| (s_lastore rfl).trans <| c_as fun h1 => (s_goto rfl).trans <| (s_iconst rfl).trans <| s_iret1 rfl rfl
theorem bk_L_denialDetail_12 (X : mv_X) (call : mv_G) (h : mv_H) (a0 : Nat) (a1 : Nat) : mv_run X call m_L_denialDetail 12 [.ref a0, .ref a1, .retAddr 0] [] h =
  (some (.inl (some (.int (nZ 1))), h)) :=
  (s_iconst rfl).trans <| s_iret1 rfl rfl
theorem mc_L_denialCause (X : mv_X) (d : Nat) (h : mv_H) (a0 : Nat) (a1 : Nat) : mv_call X (d + 1) 320 [.ref a0, .ref a1] h = mv_run X (mv_call X d) m_L_denialCause 0 [.ref a0, .ref a1, .retAddr 0] [] h := rfl
theorem bk_L_denialCause_0 (X : mv_X) (call : mv_G) (h : mv_H) (a0 : Nat) (a1 : Nat) : mv_run X call m_L_denialCause 0 [.ref a0, .ref a1, .retAddr 0] [] h =
  mv_run X call m_L_denialCause 3 [.ref a0, .ref a1, .retAddr 0] [.ref a0, .int (nZ 0), .ref a1] h :=
  (s_aload_n rfl rfl).trans <| (s_iconst rfl).trans <| (s_aload_n rfl rfl).trans <| rfl
theorem bk_L_denialCause_3 (X : mv_X) (call : mv_G) (h : mv_H) (a0 : Nat) (a1 : Nat) (s0 : Nat) (s1 : Int32) (s2 : Nat) : mv_run X call m_L_denialCause 3 [.ref a0, .ref a1, .retAddr 0] [.ref s0, .int s1, .ref s2] h =
  mv_rcv X h [.ref s0] 12 (mv_clI call 132 [.ref s0] h (mv_thr [(0, 8, 12, 1, 2)] 3 [.ref a0, .ref a1, .retAddr 0] (mv_run X call m_L_denialCause)) fun x1 h1 =>
  mv_run X call m_L_denialCause 6 [.ref a0, .ref a1, .retAddr 0] [.int x1, .int s1, .ref s2] h1) :=
  (s_v1 [.ref s0] [.int s1, .ref s2] rfl rfl (fun _ => rfl)).trans <| c_rcv <| c_clI fun x1 h1 => rfl
theorem bk_L_denialCause_6 (X : mv_X) (call : mv_G) (h : mv_H) (a0 : Nat) (a1 : Nat) (s0 : Int32) (s1 : Int32) (s2 : Nat) : mv_run X call m_L_denialCause 6 [.ref a0, .ref a1, .retAddr 0] [.int s0, .int s1, .ref s2] h =
  mv_as h 3 s2 s1 (.long (s0).toInt64) fun h1 =>
  (some (.inl (some (.int (nZ 0))), h1)) :=
  (s_i2l rfl).trans <| (s_lastore rfl).trans <| c_as fun h1 => (s_goto rfl).trans <| (s_iconst rfl).trans <| s_iret1 rfl rfl
theorem bk_L_denialCause_12 (X : mv_X) (call : mv_G) (h : mv_H) (a0 : Nat) (a1 : Nat) : mv_run X call m_L_denialCause 12 [.ref a0, .ref a1, .retAddr 0] [] h =
  (some (.inl (some (.int (nZ 1))), h)) :=
  (s_iconst rfl).trans <| s_iret1 rfl rfl
theorem mc_L_undo (X : mv_X) (d : Nat) (h : mv_H) (a0 : Nat) (a1 : Nat) : mv_call X (d + 1) 321 [.ref a0, .ref a1] h = mv_run X (mv_call X d) m_L_undo 0 [.ref a0, .ref a1, .retAddr 0] [] h := rfl
theorem bk_L_undo_0 (X : mv_X) (call : mv_G) (h : mv_H) (a0 : Nat) (a1 : Nat) : mv_run X call m_L_undo 0 [.ref a0, .ref a1, .retAddr 0] [] h =
  mv_run X call m_L_undo 3 [.ref a0, .ref a1, .retAddr 0] [.ref a0, .int (nZ 0), .ref a1] h :=
  (s_aload_n rfl rfl).trans <| (s_iconst rfl).trans <| (s_aload_n rfl rfl).trans <| rfl
theorem bk_L_undo_3 (X : mv_X) (call : mv_G) (h : mv_H) (a0 : Nat) (a1 : Nat) (s0 : Nat) (s1 : Int32) (s2 : Nat) : mv_run X call m_L_undo 3 [.ref a0, .ref a1, .retAddr 0] [.ref s0, .int s1, .ref s2] h =
  mv_rcv X h [.ref s0] 12 (mv_clI call 133 [.ref s0] h (mv_thr [(0, 8, 12, 4, 2)] 3 [.ref a0, .ref a1, .retAddr 0] (mv_run X call m_L_undo)) fun x1 h1 =>
  mv_run X call m_L_undo 6 [.ref a0, .ref a1, .retAddr 0] [.int x1, .int s1, .ref s2] h1) :=
  (s_v1 [.ref s0] [.int s1, .ref s2] rfl rfl (fun _ => rfl)).trans <| c_rcv <| c_clI fun x1 h1 => rfl
theorem bk_L_undo_6 (X : mv_X) (call : mv_G) (h : mv_H) (a0 : Nat) (a1 : Nat) (s0 : Int32) (s1 : Int32) (s2 : Nat) : mv_run X call m_L_undo 6 [.ref a0, .ref a1, .retAddr 0] [.int s0, .int s1, .ref s2] h =
  mv_as h 3 s2 s1 (.long (s0).toInt64) fun h1 =>
  (some (.inl (some (.int (nZ 0))), h1)) :=
  (s_i2l rfl).trans <| (s_lastore rfl).trans <| c_as fun h1 => (s_goto rfl).trans <| (s_iconst rfl).trans <| s_iret1 rfl rfl
theorem bk_L_undo_12 (X : mv_X) (call : mv_G) (h : mv_H) (a0 : Nat) (a1 : Nat) : mv_run X call m_L_undo 12 [.ref a0, .ref a1, .retAddr 0] [] h =
  (some (.inl (some (.int (nZ 1))), h)) :=
  (s_iconst rfl).trans <| s_iret1 rfl rfl
theorem mc_L_restoreSnapshot (X : mv_X) (d : Nat) (h : mv_H) (a0 : Nat) (a1 : Nat) : mv_call X (d + 1) 322 [.ref a0, .ref a1] h = mv_run X (mv_call X d) m_L_restoreSnapshot 0 [.ref a0, .ref a1, .retAddr 0] [] h := rfl
theorem bk_L_restoreSnapshot_0 (X : mv_X) (call : mv_G) (h : mv_H) (a0 : Nat) (a1 : Nat) : mv_run X call m_L_restoreSnapshot 0 [.ref a0, .ref a1, .retAddr 0] [] h =
  mv_run X call m_L_restoreSnapshot 3 [.ref a0, .ref a1, .retAddr 0] [.ref a0, .int (nZ 0), .ref a1] h :=
  (s_aload_n rfl rfl).trans <| (s_iconst rfl).trans <| (s_aload_n rfl rfl).trans <| rfl
theorem bk_L_restoreSnapshot_3 (X : mv_X) (call : mv_G) (h : mv_H) (a0 : Nat) (a1 : Nat) (s0 : Nat) (s1 : Int32) (s2 : Nat) : mv_run X call m_L_restoreSnapshot 3 [.ref a0, .ref a1, .retAddr 0] [.ref s0, .int s1, .ref s2] h =
  mv_rcv X h [.ref s0] 12 (mv_clI call 136 [.ref s0] h (mv_thr [(0, 8, 12, 4, 2)] 3 [.ref a0, .ref a1, .retAddr 0] (mv_run X call m_L_restoreSnapshot)) fun x1 h1 =>
  mv_run X call m_L_restoreSnapshot 6 [.ref a0, .ref a1, .retAddr 0] [.int x1, .int s1, .ref s2] h1) :=
  (s_v1 [.ref s0] [.int s1, .ref s2] rfl rfl (fun _ => rfl)).trans <| c_rcv <| c_clI fun x1 h1 => rfl
theorem bk_L_restoreSnapshot_6 (X : mv_X) (call : mv_G) (h : mv_H) (a0 : Nat) (a1 : Nat) (s0 : Int32) (s1 : Int32) (s2 : Nat) : mv_run X call m_L_restoreSnapshot 6 [.ref a0, .ref a1, .retAddr 0] [.int s0, .int s1, .ref s2] h =
  mv_as h 3 s2 s1 (.long (s0).toInt64) fun h1 =>
  (some (.inl (some (.int (nZ 0))), h1)) :=
  (s_i2l rfl).trans <| (s_lastore rfl).trans <| c_as fun h1 => (s_goto rfl).trans <| (s_iconst rfl).trans <| s_iret1 rfl rfl
theorem bk_L_restoreSnapshot_12 (X : mv_X) (call : mv_G) (h : mv_H) (a0 : Nat) (a1 : Nat) : mv_run X call m_L_restoreSnapshot 12 [.ref a0, .ref a1, .retAddr 0] [] h =
  (some (.inl (some (.int (nZ 1))), h)) :=
  (s_iconst rfl).trans <| s_iret1 rfl rfl
theorem mc_L_law (X : mv_X) (d : Nat) (h : mv_H) (a0 : Nat) : mv_call X (d + 1) 323 [.ref a0] h = mv_run X (mv_call X d) m_L_law 0 [.ref a0, .retAddr 0, .retAddr 0, .retAddr 0, .retAddr 0, .retAddr 0, .retAddr 0, .retAddr 0, .retAddr 0] [] h := rfl
theorem i_L_law_0 : mv_look m_L_law.2.2.2.1 32 0 = some (.new 8, 0, []) := by decide +kernel
theorem i_L_law_3 : mv_look m_L_law.2.2.2.1 32 3 = some (.dup, 0, []) := by decide +kernel
theorem i_L_law_4 : mv_look m_L_law.2.2.2.1 32 4 = some (.invokespecial 146, 0, []) := by decide +kernel
theorem i_L_law_7 : mv_look m_L_law.2.2.2.1 32 7 = some (.astore_n 1, 0, []) := by decide +kernel
theorem i_L_law_8 : mv_look m_L_law.2.2.2.1 32 8 = some (.new 147, 0, []) := by decide +kernel
theorem i_L_law_11 : mv_look m_L_law.2.2.2.1 32 11 = some (.dup, 0, []) := by decide +kernel
theorem i_L_law_12 : mv_look m_L_law.2.2.2.1 32 12 = some (.invokespecial 149, 0, []) := by decide +kernel
theorem i_L_law_15 : mv_look m_L_law.2.2.2.1 32 15 = some (.astore_n 2, 0, []) := by decide +kernel
theorem i_L_law_16 : mv_look m_L_law.2.2.2.1 32 16 = some (.iconst 1, 0, []) := by decide +kernel
theorem i_L_law_17 : mv_look m_L_law.2.2.2.1 32 17 = some (.newarray .long, 0, []) := by decide +kernel
theorem i_L_law_19 : mv_look m_L_law.2.2.2.1 32 19 = some (.astore_n 3, 0, []) := by decide +kernel
theorem i_L_law_20 : mv_look m_L_law.2.2.2.1 32 20 = some (.iconst 1, 0, []) := by decide +kernel
theorem i_L_law_21 : mv_look m_L_law.2.2.2.1 32 21 = some (.newarray .double, 0, []) := by decide +kernel
theorem i_L_law_23 : mv_look m_L_law.2.2.2.1 32 23 = some (.astore 4, 0, []) := by decide +kernel
theorem i_L_law_25 : mv_look m_L_law.2.2.2.1 32 25 = some (.iconst 0, 0, []) := by decide +kernel
theorem i_L_law_26 : mv_look m_L_law.2.2.2.1 32 26 = some (.istore 5, 0, []) := by decide +kernel
theorem i_L_law_28 : mv_look m_L_law.2.2.2.1 32 28 = some (.iload 5, 0, []) := by decide +kernel
theorem i_L_law_30 : mv_look m_L_law.2.2.2.1 32 30 = some (.aload_n 0, 0, []) := by decide +kernel
theorem i_L_law_31 : mv_look m_L_law.2.2.2.1 32 31 = some (.arraylength, 0, []) := by decide +kernel
theorem i_L_law_32 : mv_look m_L_law.2.2.2.1 32 32 = some (.iconst 5, 0, []) := by decide +kernel
theorem i_L_law_33 : mv_look m_L_law.2.2.2.1 32 33 = some (.isub, 0, []) := by decide +kernel
theorem i_L_law_34 : mv_look m_L_law.2.2.2.1 32 34 = some (.if_icmp .gt 2724, 2758, []) := by decide +kernel
theorem i_L_law_37 : mv_look m_L_law.2.2.2.1 32 37 = some (.aload_n 0, 0, []) := by decide +kernel
theorem i_L_law_38 : mv_look m_L_law.2.2.2.1 32 38 = some (.iload 5, 0, []) := by decide +kernel
theorem i_L_law_40 : mv_look m_L_law.2.2.2.1 32 40 = some (.iaload, 0, []) := by decide +kernel
theorem i_L_law_41 : mv_look m_L_law.2.2.2.1 32 41 = some (.bipush 63, 0, []) := by decide +kernel
theorem i_L_law_43 : mv_look m_L_law.2.2.2.1 32 43 = some (.iand, 0, []) := by decide +kernel
theorem i_L_law_44 : mv_look m_L_law.2.2.2.1 32 44 = some (.tableswitch 2708 0 52 #[228, 320, 376, 389, 452, 508, 564, 620, 683, 739, 807, 875, 943, 999, 1067, 1135, 1203, 1271, 1339, 1395, 1451, 1464, 1477, 1533, 1589, 1669, 1725, 1738, 1813, 1888, 1901, 1914, 1970, 1983, 1996, 2009, 2022, 2035, 2048, 2061, 2126, 2204, 2262, 2306, 2350, 2406, 2462, 2506, 2550, 2594, 2638, 2651, 2664], 2752, [(0, 272), (1, 364), (2, 420), (3, 433), (4, 496), (5, 552), (6, 608), (7, 664), (8, 727), (9, 783), (10, 851), (11, 919), (12, 987), (13, 1043), (14, 1111), (15, 1179), (16, 1247), (17, 1315), (18, 1383), (19, 1439), (20, 1495), (21, 1508), (22, 1521), (23, 1577), (24, 1633), (25, 1713), (26, 1769), (27, 1782), (28, 1857), (29, 1932), (30, 1945), (31, 1958), (32, 2014), (33, 2027), (34, 2040), (35, 2053), (36, 2066), (37, 2079), (38, 2092), (39, 2105), (40, 2170), (41, 2248), (42, 2306), (43, 2350), (44, 2394), (45, 2450), (46, 2506), (47, 2550), (48, 2594), (49, 2638), (50, 2682), (51, 2695), (52, 2708)]) := by decide +kernel
theorem i_L_law_272 : mv_look m_L_law.2.2.2.1 32 272 = some (.aload_n 1, 0, []) := by decide +kernel
theorem i_L_law_273 : mv_look m_L_law.2.2.2.1 32 273 = some (.aload_n 0, 0, []) := by decide +kernel
theorem i_L_law_274 : mv_look m_L_law.2.2.2.1 32 274 = some (.iload 5, 0, []) := by decide +kernel
theorem i_L_law_276 : mv_look m_L_law.2.2.2.1 32 276 = some (.iconst 1, 0, []) := by decide +kernel
theorem i_L_law_277 : mv_look m_L_law.2.2.2.1 32 277 = some (.iadd, 0, []) := by decide +kernel
theorem i_L_law_278 : mv_look m_L_law.2.2.2.1 32 278 = some (.iaload, 0, []) := by decide +kernel
theorem i_L_law_279 : mv_look m_L_law.2.2.2.1 32 279 = some (.aload_n 0, 0, []) := by decide +kernel
theorem i_L_law_280 : mv_look m_L_law.2.2.2.1 32 280 = some (.iload 5, 0, []) := by decide +kernel
theorem i_L_law_282 : mv_look m_L_law.2.2.2.1 32 282 = some (.iconst 2, 0, []) := by decide +kernel
theorem i_L_law_283 : mv_look m_L_law.2.2.2.1 32 283 = some (.iadd, 0, []) := by decide +kernel
theorem i_L_law_284 : mv_look m_L_law.2.2.2.1 32 284 = some (.iaload, 0, []) := by decide +kernel
theorem i_L_law_285 : mv_look m_L_law.2.2.2.1 32 285 = some (.aload_n 0, 0, []) := by decide +kernel
theorem i_L_law_286 : mv_look m_L_law.2.2.2.1 32 286 = some (.iload 5, 0, []) := by decide +kernel
theorem i_L_law_288 : mv_look m_L_law.2.2.2.1 32 288 = some (.iconst 3, 0, []) := by decide +kernel
theorem i_L_law_289 : mv_look m_L_law.2.2.2.1 32 289 = some (.iadd, 0, []) := by decide +kernel
theorem i_L_law_290 : mv_look m_L_law.2.2.2.1 32 290 = some (.iaload, 0, []) := by decide +kernel
theorem i_L_law_291 : mv_look m_L_law.2.2.2.1 32 291 = some (.aload_n 0, 0, []) := by decide +kernel
theorem i_L_law_292 : mv_look m_L_law.2.2.2.1 32 292 = some (.iload 5, 0, []) := by decide +kernel
theorem i_L_law_294 : mv_look m_L_law.2.2.2.1 32 294 = some (.iconst 4, 0, []) := by decide +kernel
theorem i_L_law_295 : mv_look m_L_law.2.2.2.1 32 295 = some (.iadd, 0, []) := by decide +kernel
theorem i_L_law_296 : mv_look m_L_law.2.2.2.1 32 296 = some (.iaload, 0, []) := by decide +kernel
theorem i_L_law_297 : mv_look m_L_law.2.2.2.1 32 297 = some (.aload_n 3, 0, []) := by decide +kernel
theorem i_L_law_298 : mv_look m_L_law.2.2.2.1 32 298 = some (.invokestatic 150, 0, []) := by decide +kernel
theorem i_L_law_301 : mv_look m_L_law.2.2.2.1 32 301 = some (.istore 6, 0, []) := by decide +kernel
theorem i_L_law_303 : mv_look m_L_law.2.2.2.1 32 303 = some (.aload_n 2, 0, []) := by decide +kernel
theorem i_L_law_304 : mv_look m_L_law.2.2.2.1 32 304 = some (.aload_n 0, 0, []) := by decide +kernel
theorem i_L_law_305 : mv_look m_L_law.2.2.2.1 32 305 = some (.iload 5, 0, []) := by decide +kernel
theorem i_L_law_307 : mv_look m_L_law.2.2.2.1 32 307 = some (.iconst 1, 0, []) := by decide +kernel
theorem i_L_law_308 : mv_look m_L_law.2.2.2.1 32 308 = some (.iadd, 0, []) := by decide +kernel
theorem i_L_law_309 : mv_look m_L_law.2.2.2.1 32 309 = some (.iaload, 0, []) := by decide +kernel
theorem i_L_law_310 : mv_look m_L_law.2.2.2.1 32 310 = some (.aload_n 0, 0, []) := by decide +kernel
theorem i_L_law_311 : mv_look m_L_law.2.2.2.1 32 311 = some (.iload 5, 0, []) := by decide +kernel
theorem i_L_law_313 : mv_look m_L_law.2.2.2.1 32 313 = some (.iconst 2, 0, []) := by decide +kernel
theorem i_L_law_314 : mv_look m_L_law.2.2.2.1 32 314 = some (.iadd, 0, []) := by decide +kernel
theorem i_L_law_315 : mv_look m_L_law.2.2.2.1 32 315 = some (.iaload, 0, []) := by decide +kernel
theorem i_L_law_316 : mv_look m_L_law.2.2.2.1 32 316 = some (.aload_n 0, 0, []) := by decide +kernel
theorem i_L_law_317 : mv_look m_L_law.2.2.2.1 32 317 = some (.iload 5, 0, []) := by decide +kernel
theorem i_L_law_319 : mv_look m_L_law.2.2.2.1 32 319 = some (.iconst 3, 0, []) := by decide +kernel
theorem i_L_law_320 : mv_look m_L_law.2.2.2.1 32 320 = some (.iadd, 0, []) := by decide +kernel
theorem i_L_law_321 : mv_look m_L_law.2.2.2.1 32 321 = some (.iaload, 0, []) := by decide +kernel
theorem i_L_law_322 : mv_look m_L_law.2.2.2.1 32 322 = some (.aload_n 0, 0, []) := by decide +kernel
theorem i_L_law_323 : mv_look m_L_law.2.2.2.1 32 323 = some (.iload 5, 0, []) := by decide +kernel
theorem i_L_law_325 : mv_look m_L_law.2.2.2.1 32 325 = some (.iconst 4, 0, []) := by decide +kernel
theorem i_L_law_326 : mv_look m_L_law.2.2.2.1 32 326 = some (.iadd, 0, []) := by decide +kernel
theorem i_L_law_327 : mv_look m_L_law.2.2.2.1 32 327 = some (.iaload, 0, []) := by decide +kernel
theorem i_L_law_328 : mv_look m_L_law.2.2.2.1 32 328 = some (.invokevirtual 155, 0, []) := by decide +kernel
theorem i_L_law_331 : mv_look m_L_law.2.2.2.1 32 331 = some (.istore 7, 0, []) := by decide +kernel
theorem i_L_law_333 : mv_look m_L_law.2.2.2.1 32 333 = some (.aload_n 2, 0, []) := by decide +kernel
theorem i_L_law_334 : mv_look m_L_law.2.2.2.1 32 334 = some (.invokevirtual 156, 0, []) := by decide +kernel
theorem i_L_law_337 : mv_look m_L_law.2.2.2.1 32 337 = some (.iload 6, 0, []) := by decide +kernel
theorem i_L_law_339 : mv_look m_L_law.2.2.2.1 32 339 = some (.if_icmp .eq 5, 344, []) := by decide +kernel
theorem i_L_law_342 : mv_look m_L_law.2.2.2.1 32 342 = some (.iconst 0, 0, []) := by decide +kernel
theorem i_L_law_343 : mv_look m_L_law.2.2.2.1 32 343 = some (.ireturn, 0, []) := by decide +kernel
theorem i_L_law_344 : mv_look m_L_law.2.2.2.1 32 344 = some (.iload 6, 0, []) := by decide +kernel
theorem i_L_law_346 : mv_look m_L_law.2.2.2.1 32 346 = some (.ifCond .ne 15, 361, []) := by decide +kernel
theorem i_L_law_349 : mv_look m_L_law.2.2.2.1 32 349 = some (.aload_n 3, 0, []) := by decide +kernel
theorem i_L_law_350 : mv_look m_L_law.2.2.2.1 32 350 = some (.iconst 0, 0, []) := by decide +kernel
theorem i_L_law_351 : mv_look m_L_law.2.2.2.1 32 351 = some (.laload, 0, []) := by decide +kernel
theorem i_L_law_352 : mv_look m_L_law.2.2.2.1 32 352 = some (.iload 7, 0, []) := by decide +kernel
theorem i_L_law_354 : mv_look m_L_law.2.2.2.1 32 354 = some (.i2l, 0, []) := by decide +kernel
theorem i_L_law_355 : mv_look m_L_law.2.2.2.1 32 355 = some (.lcmp, 0, []) := by decide +kernel
theorem i_L_law_356 : mv_look m_L_law.2.2.2.1 32 356 = some (.ifCond .eq 5, 361, []) := by decide +kernel
theorem i_L_law_359 : mv_look m_L_law.2.2.2.1 32 359 = some (.iconst 0, 0, []) := by decide +kernel
theorem i_L_law_360 : mv_look m_L_law.2.2.2.1 32 360 = some (.ireturn, 0, []) := by decide +kernel
theorem i_L_law_361 : mv_look m_L_law.2.2.2.1 32 361 = some (.goto 2391, 2752, []) := by decide +kernel
theorem i_L_law_364 : mv_look m_L_law.2.2.2.1 32 364 = some (.aload_n 1, 0, []) := by decide +kernel
theorem i_L_law_365 : mv_look m_L_law.2.2.2.1 32 365 = some (.aload_n 0, 0, []) := by decide +kernel
theorem i_L_law_366 : mv_look m_L_law.2.2.2.1 32 366 = some (.iload 5, 0, []) := by decide +kernel
theorem i_L_law_368 : mv_look m_L_law.2.2.2.1 32 368 = some (.iconst 1, 0, []) := by decide +kernel
theorem i_L_law_369 : mv_look m_L_law.2.2.2.1 32 369 = some (.iadd, 0, []) := by decide +kernel
theorem i_L_law_370 : mv_look m_L_law.2.2.2.1 32 370 = some (.iaload, 0, []) := by decide +kernel
theorem i_L_law_371 : mv_look m_L_law.2.2.2.1 32 371 = some (.aload_n 3, 0, []) := by decide +kernel
theorem i_L_law_372 : mv_look m_L_law.2.2.2.1 32 372 = some (.invokestatic 159, 0, []) := by decide +kernel
theorem i_L_law_375 : mv_look m_L_law.2.2.2.1 32 375 = some (.istore 6, 0, []) := by decide +kernel
theorem i_L_law_377 : mv_look m_L_law.2.2.2.1 32 377 = some (.aload_n 2, 0, []) := by decide +kernel
theorem i_L_law_378 : mv_look m_L_law.2.2.2.1 32 378 = some (.aload_n 0, 0, []) := by decide +kernel
theorem i_L_law_379 : mv_look m_L_law.2.2.2.1 32 379 = some (.iload 5, 0, []) := by decide +kernel
theorem i_L_law_381 : mv_look m_L_law.2.2.2.1 32 381 = some (.iconst 1, 0, []) := by decide +kernel
theorem i_L_law_382 : mv_look m_L_law.2.2.2.1 32 382 = some (.iadd, 0, []) := by decide +kernel
theorem i_L_law_383 : mv_look m_L_law.2.2.2.1 32 383 = some (.iaload, 0, []) := by decide +kernel
theorem i_L_law_384 : mv_look m_L_law.2.2.2.1 32 384 = some (.invokevirtual 162, 0, []) := by decide +kernel
theorem i_L_law_387 : mv_look m_L_law.2.2.2.1 32 387 = some (.istore 7, 0, []) := by decide +kernel
theorem i_L_law_389 : mv_look m_L_law.2.2.2.1 32 389 = some (.aload_n 2, 0, []) := by decide +kernel
theorem i_L_law_390 : mv_look m_L_law.2.2.2.1 32 390 = some (.invokevirtual 156, 0, []) := by decide +kernel
theorem i_L_law_393 : mv_look m_L_law.2.2.2.1 32 393 = some (.iload 6, 0, []) := by decide +kernel
theorem i_L_law_395 : mv_look m_L_law.2.2.2.1 32 395 = some (.if_icmp .eq 5, 400, []) := by decide +kernel
theorem i_L_law_398 : mv_look m_L_law.2.2.2.1 32 398 = some (.iconst 0, 0, []) := by decide +kernel
theorem i_L_law_399 : mv_look m_L_law.2.2.2.1 32 399 = some (.ireturn, 0, []) := by decide +kernel
theorem i_L_law_400 : mv_look m_L_law.2.2.2.1 32 400 = some (.iload 6, 0, []) := by decide +kernel
theorem i_L_law_402 : mv_look m_L_law.2.2.2.1 32 402 = some (.ifCond .ne 15, 417, []) := by decide +kernel
theorem i_L_law_405 : mv_look m_L_law.2.2.2.1 32 405 = some (.aload_n 3, 0, []) := by decide +kernel
theorem i_L_law_406 : mv_look m_L_law.2.2.2.1 32 406 = some (.iconst 0, 0, []) := by decide +kernel
theorem i_L_law_407 : mv_look m_L_law.2.2.2.1 32 407 = some (.laload, 0, []) := by decide +kernel
theorem i_L_law_408 : mv_look m_L_law.2.2.2.1 32 408 = some (.iload 7, 0, []) := by decide +kernel
theorem i_L_law_410 : mv_look m_L_law.2.2.2.1 32 410 = some (.i2l, 0, []) := by decide +kernel
theorem i_L_law_411 : mv_look m_L_law.2.2.2.1 32 411 = some (.lcmp, 0, []) := by decide +kernel
theorem i_L_law_412 : mv_look m_L_law.2.2.2.1 32 412 = some (.ifCond .eq 5, 417, []) := by decide +kernel
theorem i_L_law_415 : mv_look m_L_law.2.2.2.1 32 415 = some (.iconst 0, 0, []) := by decide +kernel
theorem i_L_law_416 : mv_look m_L_law.2.2.2.1 32 416 = some (.ireturn, 0, []) := by decide +kernel
theorem i_L_law_417 : mv_look m_L_law.2.2.2.1 32 417 = some (.goto 2335, 2752, []) := by decide +kernel
theorem i_L_law_420 : mv_look m_L_law.2.2.2.1 32 420 = some (.aload_n 1, 0, []) := by decide +kernel
theorem i_L_law_421 : mv_look m_L_law.2.2.2.1 32 421 = some (.invokevirtual 163, 0, []) := by decide +kernel
theorem i_L_law_424 : mv_look m_L_law.2.2.2.1 32 424 = some (.aload_n 2, 0, []) := by decide +kernel
theorem i_L_law_425 : mv_look m_L_law.2.2.2.1 32 425 = some (.invokevirtual 166, 0, []) := by decide +kernel
theorem i_L_law_428 : mv_look m_L_law.2.2.2.1 32 428 = some (.if_icmp .eq 2324, 2752, []) := by decide +kernel
theorem i_L_law_431 : mv_look m_L_law.2.2.2.1 32 431 = some (.iconst 0, 0, []) := by decide +kernel
theorem i_L_law_432 : mv_look m_L_law.2.2.2.1 32 432 = some (.ireturn, 0, []) := by decide +kernel
theorem i_L_law_433 : mv_look m_L_law.2.2.2.1 32 433 = some (.aload_n 1, 0, []) := by decide +kernel
theorem i_L_law_434 : mv_look m_L_law.2.2.2.1 32 434 = some (.aload_n 0, 0, []) := by decide +kernel
theorem i_L_law_435 : mv_look m_L_law.2.2.2.1 32 435 = some (.iload 5, 0, []) := by decide +kernel
theorem i_L_law_437 : mv_look m_L_law.2.2.2.1 32 437 = some (.iconst 1, 0, []) := by decide +kernel
theorem i_L_law_438 : mv_look m_L_law.2.2.2.1 32 438 = some (.iadd, 0, []) := by decide +kernel
theorem i_L_law_439 : mv_look m_L_law.2.2.2.1 32 439 = some (.iaload, 0, []) := by decide +kernel
theorem i_L_law_440 : mv_look m_L_law.2.2.2.1 32 440 = some (.aload_n 3, 0, []) := by decide +kernel
theorem i_L_law_441 : mv_look m_L_law.2.2.2.1 32 441 = some (.invokestatic 167, 0, []) := by decide +kernel
theorem i_L_law_444 : mv_look m_L_law.2.2.2.1 32 444 = some (.istore 6, 0, []) := by decide +kernel
theorem i_L_law_446 : mv_look m_L_law.2.2.2.1 32 446 = some (.aload_n 2, 0, []) := by decide +kernel
theorem i_L_law_447 : mv_look m_L_law.2.2.2.1 32 447 = some (.aload_n 0, 0, []) := by decide +kernel
theorem i_L_law_448 : mv_look m_L_law.2.2.2.1 32 448 = some (.iload 5, 0, []) := by decide +kernel
theorem i_L_law_450 : mv_look m_L_law.2.2.2.1 32 450 = some (.iconst 1, 0, []) := by decide +kernel
theorem i_L_law_451 : mv_look m_L_law.2.2.2.1 32 451 = some (.iadd, 0, []) := by decide +kernel
theorem i_L_law_452 : mv_look m_L_law.2.2.2.1 32 452 = some (.iaload, 0, []) := by decide +kernel
theorem i_L_law_453 : mv_look m_L_law.2.2.2.1 32 453 = some (.invokevirtual 169, 0, []) := by decide +kernel
theorem i_L_law_456 : mv_look m_L_law.2.2.2.1 32 456 = some (.istore 7, 0, []) := by decide +kernel
theorem i_L_law_458 : mv_look m_L_law.2.2.2.1 32 458 = some (.aload_n 2, 0, []) := by decide +kernel
theorem i_L_law_459 : mv_look m_L_law.2.2.2.1 32 459 = some (.invokevirtual 156, 0, []) := by decide +kernel
theorem i_L_law_462 : mv_look m_L_law.2.2.2.1 32 462 = some (.iload 6, 0, []) := by decide +kernel
theorem i_L_law_464 : mv_look m_L_law.2.2.2.1 32 464 = some (.if_icmp .eq 5, 469, []) := by decide +kernel
theorem i_L_law_467 : mv_look m_L_law.2.2.2.1 32 467 = some (.iconst 0, 0, []) := by decide +kernel
theorem i_L_law_468 : mv_look m_L_law.2.2.2.1 32 468 = some (.ireturn, 0, []) := by decide +kernel
theorem i_L_law_469 : mv_look m_L_law.2.2.2.1 32 469 = some (.iload 6, 0, []) := by decide +kernel
theorem i_L_law_471 : mv_look m_L_law.2.2.2.1 32 471 = some (.ifCond .ne 22, 493, []) := by decide +kernel
theorem i_L_law_474 : mv_look m_L_law.2.2.2.1 32 474 = some (.aload_n 3, 0, []) := by decide +kernel
theorem i_L_law_475 : mv_look m_L_law.2.2.2.1 32 475 = some (.iconst 0, 0, []) := by decide +kernel
theorem i_L_law_476 : mv_look m_L_law.2.2.2.1 32 476 = some (.laload, 0, []) := by decide +kernel
theorem i_L_law_477 : mv_look m_L_law.2.2.2.1 32 477 = some (.iload 7, 0, []) := by decide +kernel
theorem i_L_law_479 : mv_look m_L_law.2.2.2.1 32 479 = some (.ifCond .eq 7, 486, []) := by decide +kernel
theorem i_L_law_482 : mv_look m_L_law.2.2.2.1 32 482 = some (.lconst 1, 0, []) := by decide +kernel
theorem i_L_law_483 : mv_look m_L_law.2.2.2.1 32 483 = some (.goto 4, 487, []) := by decide +kernel
theorem i_L_law_486 : mv_look m_L_law.2.2.2.1 32 486 = some (.lconst 0, 0, []) := by decide +kernel
theorem i_L_law_487 : mv_look m_L_law.2.2.2.1 32 487 = some (.lcmp, 0, []) := by decide +kernel
theorem i_L_law_488 : mv_look m_L_law.2.2.2.1 32 488 = some (.ifCond .eq 5, 493, []) := by decide +kernel
theorem i_L_law_491 : mv_look m_L_law.2.2.2.1 32 491 = some (.iconst 0, 0, []) := by decide +kernel
theorem i_L_law_492 : mv_look m_L_law.2.2.2.1 32 492 = some (.ireturn, 0, []) := by decide +kernel
theorem i_L_law_493 : mv_look m_L_law.2.2.2.1 32 493 = some (.goto 2259, 2752, []) := by decide +kernel
theorem i_L_law_496 : mv_look m_L_law.2.2.2.1 32 496 = some (.aload_n 1, 0, []) := by decide +kernel
theorem i_L_law_497 : mv_look m_L_law.2.2.2.1 32 497 = some (.aload_n 0, 0, []) := by decide +kernel
theorem i_L_law_498 : mv_look m_L_law.2.2.2.1 32 498 = some (.iload 5, 0, []) := by decide +kernel
theorem i_L_law_500 : mv_look m_L_law.2.2.2.1 32 500 = some (.iconst 1, 0, []) := by decide +kernel
theorem i_L_law_501 : mv_look m_L_law.2.2.2.1 32 501 = some (.iadd, 0, []) := by decide +kernel
theorem i_L_law_502 : mv_look m_L_law.2.2.2.1 32 502 = some (.iaload, 0, []) := by decide +kernel
theorem i_L_law_503 : mv_look m_L_law.2.2.2.1 32 503 = some (.aload_n 3, 0, []) := by decide +kernel
theorem i_L_law_504 : mv_look m_L_law.2.2.2.1 32 504 = some (.invokestatic 170, 0, []) := by decide +kernel
theorem i_L_law_507 : mv_look m_L_law.2.2.2.1 32 507 = some (.istore 6, 0, []) := by decide +kernel
theorem i_L_law_509 : mv_look m_L_law.2.2.2.1 32 509 = some (.aload_n 2, 0, []) := by decide +kernel
theorem i_L_law_510 : mv_look m_L_law.2.2.2.1 32 510 = some (.aload_n 0, 0, []) := by decide +kernel
theorem i_L_law_511 : mv_look m_L_law.2.2.2.1 32 511 = some (.iload 5, 0, []) := by decide +kernel
theorem i_L_law_513 : mv_look m_L_law.2.2.2.1 32 513 = some (.iconst 1, 0, []) := by decide +kernel
theorem i_L_law_514 : mv_look m_L_law.2.2.2.1 32 514 = some (.iadd, 0, []) := by decide +kernel
theorem i_L_law_515 : mv_look m_L_law.2.2.2.1 32 515 = some (.iaload, 0, []) := by decide +kernel
theorem i_L_law_516 : mv_look m_L_law.2.2.2.1 32 516 = some (.invokevirtual 172, 0, []) := by decide +kernel
theorem i_L_law_519 : mv_look m_L_law.2.2.2.1 32 519 = some (.istore 7, 0, []) := by decide +kernel
theorem i_L_law_521 : mv_look m_L_law.2.2.2.1 32 521 = some (.aload_n 2, 0, []) := by decide +kernel
theorem i_L_law_522 : mv_look m_L_law.2.2.2.1 32 522 = some (.invokevirtual 156, 0, []) := by decide +kernel
theorem i_L_law_525 : mv_look m_L_law.2.2.2.1 32 525 = some (.iload 6, 0, []) := by decide +kernel
theorem i_L_law_527 : mv_look m_L_law.2.2.2.1 32 527 = some (.if_icmp .eq 5, 532, []) := by decide +kernel
theorem i_L_law_530 : mv_look m_L_law.2.2.2.1 32 530 = some (.iconst 0, 0, []) := by decide +kernel
theorem i_L_law_531 : mv_look m_L_law.2.2.2.1 32 531 = some (.ireturn, 0, []) := by decide +kernel
theorem i_L_law_532 : mv_look m_L_law.2.2.2.1 32 532 = some (.iload 6, 0, []) := by decide +kernel
theorem i_L_law_534 : mv_look m_L_law.2.2.2.1 32 534 = some (.ifCond .ne 15, 549, []) := by decide +kernel
theorem i_L_law_537 : mv_look m_L_law.2.2.2.1 32 537 = some (.aload_n 3, 0, []) := by decide +kernel
theorem i_L_law_538 : mv_look m_L_law.2.2.2.1 32 538 = some (.iconst 0, 0, []) := by decide +kernel
theorem i_L_law_539 : mv_look m_L_law.2.2.2.1 32 539 = some (.laload, 0, []) := by decide +kernel
theorem i_L_law_540 : mv_look m_L_law.2.2.2.1 32 540 = some (.iload 7, 0, []) := by decide +kernel
theorem i_L_law_542 : mv_look m_L_law.2.2.2.1 32 542 = some (.i2l, 0, []) := by decide +kernel
theorem i_L_law_543 : mv_look m_L_law.2.2.2.1 32 543 = some (.lcmp, 0, []) := by decide +kernel
theorem i_L_law_544 : mv_look m_L_law.2.2.2.1 32 544 = some (.ifCond .eq 5, 549, []) := by decide +kernel
theorem i_L_law_547 : mv_look m_L_law.2.2.2.1 32 547 = some (.iconst 0, 0, []) := by decide +kernel
theorem i_L_law_548 : mv_look m_L_law.2.2.2.1 32 548 = some (.ireturn, 0, []) := by decide +kernel
theorem i_L_law_549 : mv_look m_L_law.2.2.2.1 32 549 = some (.goto 2203, 2752, []) := by decide +kernel
theorem i_L_law_552 : mv_look m_L_law.2.2.2.1 32 552 = some (.aload_n 1, 0, []) := by decide +kernel
theorem i_L_law_553 : mv_look m_L_law.2.2.2.1 32 553 = some (.aload_n 0, 0, []) := by decide +kernel
theorem i_L_law_554 : mv_look m_L_law.2.2.2.1 32 554 = some (.iload 5, 0, []) := by decide +kernel
theorem i_L_law_556 : mv_look m_L_law.2.2.2.1 32 556 = some (.iconst 1, 0, []) := by decide +kernel
theorem i_L_law_557 : mv_look m_L_law.2.2.2.1 32 557 = some (.iadd, 0, []) := by decide +kernel
theorem i_L_law_558 : mv_look m_L_law.2.2.2.1 32 558 = some (.iaload, 0, []) := by decide +kernel
theorem i_L_law_559 : mv_look m_L_law.2.2.2.1 32 559 = some (.aload_n 3, 0, []) := by decide +kernel
theorem i_L_law_560 : mv_look m_L_law.2.2.2.1 32 560 = some (.invokestatic 173, 0, []) := by decide +kernel
theorem i_L_law_563 : mv_look m_L_law.2.2.2.1 32 563 = some (.istore 6, 0, []) := by decide +kernel
theorem i_L_law_565 : mv_look m_L_law.2.2.2.1 32 565 = some (.aload_n 2, 0, []) := by decide +kernel
theorem i_L_law_566 : mv_look m_L_law.2.2.2.1 32 566 = some (.aload_n 0, 0, []) := by decide +kernel
theorem i_L_law_567 : mv_look m_L_law.2.2.2.1 32 567 = some (.iload 5, 0, []) := by decide +kernel
theorem i_L_law_569 : mv_look m_L_law.2.2.2.1 32 569 = some (.iconst 1, 0, []) := by decide +kernel
theorem i_L_law_570 : mv_look m_L_law.2.2.2.1 32 570 = some (.iadd, 0, []) := by decide +kernel
theorem i_L_law_571 : mv_look m_L_law.2.2.2.1 32 571 = some (.iaload, 0, []) := by decide +kernel
theorem i_L_law_572 : mv_look m_L_law.2.2.2.1 32 572 = some (.invokevirtual 175, 0, []) := by decide +kernel
theorem i_L_law_575 : mv_look m_L_law.2.2.2.1 32 575 = some (.istore 7, 0, []) := by decide +kernel
theorem i_L_law_577 : mv_look m_L_law.2.2.2.1 32 577 = some (.aload_n 2, 0, []) := by decide +kernel
theorem i_L_law_578 : mv_look m_L_law.2.2.2.1 32 578 = some (.invokevirtual 156, 0, []) := by decide +kernel
theorem i_L_law_581 : mv_look m_L_law.2.2.2.1 32 581 = some (.iload 6, 0, []) := by decide +kernel
theorem i_L_law_583 : mv_look m_L_law.2.2.2.1 32 583 = some (.if_icmp .eq 5, 588, []) := by decide +kernel
theorem i_L_law_586 : mv_look m_L_law.2.2.2.1 32 586 = some (.iconst 0, 0, []) := by decide +kernel
theorem i_L_law_587 : mv_look m_L_law.2.2.2.1 32 587 = some (.ireturn, 0, []) := by decide +kernel
theorem i_L_law_588 : mv_look m_L_law.2.2.2.1 32 588 = some (.iload 6, 0, []) := by decide +kernel
theorem i_L_law_590 : mv_look m_L_law.2.2.2.1 32 590 = some (.ifCond .ne 15, 605, []) := by decide +kernel
theorem i_L_law_593 : mv_look m_L_law.2.2.2.1 32 593 = some (.aload_n 3, 0, []) := by decide +kernel
theorem i_L_law_594 : mv_look m_L_law.2.2.2.1 32 594 = some (.iconst 0, 0, []) := by decide +kernel
theorem i_L_law_595 : mv_look m_L_law.2.2.2.1 32 595 = some (.laload, 0, []) := by decide +kernel
theorem i_L_law_596 : mv_look m_L_law.2.2.2.1 32 596 = some (.iload 7, 0, []) := by decide +kernel
theorem i_L_law_598 : mv_look m_L_law.2.2.2.1 32 598 = some (.i2l, 0, []) := by decide +kernel
theorem i_L_law_599 : mv_look m_L_law.2.2.2.1 32 599 = some (.lcmp, 0, []) := by decide +kernel
theorem i_L_law_600 : mv_look m_L_law.2.2.2.1 32 600 = some (.ifCond .eq 5, 605, []) := by decide +kernel
theorem i_L_law_603 : mv_look m_L_law.2.2.2.1 32 603 = some (.iconst 0, 0, []) := by decide +kernel
theorem i_L_law_604 : mv_look m_L_law.2.2.2.1 32 604 = some (.ireturn, 0, []) := by decide +kernel
theorem i_L_law_605 : mv_look m_L_law.2.2.2.1 32 605 = some (.goto 2147, 2752, []) := by decide +kernel
theorem i_L_law_608 : mv_look m_L_law.2.2.2.1 32 608 = some (.aload_n 1, 0, []) := by decide +kernel
theorem i_L_law_609 : mv_look m_L_law.2.2.2.1 32 609 = some (.aload_n 0, 0, []) := by decide +kernel
theorem i_L_law_610 : mv_look m_L_law.2.2.2.1 32 610 = some (.iload 5, 0, []) := by decide +kernel
theorem i_L_law_612 : mv_look m_L_law.2.2.2.1 32 612 = some (.iconst 1, 0, []) := by decide +kernel
theorem i_L_law_613 : mv_look m_L_law.2.2.2.1 32 613 = some (.iadd, 0, []) := by decide +kernel
theorem i_L_law_614 : mv_look m_L_law.2.2.2.1 32 614 = some (.iaload, 0, []) := by decide +kernel
theorem i_L_law_615 : mv_look m_L_law.2.2.2.1 32 615 = some (.aload_n 3, 0, []) := by decide +kernel
theorem i_L_law_616 : mv_look m_L_law.2.2.2.1 32 616 = some (.invokestatic 176, 0, []) := by decide +kernel
theorem i_L_law_619 : mv_look m_L_law.2.2.2.1 32 619 = some (.istore 6, 0, []) := by decide +kernel
theorem i_L_law_621 : mv_look m_L_law.2.2.2.1 32 621 = some (.aload_n 2, 0, []) := by decide +kernel
theorem i_L_law_622 : mv_look m_L_law.2.2.2.1 32 622 = some (.aload_n 0, 0, []) := by decide +kernel
theorem i_L_law_623 : mv_look m_L_law.2.2.2.1 32 623 = some (.iload 5, 0, []) := by decide +kernel
theorem i_L_law_625 : mv_look m_L_law.2.2.2.1 32 625 = some (.iconst 1, 0, []) := by decide +kernel
theorem i_L_law_626 : mv_look m_L_law.2.2.2.1 32 626 = some (.iadd, 0, []) := by decide +kernel
theorem i_L_law_627 : mv_look m_L_law.2.2.2.1 32 627 = some (.iaload, 0, []) := by decide +kernel
theorem i_L_law_628 : mv_look m_L_law.2.2.2.1 32 628 = some (.invokevirtual 178, 0, []) := by decide +kernel
theorem i_L_law_631 : mv_look m_L_law.2.2.2.1 32 631 = some (.istore 7, 0, []) := by decide +kernel
theorem i_L_law_633 : mv_look m_L_law.2.2.2.1 32 633 = some (.aload_n 2, 0, []) := by decide +kernel
theorem i_L_law_634 : mv_look m_L_law.2.2.2.1 32 634 = some (.invokevirtual 156, 0, []) := by decide +kernel
theorem i_L_law_637 : mv_look m_L_law.2.2.2.1 32 637 = some (.iload 6, 0, []) := by decide +kernel
theorem i_L_law_639 : mv_look m_L_law.2.2.2.1 32 639 = some (.if_icmp .eq 5, 644, []) := by decide +kernel
theorem i_L_law_642 : mv_look m_L_law.2.2.2.1 32 642 = some (.iconst 0, 0, []) := by decide +kernel
theorem i_L_law_643 : mv_look m_L_law.2.2.2.1 32 643 = some (.ireturn, 0, []) := by decide +kernel
theorem i_L_law_644 : mv_look m_L_law.2.2.2.1 32 644 = some (.iload 6, 0, []) := by decide +kernel
theorem i_L_law_646 : mv_look m_L_law.2.2.2.1 32 646 = some (.ifCond .ne 15, 661, []) := by decide +kernel
theorem i_L_law_649 : mv_look m_L_law.2.2.2.1 32 649 = some (.aload_n 3, 0, []) := by decide +kernel
theorem i_L_law_650 : mv_look m_L_law.2.2.2.1 32 650 = some (.iconst 0, 0, []) := by decide +kernel
theorem i_L_law_651 : mv_look m_L_law.2.2.2.1 32 651 = some (.laload, 0, []) := by decide +kernel
theorem i_L_law_652 : mv_look m_L_law.2.2.2.1 32 652 = some (.iload 7, 0, []) := by decide +kernel
theorem i_L_law_654 : mv_look m_L_law.2.2.2.1 32 654 = some (.i2l, 0, []) := by decide +kernel
theorem i_L_law_655 : mv_look m_L_law.2.2.2.1 32 655 = some (.lcmp, 0, []) := by decide +kernel
theorem i_L_law_656 : mv_look m_L_law.2.2.2.1 32 656 = some (.ifCond .eq 5, 661, []) := by decide +kernel
theorem i_L_law_659 : mv_look m_L_law.2.2.2.1 32 659 = some (.iconst 0, 0, []) := by decide +kernel
theorem i_L_law_660 : mv_look m_L_law.2.2.2.1 32 660 = some (.ireturn, 0, []) := by decide +kernel
theorem i_L_law_661 : mv_look m_L_law.2.2.2.1 32 661 = some (.goto 2091, 2752, []) := by decide +kernel
theorem i_L_law_664 : mv_look m_L_law.2.2.2.1 32 664 = some (.aload_n 1, 0, []) := by decide +kernel
theorem i_L_law_665 : mv_look m_L_law.2.2.2.1 32 665 = some (.aload_n 0, 0, []) := by decide +kernel
theorem i_L_law_666 : mv_look m_L_law.2.2.2.1 32 666 = some (.iload 5, 0, []) := by decide +kernel
theorem i_L_law_668 : mv_look m_L_law.2.2.2.1 32 668 = some (.iconst 1, 0, []) := by decide +kernel
theorem i_L_law_669 : mv_look m_L_law.2.2.2.1 32 669 = some (.iadd, 0, []) := by decide +kernel
theorem i_L_law_670 : mv_look m_L_law.2.2.2.1 32 670 = some (.iaload, 0, []) := by decide +kernel
theorem i_L_law_671 : mv_look m_L_law.2.2.2.1 32 671 = some (.aload_n 3, 0, []) := by decide +kernel
theorem i_L_law_672 : mv_look m_L_law.2.2.2.1 32 672 = some (.invokestatic 179, 0, []) := by decide +kernel
theorem i_L_law_675 : mv_look m_L_law.2.2.2.1 32 675 = some (.istore 6, 0, []) := by decide +kernel
theorem i_L_law_677 : mv_look m_L_law.2.2.2.1 32 677 = some (.aload_n 2, 0, []) := by decide +kernel
theorem i_L_law_678 : mv_look m_L_law.2.2.2.1 32 678 = some (.aload_n 0, 0, []) := by decide +kernel
theorem i_L_law_679 : mv_look m_L_law.2.2.2.1 32 679 = some (.iload 5, 0, []) := by decide +kernel
theorem i_L_law_681 : mv_look m_L_law.2.2.2.1 32 681 = some (.iconst 1, 0, []) := by decide +kernel
theorem i_L_law_682 : mv_look m_L_law.2.2.2.1 32 682 = some (.iadd, 0, []) := by decide +kernel
theorem i_L_law_683 : mv_look m_L_law.2.2.2.1 32 683 = some (.iaload, 0, []) := by decide +kernel
theorem i_L_law_684 : mv_look m_L_law.2.2.2.1 32 684 = some (.invokevirtual 181, 0, []) := by decide +kernel
theorem i_L_law_687 : mv_look m_L_law.2.2.2.1 32 687 = some (.istore 7, 0, []) := by decide +kernel
theorem i_L_law_689 : mv_look m_L_law.2.2.2.1 32 689 = some (.aload_n 2, 0, []) := by decide +kernel
theorem i_L_law_690 : mv_look m_L_law.2.2.2.1 32 690 = some (.invokevirtual 156, 0, []) := by decide +kernel
theorem i_L_law_693 : mv_look m_L_law.2.2.2.1 32 693 = some (.iload 6, 0, []) := by decide +kernel
theorem i_L_law_695 : mv_look m_L_law.2.2.2.1 32 695 = some (.if_icmp .eq 5, 700, []) := by decide +kernel
theorem i_L_law_698 : mv_look m_L_law.2.2.2.1 32 698 = some (.iconst 0, 0, []) := by decide +kernel
theorem i_L_law_699 : mv_look m_L_law.2.2.2.1 32 699 = some (.ireturn, 0, []) := by decide +kernel
theorem i_L_law_700 : mv_look m_L_law.2.2.2.1 32 700 = some (.iload 6, 0, []) := by decide +kernel
theorem i_L_law_702 : mv_look m_L_law.2.2.2.1 32 702 = some (.ifCond .ne 22, 724, []) := by decide +kernel
theorem i_L_law_705 : mv_look m_L_law.2.2.2.1 32 705 = some (.aload_n 3, 0, []) := by decide +kernel
theorem i_L_law_706 : mv_look m_L_law.2.2.2.1 32 706 = some (.iconst 0, 0, []) := by decide +kernel
theorem i_L_law_707 : mv_look m_L_law.2.2.2.1 32 707 = some (.laload, 0, []) := by decide +kernel
theorem i_L_law_708 : mv_look m_L_law.2.2.2.1 32 708 = some (.iload 7, 0, []) := by decide +kernel
theorem i_L_law_710 : mv_look m_L_law.2.2.2.1 32 710 = some (.ifCond .eq 7, 717, []) := by decide +kernel
theorem i_L_law_713 : mv_look m_L_law.2.2.2.1 32 713 = some (.lconst 1, 0, []) := by decide +kernel
theorem i_L_law_714 : mv_look m_L_law.2.2.2.1 32 714 = some (.goto 4, 718, []) := by decide +kernel
theorem i_L_law_717 : mv_look m_L_law.2.2.2.1 32 717 = some (.lconst 0, 0, []) := by decide +kernel
theorem i_L_law_718 : mv_look m_L_law.2.2.2.1 32 718 = some (.lcmp, 0, []) := by decide +kernel
theorem i_L_law_719 : mv_look m_L_law.2.2.2.1 32 719 = some (.ifCond .eq 5, 724, []) := by decide +kernel
theorem i_L_law_722 : mv_look m_L_law.2.2.2.1 32 722 = some (.iconst 0, 0, []) := by decide +kernel
theorem i_L_law_723 : mv_look m_L_law.2.2.2.1 32 723 = some (.ireturn, 0, []) := by decide +kernel
theorem i_L_law_724 : mv_look m_L_law.2.2.2.1 32 724 = some (.goto 2028, 2752, []) := by decide +kernel
theorem i_L_law_727 : mv_look m_L_law.2.2.2.1 32 727 = some (.aload_n 1, 0, []) := by decide +kernel
theorem i_L_law_728 : mv_look m_L_law.2.2.2.1 32 728 = some (.aload_n 0, 0, []) := by decide +kernel
theorem i_L_law_729 : mv_look m_L_law.2.2.2.1 32 729 = some (.iload 5, 0, []) := by decide +kernel
theorem i_L_law_731 : mv_look m_L_law.2.2.2.1 32 731 = some (.iconst 1, 0, []) := by decide +kernel
theorem i_L_law_732 : mv_look m_L_law.2.2.2.1 32 732 = some (.iadd, 0, []) := by decide +kernel
theorem i_L_law_733 : mv_look m_L_law.2.2.2.1 32 733 = some (.iaload, 0, []) := by decide +kernel
theorem i_L_law_734 : mv_look m_L_law.2.2.2.1 32 734 = some (.aload_n 3, 0, []) := by decide +kernel
theorem i_L_law_735 : mv_look m_L_law.2.2.2.1 32 735 = some (.invokestatic 182, 0, []) := by decide +kernel
theorem i_L_law_738 : mv_look m_L_law.2.2.2.1 32 738 = some (.istore 6, 0, []) := by decide +kernel
theorem i_L_law_740 : mv_look m_L_law.2.2.2.1 32 740 = some (.aload_n 2, 0, []) := by decide +kernel
theorem i_L_law_741 : mv_look m_L_law.2.2.2.1 32 741 = some (.aload_n 0, 0, []) := by decide +kernel
theorem i_L_law_742 : mv_look m_L_law.2.2.2.1 32 742 = some (.iload 5, 0, []) := by decide +kernel
theorem i_L_law_744 : mv_look m_L_law.2.2.2.1 32 744 = some (.iconst 1, 0, []) := by decide +kernel
theorem i_L_law_745 : mv_look m_L_law.2.2.2.1 32 745 = some (.iadd, 0, []) := by decide +kernel
theorem i_L_law_746 : mv_look m_L_law.2.2.2.1 32 746 = some (.iaload, 0, []) := by decide +kernel
theorem i_L_law_747 : mv_look m_L_law.2.2.2.1 32 747 = some (.invokevirtual 184, 0, []) := by decide +kernel
theorem i_L_law_750 : mv_look m_L_law.2.2.2.1 32 750 = some (.istore 7, 0, []) := by decide +kernel
theorem i_L_law_752 : mv_look m_L_law.2.2.2.1 32 752 = some (.aload_n 2, 0, []) := by decide +kernel
theorem i_L_law_753 : mv_look m_L_law.2.2.2.1 32 753 = some (.invokevirtual 156, 0, []) := by decide +kernel
theorem i_L_law_756 : mv_look m_L_law.2.2.2.1 32 756 = some (.iload 6, 0, []) := by decide +kernel
theorem i_L_law_758 : mv_look m_L_law.2.2.2.1 32 758 = some (.if_icmp .eq 5, 763, []) := by decide +kernel
theorem i_L_law_761 : mv_look m_L_law.2.2.2.1 32 761 = some (.iconst 0, 0, []) := by decide +kernel
theorem i_L_law_762 : mv_look m_L_law.2.2.2.1 32 762 = some (.ireturn, 0, []) := by decide +kernel
theorem i_L_law_763 : mv_look m_L_law.2.2.2.1 32 763 = some (.iload 6, 0, []) := by decide +kernel
theorem i_L_law_765 : mv_look m_L_law.2.2.2.1 32 765 = some (.ifCond .ne 15, 780, []) := by decide +kernel
theorem i_L_law_768 : mv_look m_L_law.2.2.2.1 32 768 = some (.aload_n 3, 0, []) := by decide +kernel
theorem i_L_law_769 : mv_look m_L_law.2.2.2.1 32 769 = some (.iconst 0, 0, []) := by decide +kernel
theorem i_L_law_770 : mv_look m_L_law.2.2.2.1 32 770 = some (.laload, 0, []) := by decide +kernel
theorem i_L_law_771 : mv_look m_L_law.2.2.2.1 32 771 = some (.iload 7, 0, []) := by decide +kernel
theorem i_L_law_773 : mv_look m_L_law.2.2.2.1 32 773 = some (.i2l, 0, []) := by decide +kernel
theorem i_L_law_774 : mv_look m_L_law.2.2.2.1 32 774 = some (.lcmp, 0, []) := by decide +kernel
theorem i_L_law_775 : mv_look m_L_law.2.2.2.1 32 775 = some (.ifCond .eq 5, 780, []) := by decide +kernel
theorem i_L_law_778 : mv_look m_L_law.2.2.2.1 32 778 = some (.iconst 0, 0, []) := by decide +kernel
theorem i_L_law_779 : mv_look m_L_law.2.2.2.1 32 779 = some (.ireturn, 0, []) := by decide +kernel
theorem i_L_law_780 : mv_look m_L_law.2.2.2.1 32 780 = some (.goto 1972, 2752, []) := by decide +kernel
theorem i_L_law_783 : mv_look m_L_law.2.2.2.1 32 783 = some (.aload_n 1, 0, []) := by decide +kernel
theorem i_L_law_784 : mv_look m_L_law.2.2.2.1 32 784 = some (.aload_n 0, 0, []) := by decide +kernel
theorem i_L_law_785 : mv_look m_L_law.2.2.2.1 32 785 = some (.iload 5, 0, []) := by decide +kernel
theorem i_L_law_787 : mv_look m_L_law.2.2.2.1 32 787 = some (.iconst 1, 0, []) := by decide +kernel
theorem i_L_law_788 : mv_look m_L_law.2.2.2.1 32 788 = some (.iadd, 0, []) := by decide +kernel
theorem i_L_law_789 : mv_look m_L_law.2.2.2.1 32 789 = some (.iaload, 0, []) := by decide +kernel
theorem i_L_law_790 : mv_look m_L_law.2.2.2.1 32 790 = some (.aload_n 0, 0, []) := by decide +kernel
theorem i_L_law_791 : mv_look m_L_law.2.2.2.1 32 791 = some (.iload 5, 0, []) := by decide +kernel
theorem i_L_law_793 : mv_look m_L_law.2.2.2.1 32 793 = some (.iconst 2, 0, []) := by decide +kernel
theorem i_L_law_794 : mv_look m_L_law.2.2.2.1 32 794 = some (.iadd, 0, []) := by decide +kernel
theorem i_L_law_795 : mv_look m_L_law.2.2.2.1 32 795 = some (.iaload, 0, []) := by decide +kernel
theorem i_L_law_796 : mv_look m_L_law.2.2.2.1 32 796 = some (.aload_n 3, 0, []) := by decide +kernel
theorem i_L_law_797 : mv_look m_L_law.2.2.2.1 32 797 = some (.invokestatic 185, 0, []) := by decide +kernel
theorem i_L_law_800 : mv_look m_L_law.2.2.2.1 32 800 = some (.istore 6, 0, []) := by decide +kernel
theorem i_L_law_802 : mv_look m_L_law.2.2.2.1 32 802 = some (.aload_n 2, 0, []) := by decide +kernel
theorem i_L_law_803 : mv_look m_L_law.2.2.2.1 32 803 = some (.aload_n 0, 0, []) := by decide +kernel
theorem i_L_law_804 : mv_look m_L_law.2.2.2.1 32 804 = some (.iload 5, 0, []) := by decide +kernel
theorem i_L_law_806 : mv_look m_L_law.2.2.2.1 32 806 = some (.iconst 1, 0, []) := by decide +kernel
theorem i_L_law_807 : mv_look m_L_law.2.2.2.1 32 807 = some (.iadd, 0, []) := by decide +kernel
theorem i_L_law_808 : mv_look m_L_law.2.2.2.1 32 808 = some (.iaload, 0, []) := by decide +kernel
theorem i_L_law_809 : mv_look m_L_law.2.2.2.1 32 809 = some (.aload_n 0, 0, []) := by decide +kernel
theorem i_L_law_810 : mv_look m_L_law.2.2.2.1 32 810 = some (.iload 5, 0, []) := by decide +kernel
theorem i_L_law_812 : mv_look m_L_law.2.2.2.1 32 812 = some (.iconst 2, 0, []) := by decide +kernel
theorem i_L_law_813 : mv_look m_L_law.2.2.2.1 32 813 = some (.iadd, 0, []) := by decide +kernel
theorem i_L_law_814 : mv_look m_L_law.2.2.2.1 32 814 = some (.iaload, 0, []) := by decide +kernel
theorem i_L_law_815 : mv_look m_L_law.2.2.2.1 32 815 = some (.invokevirtual 188, 0, []) := by decide +kernel
theorem i_L_law_818 : mv_look m_L_law.2.2.2.1 32 818 = some (.istore 7, 0, []) := by decide +kernel
theorem i_L_law_820 : mv_look m_L_law.2.2.2.1 32 820 = some (.aload_n 2, 0, []) := by decide +kernel
theorem i_L_law_821 : mv_look m_L_law.2.2.2.1 32 821 = some (.invokevirtual 156, 0, []) := by decide +kernel
theorem i_L_law_824 : mv_look m_L_law.2.2.2.1 32 824 = some (.iload 6, 0, []) := by decide +kernel
theorem i_L_law_826 : mv_look m_L_law.2.2.2.1 32 826 = some (.if_icmp .eq 5, 831, []) := by decide +kernel
theorem i_L_law_829 : mv_look m_L_law.2.2.2.1 32 829 = some (.iconst 0, 0, []) := by decide +kernel
theorem i_L_law_830 : mv_look m_L_law.2.2.2.1 32 830 = some (.ireturn, 0, []) := by decide +kernel
theorem i_L_law_831 : mv_look m_L_law.2.2.2.1 32 831 = some (.iload 6, 0, []) := by decide +kernel
theorem i_L_law_833 : mv_look m_L_law.2.2.2.1 32 833 = some (.ifCond .ne 15, 848, []) := by decide +kernel
theorem i_L_law_836 : mv_look m_L_law.2.2.2.1 32 836 = some (.aload_n 3, 0, []) := by decide +kernel
theorem i_L_law_837 : mv_look m_L_law.2.2.2.1 32 837 = some (.iconst 0, 0, []) := by decide +kernel
theorem i_L_law_838 : mv_look m_L_law.2.2.2.1 32 838 = some (.laload, 0, []) := by decide +kernel
theorem i_L_law_839 : mv_look m_L_law.2.2.2.1 32 839 = some (.iload 7, 0, []) := by decide +kernel
theorem i_L_law_841 : mv_look m_L_law.2.2.2.1 32 841 = some (.i2l, 0, []) := by decide +kernel
theorem i_L_law_842 : mv_look m_L_law.2.2.2.1 32 842 = some (.lcmp, 0, []) := by decide +kernel
theorem i_L_law_843 : mv_look m_L_law.2.2.2.1 32 843 = some (.ifCond .eq 5, 848, []) := by decide +kernel
theorem i_L_law_846 : mv_look m_L_law.2.2.2.1 32 846 = some (.iconst 0, 0, []) := by decide +kernel
theorem i_L_law_847 : mv_look m_L_law.2.2.2.1 32 847 = some (.ireturn, 0, []) := by decide +kernel
theorem i_L_law_848 : mv_look m_L_law.2.2.2.1 32 848 = some (.goto 1904, 2752, []) := by decide +kernel
theorem i_L_law_851 : mv_look m_L_law.2.2.2.1 32 851 = some (.aload_n 1, 0, []) := by decide +kernel
theorem i_L_law_852 : mv_look m_L_law.2.2.2.1 32 852 = some (.aload_n 0, 0, []) := by decide +kernel
theorem i_L_law_853 : mv_look m_L_law.2.2.2.1 32 853 = some (.iload 5, 0, []) := by decide +kernel
theorem i_L_law_855 : mv_look m_L_law.2.2.2.1 32 855 = some (.iconst 1, 0, []) := by decide +kernel
theorem i_L_law_856 : mv_look m_L_law.2.2.2.1 32 856 = some (.iadd, 0, []) := by decide +kernel
theorem i_L_law_857 : mv_look m_L_law.2.2.2.1 32 857 = some (.iaload, 0, []) := by decide +kernel
theorem i_L_law_858 : mv_look m_L_law.2.2.2.1 32 858 = some (.aload_n 0, 0, []) := by decide +kernel
theorem i_L_law_859 : mv_look m_L_law.2.2.2.1 32 859 = some (.iload 5, 0, []) := by decide +kernel
theorem i_L_law_861 : mv_look m_L_law.2.2.2.1 32 861 = some (.iconst 2, 0, []) := by decide +kernel
theorem i_L_law_862 : mv_look m_L_law.2.2.2.1 32 862 = some (.iadd, 0, []) := by decide +kernel
theorem i_L_law_863 : mv_look m_L_law.2.2.2.1 32 863 = some (.iaload, 0, []) := by decide +kernel
theorem i_L_law_864 : mv_look m_L_law.2.2.2.1 32 864 = some (.aload_n 3, 0, []) := by decide +kernel
theorem i_L_law_865 : mv_look m_L_law.2.2.2.1 32 865 = some (.invokestatic 189, 0, []) := by decide +kernel
theorem i_L_law_868 : mv_look m_L_law.2.2.2.1 32 868 = some (.istore 6, 0, []) := by decide +kernel
theorem i_L_law_870 : mv_look m_L_law.2.2.2.1 32 870 = some (.aload_n 2, 0, []) := by decide +kernel
theorem i_L_law_871 : mv_look m_L_law.2.2.2.1 32 871 = some (.aload_n 0, 0, []) := by decide +kernel
theorem i_L_law_872 : mv_look m_L_law.2.2.2.1 32 872 = some (.iload 5, 0, []) := by decide +kernel
theorem i_L_law_874 : mv_look m_L_law.2.2.2.1 32 874 = some (.iconst 1, 0, []) := by decide +kernel
theorem i_L_law_875 : mv_look m_L_law.2.2.2.1 32 875 = some (.iadd, 0, []) := by decide +kernel
theorem i_L_law_876 : mv_look m_L_law.2.2.2.1 32 876 = some (.iaload, 0, []) := by decide +kernel
theorem i_L_law_877 : mv_look m_L_law.2.2.2.1 32 877 = some (.aload_n 0, 0, []) := by decide +kernel
theorem i_L_law_878 : mv_look m_L_law.2.2.2.1 32 878 = some (.iload 5, 0, []) := by decide +kernel
theorem i_L_law_880 : mv_look m_L_law.2.2.2.1 32 880 = some (.iconst 2, 0, []) := by decide +kernel
theorem i_L_law_881 : mv_look m_L_law.2.2.2.1 32 881 = some (.iadd, 0, []) := by decide +kernel
theorem i_L_law_882 : mv_look m_L_law.2.2.2.1 32 882 = some (.iaload, 0, []) := by decide +kernel
theorem i_L_law_883 : mv_look m_L_law.2.2.2.1 32 883 = some (.invokevirtual 191, 0, []) := by decide +kernel
theorem i_L_law_886 : mv_look m_L_law.2.2.2.1 32 886 = some (.istore 7, 0, []) := by decide +kernel
theorem i_L_law_888 : mv_look m_L_law.2.2.2.1 32 888 = some (.aload_n 2, 0, []) := by decide +kernel
theorem i_L_law_889 : mv_look m_L_law.2.2.2.1 32 889 = some (.invokevirtual 156, 0, []) := by decide +kernel
theorem i_L_law_892 : mv_look m_L_law.2.2.2.1 32 892 = some (.iload 6, 0, []) := by decide +kernel
theorem i_L_law_894 : mv_look m_L_law.2.2.2.1 32 894 = some (.if_icmp .eq 5, 899, []) := by decide +kernel
theorem i_L_law_897 : mv_look m_L_law.2.2.2.1 32 897 = some (.iconst 0, 0, []) := by decide +kernel
theorem i_L_law_898 : mv_look m_L_law.2.2.2.1 32 898 = some (.ireturn, 0, []) := by decide +kernel
theorem i_L_law_899 : mv_look m_L_law.2.2.2.1 32 899 = some (.iload 6, 0, []) := by decide +kernel
theorem i_L_law_901 : mv_look m_L_law.2.2.2.1 32 901 = some (.ifCond .ne 15, 916, []) := by decide +kernel
theorem i_L_law_904 : mv_look m_L_law.2.2.2.1 32 904 = some (.aload_n 3, 0, []) := by decide +kernel
theorem i_L_law_905 : mv_look m_L_law.2.2.2.1 32 905 = some (.iconst 0, 0, []) := by decide +kernel
theorem i_L_law_906 : mv_look m_L_law.2.2.2.1 32 906 = some (.laload, 0, []) := by decide +kernel
theorem i_L_law_907 : mv_look m_L_law.2.2.2.1 32 907 = some (.iload 7, 0, []) := by decide +kernel
theorem i_L_law_909 : mv_look m_L_law.2.2.2.1 32 909 = some (.i2l, 0, []) := by decide +kernel
theorem i_L_law_910 : mv_look m_L_law.2.2.2.1 32 910 = some (.lcmp, 0, []) := by decide +kernel
theorem i_L_law_911 : mv_look m_L_law.2.2.2.1 32 911 = some (.ifCond .eq 5, 916, []) := by decide +kernel
theorem i_L_law_914 : mv_look m_L_law.2.2.2.1 32 914 = some (.iconst 0, 0, []) := by decide +kernel
theorem i_L_law_915 : mv_look m_L_law.2.2.2.1 32 915 = some (.ireturn, 0, []) := by decide +kernel
theorem i_L_law_916 : mv_look m_L_law.2.2.2.1 32 916 = some (.goto 1836, 2752, []) := by decide +kernel
theorem i_L_law_919 : mv_look m_L_law.2.2.2.1 32 919 = some (.aload_n 1, 0, []) := by decide +kernel
theorem i_L_law_920 : mv_look m_L_law.2.2.2.1 32 920 = some (.aload_n 0, 0, []) := by decide +kernel
theorem i_L_law_921 : mv_look m_L_law.2.2.2.1 32 921 = some (.iload 5, 0, []) := by decide +kernel
theorem i_L_law_923 : mv_look m_L_law.2.2.2.1 32 923 = some (.iconst 1, 0, []) := by decide +kernel
theorem i_L_law_924 : mv_look m_L_law.2.2.2.1 32 924 = some (.iadd, 0, []) := by decide +kernel
theorem i_L_law_925 : mv_look m_L_law.2.2.2.1 32 925 = some (.iaload, 0, []) := by decide +kernel
theorem i_L_law_926 : mv_look m_L_law.2.2.2.1 32 926 = some (.aload_n 0, 0, []) := by decide +kernel
theorem i_L_law_927 : mv_look m_L_law.2.2.2.1 32 927 = some (.iload 5, 0, []) := by decide +kernel
theorem i_L_law_929 : mv_look m_L_law.2.2.2.1 32 929 = some (.iconst 2, 0, []) := by decide +kernel
theorem i_L_law_930 : mv_look m_L_law.2.2.2.1 32 930 = some (.iadd, 0, []) := by decide +kernel
theorem i_L_law_931 : mv_look m_L_law.2.2.2.1 32 931 = some (.iaload, 0, []) := by decide +kernel
theorem i_L_law_932 : mv_look m_L_law.2.2.2.1 32 932 = some (.aload_n 3, 0, []) := by decide +kernel
theorem i_L_law_933 : mv_look m_L_law.2.2.2.1 32 933 = some (.invokestatic 192, 0, []) := by decide +kernel
theorem i_L_law_936 : mv_look m_L_law.2.2.2.1 32 936 = some (.istore 6, 0, []) := by decide +kernel
theorem i_L_law_938 : mv_look m_L_law.2.2.2.1 32 938 = some (.aload_n 2, 0, []) := by decide +kernel
theorem i_L_law_939 : mv_look m_L_law.2.2.2.1 32 939 = some (.aload_n 0, 0, []) := by decide +kernel
theorem i_L_law_940 : mv_look m_L_law.2.2.2.1 32 940 = some (.iload 5, 0, []) := by decide +kernel
theorem i_L_law_942 : mv_look m_L_law.2.2.2.1 32 942 = some (.iconst 1, 0, []) := by decide +kernel
theorem i_L_law_943 : mv_look m_L_law.2.2.2.1 32 943 = some (.iadd, 0, []) := by decide +kernel
theorem i_L_law_944 : mv_look m_L_law.2.2.2.1 32 944 = some (.iaload, 0, []) := by decide +kernel
theorem i_L_law_945 : mv_look m_L_law.2.2.2.1 32 945 = some (.aload_n 0, 0, []) := by decide +kernel
theorem i_L_law_946 : mv_look m_L_law.2.2.2.1 32 946 = some (.iload 5, 0, []) := by decide +kernel
theorem i_L_law_948 : mv_look m_L_law.2.2.2.1 32 948 = some (.iconst 2, 0, []) := by decide +kernel
theorem i_L_law_949 : mv_look m_L_law.2.2.2.1 32 949 = some (.iadd, 0, []) := by decide +kernel
theorem i_L_law_950 : mv_look m_L_law.2.2.2.1 32 950 = some (.iaload, 0, []) := by decide +kernel
theorem i_L_law_951 : mv_look m_L_law.2.2.2.1 32 951 = some (.invokevirtual 194, 0, []) := by decide +kernel
theorem i_L_law_954 : mv_look m_L_law.2.2.2.1 32 954 = some (.istore 7, 0, []) := by decide +kernel
theorem i_L_law_956 : mv_look m_L_law.2.2.2.1 32 956 = some (.aload_n 2, 0, []) := by decide +kernel
theorem i_L_law_957 : mv_look m_L_law.2.2.2.1 32 957 = some (.invokevirtual 156, 0, []) := by decide +kernel
theorem i_L_law_960 : mv_look m_L_law.2.2.2.1 32 960 = some (.iload 6, 0, []) := by decide +kernel
theorem i_L_law_962 : mv_look m_L_law.2.2.2.1 32 962 = some (.if_icmp .eq 5, 967, []) := by decide +kernel
theorem i_L_law_965 : mv_look m_L_law.2.2.2.1 32 965 = some (.iconst 0, 0, []) := by decide +kernel
theorem i_L_law_966 : mv_look m_L_law.2.2.2.1 32 966 = some (.ireturn, 0, []) := by decide +kernel
theorem i_L_law_967 : mv_look m_L_law.2.2.2.1 32 967 = some (.iload 6, 0, []) := by decide +kernel
theorem i_L_law_969 : mv_look m_L_law.2.2.2.1 32 969 = some (.ifCond .ne 15, 984, []) := by decide +kernel
theorem i_L_law_972 : mv_look m_L_law.2.2.2.1 32 972 = some (.aload_n 3, 0, []) := by decide +kernel
theorem i_L_law_973 : mv_look m_L_law.2.2.2.1 32 973 = some (.iconst 0, 0, []) := by decide +kernel
theorem i_L_law_974 : mv_look m_L_law.2.2.2.1 32 974 = some (.laload, 0, []) := by decide +kernel
theorem i_L_law_975 : mv_look m_L_law.2.2.2.1 32 975 = some (.iload 7, 0, []) := by decide +kernel
theorem i_L_law_977 : mv_look m_L_law.2.2.2.1 32 977 = some (.i2l, 0, []) := by decide +kernel
theorem i_L_law_978 : mv_look m_L_law.2.2.2.1 32 978 = some (.lcmp, 0, []) := by decide +kernel
theorem i_L_law_979 : mv_look m_L_law.2.2.2.1 32 979 = some (.ifCond .eq 5, 984, []) := by decide +kernel
theorem i_L_law_982 : mv_look m_L_law.2.2.2.1 32 982 = some (.iconst 0, 0, []) := by decide +kernel
theorem i_L_law_983 : mv_look m_L_law.2.2.2.1 32 983 = some (.ireturn, 0, []) := by decide +kernel
theorem i_L_law_984 : mv_look m_L_law.2.2.2.1 32 984 = some (.goto 1768, 2752, []) := by decide +kernel
theorem i_L_law_987 : mv_look m_L_law.2.2.2.1 32 987 = some (.aload_n 1, 0, []) := by decide +kernel
theorem i_L_law_988 : mv_look m_L_law.2.2.2.1 32 988 = some (.aload_n 0, 0, []) := by decide +kernel
theorem i_L_law_989 : mv_look m_L_law.2.2.2.1 32 989 = some (.iload 5, 0, []) := by decide +kernel
theorem i_L_law_991 : mv_look m_L_law.2.2.2.1 32 991 = some (.iconst 1, 0, []) := by decide +kernel
theorem i_L_law_992 : mv_look m_L_law.2.2.2.1 32 992 = some (.iadd, 0, []) := by decide +kernel
theorem i_L_law_993 : mv_look m_L_law.2.2.2.1 32 993 = some (.iaload, 0, []) := by decide +kernel
theorem i_L_law_994 : mv_look m_L_law.2.2.2.1 32 994 = some (.aload_n 3, 0, []) := by decide +kernel
theorem i_L_law_995 : mv_look m_L_law.2.2.2.1 32 995 = some (.invokestatic 195, 0, []) := by decide +kernel
theorem i_L_law_998 : mv_look m_L_law.2.2.2.1 32 998 = some (.istore 6, 0, []) := by decide +kernel
theorem i_L_law_1000 : mv_look m_L_law.2.2.2.1 32 1000 = some (.aload_n 2, 0, []) := by decide +kernel
theorem i_L_law_1001 : mv_look m_L_law.2.2.2.1 32 1001 = some (.aload_n 0, 0, []) := by decide +kernel
theorem i_L_law_1002 : mv_look m_L_law.2.2.2.1 32 1002 = some (.iload 5, 0, []) := by decide +kernel
theorem i_L_law_1004 : mv_look m_L_law.2.2.2.1 32 1004 = some (.iconst 1, 0, []) := by decide +kernel
theorem i_L_law_1005 : mv_look m_L_law.2.2.2.1 32 1005 = some (.iadd, 0, []) := by decide +kernel
theorem i_L_law_1006 : mv_look m_L_law.2.2.2.1 32 1006 = some (.iaload, 0, []) := by decide +kernel
theorem i_L_law_1007 : mv_look m_L_law.2.2.2.1 32 1007 = some (.invokevirtual 197, 0, []) := by decide +kernel
theorem i_L_law_1010 : mv_look m_L_law.2.2.2.1 32 1010 = some (.istore 7, 0, []) := by decide +kernel
theorem i_L_law_1012 : mv_look m_L_law.2.2.2.1 32 1012 = some (.aload_n 2, 0, []) := by decide +kernel
theorem i_L_law_1013 : mv_look m_L_law.2.2.2.1 32 1013 = some (.invokevirtual 156, 0, []) := by decide +kernel
theorem i_L_law_1016 : mv_look m_L_law.2.2.2.1 32 1016 = some (.iload 6, 0, []) := by decide +kernel
theorem i_L_law_1018 : mv_look m_L_law.2.2.2.1 32 1018 = some (.if_icmp .eq 5, 1023, []) := by decide +kernel
theorem i_L_law_1021 : mv_look m_L_law.2.2.2.1 32 1021 = some (.iconst 0, 0, []) := by decide +kernel
theorem i_L_law_1022 : mv_look m_L_law.2.2.2.1 32 1022 = some (.ireturn, 0, []) := by decide +kernel
theorem i_L_law_1023 : mv_look m_L_law.2.2.2.1 32 1023 = some (.iload 6, 0, []) := by decide +kernel
theorem i_L_law_1025 : mv_look m_L_law.2.2.2.1 32 1025 = some (.ifCond .ne 15, 1040, []) := by decide +kernel
theorem i_L_law_1028 : mv_look m_L_law.2.2.2.1 32 1028 = some (.aload_n 3, 0, []) := by decide +kernel
theorem i_L_law_1029 : mv_look m_L_law.2.2.2.1 32 1029 = some (.iconst 0, 0, []) := by decide +kernel
theorem i_L_law_1030 : mv_look m_L_law.2.2.2.1 32 1030 = some (.laload, 0, []) := by decide +kernel
theorem i_L_law_1031 : mv_look m_L_law.2.2.2.1 32 1031 = some (.iload 7, 0, []) := by decide +kernel
theorem i_L_law_1033 : mv_look m_L_law.2.2.2.1 32 1033 = some (.i2l, 0, []) := by decide +kernel
theorem i_L_law_1034 : mv_look m_L_law.2.2.2.1 32 1034 = some (.lcmp, 0, []) := by decide +kernel
theorem i_L_law_1035 : mv_look m_L_law.2.2.2.1 32 1035 = some (.ifCond .eq 5, 1040, []) := by decide +kernel
theorem i_L_law_1038 : mv_look m_L_law.2.2.2.1 32 1038 = some (.iconst 0, 0, []) := by decide +kernel
theorem i_L_law_1039 : mv_look m_L_law.2.2.2.1 32 1039 = some (.ireturn, 0, []) := by decide +kernel
theorem i_L_law_1040 : mv_look m_L_law.2.2.2.1 32 1040 = some (.goto 1712, 2752, []) := by decide +kernel
theorem i_L_law_1043 : mv_look m_L_law.2.2.2.1 32 1043 = some (.aload_n 1, 0, []) := by decide +kernel
theorem i_L_law_1044 : mv_look m_L_law.2.2.2.1 32 1044 = some (.aload_n 0, 0, []) := by decide +kernel
theorem i_L_law_1045 : mv_look m_L_law.2.2.2.1 32 1045 = some (.iload 5, 0, []) := by decide +kernel
theorem i_L_law_1047 : mv_look m_L_law.2.2.2.1 32 1047 = some (.iconst 1, 0, []) := by decide +kernel
theorem i_L_law_1048 : mv_look m_L_law.2.2.2.1 32 1048 = some (.iadd, 0, []) := by decide +kernel
theorem i_L_law_1049 : mv_look m_L_law.2.2.2.1 32 1049 = some (.iaload, 0, []) := by decide +kernel
theorem i_L_law_1050 : mv_look m_L_law.2.2.2.1 32 1050 = some (.aload_n 0, 0, []) := by decide +kernel
theorem i_L_law_1051 : mv_look m_L_law.2.2.2.1 32 1051 = some (.iload 5, 0, []) := by decide +kernel
theorem i_L_law_1053 : mv_look m_L_law.2.2.2.1 32 1053 = some (.iconst 2, 0, []) := by decide +kernel
theorem i_L_law_1054 : mv_look m_L_law.2.2.2.1 32 1054 = some (.iadd, 0, []) := by decide +kernel
theorem i_L_law_1055 : mv_look m_L_law.2.2.2.1 32 1055 = some (.iaload, 0, []) := by decide +kernel
theorem i_L_law_1056 : mv_look m_L_law.2.2.2.1 32 1056 = some (.aload_n 3, 0, []) := by decide +kernel
theorem i_L_law_1057 : mv_look m_L_law.2.2.2.1 32 1057 = some (.invokestatic 198, 0, []) := by decide +kernel
theorem i_L_law_1060 : mv_look m_L_law.2.2.2.1 32 1060 = some (.istore 6, 0, []) := by decide +kernel
theorem i_L_law_1062 : mv_look m_L_law.2.2.2.1 32 1062 = some (.aload_n 2, 0, []) := by decide +kernel
theorem i_L_law_1063 : mv_look m_L_law.2.2.2.1 32 1063 = some (.aload_n 0, 0, []) := by decide +kernel
theorem i_L_law_1064 : mv_look m_L_law.2.2.2.1 32 1064 = some (.iload 5, 0, []) := by decide +kernel
theorem i_L_law_1066 : mv_look m_L_law.2.2.2.1 32 1066 = some (.iconst 1, 0, []) := by decide +kernel
theorem i_L_law_1067 : mv_look m_L_law.2.2.2.1 32 1067 = some (.iadd, 0, []) := by decide +kernel
theorem i_L_law_1068 : mv_look m_L_law.2.2.2.1 32 1068 = some (.iaload, 0, []) := by decide +kernel
theorem i_L_law_1069 : mv_look m_L_law.2.2.2.1 32 1069 = some (.aload_n 0, 0, []) := by decide +kernel
theorem i_L_law_1070 : mv_look m_L_law.2.2.2.1 32 1070 = some (.iload 5, 0, []) := by decide +kernel
theorem i_L_law_1072 : mv_look m_L_law.2.2.2.1 32 1072 = some (.iconst 2, 0, []) := by decide +kernel
theorem i_L_law_1073 : mv_look m_L_law.2.2.2.1 32 1073 = some (.iadd, 0, []) := by decide +kernel
theorem i_L_law_1074 : mv_look m_L_law.2.2.2.1 32 1074 = some (.iaload, 0, []) := by decide +kernel
theorem i_L_law_1075 : mv_look m_L_law.2.2.2.1 32 1075 = some (.invokevirtual 200, 0, []) := by decide +kernel
theorem i_L_law_1078 : mv_look m_L_law.2.2.2.1 32 1078 = some (.istore 7, 0, []) := by decide +kernel
theorem i_L_law_1080 : mv_look m_L_law.2.2.2.1 32 1080 = some (.aload_n 2, 0, []) := by decide +kernel
theorem i_L_law_1081 : mv_look m_L_law.2.2.2.1 32 1081 = some (.invokevirtual 156, 0, []) := by decide +kernel
theorem i_L_law_1084 : mv_look m_L_law.2.2.2.1 32 1084 = some (.iload 6, 0, []) := by decide +kernel
theorem i_L_law_1086 : mv_look m_L_law.2.2.2.1 32 1086 = some (.if_icmp .eq 5, 1091, []) := by decide +kernel
theorem i_L_law_1089 : mv_look m_L_law.2.2.2.1 32 1089 = some (.iconst 0, 0, []) := by decide +kernel
theorem i_L_law_1090 : mv_look m_L_law.2.2.2.1 32 1090 = some (.ireturn, 0, []) := by decide +kernel
theorem i_L_law_1091 : mv_look m_L_law.2.2.2.1 32 1091 = some (.iload 6, 0, []) := by decide +kernel
theorem i_L_law_1093 : mv_look m_L_law.2.2.2.1 32 1093 = some (.ifCond .ne 15, 1108, []) := by decide +kernel
theorem i_L_law_1096 : mv_look m_L_law.2.2.2.1 32 1096 = some (.aload_n 3, 0, []) := by decide +kernel
theorem i_L_law_1097 : mv_look m_L_law.2.2.2.1 32 1097 = some (.iconst 0, 0, []) := by decide +kernel
theorem i_L_law_1098 : mv_look m_L_law.2.2.2.1 32 1098 = some (.laload, 0, []) := by decide +kernel
theorem i_L_law_1099 : mv_look m_L_law.2.2.2.1 32 1099 = some (.iload 7, 0, []) := by decide +kernel
theorem i_L_law_1101 : mv_look m_L_law.2.2.2.1 32 1101 = some (.i2l, 0, []) := by decide +kernel
theorem i_L_law_1102 : mv_look m_L_law.2.2.2.1 32 1102 = some (.lcmp, 0, []) := by decide +kernel
theorem i_L_law_1103 : mv_look m_L_law.2.2.2.1 32 1103 = some (.ifCond .eq 5, 1108, []) := by decide +kernel
theorem i_L_law_1106 : mv_look m_L_law.2.2.2.1 32 1106 = some (.iconst 0, 0, []) := by decide +kernel
theorem i_L_law_1107 : mv_look m_L_law.2.2.2.1 32 1107 = some (.ireturn, 0, []) := by decide +kernel
theorem i_L_law_1108 : mv_look m_L_law.2.2.2.1 32 1108 = some (.goto 1644, 2752, []) := by decide +kernel
theorem i_L_law_1111 : mv_look m_L_law.2.2.2.1 32 1111 = some (.aload_n 1, 0, []) := by decide +kernel
theorem i_L_law_1112 : mv_look m_L_law.2.2.2.1 32 1112 = some (.aload_n 0, 0, []) := by decide +kernel
theorem i_L_law_1113 : mv_look m_L_law.2.2.2.1 32 1113 = some (.iload 5, 0, []) := by decide +kernel
theorem i_L_law_1115 : mv_look m_L_law.2.2.2.1 32 1115 = some (.iconst 1, 0, []) := by decide +kernel
theorem i_L_law_1116 : mv_look m_L_law.2.2.2.1 32 1116 = some (.iadd, 0, []) := by decide +kernel
theorem i_L_law_1117 : mv_look m_L_law.2.2.2.1 32 1117 = some (.iaload, 0, []) := by decide +kernel
theorem i_L_law_1118 : mv_look m_L_law.2.2.2.1 32 1118 = some (.aload_n 0, 0, []) := by decide +kernel
theorem i_L_law_1119 : mv_look m_L_law.2.2.2.1 32 1119 = some (.iload 5, 0, []) := by decide +kernel
theorem i_L_law_1121 : mv_look m_L_law.2.2.2.1 32 1121 = some (.iconst 2, 0, []) := by decide +kernel
theorem i_L_law_1122 : mv_look m_L_law.2.2.2.1 32 1122 = some (.iadd, 0, []) := by decide +kernel
theorem i_L_law_1123 : mv_look m_L_law.2.2.2.1 32 1123 = some (.iaload, 0, []) := by decide +kernel
theorem i_L_law_1124 : mv_look m_L_law.2.2.2.1 32 1124 = some (.aload_n 3, 0, []) := by decide +kernel
theorem i_L_law_1125 : mv_look m_L_law.2.2.2.1 32 1125 = some (.invokestatic 201, 0, []) := by decide +kernel
theorem i_L_law_1128 : mv_look m_L_law.2.2.2.1 32 1128 = some (.istore 6, 0, []) := by decide +kernel
theorem i_L_law_1130 : mv_look m_L_law.2.2.2.1 32 1130 = some (.aload_n 2, 0, []) := by decide +kernel
theorem i_L_law_1131 : mv_look m_L_law.2.2.2.1 32 1131 = some (.aload_n 0, 0, []) := by decide +kernel
theorem i_L_law_1132 : mv_look m_L_law.2.2.2.1 32 1132 = some (.iload 5, 0, []) := by decide +kernel
theorem i_L_law_1134 : mv_look m_L_law.2.2.2.1 32 1134 = some (.iconst 1, 0, []) := by decide +kernel
theorem i_L_law_1135 : mv_look m_L_law.2.2.2.1 32 1135 = some (.iadd, 0, []) := by decide +kernel
theorem i_L_law_1136 : mv_look m_L_law.2.2.2.1 32 1136 = some (.iaload, 0, []) := by decide +kernel
theorem i_L_law_1137 : mv_look m_L_law.2.2.2.1 32 1137 = some (.aload_n 0, 0, []) := by decide +kernel
theorem i_L_law_1138 : mv_look m_L_law.2.2.2.1 32 1138 = some (.iload 5, 0, []) := by decide +kernel
theorem i_L_law_1140 : mv_look m_L_law.2.2.2.1 32 1140 = some (.iconst 2, 0, []) := by decide +kernel
theorem i_L_law_1141 : mv_look m_L_law.2.2.2.1 32 1141 = some (.iadd, 0, []) := by decide +kernel
theorem i_L_law_1142 : mv_look m_L_law.2.2.2.1 32 1142 = some (.iaload, 0, []) := by decide +kernel
theorem i_L_law_1143 : mv_look m_L_law.2.2.2.1 32 1143 = some (.invokevirtual 203, 0, []) := by decide +kernel
theorem i_L_law_1146 : mv_look m_L_law.2.2.2.1 32 1146 = some (.istore 7, 0, []) := by decide +kernel
theorem i_L_law_1148 : mv_look m_L_law.2.2.2.1 32 1148 = some (.aload_n 2, 0, []) := by decide +kernel
theorem i_L_law_1149 : mv_look m_L_law.2.2.2.1 32 1149 = some (.invokevirtual 156, 0, []) := by decide +kernel
theorem i_L_law_1152 : mv_look m_L_law.2.2.2.1 32 1152 = some (.iload 6, 0, []) := by decide +kernel
theorem i_L_law_1154 : mv_look m_L_law.2.2.2.1 32 1154 = some (.if_icmp .eq 5, 1159, []) := by decide +kernel
theorem i_L_law_1157 : mv_look m_L_law.2.2.2.1 32 1157 = some (.iconst 0, 0, []) := by decide +kernel
theorem i_L_law_1158 : mv_look m_L_law.2.2.2.1 32 1158 = some (.ireturn, 0, []) := by decide +kernel
theorem i_L_law_1159 : mv_look m_L_law.2.2.2.1 32 1159 = some (.iload 6, 0, []) := by decide +kernel
theorem i_L_law_1161 : mv_look m_L_law.2.2.2.1 32 1161 = some (.ifCond .ne 15, 1176, []) := by decide +kernel
theorem i_L_law_1164 : mv_look m_L_law.2.2.2.1 32 1164 = some (.aload_n 3, 0, []) := by decide +kernel
theorem i_L_law_1165 : mv_look m_L_law.2.2.2.1 32 1165 = some (.iconst 0, 0, []) := by decide +kernel
theorem i_L_law_1166 : mv_look m_L_law.2.2.2.1 32 1166 = some (.laload, 0, []) := by decide +kernel
theorem i_L_law_1167 : mv_look m_L_law.2.2.2.1 32 1167 = some (.iload 7, 0, []) := by decide +kernel
theorem i_L_law_1169 : mv_look m_L_law.2.2.2.1 32 1169 = some (.i2l, 0, []) := by decide +kernel
theorem i_L_law_1170 : mv_look m_L_law.2.2.2.1 32 1170 = some (.lcmp, 0, []) := by decide +kernel
theorem i_L_law_1171 : mv_look m_L_law.2.2.2.1 32 1171 = some (.ifCond .eq 5, 1176, []) := by decide +kernel
theorem i_L_law_1174 : mv_look m_L_law.2.2.2.1 32 1174 = some (.iconst 0, 0, []) := by decide +kernel
theorem i_L_law_1175 : mv_look m_L_law.2.2.2.1 32 1175 = some (.ireturn, 0, []) := by decide +kernel
theorem i_L_law_1176 : mv_look m_L_law.2.2.2.1 32 1176 = some (.goto 1576, 2752, []) := by decide +kernel
theorem i_L_law_1179 : mv_look m_L_law.2.2.2.1 32 1179 = some (.aload_n 1, 0, []) := by decide +kernel
theorem i_L_law_1180 : mv_look m_L_law.2.2.2.1 32 1180 = some (.aload_n 0, 0, []) := by decide +kernel
theorem i_L_law_1181 : mv_look m_L_law.2.2.2.1 32 1181 = some (.iload 5, 0, []) := by decide +kernel
theorem i_L_law_1183 : mv_look m_L_law.2.2.2.1 32 1183 = some (.iconst 1, 0, []) := by decide +kernel
theorem i_L_law_1184 : mv_look m_L_law.2.2.2.1 32 1184 = some (.iadd, 0, []) := by decide +kernel
theorem i_L_law_1185 : mv_look m_L_law.2.2.2.1 32 1185 = some (.iaload, 0, []) := by decide +kernel
theorem i_L_law_1186 : mv_look m_L_law.2.2.2.1 32 1186 = some (.aload_n 0, 0, []) := by decide +kernel
theorem i_L_law_1187 : mv_look m_L_law.2.2.2.1 32 1187 = some (.iload 5, 0, []) := by decide +kernel
theorem i_L_law_1189 : mv_look m_L_law.2.2.2.1 32 1189 = some (.iconst 2, 0, []) := by decide +kernel
theorem i_L_law_1190 : mv_look m_L_law.2.2.2.1 32 1190 = some (.iadd, 0, []) := by decide +kernel
theorem i_L_law_1191 : mv_look m_L_law.2.2.2.1 32 1191 = some (.iaload, 0, []) := by decide +kernel
theorem i_L_law_1192 : mv_look m_L_law.2.2.2.1 32 1192 = some (.aload_n 3, 0, []) := by decide +kernel
theorem i_L_law_1193 : mv_look m_L_law.2.2.2.1 32 1193 = some (.invokestatic 204, 0, []) := by decide +kernel
theorem i_L_law_1196 : mv_look m_L_law.2.2.2.1 32 1196 = some (.istore 6, 0, []) := by decide +kernel
theorem i_L_law_1198 : mv_look m_L_law.2.2.2.1 32 1198 = some (.aload_n 2, 0, []) := by decide +kernel
theorem i_L_law_1199 : mv_look m_L_law.2.2.2.1 32 1199 = some (.aload_n 0, 0, []) := by decide +kernel
theorem i_L_law_1200 : mv_look m_L_law.2.2.2.1 32 1200 = some (.iload 5, 0, []) := by decide +kernel
theorem i_L_law_1202 : mv_look m_L_law.2.2.2.1 32 1202 = some (.iconst 1, 0, []) := by decide +kernel
theorem i_L_law_1203 : mv_look m_L_law.2.2.2.1 32 1203 = some (.iadd, 0, []) := by decide +kernel
theorem i_L_law_1204 : mv_look m_L_law.2.2.2.1 32 1204 = some (.iaload, 0, []) := by decide +kernel
theorem i_L_law_1205 : mv_look m_L_law.2.2.2.1 32 1205 = some (.aload_n 0, 0, []) := by decide +kernel
theorem i_L_law_1206 : mv_look m_L_law.2.2.2.1 32 1206 = some (.iload 5, 0, []) := by decide +kernel
theorem i_L_law_1208 : mv_look m_L_law.2.2.2.1 32 1208 = some (.iconst 2, 0, []) := by decide +kernel
theorem i_L_law_1209 : mv_look m_L_law.2.2.2.1 32 1209 = some (.iadd, 0, []) := by decide +kernel
theorem i_L_law_1210 : mv_look m_L_law.2.2.2.1 32 1210 = some (.iaload, 0, []) := by decide +kernel
theorem i_L_law_1211 : mv_look m_L_law.2.2.2.1 32 1211 = some (.invokevirtual 206, 0, []) := by decide +kernel
theorem i_L_law_1214 : mv_look m_L_law.2.2.2.1 32 1214 = some (.istore 7, 0, []) := by decide +kernel
theorem i_L_law_1216 : mv_look m_L_law.2.2.2.1 32 1216 = some (.aload_n 2, 0, []) := by decide +kernel
theorem i_L_law_1217 : mv_look m_L_law.2.2.2.1 32 1217 = some (.invokevirtual 156, 0, []) := by decide +kernel
theorem i_L_law_1220 : mv_look m_L_law.2.2.2.1 32 1220 = some (.iload 6, 0, []) := by decide +kernel
theorem i_L_law_1222 : mv_look m_L_law.2.2.2.1 32 1222 = some (.if_icmp .eq 5, 1227, []) := by decide +kernel
theorem i_L_law_1225 : mv_look m_L_law.2.2.2.1 32 1225 = some (.iconst 0, 0, []) := by decide +kernel
theorem i_L_law_1226 : mv_look m_L_law.2.2.2.1 32 1226 = some (.ireturn, 0, []) := by decide +kernel
theorem i_L_law_1227 : mv_look m_L_law.2.2.2.1 32 1227 = some (.iload 6, 0, []) := by decide +kernel
theorem i_L_law_1229 : mv_look m_L_law.2.2.2.1 32 1229 = some (.ifCond .ne 15, 1244, []) := by decide +kernel
theorem i_L_law_1232 : mv_look m_L_law.2.2.2.1 32 1232 = some (.aload_n 3, 0, []) := by decide +kernel
theorem i_L_law_1233 : mv_look m_L_law.2.2.2.1 32 1233 = some (.iconst 0, 0, []) := by decide +kernel
theorem i_L_law_1234 : mv_look m_L_law.2.2.2.1 32 1234 = some (.laload, 0, []) := by decide +kernel
theorem i_L_law_1235 : mv_look m_L_law.2.2.2.1 32 1235 = some (.iload 7, 0, []) := by decide +kernel
theorem i_L_law_1237 : mv_look m_L_law.2.2.2.1 32 1237 = some (.i2l, 0, []) := by decide +kernel
theorem i_L_law_1238 : mv_look m_L_law.2.2.2.1 32 1238 = some (.lcmp, 0, []) := by decide +kernel
theorem i_L_law_1239 : mv_look m_L_law.2.2.2.1 32 1239 = some (.ifCond .eq 5, 1244, []) := by decide +kernel
theorem i_L_law_1242 : mv_look m_L_law.2.2.2.1 32 1242 = some (.iconst 0, 0, []) := by decide +kernel
theorem i_L_law_1243 : mv_look m_L_law.2.2.2.1 32 1243 = some (.ireturn, 0, []) := by decide +kernel
theorem i_L_law_1244 : mv_look m_L_law.2.2.2.1 32 1244 = some (.goto 1508, 2752, []) := by decide +kernel
theorem i_L_law_1247 : mv_look m_L_law.2.2.2.1 32 1247 = some (.aload_n 1, 0, []) := by decide +kernel
theorem i_L_law_1248 : mv_look m_L_law.2.2.2.1 32 1248 = some (.aload_n 0, 0, []) := by decide +kernel
theorem i_L_law_1249 : mv_look m_L_law.2.2.2.1 32 1249 = some (.iload 5, 0, []) := by decide +kernel
theorem i_L_law_1251 : mv_look m_L_law.2.2.2.1 32 1251 = some (.iconst 1, 0, []) := by decide +kernel
theorem i_L_law_1252 : mv_look m_L_law.2.2.2.1 32 1252 = some (.iadd, 0, []) := by decide +kernel
theorem i_L_law_1253 : mv_look m_L_law.2.2.2.1 32 1253 = some (.iaload, 0, []) := by decide +kernel
theorem i_L_law_1254 : mv_look m_L_law.2.2.2.1 32 1254 = some (.aload_n 0, 0, []) := by decide +kernel
theorem i_L_law_1255 : mv_look m_L_law.2.2.2.1 32 1255 = some (.iload 5, 0, []) := by decide +kernel
theorem i_L_law_1257 : mv_look m_L_law.2.2.2.1 32 1257 = some (.iconst 2, 0, []) := by decide +kernel
theorem i_L_law_1258 : mv_look m_L_law.2.2.2.1 32 1258 = some (.iadd, 0, []) := by decide +kernel
theorem i_L_law_1259 : mv_look m_L_law.2.2.2.1 32 1259 = some (.iaload, 0, []) := by decide +kernel
theorem i_L_law_1260 : mv_look m_L_law.2.2.2.1 32 1260 = some (.aload_n 3, 0, []) := by decide +kernel
theorem i_L_law_1261 : mv_look m_L_law.2.2.2.1 32 1261 = some (.invokestatic 207, 0, []) := by decide +kernel
theorem i_L_law_1264 : mv_look m_L_law.2.2.2.1 32 1264 = some (.istore 6, 0, []) := by decide +kernel
theorem i_L_law_1266 : mv_look m_L_law.2.2.2.1 32 1266 = some (.aload_n 2, 0, []) := by decide +kernel
theorem i_L_law_1267 : mv_look m_L_law.2.2.2.1 32 1267 = some (.aload_n 0, 0, []) := by decide +kernel
theorem i_L_law_1268 : mv_look m_L_law.2.2.2.1 32 1268 = some (.iload 5, 0, []) := by decide +kernel
theorem i_L_law_1270 : mv_look m_L_law.2.2.2.1 32 1270 = some (.iconst 1, 0, []) := by decide +kernel
theorem i_L_law_1271 : mv_look m_L_law.2.2.2.1 32 1271 = some (.iadd, 0, []) := by decide +kernel
theorem i_L_law_1272 : mv_look m_L_law.2.2.2.1 32 1272 = some (.iaload, 0, []) := by decide +kernel
theorem i_L_law_1273 : mv_look m_L_law.2.2.2.1 32 1273 = some (.aload_n 0, 0, []) := by decide +kernel
theorem i_L_law_1274 : mv_look m_L_law.2.2.2.1 32 1274 = some (.iload 5, 0, []) := by decide +kernel
theorem i_L_law_1276 : mv_look m_L_law.2.2.2.1 32 1276 = some (.iconst 2, 0, []) := by decide +kernel
theorem i_L_law_1277 : mv_look m_L_law.2.2.2.1 32 1277 = some (.iadd, 0, []) := by decide +kernel
theorem i_L_law_1278 : mv_look m_L_law.2.2.2.1 32 1278 = some (.iaload, 0, []) := by decide +kernel
theorem i_L_law_1279 : mv_look m_L_law.2.2.2.1 32 1279 = some (.invokevirtual 209, 0, []) := by decide +kernel
theorem i_L_law_1282 : mv_look m_L_law.2.2.2.1 32 1282 = some (.istore 7, 0, []) := by decide +kernel
theorem i_L_law_1284 : mv_look m_L_law.2.2.2.1 32 1284 = some (.aload_n 2, 0, []) := by decide +kernel
theorem i_L_law_1285 : mv_look m_L_law.2.2.2.1 32 1285 = some (.invokevirtual 156, 0, []) := by decide +kernel
theorem i_L_law_1288 : mv_look m_L_law.2.2.2.1 32 1288 = some (.iload 6, 0, []) := by decide +kernel
theorem i_L_law_1290 : mv_look m_L_law.2.2.2.1 32 1290 = some (.if_icmp .eq 5, 1295, []) := by decide +kernel
theorem i_L_law_1293 : mv_look m_L_law.2.2.2.1 32 1293 = some (.iconst 0, 0, []) := by decide +kernel
theorem i_L_law_1294 : mv_look m_L_law.2.2.2.1 32 1294 = some (.ireturn, 0, []) := by decide +kernel
theorem i_L_law_1295 : mv_look m_L_law.2.2.2.1 32 1295 = some (.iload 6, 0, []) := by decide +kernel
theorem i_L_law_1297 : mv_look m_L_law.2.2.2.1 32 1297 = some (.ifCond .ne 15, 1312, []) := by decide +kernel
theorem i_L_law_1300 : mv_look m_L_law.2.2.2.1 32 1300 = some (.aload_n 3, 0, []) := by decide +kernel
theorem i_L_law_1301 : mv_look m_L_law.2.2.2.1 32 1301 = some (.iconst 0, 0, []) := by decide +kernel
theorem i_L_law_1302 : mv_look m_L_law.2.2.2.1 32 1302 = some (.laload, 0, []) := by decide +kernel
theorem i_L_law_1303 : mv_look m_L_law.2.2.2.1 32 1303 = some (.iload 7, 0, []) := by decide +kernel
theorem i_L_law_1305 : mv_look m_L_law.2.2.2.1 32 1305 = some (.i2l, 0, []) := by decide +kernel
theorem i_L_law_1306 : mv_look m_L_law.2.2.2.1 32 1306 = some (.lcmp, 0, []) := by decide +kernel
theorem i_L_law_1307 : mv_look m_L_law.2.2.2.1 32 1307 = some (.ifCond .eq 5, 1312, []) := by decide +kernel
theorem i_L_law_1310 : mv_look m_L_law.2.2.2.1 32 1310 = some (.iconst 0, 0, []) := by decide +kernel
theorem i_L_law_1311 : mv_look m_L_law.2.2.2.1 32 1311 = some (.ireturn, 0, []) := by decide +kernel
theorem i_L_law_1312 : mv_look m_L_law.2.2.2.1 32 1312 = some (.goto 1440, 2752, []) := by decide +kernel
theorem i_L_law_1315 : mv_look m_L_law.2.2.2.1 32 1315 = some (.aload_n 1, 0, []) := by decide +kernel
theorem i_L_law_1316 : mv_look m_L_law.2.2.2.1 32 1316 = some (.aload_n 0, 0, []) := by decide +kernel
theorem i_L_law_1317 : mv_look m_L_law.2.2.2.1 32 1317 = some (.iload 5, 0, []) := by decide +kernel
theorem i_L_law_1319 : mv_look m_L_law.2.2.2.1 32 1319 = some (.iconst 1, 0, []) := by decide +kernel
theorem i_L_law_1320 : mv_look m_L_law.2.2.2.1 32 1320 = some (.iadd, 0, []) := by decide +kernel
theorem i_L_law_1321 : mv_look m_L_law.2.2.2.1 32 1321 = some (.iaload, 0, []) := by decide +kernel
theorem i_L_law_1322 : mv_look m_L_law.2.2.2.1 32 1322 = some (.aload_n 0, 0, []) := by decide +kernel
theorem i_L_law_1323 : mv_look m_L_law.2.2.2.1 32 1323 = some (.iload 5, 0, []) := by decide +kernel
theorem i_L_law_1325 : mv_look m_L_law.2.2.2.1 32 1325 = some (.iconst 2, 0, []) := by decide +kernel
theorem i_L_law_1326 : mv_look m_L_law.2.2.2.1 32 1326 = some (.iadd, 0, []) := by decide +kernel
theorem i_L_law_1327 : mv_look m_L_law.2.2.2.1 32 1327 = some (.iaload, 0, []) := by decide +kernel
theorem i_L_law_1328 : mv_look m_L_law.2.2.2.1 32 1328 = some (.aload_n 3, 0, []) := by decide +kernel
theorem i_L_law_1329 : mv_look m_L_law.2.2.2.1 32 1329 = some (.invokestatic 210, 0, []) := by decide +kernel
theorem i_L_law_1332 : mv_look m_L_law.2.2.2.1 32 1332 = some (.istore 6, 0, []) := by decide +kernel
theorem i_L_law_1334 : mv_look m_L_law.2.2.2.1 32 1334 = some (.aload_n 2, 0, []) := by decide +kernel
theorem i_L_law_1335 : mv_look m_L_law.2.2.2.1 32 1335 = some (.aload_n 0, 0, []) := by decide +kernel
theorem i_L_law_1336 : mv_look m_L_law.2.2.2.1 32 1336 = some (.iload 5, 0, []) := by decide +kernel
theorem i_L_law_1338 : mv_look m_L_law.2.2.2.1 32 1338 = some (.iconst 1, 0, []) := by decide +kernel
theorem i_L_law_1339 : mv_look m_L_law.2.2.2.1 32 1339 = some (.iadd, 0, []) := by decide +kernel
theorem i_L_law_1340 : mv_look m_L_law.2.2.2.1 32 1340 = some (.iaload, 0, []) := by decide +kernel
theorem i_L_law_1341 : mv_look m_L_law.2.2.2.1 32 1341 = some (.aload_n 0, 0, []) := by decide +kernel
theorem i_L_law_1342 : mv_look m_L_law.2.2.2.1 32 1342 = some (.iload 5, 0, []) := by decide +kernel
theorem i_L_law_1344 : mv_look m_L_law.2.2.2.1 32 1344 = some (.iconst 2, 0, []) := by decide +kernel
theorem i_L_law_1345 : mv_look m_L_law.2.2.2.1 32 1345 = some (.iadd, 0, []) := by decide +kernel
theorem i_L_law_1346 : mv_look m_L_law.2.2.2.1 32 1346 = some (.iaload, 0, []) := by decide +kernel
theorem i_L_law_1347 : mv_look m_L_law.2.2.2.1 32 1347 = some (.invokevirtual 212, 0, []) := by decide +kernel
theorem i_L_law_1350 : mv_look m_L_law.2.2.2.1 32 1350 = some (.istore 7, 0, []) := by decide +kernel
theorem i_L_law_1352 : mv_look m_L_law.2.2.2.1 32 1352 = some (.aload_n 2, 0, []) := by decide +kernel
theorem i_L_law_1353 : mv_look m_L_law.2.2.2.1 32 1353 = some (.invokevirtual 156, 0, []) := by decide +kernel
theorem i_L_law_1356 : mv_look m_L_law.2.2.2.1 32 1356 = some (.iload 6, 0, []) := by decide +kernel
theorem i_L_law_1358 : mv_look m_L_law.2.2.2.1 32 1358 = some (.if_icmp .eq 5, 1363, []) := by decide +kernel
theorem i_L_law_1361 : mv_look m_L_law.2.2.2.1 32 1361 = some (.iconst 0, 0, []) := by decide +kernel
theorem i_L_law_1362 : mv_look m_L_law.2.2.2.1 32 1362 = some (.ireturn, 0, []) := by decide +kernel
theorem i_L_law_1363 : mv_look m_L_law.2.2.2.1 32 1363 = some (.iload 6, 0, []) := by decide +kernel
theorem i_L_law_1365 : mv_look m_L_law.2.2.2.1 32 1365 = some (.ifCond .ne 15, 1380, []) := by decide +kernel
theorem i_L_law_1368 : mv_look m_L_law.2.2.2.1 32 1368 = some (.aload_n 3, 0, []) := by decide +kernel
theorem i_L_law_1369 : mv_look m_L_law.2.2.2.1 32 1369 = some (.iconst 0, 0, []) := by decide +kernel
theorem i_L_law_1370 : mv_look m_L_law.2.2.2.1 32 1370 = some (.laload, 0, []) := by decide +kernel
theorem i_L_law_1371 : mv_look m_L_law.2.2.2.1 32 1371 = some (.iload 7, 0, []) := by decide +kernel
theorem i_L_law_1373 : mv_look m_L_law.2.2.2.1 32 1373 = some (.i2l, 0, []) := by decide +kernel
theorem i_L_law_1374 : mv_look m_L_law.2.2.2.1 32 1374 = some (.lcmp, 0, []) := by decide +kernel
theorem i_L_law_1375 : mv_look m_L_law.2.2.2.1 32 1375 = some (.ifCond .eq 5, 1380, []) := by decide +kernel
theorem i_L_law_1378 : mv_look m_L_law.2.2.2.1 32 1378 = some (.iconst 0, 0, []) := by decide +kernel
theorem i_L_law_1379 : mv_look m_L_law.2.2.2.1 32 1379 = some (.ireturn, 0, []) := by decide +kernel
theorem i_L_law_1380 : mv_look m_L_law.2.2.2.1 32 1380 = some (.goto 1372, 2752, []) := by decide +kernel
theorem i_L_law_1383 : mv_look m_L_law.2.2.2.1 32 1383 = some (.aload_n 1, 0, []) := by decide +kernel
theorem i_L_law_1384 : mv_look m_L_law.2.2.2.1 32 1384 = some (.aload_n 0, 0, []) := by decide +kernel
theorem i_L_law_1385 : mv_look m_L_law.2.2.2.1 32 1385 = some (.iload 5, 0, []) := by decide +kernel
theorem i_L_law_1387 : mv_look m_L_law.2.2.2.1 32 1387 = some (.iconst 1, 0, []) := by decide +kernel
theorem i_L_law_1388 : mv_look m_L_law.2.2.2.1 32 1388 = some (.iadd, 0, []) := by decide +kernel
theorem i_L_law_1389 : mv_look m_L_law.2.2.2.1 32 1389 = some (.iaload, 0, []) := by decide +kernel
theorem i_L_law_1390 : mv_look m_L_law.2.2.2.1 32 1390 = some (.aload_n 3, 0, []) := by decide +kernel
theorem i_L_law_1391 : mv_look m_L_law.2.2.2.1 32 1391 = some (.invokestatic 213, 0, []) := by decide +kernel
theorem i_L_law_1394 : mv_look m_L_law.2.2.2.1 32 1394 = some (.istore 6, 0, []) := by decide +kernel
theorem i_L_law_1396 : mv_look m_L_law.2.2.2.1 32 1396 = some (.aload_n 2, 0, []) := by decide +kernel
theorem i_L_law_1397 : mv_look m_L_law.2.2.2.1 32 1397 = some (.aload_n 0, 0, []) := by decide +kernel
theorem i_L_law_1398 : mv_look m_L_law.2.2.2.1 32 1398 = some (.iload 5, 0, []) := by decide +kernel
theorem i_L_law_1400 : mv_look m_L_law.2.2.2.1 32 1400 = some (.iconst 1, 0, []) := by decide +kernel
theorem i_L_law_1401 : mv_look m_L_law.2.2.2.1 32 1401 = some (.iadd, 0, []) := by decide +kernel
theorem i_L_law_1402 : mv_look m_L_law.2.2.2.1 32 1402 = some (.iaload, 0, []) := by decide +kernel
theorem i_L_law_1403 : mv_look m_L_law.2.2.2.1 32 1403 = some (.invokevirtual 215, 0, []) := by decide +kernel
theorem i_L_law_1406 : mv_look m_L_law.2.2.2.1 32 1406 = some (.istore 7, 0, []) := by decide +kernel
theorem i_L_law_1408 : mv_look m_L_law.2.2.2.1 32 1408 = some (.aload_n 2, 0, []) := by decide +kernel
theorem i_L_law_1409 : mv_look m_L_law.2.2.2.1 32 1409 = some (.invokevirtual 156, 0, []) := by decide +kernel
theorem i_L_law_1412 : mv_look m_L_law.2.2.2.1 32 1412 = some (.iload 6, 0, []) := by decide +kernel
theorem i_L_law_1414 : mv_look m_L_law.2.2.2.1 32 1414 = some (.if_icmp .eq 5, 1419, []) := by decide +kernel
theorem i_L_law_1417 : mv_look m_L_law.2.2.2.1 32 1417 = some (.iconst 0, 0, []) := by decide +kernel
theorem i_L_law_1418 : mv_look m_L_law.2.2.2.1 32 1418 = some (.ireturn, 0, []) := by decide +kernel
theorem i_L_law_1419 : mv_look m_L_law.2.2.2.1 32 1419 = some (.iload 6, 0, []) := by decide +kernel
theorem i_L_law_1421 : mv_look m_L_law.2.2.2.1 32 1421 = some (.ifCond .ne 15, 1436, []) := by decide +kernel
theorem i_L_law_1424 : mv_look m_L_law.2.2.2.1 32 1424 = some (.aload_n 3, 0, []) := by decide +kernel
theorem i_L_law_1425 : mv_look m_L_law.2.2.2.1 32 1425 = some (.iconst 0, 0, []) := by decide +kernel
theorem i_L_law_1426 : mv_look m_L_law.2.2.2.1 32 1426 = some (.laload, 0, []) := by decide +kernel
theorem i_L_law_1427 : mv_look m_L_law.2.2.2.1 32 1427 = some (.iload 7, 0, []) := by decide +kernel
theorem i_L_law_1429 : mv_look m_L_law.2.2.2.1 32 1429 = some (.i2l, 0, []) := by decide +kernel
theorem i_L_law_1430 : mv_look m_L_law.2.2.2.1 32 1430 = some (.lcmp, 0, []) := by decide +kernel
theorem i_L_law_1431 : mv_look m_L_law.2.2.2.1 32 1431 = some (.ifCond .eq 5, 1436, []) := by decide +kernel
theorem i_L_law_1434 : mv_look m_L_law.2.2.2.1 32 1434 = some (.iconst 0, 0, []) := by decide +kernel
theorem i_L_law_1435 : mv_look m_L_law.2.2.2.1 32 1435 = some (.ireturn, 0, []) := by decide +kernel
theorem i_L_law_1436 : mv_look m_L_law.2.2.2.1 32 1436 = some (.goto 1316, 2752, []) := by decide +kernel
theorem i_L_law_1439 : mv_look m_L_law.2.2.2.1 32 1439 = some (.aload_n 1, 0, []) := by decide +kernel
theorem i_L_law_1440 : mv_look m_L_law.2.2.2.1 32 1440 = some (.aload_n 0, 0, []) := by decide +kernel
theorem i_L_law_1441 : mv_look m_L_law.2.2.2.1 32 1441 = some (.iload 5, 0, []) := by decide +kernel
theorem i_L_law_1443 : mv_look m_L_law.2.2.2.1 32 1443 = some (.iconst 1, 0, []) := by decide +kernel
theorem i_L_law_1444 : mv_look m_L_law.2.2.2.1 32 1444 = some (.iadd, 0, []) := by decide +kernel
theorem i_L_law_1445 : mv_look m_L_law.2.2.2.1 32 1445 = some (.iaload, 0, []) := by decide +kernel
theorem i_L_law_1446 : mv_look m_L_law.2.2.2.1 32 1446 = some (.aload_n 3, 0, []) := by decide +kernel
theorem i_L_law_1447 : mv_look m_L_law.2.2.2.1 32 1447 = some (.invokestatic 216, 0, []) := by decide +kernel
theorem i_L_law_1450 : mv_look m_L_law.2.2.2.1 32 1450 = some (.istore 6, 0, []) := by decide +kernel
theorem i_L_law_1452 : mv_look m_L_law.2.2.2.1 32 1452 = some (.aload_n 2, 0, []) := by decide +kernel
theorem i_L_law_1453 : mv_look m_L_law.2.2.2.1 32 1453 = some (.aload_n 0, 0, []) := by decide +kernel
theorem i_L_law_1454 : mv_look m_L_law.2.2.2.1 32 1454 = some (.iload 5, 0, []) := by decide +kernel
theorem i_L_law_1456 : mv_look m_L_law.2.2.2.1 32 1456 = some (.iconst 1, 0, []) := by decide +kernel
theorem i_L_law_1457 : mv_look m_L_law.2.2.2.1 32 1457 = some (.iadd, 0, []) := by decide +kernel
theorem i_L_law_1458 : mv_look m_L_law.2.2.2.1 32 1458 = some (.iaload, 0, []) := by decide +kernel
theorem i_L_law_1459 : mv_look m_L_law.2.2.2.1 32 1459 = some (.invokevirtual 218, 0, []) := by decide +kernel
theorem i_L_law_1462 : mv_look m_L_law.2.2.2.1 32 1462 = some (.istore 7, 0, []) := by decide +kernel
theorem i_L_law_1464 : mv_look m_L_law.2.2.2.1 32 1464 = some (.aload_n 2, 0, []) := by decide +kernel
theorem i_L_law_1465 : mv_look m_L_law.2.2.2.1 32 1465 = some (.invokevirtual 156, 0, []) := by decide +kernel
theorem i_L_law_1468 : mv_look m_L_law.2.2.2.1 32 1468 = some (.iload 6, 0, []) := by decide +kernel
theorem i_L_law_1470 : mv_look m_L_law.2.2.2.1 32 1470 = some (.if_icmp .eq 5, 1475, []) := by decide +kernel
theorem i_L_law_1473 : mv_look m_L_law.2.2.2.1 32 1473 = some (.iconst 0, 0, []) := by decide +kernel
theorem i_L_law_1474 : mv_look m_L_law.2.2.2.1 32 1474 = some (.ireturn, 0, []) := by decide +kernel
theorem i_L_law_1475 : mv_look m_L_law.2.2.2.1 32 1475 = some (.iload 6, 0, []) := by decide +kernel
theorem i_L_law_1477 : mv_look m_L_law.2.2.2.1 32 1477 = some (.ifCond .ne 15, 1492, []) := by decide +kernel
theorem i_L_law_1480 : mv_look m_L_law.2.2.2.1 32 1480 = some (.aload_n 3, 0, []) := by decide +kernel
theorem i_L_law_1481 : mv_look m_L_law.2.2.2.1 32 1481 = some (.iconst 0, 0, []) := by decide +kernel
theorem i_L_law_1482 : mv_look m_L_law.2.2.2.1 32 1482 = some (.laload, 0, []) := by decide +kernel
theorem i_L_law_1483 : mv_look m_L_law.2.2.2.1 32 1483 = some (.iload 7, 0, []) := by decide +kernel
theorem i_L_law_1485 : mv_look m_L_law.2.2.2.1 32 1485 = some (.i2l, 0, []) := by decide +kernel
theorem i_L_law_1486 : mv_look m_L_law.2.2.2.1 32 1486 = some (.lcmp, 0, []) := by decide +kernel
theorem i_L_law_1487 : mv_look m_L_law.2.2.2.1 32 1487 = some (.ifCond .eq 5, 1492, []) := by decide +kernel
theorem i_L_law_1490 : mv_look m_L_law.2.2.2.1 32 1490 = some (.iconst 0, 0, []) := by decide +kernel
theorem i_L_law_1491 : mv_look m_L_law.2.2.2.1 32 1491 = some (.ireturn, 0, []) := by decide +kernel
theorem i_L_law_1492 : mv_look m_L_law.2.2.2.1 32 1492 = some (.goto 1260, 2752, []) := by decide +kernel
theorem i_L_law_1495 : mv_look m_L_law.2.2.2.1 32 1495 = some (.aload_n 1, 0, []) := by decide +kernel
theorem i_L_law_1496 : mv_look m_L_law.2.2.2.1 32 1496 = some (.invokevirtual 219, 0, []) := by decide +kernel
theorem i_L_law_1499 : mv_look m_L_law.2.2.2.1 32 1499 = some (.aload_n 2, 0, []) := by decide +kernel
theorem i_L_law_1500 : mv_look m_L_law.2.2.2.1 32 1500 = some (.invokevirtual 222, 0, []) := by decide +kernel
theorem i_L_law_1503 : mv_look m_L_law.2.2.2.1 32 1503 = some (.if_icmp .eq 1249, 2752, []) := by decide +kernel
theorem i_L_law_1506 : mv_look m_L_law.2.2.2.1 32 1506 = some (.iconst 0, 0, []) := by decide +kernel
theorem i_L_law_1507 : mv_look m_L_law.2.2.2.1 32 1507 = some (.ireturn, 0, []) := by decide +kernel
theorem i_L_law_1508 : mv_look m_L_law.2.2.2.1 32 1508 = some (.aload_n 1, 0, []) := by decide +kernel
theorem i_L_law_1509 : mv_look m_L_law.2.2.2.1 32 1509 = some (.invokevirtual 223, 0, []) := by decide +kernel
theorem i_L_law_1512 : mv_look m_L_law.2.2.2.1 32 1512 = some (.aload_n 2, 0, []) := by decide +kernel
theorem i_L_law_1513 : mv_look m_L_law.2.2.2.1 32 1513 = some (.invokevirtual 226, 0, []) := by decide +kernel
theorem i_L_law_1516 : mv_look m_L_law.2.2.2.1 32 1516 = some (.if_icmp .eq 1236, 2752, []) := by decide +kernel
theorem i_L_law_1519 : mv_look m_L_law.2.2.2.1 32 1519 = some (.iconst 0, 0, []) := by decide +kernel
theorem i_L_law_1520 : mv_look m_L_law.2.2.2.1 32 1520 = some (.ireturn, 0, []) := by decide +kernel
theorem i_L_law_1521 : mv_look m_L_law.2.2.2.1 32 1521 = some (.aload_n 1, 0, []) := by decide +kernel
theorem i_L_law_1522 : mv_look m_L_law.2.2.2.1 32 1522 = some (.aload_n 0, 0, []) := by decide +kernel
theorem i_L_law_1523 : mv_look m_L_law.2.2.2.1 32 1523 = some (.iload 5, 0, []) := by decide +kernel
theorem i_L_law_1525 : mv_look m_L_law.2.2.2.1 32 1525 = some (.iconst 1, 0, []) := by decide +kernel
theorem i_L_law_1526 : mv_look m_L_law.2.2.2.1 32 1526 = some (.iadd, 0, []) := by decide +kernel
theorem i_L_law_1527 : mv_look m_L_law.2.2.2.1 32 1527 = some (.iaload, 0, []) := by decide +kernel
theorem i_L_law_1528 : mv_look m_L_law.2.2.2.1 32 1528 = some (.aload_n 3, 0, []) := by decide +kernel
theorem i_L_law_1529 : mv_look m_L_law.2.2.2.1 32 1529 = some (.invokestatic 227, 0, []) := by decide +kernel
theorem i_L_law_1532 : mv_look m_L_law.2.2.2.1 32 1532 = some (.istore 6, 0, []) := by decide +kernel
theorem i_L_law_1534 : mv_look m_L_law.2.2.2.1 32 1534 = some (.aload_n 2, 0, []) := by decide +kernel
theorem i_L_law_1535 : mv_look m_L_law.2.2.2.1 32 1535 = some (.aload_n 0, 0, []) := by decide +kernel
theorem i_L_law_1536 : mv_look m_L_law.2.2.2.1 32 1536 = some (.iload 5, 0, []) := by decide +kernel
theorem i_L_law_1538 : mv_look m_L_law.2.2.2.1 32 1538 = some (.iconst 1, 0, []) := by decide +kernel
theorem i_L_law_1539 : mv_look m_L_law.2.2.2.1 32 1539 = some (.iadd, 0, []) := by decide +kernel
theorem i_L_law_1540 : mv_look m_L_law.2.2.2.1 32 1540 = some (.iaload, 0, []) := by decide +kernel
theorem i_L_law_1541 : mv_look m_L_law.2.2.2.1 32 1541 = some (.invokevirtual 229, 0, []) := by decide +kernel
theorem i_L_law_1544 : mv_look m_L_law.2.2.2.1 32 1544 = some (.istore 7, 0, []) := by decide +kernel
theorem i_L_law_1546 : mv_look m_L_law.2.2.2.1 32 1546 = some (.aload_n 2, 0, []) := by decide +kernel
theorem i_L_law_1547 : mv_look m_L_law.2.2.2.1 32 1547 = some (.invokevirtual 156, 0, []) := by decide +kernel
theorem i_L_law_1550 : mv_look m_L_law.2.2.2.1 32 1550 = some (.iload 6, 0, []) := by decide +kernel
theorem i_L_law_1552 : mv_look m_L_law.2.2.2.1 32 1552 = some (.if_icmp .eq 5, 1557, []) := by decide +kernel
theorem i_L_law_1555 : mv_look m_L_law.2.2.2.1 32 1555 = some (.iconst 0, 0, []) := by decide +kernel
theorem i_L_law_1556 : mv_look m_L_law.2.2.2.1 32 1556 = some (.ireturn, 0, []) := by decide +kernel
theorem i_L_law_1557 : mv_look m_L_law.2.2.2.1 32 1557 = some (.iload 6, 0, []) := by decide +kernel
theorem i_L_law_1559 : mv_look m_L_law.2.2.2.1 32 1559 = some (.ifCond .ne 15, 1574, []) := by decide +kernel
theorem i_L_law_1562 : mv_look m_L_law.2.2.2.1 32 1562 = some (.aload_n 3, 0, []) := by decide +kernel
theorem i_L_law_1563 : mv_look m_L_law.2.2.2.1 32 1563 = some (.iconst 0, 0, []) := by decide +kernel
theorem i_L_law_1564 : mv_look m_L_law.2.2.2.1 32 1564 = some (.laload, 0, []) := by decide +kernel
theorem i_L_law_1565 : mv_look m_L_law.2.2.2.1 32 1565 = some (.iload 7, 0, []) := by decide +kernel
theorem i_L_law_1567 : mv_look m_L_law.2.2.2.1 32 1567 = some (.i2l, 0, []) := by decide +kernel
theorem i_L_law_1568 : mv_look m_L_law.2.2.2.1 32 1568 = some (.lcmp, 0, []) := by decide +kernel
theorem i_L_law_1569 : mv_look m_L_law.2.2.2.1 32 1569 = some (.ifCond .eq 5, 1574, []) := by decide +kernel
theorem i_L_law_1572 : mv_look m_L_law.2.2.2.1 32 1572 = some (.iconst 0, 0, []) := by decide +kernel
theorem i_L_law_1573 : mv_look m_L_law.2.2.2.1 32 1573 = some (.ireturn, 0, []) := by decide +kernel
theorem i_L_law_1574 : mv_look m_L_law.2.2.2.1 32 1574 = some (.goto 1178, 2752, []) := by decide +kernel
theorem i_L_law_1577 : mv_look m_L_law.2.2.2.1 32 1577 = some (.aload_n 1, 0, []) := by decide +kernel
theorem i_L_law_1578 : mv_look m_L_law.2.2.2.1 32 1578 = some (.aload_n 0, 0, []) := by decide +kernel
theorem i_L_law_1579 : mv_look m_L_law.2.2.2.1 32 1579 = some (.iload 5, 0, []) := by decide +kernel
theorem i_L_law_1581 : mv_look m_L_law.2.2.2.1 32 1581 = some (.iconst 1, 0, []) := by decide +kernel
theorem i_L_law_1582 : mv_look m_L_law.2.2.2.1 32 1582 = some (.iadd, 0, []) := by decide +kernel
theorem i_L_law_1583 : mv_look m_L_law.2.2.2.1 32 1583 = some (.iaload, 0, []) := by decide +kernel
theorem i_L_law_1584 : mv_look m_L_law.2.2.2.1 32 1584 = some (.aload_n 3, 0, []) := by decide +kernel
theorem i_L_law_1585 : mv_look m_L_law.2.2.2.1 32 1585 = some (.invokestatic 230, 0, []) := by decide +kernel
theorem i_L_law_1588 : mv_look m_L_law.2.2.2.1 32 1588 = some (.istore 6, 0, []) := by decide +kernel
theorem i_L_law_1590 : mv_look m_L_law.2.2.2.1 32 1590 = some (.aload_n 2, 0, []) := by decide +kernel
theorem i_L_law_1591 : mv_look m_L_law.2.2.2.1 32 1591 = some (.aload_n 0, 0, []) := by decide +kernel
theorem i_L_law_1592 : mv_look m_L_law.2.2.2.1 32 1592 = some (.iload 5, 0, []) := by decide +kernel
theorem i_L_law_1594 : mv_look m_L_law.2.2.2.1 32 1594 = some (.iconst 1, 0, []) := by decide +kernel
theorem i_L_law_1595 : mv_look m_L_law.2.2.2.1 32 1595 = some (.iadd, 0, []) := by decide +kernel
theorem i_L_law_1596 : mv_look m_L_law.2.2.2.1 32 1596 = some (.iaload, 0, []) := by decide +kernel
theorem i_L_law_1597 : mv_look m_L_law.2.2.2.1 32 1597 = some (.invokevirtual 232, 0, []) := by decide +kernel
theorem i_L_law_1600 : mv_look m_L_law.2.2.2.1 32 1600 = some (.istore 7, 0, []) := by decide +kernel
theorem i_L_law_1602 : mv_look m_L_law.2.2.2.1 32 1602 = some (.aload_n 2, 0, []) := by decide +kernel
theorem i_L_law_1603 : mv_look m_L_law.2.2.2.1 32 1603 = some (.invokevirtual 156, 0, []) := by decide +kernel
theorem i_L_law_1606 : mv_look m_L_law.2.2.2.1 32 1606 = some (.iload 6, 0, []) := by decide +kernel
theorem i_L_law_1608 : mv_look m_L_law.2.2.2.1 32 1608 = some (.if_icmp .eq 5, 1613, []) := by decide +kernel
theorem i_L_law_1611 : mv_look m_L_law.2.2.2.1 32 1611 = some (.iconst 0, 0, []) := by decide +kernel
theorem i_L_law_1612 : mv_look m_L_law.2.2.2.1 32 1612 = some (.ireturn, 0, []) := by decide +kernel
theorem i_L_law_1613 : mv_look m_L_law.2.2.2.1 32 1613 = some (.iload 6, 0, []) := by decide +kernel
theorem i_L_law_1615 : mv_look m_L_law.2.2.2.1 32 1615 = some (.ifCond .ne 15, 1630, []) := by decide +kernel
theorem i_L_law_1618 : mv_look m_L_law.2.2.2.1 32 1618 = some (.aload_n 3, 0, []) := by decide +kernel
theorem i_L_law_1619 : mv_look m_L_law.2.2.2.1 32 1619 = some (.iconst 0, 0, []) := by decide +kernel
theorem i_L_law_1620 : mv_look m_L_law.2.2.2.1 32 1620 = some (.laload, 0, []) := by decide +kernel
theorem i_L_law_1621 : mv_look m_L_law.2.2.2.1 32 1621 = some (.iload 7, 0, []) := by decide +kernel
theorem i_L_law_1623 : mv_look m_L_law.2.2.2.1 32 1623 = some (.i2l, 0, []) := by decide +kernel
theorem i_L_law_1624 : mv_look m_L_law.2.2.2.1 32 1624 = some (.lcmp, 0, []) := by decide +kernel
theorem i_L_law_1625 : mv_look m_L_law.2.2.2.1 32 1625 = some (.ifCond .eq 5, 1630, []) := by decide +kernel
theorem i_L_law_1628 : mv_look m_L_law.2.2.2.1 32 1628 = some (.iconst 0, 0, []) := by decide +kernel
theorem i_L_law_1629 : mv_look m_L_law.2.2.2.1 32 1629 = some (.ireturn, 0, []) := by decide +kernel
theorem i_L_law_1630 : mv_look m_L_law.2.2.2.1 32 1630 = some (.goto 1122, 2752, []) := by decide +kernel
theorem i_L_law_1633 : mv_look m_L_law.2.2.2.1 32 1633 = some (.aload_n 1, 0, []) := by decide +kernel
theorem i_L_law_1634 : mv_look m_L_law.2.2.2.1 32 1634 = some (.aload_n 0, 0, []) := by decide +kernel
theorem i_L_law_1635 : mv_look m_L_law.2.2.2.1 32 1635 = some (.iload 5, 0, []) := by decide +kernel
theorem i_L_law_1637 : mv_look m_L_law.2.2.2.1 32 1637 = some (.iconst 1, 0, []) := by decide +kernel
theorem i_L_law_1638 : mv_look m_L_law.2.2.2.1 32 1638 = some (.iadd, 0, []) := by decide +kernel
theorem i_L_law_1639 : mv_look m_L_law.2.2.2.1 32 1639 = some (.iaload, 0, []) := by decide +kernel
theorem i_L_law_1640 : mv_look m_L_law.2.2.2.1 32 1640 = some (.aload_n 0, 0, []) := by decide +kernel
theorem i_L_law_1641 : mv_look m_L_law.2.2.2.1 32 1641 = some (.iload 5, 0, []) := by decide +kernel
theorem i_L_law_1643 : mv_look m_L_law.2.2.2.1 32 1643 = some (.iconst 2, 0, []) := by decide +kernel
theorem i_L_law_1644 : mv_look m_L_law.2.2.2.1 32 1644 = some (.iadd, 0, []) := by decide +kernel
theorem i_L_law_1645 : mv_look m_L_law.2.2.2.1 32 1645 = some (.iaload, 0, []) := by decide +kernel
theorem i_L_law_1646 : mv_look m_L_law.2.2.2.1 32 1646 = some (.aload_n 0, 0, []) := by decide +kernel
theorem i_L_law_1647 : mv_look m_L_law.2.2.2.1 32 1647 = some (.iload 5, 0, []) := by decide +kernel
theorem i_L_law_1649 : mv_look m_L_law.2.2.2.1 32 1649 = some (.iconst 3, 0, []) := by decide +kernel
theorem i_L_law_1650 : mv_look m_L_law.2.2.2.1 32 1650 = some (.iadd, 0, []) := by decide +kernel
theorem i_L_law_1651 : mv_look m_L_law.2.2.2.1 32 1651 = some (.iaload, 0, []) := by decide +kernel
theorem i_L_law_1652 : mv_look m_L_law.2.2.2.1 32 1652 = some (.aload_n 3, 0, []) := by decide +kernel
theorem i_L_law_1653 : mv_look m_L_law.2.2.2.1 32 1653 = some (.invokestatic 233, 0, []) := by decide +kernel
theorem i_L_law_1656 : mv_look m_L_law.2.2.2.1 32 1656 = some (.istore 6, 0, []) := by decide +kernel
theorem i_L_law_1658 : mv_look m_L_law.2.2.2.1 32 1658 = some (.aload_n 2, 0, []) := by decide +kernel
theorem i_L_law_1659 : mv_look m_L_law.2.2.2.1 32 1659 = some (.aload_n 0, 0, []) := by decide +kernel
theorem i_L_law_1660 : mv_look m_L_law.2.2.2.1 32 1660 = some (.iload 5, 0, []) := by decide +kernel
theorem i_L_law_1662 : mv_look m_L_law.2.2.2.1 32 1662 = some (.iconst 1, 0, []) := by decide +kernel
theorem i_L_law_1663 : mv_look m_L_law.2.2.2.1 32 1663 = some (.iadd, 0, []) := by decide +kernel
theorem i_L_law_1664 : mv_look m_L_law.2.2.2.1 32 1664 = some (.iaload, 0, []) := by decide +kernel
theorem i_L_law_1665 : mv_look m_L_law.2.2.2.1 32 1665 = some (.aload_n 0, 0, []) := by decide +kernel
theorem i_L_law_1666 : mv_look m_L_law.2.2.2.1 32 1666 = some (.iload 5, 0, []) := by decide +kernel
theorem i_L_law_1668 : mv_look m_L_law.2.2.2.1 32 1668 = some (.iconst 2, 0, []) := by decide +kernel
theorem i_L_law_1669 : mv_look m_L_law.2.2.2.1 32 1669 = some (.iadd, 0, []) := by decide +kernel
theorem i_L_law_1670 : mv_look m_L_law.2.2.2.1 32 1670 = some (.iaload, 0, []) := by decide +kernel
theorem i_L_law_1671 : mv_look m_L_law.2.2.2.1 32 1671 = some (.aload_n 0, 0, []) := by decide +kernel
theorem i_L_law_1672 : mv_look m_L_law.2.2.2.1 32 1672 = some (.iload 5, 0, []) := by decide +kernel
theorem i_L_law_1674 : mv_look m_L_law.2.2.2.1 32 1674 = some (.iconst 3, 0, []) := by decide +kernel
theorem i_L_law_1675 : mv_look m_L_law.2.2.2.1 32 1675 = some (.iadd, 0, []) := by decide +kernel
theorem i_L_law_1676 : mv_look m_L_law.2.2.2.1 32 1676 = some (.iaload, 0, []) := by decide +kernel
theorem i_L_law_1677 : mv_look m_L_law.2.2.2.1 32 1677 = some (.invokevirtual 236, 0, []) := by decide +kernel
theorem i_L_law_1680 : mv_look m_L_law.2.2.2.1 32 1680 = some (.istore 7, 0, []) := by decide +kernel
theorem i_L_law_1682 : mv_look m_L_law.2.2.2.1 32 1682 = some (.aload_n 2, 0, []) := by decide +kernel
theorem i_L_law_1683 : mv_look m_L_law.2.2.2.1 32 1683 = some (.invokevirtual 156, 0, []) := by decide +kernel
theorem i_L_law_1686 : mv_look m_L_law.2.2.2.1 32 1686 = some (.iload 6, 0, []) := by decide +kernel
theorem i_L_law_1688 : mv_look m_L_law.2.2.2.1 32 1688 = some (.if_icmp .eq 5, 1693, []) := by decide +kernel
theorem i_L_law_1691 : mv_look m_L_law.2.2.2.1 32 1691 = some (.iconst 0, 0, []) := by decide +kernel
theorem i_L_law_1692 : mv_look m_L_law.2.2.2.1 32 1692 = some (.ireturn, 0, []) := by decide +kernel
theorem i_L_law_1693 : mv_look m_L_law.2.2.2.1 32 1693 = some (.iload 6, 0, []) := by decide +kernel
theorem i_L_law_1695 : mv_look m_L_law.2.2.2.1 32 1695 = some (.ifCond .ne 15, 1710, []) := by decide +kernel
theorem i_L_law_1698 : mv_look m_L_law.2.2.2.1 32 1698 = some (.aload_n 3, 0, []) := by decide +kernel
theorem i_L_law_1699 : mv_look m_L_law.2.2.2.1 32 1699 = some (.iconst 0, 0, []) := by decide +kernel
theorem i_L_law_1700 : mv_look m_L_law.2.2.2.1 32 1700 = some (.laload, 0, []) := by decide +kernel
theorem i_L_law_1701 : mv_look m_L_law.2.2.2.1 32 1701 = some (.iload 7, 0, []) := by decide +kernel
theorem i_L_law_1703 : mv_look m_L_law.2.2.2.1 32 1703 = some (.i2l, 0, []) := by decide +kernel
theorem i_L_law_1704 : mv_look m_L_law.2.2.2.1 32 1704 = some (.lcmp, 0, []) := by decide +kernel
theorem i_L_law_1705 : mv_look m_L_law.2.2.2.1 32 1705 = some (.ifCond .eq 5, 1710, []) := by decide +kernel
theorem i_L_law_1708 : mv_look m_L_law.2.2.2.1 32 1708 = some (.iconst 0, 0, []) := by decide +kernel
theorem i_L_law_1709 : mv_look m_L_law.2.2.2.1 32 1709 = some (.ireturn, 0, []) := by decide +kernel
theorem i_L_law_1710 : mv_look m_L_law.2.2.2.1 32 1710 = some (.goto 1042, 2752, []) := by decide +kernel
theorem i_L_law_1713 : mv_look m_L_law.2.2.2.1 32 1713 = some (.aload_n 1, 0, []) := by decide +kernel
theorem i_L_law_1714 : mv_look m_L_law.2.2.2.1 32 1714 = some (.aload_n 0, 0, []) := by decide +kernel
theorem i_L_law_1715 : mv_look m_L_law.2.2.2.1 32 1715 = some (.iload 5, 0, []) := by decide +kernel
theorem i_L_law_1717 : mv_look m_L_law.2.2.2.1 32 1717 = some (.iconst 1, 0, []) := by decide +kernel
theorem i_L_law_1718 : mv_look m_L_law.2.2.2.1 32 1718 = some (.iadd, 0, []) := by decide +kernel
theorem i_L_law_1719 : mv_look m_L_law.2.2.2.1 32 1719 = some (.iaload, 0, []) := by decide +kernel
theorem i_L_law_1720 : mv_look m_L_law.2.2.2.1 32 1720 = some (.aload_n 3, 0, []) := by decide +kernel
theorem i_L_law_1721 : mv_look m_L_law.2.2.2.1 32 1721 = some (.invokestatic 237, 0, []) := by decide +kernel
theorem i_L_law_1724 : mv_look m_L_law.2.2.2.1 32 1724 = some (.istore 6, 0, []) := by decide +kernel
theorem i_L_law_1726 : mv_look m_L_law.2.2.2.1 32 1726 = some (.aload_n 2, 0, []) := by decide +kernel
theorem i_L_law_1727 : mv_look m_L_law.2.2.2.1 32 1727 = some (.aload_n 0, 0, []) := by decide +kernel
theorem i_L_law_1728 : mv_look m_L_law.2.2.2.1 32 1728 = some (.iload 5, 0, []) := by decide +kernel
theorem i_L_law_1730 : mv_look m_L_law.2.2.2.1 32 1730 = some (.iconst 1, 0, []) := by decide +kernel
theorem i_L_law_1731 : mv_look m_L_law.2.2.2.1 32 1731 = some (.iadd, 0, []) := by decide +kernel
theorem i_L_law_1732 : mv_look m_L_law.2.2.2.1 32 1732 = some (.iaload, 0, []) := by decide +kernel
theorem i_L_law_1733 : mv_look m_L_law.2.2.2.1 32 1733 = some (.invokevirtual 239, 0, []) := by decide +kernel
theorem i_L_law_1736 : mv_look m_L_law.2.2.2.1 32 1736 = some (.istore 7, 0, []) := by decide +kernel
theorem i_L_law_1738 : mv_look m_L_law.2.2.2.1 32 1738 = some (.aload_n 2, 0, []) := by decide +kernel
theorem i_L_law_1739 : mv_look m_L_law.2.2.2.1 32 1739 = some (.invokevirtual 156, 0, []) := by decide +kernel
theorem i_L_law_1742 : mv_look m_L_law.2.2.2.1 32 1742 = some (.iload 6, 0, []) := by decide +kernel
theorem i_L_law_1744 : mv_look m_L_law.2.2.2.1 32 1744 = some (.if_icmp .eq 5, 1749, []) := by decide +kernel
theorem i_L_law_1747 : mv_look m_L_law.2.2.2.1 32 1747 = some (.iconst 0, 0, []) := by decide +kernel
theorem i_L_law_1748 : mv_look m_L_law.2.2.2.1 32 1748 = some (.ireturn, 0, []) := by decide +kernel
theorem i_L_law_1749 : mv_look m_L_law.2.2.2.1 32 1749 = some (.iload 6, 0, []) := by decide +kernel
theorem i_L_law_1751 : mv_look m_L_law.2.2.2.1 32 1751 = some (.ifCond .ne 15, 1766, []) := by decide +kernel
theorem i_L_law_1754 : mv_look m_L_law.2.2.2.1 32 1754 = some (.aload_n 3, 0, []) := by decide +kernel
theorem i_L_law_1755 : mv_look m_L_law.2.2.2.1 32 1755 = some (.iconst 0, 0, []) := by decide +kernel
theorem i_L_law_1756 : mv_look m_L_law.2.2.2.1 32 1756 = some (.laload, 0, []) := by decide +kernel
theorem i_L_law_1757 : mv_look m_L_law.2.2.2.1 32 1757 = some (.iload 7, 0, []) := by decide +kernel
theorem i_L_law_1759 : mv_look m_L_law.2.2.2.1 32 1759 = some (.i2l, 0, []) := by decide +kernel
theorem i_L_law_1760 : mv_look m_L_law.2.2.2.1 32 1760 = some (.lcmp, 0, []) := by decide +kernel
theorem i_L_law_1761 : mv_look m_L_law.2.2.2.1 32 1761 = some (.ifCond .eq 5, 1766, []) := by decide +kernel
theorem i_L_law_1764 : mv_look m_L_law.2.2.2.1 32 1764 = some (.iconst 0, 0, []) := by decide +kernel
theorem i_L_law_1765 : mv_look m_L_law.2.2.2.1 32 1765 = some (.ireturn, 0, []) := by decide +kernel
theorem i_L_law_1766 : mv_look m_L_law.2.2.2.1 32 1766 = some (.goto 986, 2752, []) := by decide +kernel
theorem i_L_law_1769 : mv_look m_L_law.2.2.2.1 32 1769 = some (.aload_n 1, 0, []) := by decide +kernel
theorem i_L_law_1770 : mv_look m_L_law.2.2.2.1 32 1770 = some (.invokevirtual 240, 0, []) := by decide +kernel
theorem i_L_law_1773 : mv_look m_L_law.2.2.2.1 32 1773 = some (.aload_n 2, 0, []) := by decide +kernel
theorem i_L_law_1774 : mv_look m_L_law.2.2.2.1 32 1774 = some (.invokevirtual 243, 0, []) := by decide +kernel
theorem i_L_law_1777 : mv_look m_L_law.2.2.2.1 32 1777 = some (.if_icmp .eq 975, 2752, []) := by decide +kernel
theorem i_L_law_1780 : mv_look m_L_law.2.2.2.1 32 1780 = some (.iconst 0, 0, []) := by decide +kernel
theorem i_L_law_1781 : mv_look m_L_law.2.2.2.1 32 1781 = some (.ireturn, 0, []) := by decide +kernel
theorem i_L_law_1782 : mv_look m_L_law.2.2.2.1 32 1782 = some (.aload_n 1, 0, []) := by decide +kernel
theorem i_L_law_1783 : mv_look m_L_law.2.2.2.1 32 1783 = some (.aload_n 0, 0, []) := by decide +kernel
theorem i_L_law_1784 : mv_look m_L_law.2.2.2.1 32 1784 = some (.iload 5, 0, []) := by decide +kernel
theorem i_L_law_1786 : mv_look m_L_law.2.2.2.1 32 1786 = some (.iconst 1, 0, []) := by decide +kernel
theorem i_L_law_1787 : mv_look m_L_law.2.2.2.1 32 1787 = some (.iadd, 0, []) := by decide +kernel
theorem i_L_law_1788 : mv_look m_L_law.2.2.2.1 32 1788 = some (.iaload, 0, []) := by decide +kernel
theorem i_L_law_1789 : mv_look m_L_law.2.2.2.1 32 1789 = some (.aload_n 0, 0, []) := by decide +kernel
theorem i_L_law_1790 : mv_look m_L_law.2.2.2.1 32 1790 = some (.iload 5, 0, []) := by decide +kernel
theorem i_L_law_1792 : mv_look m_L_law.2.2.2.1 32 1792 = some (.iconst 2, 0, []) := by decide +kernel
theorem i_L_law_1793 : mv_look m_L_law.2.2.2.1 32 1793 = some (.iadd, 0, []) := by decide +kernel
theorem i_L_law_1794 : mv_look m_L_law.2.2.2.1 32 1794 = some (.iaload, 0, []) := by decide +kernel
theorem i_L_law_1795 : mv_look m_L_law.2.2.2.1 32 1795 = some (.aload_n 3, 0, []) := by decide +kernel
theorem i_L_law_1796 : mv_look m_L_law.2.2.2.1 32 1796 = some (.invokestatic 244, 0, []) := by decide +kernel
theorem i_L_law_1799 : mv_look m_L_law.2.2.2.1 32 1799 = some (.istore 6, 0, []) := by decide +kernel
theorem i_L_law_1801 : mv_look m_L_law.2.2.2.1 32 1801 = some (.aload_n 2, 0, []) := by decide +kernel
theorem i_L_law_1802 : mv_look m_L_law.2.2.2.1 32 1802 = some (.aload_n 0, 0, []) := by decide +kernel
theorem i_L_law_1803 : mv_look m_L_law.2.2.2.1 32 1803 = some (.iload 5, 0, []) := by decide +kernel
theorem i_L_law_1805 : mv_look m_L_law.2.2.2.1 32 1805 = some (.iconst 1, 0, []) := by decide +kernel
theorem i_L_law_1806 : mv_look m_L_law.2.2.2.1 32 1806 = some (.iadd, 0, []) := by decide +kernel
theorem i_L_law_1807 : mv_look m_L_law.2.2.2.1 32 1807 = some (.iaload, 0, []) := by decide +kernel
theorem i_L_law_1808 : mv_look m_L_law.2.2.2.1 32 1808 = some (.aload_n 0, 0, []) := by decide +kernel
theorem i_L_law_1809 : mv_look m_L_law.2.2.2.1 32 1809 = some (.iload 5, 0, []) := by decide +kernel
theorem i_L_law_1811 : mv_look m_L_law.2.2.2.1 32 1811 = some (.iconst 2, 0, []) := by decide +kernel
theorem i_L_law_1812 : mv_look m_L_law.2.2.2.1 32 1812 = some (.iadd, 0, []) := by decide +kernel
theorem i_L_law_1813 : mv_look m_L_law.2.2.2.1 32 1813 = some (.iaload, 0, []) := by decide +kernel
theorem i_L_law_1814 : mv_look m_L_law.2.2.2.1 32 1814 = some (.invokevirtual 246, 0, []) := by decide +kernel
theorem i_L_law_1817 : mv_look m_L_law.2.2.2.1 32 1817 = some (.istore 7, 0, []) := by decide +kernel
theorem i_L_law_1819 : mv_look m_L_law.2.2.2.1 32 1819 = some (.aload_n 2, 0, []) := by decide +kernel
theorem i_L_law_1820 : mv_look m_L_law.2.2.2.1 32 1820 = some (.invokevirtual 156, 0, []) := by decide +kernel
theorem i_L_law_1823 : mv_look m_L_law.2.2.2.1 32 1823 = some (.iload 6, 0, []) := by decide +kernel
theorem i_L_law_1825 : mv_look m_L_law.2.2.2.1 32 1825 = some (.if_icmp .eq 5, 1830, []) := by decide +kernel
theorem i_L_law_1828 : mv_look m_L_law.2.2.2.1 32 1828 = some (.iconst 0, 0, []) := by decide +kernel
theorem i_L_law_1829 : mv_look m_L_law.2.2.2.1 32 1829 = some (.ireturn, 0, []) := by decide +kernel
theorem i_L_law_1830 : mv_look m_L_law.2.2.2.1 32 1830 = some (.iload 6, 0, []) := by decide +kernel
theorem i_L_law_1832 : mv_look m_L_law.2.2.2.1 32 1832 = some (.ifCond .ne 22, 1854, []) := by decide +kernel
theorem i_L_law_1835 : mv_look m_L_law.2.2.2.1 32 1835 = some (.aload_n 3, 0, []) := by decide +kernel
theorem i_L_law_1836 : mv_look m_L_law.2.2.2.1 32 1836 = some (.iconst 0, 0, []) := by decide +kernel
theorem i_L_law_1837 : mv_look m_L_law.2.2.2.1 32 1837 = some (.laload, 0, []) := by decide +kernel
theorem i_L_law_1838 : mv_look m_L_law.2.2.2.1 32 1838 = some (.iload 7, 0, []) := by decide +kernel
theorem i_L_law_1840 : mv_look m_L_law.2.2.2.1 32 1840 = some (.ifCond .eq 7, 1847, []) := by decide +kernel
theorem i_L_law_1843 : mv_look m_L_law.2.2.2.1 32 1843 = some (.lconst 1, 0, []) := by decide +kernel
theorem i_L_law_1844 : mv_look m_L_law.2.2.2.1 32 1844 = some (.goto 4, 1848, []) := by decide +kernel
theorem i_L_law_1847 : mv_look m_L_law.2.2.2.1 32 1847 = some (.lconst 0, 0, []) := by decide +kernel
theorem i_L_law_1848 : mv_look m_L_law.2.2.2.1 32 1848 = some (.lcmp, 0, []) := by decide +kernel
theorem i_L_law_1849 : mv_look m_L_law.2.2.2.1 32 1849 = some (.ifCond .eq 5, 1854, []) := by decide +kernel
theorem i_L_law_1852 : mv_look m_L_law.2.2.2.1 32 1852 = some (.iconst 0, 0, []) := by decide +kernel
theorem i_L_law_1853 : mv_look m_L_law.2.2.2.1 32 1853 = some (.ireturn, 0, []) := by decide +kernel
theorem i_L_law_1854 : mv_look m_L_law.2.2.2.1 32 1854 = some (.goto 898, 2752, []) := by decide +kernel
theorem i_L_law_1857 : mv_look m_L_law.2.2.2.1 32 1857 = some (.aload_n 1, 0, []) := by decide +kernel
theorem i_L_law_1858 : mv_look m_L_law.2.2.2.1 32 1858 = some (.aload_n 0, 0, []) := by decide +kernel
theorem i_L_law_1859 : mv_look m_L_law.2.2.2.1 32 1859 = some (.iload 5, 0, []) := by decide +kernel
theorem i_L_law_1861 : mv_look m_L_law.2.2.2.1 32 1861 = some (.iconst 1, 0, []) := by decide +kernel
theorem i_L_law_1862 : mv_look m_L_law.2.2.2.1 32 1862 = some (.iadd, 0, []) := by decide +kernel
theorem i_L_law_1863 : mv_look m_L_law.2.2.2.1 32 1863 = some (.iaload, 0, []) := by decide +kernel
theorem i_L_law_1864 : mv_look m_L_law.2.2.2.1 32 1864 = some (.aload_n 0, 0, []) := by decide +kernel
theorem i_L_law_1865 : mv_look m_L_law.2.2.2.1 32 1865 = some (.iload 5, 0, []) := by decide +kernel
theorem i_L_law_1867 : mv_look m_L_law.2.2.2.1 32 1867 = some (.iconst 2, 0, []) := by decide +kernel
theorem i_L_law_1868 : mv_look m_L_law.2.2.2.1 32 1868 = some (.iadd, 0, []) := by decide +kernel
theorem i_L_law_1869 : mv_look m_L_law.2.2.2.1 32 1869 = some (.iaload, 0, []) := by decide +kernel
theorem i_L_law_1870 : mv_look m_L_law.2.2.2.1 32 1870 = some (.aload_n 3, 0, []) := by decide +kernel
theorem i_L_law_1871 : mv_look m_L_law.2.2.2.1 32 1871 = some (.invokestatic 247, 0, []) := by decide +kernel
theorem i_L_law_1874 : mv_look m_L_law.2.2.2.1 32 1874 = some (.istore 6, 0, []) := by decide +kernel
theorem i_L_law_1876 : mv_look m_L_law.2.2.2.1 32 1876 = some (.aload_n 2, 0, []) := by decide +kernel
theorem i_L_law_1877 : mv_look m_L_law.2.2.2.1 32 1877 = some (.aload_n 0, 0, []) := by decide +kernel
theorem i_L_law_1878 : mv_look m_L_law.2.2.2.1 32 1878 = some (.iload 5, 0, []) := by decide +kernel
theorem i_L_law_1880 : mv_look m_L_law.2.2.2.1 32 1880 = some (.iconst 1, 0, []) := by decide +kernel
theorem i_L_law_1881 : mv_look m_L_law.2.2.2.1 32 1881 = some (.iadd, 0, []) := by decide +kernel
theorem i_L_law_1882 : mv_look m_L_law.2.2.2.1 32 1882 = some (.iaload, 0, []) := by decide +kernel
theorem i_L_law_1883 : mv_look m_L_law.2.2.2.1 32 1883 = some (.aload_n 0, 0, []) := by decide +kernel
theorem i_L_law_1884 : mv_look m_L_law.2.2.2.1 32 1884 = some (.iload 5, 0, []) := by decide +kernel
theorem i_L_law_1886 : mv_look m_L_law.2.2.2.1 32 1886 = some (.iconst 2, 0, []) := by decide +kernel
theorem i_L_law_1887 : mv_look m_L_law.2.2.2.1 32 1887 = some (.iadd, 0, []) := by decide +kernel
theorem i_L_law_1888 : mv_look m_L_law.2.2.2.1 32 1888 = some (.iaload, 0, []) := by decide +kernel
theorem i_L_law_1889 : mv_look m_L_law.2.2.2.1 32 1889 = some (.invokevirtual 249, 0, []) := by decide +kernel
theorem i_L_law_1892 : mv_look m_L_law.2.2.2.1 32 1892 = some (.istore 7, 0, []) := by decide +kernel
theorem i_L_law_1894 : mv_look m_L_law.2.2.2.1 32 1894 = some (.aload_n 2, 0, []) := by decide +kernel
theorem i_L_law_1895 : mv_look m_L_law.2.2.2.1 32 1895 = some (.invokevirtual 156, 0, []) := by decide +kernel
theorem i_L_law_1898 : mv_look m_L_law.2.2.2.1 32 1898 = some (.iload 6, 0, []) := by decide +kernel
theorem i_L_law_1900 : mv_look m_L_law.2.2.2.1 32 1900 = some (.if_icmp .eq 5, 1905, []) := by decide +kernel
theorem i_L_law_1903 : mv_look m_L_law.2.2.2.1 32 1903 = some (.iconst 0, 0, []) := by decide +kernel
theorem i_L_law_1904 : mv_look m_L_law.2.2.2.1 32 1904 = some (.ireturn, 0, []) := by decide +kernel
theorem i_L_law_1905 : mv_look m_L_law.2.2.2.1 32 1905 = some (.iload 6, 0, []) := by decide +kernel
theorem i_L_law_1907 : mv_look m_L_law.2.2.2.1 32 1907 = some (.ifCond .ne 22, 1929, []) := by decide +kernel
theorem i_L_law_1910 : mv_look m_L_law.2.2.2.1 32 1910 = some (.aload_n 3, 0, []) := by decide +kernel
theorem i_L_law_1911 : mv_look m_L_law.2.2.2.1 32 1911 = some (.iconst 0, 0, []) := by decide +kernel
theorem i_L_law_1912 : mv_look m_L_law.2.2.2.1 32 1912 = some (.laload, 0, []) := by decide +kernel
theorem i_L_law_1913 : mv_look m_L_law.2.2.2.1 32 1913 = some (.iload 7, 0, []) := by decide +kernel
theorem i_L_law_1915 : mv_look m_L_law.2.2.2.1 32 1915 = some (.ifCond .eq 7, 1922, []) := by decide +kernel
theorem i_L_law_1918 : mv_look m_L_law.2.2.2.1 32 1918 = some (.lconst 1, 0, []) := by decide +kernel
theorem i_L_law_1919 : mv_look m_L_law.2.2.2.1 32 1919 = some (.goto 4, 1923, []) := by decide +kernel
theorem i_L_law_1922 : mv_look m_L_law.2.2.2.1 32 1922 = some (.lconst 0, 0, []) := by decide +kernel
theorem i_L_law_1923 : mv_look m_L_law.2.2.2.1 32 1923 = some (.lcmp, 0, []) := by decide +kernel
theorem i_L_law_1924 : mv_look m_L_law.2.2.2.1 32 1924 = some (.ifCond .eq 5, 1929, []) := by decide +kernel
theorem i_L_law_1927 : mv_look m_L_law.2.2.2.1 32 1927 = some (.iconst 0, 0, []) := by decide +kernel
theorem i_L_law_1928 : mv_look m_L_law.2.2.2.1 32 1928 = some (.ireturn, 0, []) := by decide +kernel
theorem i_L_law_1929 : mv_look m_L_law.2.2.2.1 32 1929 = some (.goto 823, 2752, []) := by decide +kernel
theorem i_L_law_1932 : mv_look m_L_law.2.2.2.1 32 1932 = some (.aload_n 1, 0, []) := by decide +kernel
theorem i_L_law_1933 : mv_look m_L_law.2.2.2.1 32 1933 = some (.invokevirtual 250, 0, []) := by decide +kernel
theorem i_L_law_1936 : mv_look m_L_law.2.2.2.1 32 1936 = some (.aload_n 2, 0, []) := by decide +kernel
theorem i_L_law_1937 : mv_look m_L_law.2.2.2.1 32 1937 = some (.invokevirtual 253, 0, []) := by decide +kernel
theorem i_L_law_1940 : mv_look m_L_law.2.2.2.1 32 1940 = some (.if_icmp .eq 812, 2752, []) := by decide +kernel
theorem i_L_law_1943 : mv_look m_L_law.2.2.2.1 32 1943 = some (.iconst 0, 0, []) := by decide +kernel
theorem i_L_law_1944 : mv_look m_L_law.2.2.2.1 32 1944 = some (.ireturn, 0, []) := by decide +kernel
theorem i_L_law_1945 : mv_look m_L_law.2.2.2.1 32 1945 = some (.aload_n 1, 0, []) := by decide +kernel
theorem i_L_law_1946 : mv_look m_L_law.2.2.2.1 32 1946 = some (.invokevirtual 254, 0, []) := by decide +kernel
theorem i_L_law_1949 : mv_look m_L_law.2.2.2.1 32 1949 = some (.aload_n 2, 0, []) := by decide +kernel
theorem i_L_law_1950 : mv_look m_L_law.2.2.2.1 32 1950 = some (.invokevirtual 257, 0, []) := by decide +kernel
theorem i_L_law_1953 : mv_look m_L_law.2.2.2.1 32 1953 = some (.if_icmp .eq 799, 2752, []) := by decide +kernel
theorem i_L_law_1956 : mv_look m_L_law.2.2.2.1 32 1956 = some (.iconst 0, 0, []) := by decide +kernel
theorem i_L_law_1957 : mv_look m_L_law.2.2.2.1 32 1957 = some (.ireturn, 0, []) := by decide +kernel
theorem i_L_law_1958 : mv_look m_L_law.2.2.2.1 32 1958 = some (.aload_n 1, 0, []) := by decide +kernel
theorem i_L_law_1959 : mv_look m_L_law.2.2.2.1 32 1959 = some (.aload_n 0, 0, []) := by decide +kernel
theorem i_L_law_1960 : mv_look m_L_law.2.2.2.1 32 1960 = some (.iload 5, 0, []) := by decide +kernel
theorem i_L_law_1962 : mv_look m_L_law.2.2.2.1 32 1962 = some (.iconst 1, 0, []) := by decide +kernel
theorem i_L_law_1963 : mv_look m_L_law.2.2.2.1 32 1963 = some (.iadd, 0, []) := by decide +kernel
theorem i_L_law_1964 : mv_look m_L_law.2.2.2.1 32 1964 = some (.iaload, 0, []) := by decide +kernel
theorem i_L_law_1965 : mv_look m_L_law.2.2.2.1 32 1965 = some (.aload_n 3, 0, []) := by decide +kernel
theorem i_L_law_1966 : mv_look m_L_law.2.2.2.1 32 1966 = some (.invokestatic 258, 0, []) := by decide +kernel
theorem i_L_law_1969 : mv_look m_L_law.2.2.2.1 32 1969 = some (.istore 6, 0, []) := by decide +kernel
theorem i_L_law_1971 : mv_look m_L_law.2.2.2.1 32 1971 = some (.aload_n 2, 0, []) := by decide +kernel
theorem i_L_law_1972 : mv_look m_L_law.2.2.2.1 32 1972 = some (.aload_n 0, 0, []) := by decide +kernel
theorem i_L_law_1973 : mv_look m_L_law.2.2.2.1 32 1973 = some (.iload 5, 0, []) := by decide +kernel
theorem i_L_law_1975 : mv_look m_L_law.2.2.2.1 32 1975 = some (.iconst 1, 0, []) := by decide +kernel
theorem i_L_law_1976 : mv_look m_L_law.2.2.2.1 32 1976 = some (.iadd, 0, []) := by decide +kernel
theorem i_L_law_1977 : mv_look m_L_law.2.2.2.1 32 1977 = some (.iaload, 0, []) := by decide +kernel
theorem i_L_law_1978 : mv_look m_L_law.2.2.2.1 32 1978 = some (.invokevirtual 260, 0, []) := by decide +kernel
theorem i_L_law_1981 : mv_look m_L_law.2.2.2.1 32 1981 = some (.istore 7, 0, []) := by decide +kernel
theorem i_L_law_1983 : mv_look m_L_law.2.2.2.1 32 1983 = some (.aload_n 2, 0, []) := by decide +kernel
theorem i_L_law_1984 : mv_look m_L_law.2.2.2.1 32 1984 = some (.invokevirtual 156, 0, []) := by decide +kernel
theorem i_L_law_1987 : mv_look m_L_law.2.2.2.1 32 1987 = some (.iload 6, 0, []) := by decide +kernel
theorem i_L_law_1989 : mv_look m_L_law.2.2.2.1 32 1989 = some (.if_icmp .eq 5, 1994, []) := by decide +kernel
theorem i_L_law_1992 : mv_look m_L_law.2.2.2.1 32 1992 = some (.iconst 0, 0, []) := by decide +kernel
theorem i_L_law_1993 : mv_look m_L_law.2.2.2.1 32 1993 = some (.ireturn, 0, []) := by decide +kernel
theorem i_L_law_1994 : mv_look m_L_law.2.2.2.1 32 1994 = some (.iload 6, 0, []) := by decide +kernel
theorem i_L_law_1996 : mv_look m_L_law.2.2.2.1 32 1996 = some (.ifCond .ne 15, 2011, []) := by decide +kernel
theorem i_L_law_1999 : mv_look m_L_law.2.2.2.1 32 1999 = some (.aload_n 3, 0, []) := by decide +kernel
theorem i_L_law_2000 : mv_look m_L_law.2.2.2.1 32 2000 = some (.iconst 0, 0, []) := by decide +kernel
theorem i_L_law_2001 : mv_look m_L_law.2.2.2.1 32 2001 = some (.laload, 0, []) := by decide +kernel
theorem i_L_law_2002 : mv_look m_L_law.2.2.2.1 32 2002 = some (.iload 7, 0, []) := by decide +kernel
theorem i_L_law_2004 : mv_look m_L_law.2.2.2.1 32 2004 = some (.i2l, 0, []) := by decide +kernel
theorem i_L_law_2005 : mv_look m_L_law.2.2.2.1 32 2005 = some (.lcmp, 0, []) := by decide +kernel
theorem i_L_law_2006 : mv_look m_L_law.2.2.2.1 32 2006 = some (.ifCond .eq 5, 2011, []) := by decide +kernel
theorem i_L_law_2009 : mv_look m_L_law.2.2.2.1 32 2009 = some (.iconst 0, 0, []) := by decide +kernel
theorem i_L_law_2010 : mv_look m_L_law.2.2.2.1 32 2010 = some (.ireturn, 0, []) := by decide +kernel
theorem i_L_law_2011 : mv_look m_L_law.2.2.2.1 32 2011 = some (.goto 741, 2752, []) := by decide +kernel
theorem i_L_law_2014 : mv_look m_L_law.2.2.2.1 32 2014 = some (.aload_n 1, 0, []) := by decide +kernel
theorem i_L_law_2015 : mv_look m_L_law.2.2.2.1 32 2015 = some (.invokevirtual 261, 0, []) := by decide +kernel
theorem i_L_law_2018 : mv_look m_L_law.2.2.2.1 32 2018 = some (.aload_n 2, 0, []) := by decide +kernel
theorem i_L_law_2019 : mv_look m_L_law.2.2.2.1 32 2019 = some (.invokevirtual 264, 0, []) := by decide +kernel
theorem i_L_law_2022 : mv_look m_L_law.2.2.2.1 32 2022 = some (.if_icmp .eq 730, 2752, []) := by decide +kernel
theorem i_L_law_2025 : mv_look m_L_law.2.2.2.1 32 2025 = some (.iconst 0, 0, []) := by decide +kernel
theorem i_L_law_2026 : mv_look m_L_law.2.2.2.1 32 2026 = some (.ireturn, 0, []) := by decide +kernel
theorem i_L_law_2027 : mv_look m_L_law.2.2.2.1 32 2027 = some (.aload_n 1, 0, []) := by decide +kernel
theorem i_L_law_2028 : mv_look m_L_law.2.2.2.1 32 2028 = some (.invokevirtual 265, 0, []) := by decide +kernel
theorem i_L_law_2031 : mv_look m_L_law.2.2.2.1 32 2031 = some (.aload_n 2, 0, []) := by decide +kernel
theorem i_L_law_2032 : mv_look m_L_law.2.2.2.1 32 2032 = some (.invokevirtual 268, 0, []) := by decide +kernel
theorem i_L_law_2035 : mv_look m_L_law.2.2.2.1 32 2035 = some (.if_icmp .eq 717, 2752, []) := by decide +kernel
theorem i_L_law_2038 : mv_look m_L_law.2.2.2.1 32 2038 = some (.iconst 0, 0, []) := by decide +kernel
theorem i_L_law_2039 : mv_look m_L_law.2.2.2.1 32 2039 = some (.ireturn, 0, []) := by decide +kernel
theorem i_L_law_2040 : mv_look m_L_law.2.2.2.1 32 2040 = some (.aload_n 1, 0, []) := by decide +kernel
theorem i_L_law_2041 : mv_look m_L_law.2.2.2.1 32 2041 = some (.invokevirtual 269, 0, []) := by decide +kernel
theorem i_L_law_2044 : mv_look m_L_law.2.2.2.1 32 2044 = some (.aload_n 2, 0, []) := by decide +kernel
theorem i_L_law_2045 : mv_look m_L_law.2.2.2.1 32 2045 = some (.invokevirtual 272, 0, []) := by decide +kernel
theorem i_L_law_2048 : mv_look m_L_law.2.2.2.1 32 2048 = some (.if_icmp .eq 704, 2752, []) := by decide +kernel
theorem i_L_law_2051 : mv_look m_L_law.2.2.2.1 32 2051 = some (.iconst 0, 0, []) := by decide +kernel
theorem i_L_law_2052 : mv_look m_L_law.2.2.2.1 32 2052 = some (.ireturn, 0, []) := by decide +kernel
theorem i_L_law_2053 : mv_look m_L_law.2.2.2.1 32 2053 = some (.aload_n 1, 0, []) := by decide +kernel
theorem i_L_law_2054 : mv_look m_L_law.2.2.2.1 32 2054 = some (.invokevirtual 273, 0, []) := by decide +kernel
theorem i_L_law_2057 : mv_look m_L_law.2.2.2.1 32 2057 = some (.aload_n 2, 0, []) := by decide +kernel
theorem i_L_law_2058 : mv_look m_L_law.2.2.2.1 32 2058 = some (.invokevirtual 276, 0, []) := by decide +kernel
theorem i_L_law_2061 : mv_look m_L_law.2.2.2.1 32 2061 = some (.if_icmp .eq 691, 2752, []) := by decide +kernel
theorem i_L_law_2064 : mv_look m_L_law.2.2.2.1 32 2064 = some (.iconst 0, 0, []) := by decide +kernel
theorem i_L_law_2065 : mv_look m_L_law.2.2.2.1 32 2065 = some (.ireturn, 0, []) := by decide +kernel
theorem i_L_law_2066 : mv_look m_L_law.2.2.2.1 32 2066 = some (.aload_n 1, 0, []) := by decide +kernel
theorem i_L_law_2067 : mv_look m_L_law.2.2.2.1 32 2067 = some (.invokevirtual 277, 0, []) := by decide +kernel
theorem i_L_law_2070 : mv_look m_L_law.2.2.2.1 32 2070 = some (.aload_n 2, 0, []) := by decide +kernel
theorem i_L_law_2071 : mv_look m_L_law.2.2.2.1 32 2071 = some (.invokevirtual 280, 0, []) := by decide +kernel
theorem i_L_law_2074 : mv_look m_L_law.2.2.2.1 32 2074 = some (.if_icmp .eq 678, 2752, []) := by decide +kernel
theorem i_L_law_2077 : mv_look m_L_law.2.2.2.1 32 2077 = some (.iconst 0, 0, []) := by decide +kernel
theorem i_L_law_2078 : mv_look m_L_law.2.2.2.1 32 2078 = some (.ireturn, 0, []) := by decide +kernel
theorem i_L_law_2079 : mv_look m_L_law.2.2.2.1 32 2079 = some (.aload_n 1, 0, []) := by decide +kernel
theorem i_L_law_2080 : mv_look m_L_law.2.2.2.1 32 2080 = some (.invokevirtual 281, 0, []) := by decide +kernel
theorem i_L_law_2083 : mv_look m_L_law.2.2.2.1 32 2083 = some (.aload_n 2, 0, []) := by decide +kernel
theorem i_L_law_2084 : mv_look m_L_law.2.2.2.1 32 2084 = some (.invokevirtual 284, 0, []) := by decide +kernel
theorem i_L_law_2087 : mv_look m_L_law.2.2.2.1 32 2087 = some (.if_icmp .eq 665, 2752, []) := by decide +kernel
theorem i_L_law_2090 : mv_look m_L_law.2.2.2.1 32 2090 = some (.iconst 0, 0, []) := by decide +kernel
theorem i_L_law_2091 : mv_look m_L_law.2.2.2.1 32 2091 = some (.ireturn, 0, []) := by decide +kernel
theorem i_L_law_2092 : mv_look m_L_law.2.2.2.1 32 2092 = some (.aload_n 1, 0, []) := by decide +kernel
theorem i_L_law_2093 : mv_look m_L_law.2.2.2.1 32 2093 = some (.invokevirtual 285, 0, []) := by decide +kernel
theorem i_L_law_2096 : mv_look m_L_law.2.2.2.1 32 2096 = some (.aload_n 2, 0, []) := by decide +kernel
theorem i_L_law_2097 : mv_look m_L_law.2.2.2.1 32 2097 = some (.invokevirtual 288, 0, []) := by decide +kernel
theorem i_L_law_2100 : mv_look m_L_law.2.2.2.1 32 2100 = some (.if_icmp .eq 652, 2752, []) := by decide +kernel
theorem i_L_law_2103 : mv_look m_L_law.2.2.2.1 32 2103 = some (.iconst 0, 0, []) := by decide +kernel
theorem i_L_law_2104 : mv_look m_L_law.2.2.2.1 32 2104 = some (.ireturn, 0, []) := by decide +kernel
theorem i_L_law_2105 : mv_look m_L_law.2.2.2.1 32 2105 = some (.aload_n 1, 0, []) := by decide +kernel
theorem i_L_law_2106 : mv_look m_L_law.2.2.2.1 32 2106 = some (.aload 4, 0, []) := by decide +kernel
theorem i_L_law_2108 : mv_look m_L_law.2.2.2.1 32 2108 = some (.invokestatic 289, 0, []) := by decide +kernel
theorem i_L_law_2111 : mv_look m_L_law.2.2.2.1 32 2111 = some (.istore 6, 0, []) := by decide +kernel
theorem i_L_law_2113 : mv_look m_L_law.2.2.2.1 32 2113 = some (.aload_n 2, 0, []) := by decide +kernel
theorem i_L_law_2114 : mv_look m_L_law.2.2.2.1 32 2114 = some (.invokevirtual 292, 0, []) := by decide +kernel
theorem i_L_law_2117 : mv_look m_L_law.2.2.2.1 32 2117 = some (.dstore 7, 0, []) := by decide +kernel
theorem i_L_law_2119 : mv_look m_L_law.2.2.2.1 32 2119 = some (.aload_n 2, 0, []) := by decide +kernel
theorem i_L_law_2120 : mv_look m_L_law.2.2.2.1 32 2120 = some (.invokevirtual 156, 0, []) := by decide +kernel
theorem i_L_law_2123 : mv_look m_L_law.2.2.2.1 32 2123 = some (.iload 6, 0, []) := by decide +kernel
theorem i_L_law_2125 : mv_look m_L_law.2.2.2.1 32 2125 = some (.if_icmp .eq 5, 2130, []) := by decide +kernel
theorem i_L_law_2128 : mv_look m_L_law.2.2.2.1 32 2128 = some (.iconst 0, 0, []) := by decide +kernel
theorem i_L_law_2129 : mv_look m_L_law.2.2.2.1 32 2129 = some (.ireturn, 0, []) := by decide +kernel
theorem i_L_law_2130 : mv_look m_L_law.2.2.2.1 32 2130 = some (.iload 6, 0, []) := by decide +kernel
theorem i_L_law_2132 : mv_look m_L_law.2.2.2.1 32 2132 = some (.ifCond .ne 35, 2167, []) := by decide +kernel
theorem i_L_law_2135 : mv_look m_L_law.2.2.2.1 32 2135 = some (.aload 4, 0, []) := by decide +kernel
theorem i_L_law_2137 : mv_look m_L_law.2.2.2.1 32 2137 = some (.iconst 0, 0, []) := by decide +kernel
theorem i_L_law_2138 : mv_look m_L_law.2.2.2.1 32 2138 = some (.daload, 0, []) := by decide +kernel
theorem i_L_law_2139 : mv_look m_L_law.2.2.2.1 32 2139 = some (.dload 7, 0, []) := by decide +kernel
theorem i_L_law_2141 : mv_look m_L_law.2.2.2.1 32 2141 = some (.dcmp .l, 0, []) := by decide +kernel
theorem i_L_law_2142 : mv_look m_L_law.2.2.2.1 32 2142 = some (.ifCond .eq 25, 2167, []) := by decide +kernel
theorem i_L_law_2145 : mv_look m_L_law.2.2.2.1 32 2145 = some (.aload 4, 0, []) := by decide +kernel
theorem i_L_law_2147 : mv_look m_L_law.2.2.2.1 32 2147 = some (.iconst 0, 0, []) := by decide +kernel
theorem i_L_law_2148 : mv_look m_L_law.2.2.2.1 32 2148 = some (.daload, 0, []) := by decide +kernel
theorem i_L_law_2149 : mv_look m_L_law.2.2.2.1 32 2149 = some (.aload 4, 0, []) := by decide +kernel
theorem i_L_law_2151 : mv_look m_L_law.2.2.2.1 32 2151 = some (.iconst 0, 0, []) := by decide +kernel
theorem i_L_law_2152 : mv_look m_L_law.2.2.2.1 32 2152 = some (.daload, 0, []) := by decide +kernel
theorem i_L_law_2153 : mv_look m_L_law.2.2.2.1 32 2153 = some (.dcmp .l, 0, []) := by decide +kernel
theorem i_L_law_2154 : mv_look m_L_law.2.2.2.1 32 2154 = some (.ifCond .eq 11, 2165, []) := by decide +kernel
theorem i_L_law_2157 : mv_look m_L_law.2.2.2.1 32 2157 = some (.dload 7, 0, []) := by decide +kernel
theorem i_L_law_2159 : mv_look m_L_law.2.2.2.1 32 2159 = some (.dload 7, 0, []) := by decide +kernel
theorem i_L_law_2161 : mv_look m_L_law.2.2.2.1 32 2161 = some (.dcmp .l, 0, []) := by decide +kernel
theorem i_L_law_2162 : mv_look m_L_law.2.2.2.1 32 2162 = some (.ifCond .ne 5, 2167, []) := by decide +kernel
theorem i_L_law_2165 : mv_look m_L_law.2.2.2.1 32 2165 = some (.iconst 0, 0, []) := by decide +kernel
theorem i_L_law_2166 : mv_look m_L_law.2.2.2.1 32 2166 = some (.ireturn, 0, []) := by decide +kernel
theorem i_L_law_2167 : mv_look m_L_law.2.2.2.1 32 2167 = some (.goto 585, 2752, []) := by decide +kernel
theorem i_L_law_2170 : mv_look m_L_law.2.2.2.1 32 2170 = some (.aload_n 1, 0, []) := by decide +kernel
theorem i_L_law_2171 : mv_look m_L_law.2.2.2.1 32 2171 = some (.aload_n 0, 0, []) := by decide +kernel
theorem i_L_law_2172 : mv_look m_L_law.2.2.2.1 32 2172 = some (.iload 5, 0, []) := by decide +kernel
theorem i_L_law_2174 : mv_look m_L_law.2.2.2.1 32 2174 = some (.iconst 1, 0, []) := by decide +kernel
theorem i_L_law_2175 : mv_look m_L_law.2.2.2.1 32 2175 = some (.iadd, 0, []) := by decide +kernel
theorem i_L_law_2176 : mv_look m_L_law.2.2.2.1 32 2176 = some (.iaload, 0, []) := by decide +kernel
theorem i_L_law_2177 : mv_look m_L_law.2.2.2.1 32 2177 = some (.aload 4, 0, []) := by decide +kernel
theorem i_L_law_2179 : mv_look m_L_law.2.2.2.1 32 2179 = some (.invokestatic 293, 0, []) := by decide +kernel
theorem i_L_law_2182 : mv_look m_L_law.2.2.2.1 32 2182 = some (.istore 6, 0, []) := by decide +kernel
theorem i_L_law_2184 : mv_look m_L_law.2.2.2.1 32 2184 = some (.aload_n 2, 0, []) := by decide +kernel
theorem i_L_law_2185 : mv_look m_L_law.2.2.2.1 32 2185 = some (.aload_n 0, 0, []) := by decide +kernel
theorem i_L_law_2186 : mv_look m_L_law.2.2.2.1 32 2186 = some (.iload 5, 0, []) := by decide +kernel
theorem i_L_law_2188 : mv_look m_L_law.2.2.2.1 32 2188 = some (.iconst 1, 0, []) := by decide +kernel
theorem i_L_law_2189 : mv_look m_L_law.2.2.2.1 32 2189 = some (.iadd, 0, []) := by decide +kernel
theorem i_L_law_2190 : mv_look m_L_law.2.2.2.1 32 2190 = some (.iaload, 0, []) := by decide +kernel
theorem i_L_law_2191 : mv_look m_L_law.2.2.2.1 32 2191 = some (.invokevirtual 296, 0, []) := by decide +kernel
theorem i_L_law_2194 : mv_look m_L_law.2.2.2.1 32 2194 = some (.fstore 7, 0, []) := by decide +kernel
theorem i_L_law_2196 : mv_look m_L_law.2.2.2.1 32 2196 = some (.aload_n 2, 0, []) := by decide +kernel
theorem i_L_law_2197 : mv_look m_L_law.2.2.2.1 32 2197 = some (.invokevirtual 156, 0, []) := by decide +kernel
theorem i_L_law_2200 : mv_look m_L_law.2.2.2.1 32 2200 = some (.iload 6, 0, []) := by decide +kernel
theorem i_L_law_2202 : mv_look m_L_law.2.2.2.1 32 2202 = some (.if_icmp .eq 5, 2207, []) := by decide +kernel
theorem i_L_law_2205 : mv_look m_L_law.2.2.2.1 32 2205 = some (.iconst 0, 0, []) := by decide +kernel
theorem i_L_law_2206 : mv_look m_L_law.2.2.2.1 32 2206 = some (.ireturn, 0, []) := by decide +kernel
theorem i_L_law_2207 : mv_look m_L_law.2.2.2.1 32 2207 = some (.iload 6, 0, []) := by decide +kernel
theorem i_L_law_2209 : mv_look m_L_law.2.2.2.1 32 2209 = some (.ifCond .ne 36, 2245, []) := by decide +kernel
theorem i_L_law_2212 : mv_look m_L_law.2.2.2.1 32 2212 = some (.aload 4, 0, []) := by decide +kernel
theorem i_L_law_2214 : mv_look m_L_law.2.2.2.1 32 2214 = some (.iconst 0, 0, []) := by decide +kernel
theorem i_L_law_2215 : mv_look m_L_law.2.2.2.1 32 2215 = some (.daload, 0, []) := by decide +kernel
theorem i_L_law_2216 : mv_look m_L_law.2.2.2.1 32 2216 = some (.fload 7, 0, []) := by decide +kernel
theorem i_L_law_2218 : mv_look m_L_law.2.2.2.1 32 2218 = some (.f2d, 0, []) := by decide +kernel
theorem i_L_law_2219 : mv_look m_L_law.2.2.2.1 32 2219 = some (.dcmp .l, 0, []) := by decide +kernel
theorem i_L_law_2220 : mv_look m_L_law.2.2.2.1 32 2220 = some (.ifCond .eq 25, 2245, []) := by decide +kernel
theorem i_L_law_2223 : mv_look m_L_law.2.2.2.1 32 2223 = some (.aload 4, 0, []) := by decide +kernel
theorem i_L_law_2225 : mv_look m_L_law.2.2.2.1 32 2225 = some (.iconst 0, 0, []) := by decide +kernel
theorem i_L_law_2226 : mv_look m_L_law.2.2.2.1 32 2226 = some (.daload, 0, []) := by decide +kernel
theorem i_L_law_2227 : mv_look m_L_law.2.2.2.1 32 2227 = some (.aload 4, 0, []) := by decide +kernel
theorem i_L_law_2229 : mv_look m_L_law.2.2.2.1 32 2229 = some (.iconst 0, 0, []) := by decide +kernel
theorem i_L_law_2230 : mv_look m_L_law.2.2.2.1 32 2230 = some (.daload, 0, []) := by decide +kernel
theorem i_L_law_2231 : mv_look m_L_law.2.2.2.1 32 2231 = some (.dcmp .l, 0, []) := by decide +kernel
theorem i_L_law_2232 : mv_look m_L_law.2.2.2.1 32 2232 = some (.ifCond .eq 11, 2243, []) := by decide +kernel
theorem i_L_law_2235 : mv_look m_L_law.2.2.2.1 32 2235 = some (.fload 7, 0, []) := by decide +kernel
theorem i_L_law_2237 : mv_look m_L_law.2.2.2.1 32 2237 = some (.fload 7, 0, []) := by decide +kernel
theorem i_L_law_2239 : mv_look m_L_law.2.2.2.1 32 2239 = some (.fcmp .l, 0, []) := by decide +kernel
theorem i_L_law_2240 : mv_look m_L_law.2.2.2.1 32 2240 = some (.ifCond .ne 5, 2245, []) := by decide +kernel
theorem i_L_law_2243 : mv_look m_L_law.2.2.2.1 32 2243 = some (.iconst 0, 0, []) := by decide +kernel
theorem i_L_law_2244 : mv_look m_L_law.2.2.2.1 32 2244 = some (.ireturn, 0, []) := by decide +kernel
theorem i_L_law_2245 : mv_look m_L_law.2.2.2.1 32 2245 = some (.goto 507, 2752, []) := by decide +kernel
theorem i_L_law_2248 : mv_look m_L_law.2.2.2.1 32 2248 = some (.aload_n 1, 0, []) := by decide +kernel
theorem i_L_law_2249 : mv_look m_L_law.2.2.2.1 32 2249 = some (.aload_n 0, 0, []) := by decide +kernel
theorem i_L_law_2250 : mv_look m_L_law.2.2.2.1 32 2250 = some (.iload 5, 0, []) := by decide +kernel
theorem i_L_law_2252 : mv_look m_L_law.2.2.2.1 32 2252 = some (.iconst 1, 0, []) := by decide +kernel
theorem i_L_law_2253 : mv_look m_L_law.2.2.2.1 32 2253 = some (.iadd, 0, []) := by decide +kernel
theorem i_L_law_2254 : mv_look m_L_law.2.2.2.1 32 2254 = some (.iaload, 0, []) := by decide +kernel
theorem i_L_law_2255 : mv_look m_L_law.2.2.2.1 32 2255 = some (.i2c, 0, []) := by decide +kernel
theorem i_L_law_2256 : mv_look m_L_law.2.2.2.1 32 2256 = some (.aload_n 3, 0, []) := by decide +kernel
theorem i_L_law_2257 : mv_look m_L_law.2.2.2.1 32 2257 = some (.invokestatic 297, 0, []) := by decide +kernel
theorem i_L_law_2260 : mv_look m_L_law.2.2.2.1 32 2260 = some (.istore 6, 0, []) := by decide +kernel
theorem i_L_law_2262 : mv_look m_L_law.2.2.2.1 32 2262 = some (.aload_n 2, 0, []) := by decide +kernel
theorem i_L_law_2263 : mv_look m_L_law.2.2.2.1 32 2263 = some (.aload_n 0, 0, []) := by decide +kernel
theorem i_L_law_2264 : mv_look m_L_law.2.2.2.1 32 2264 = some (.iload 5, 0, []) := by decide +kernel
theorem i_L_law_2266 : mv_look m_L_law.2.2.2.1 32 2266 = some (.iconst 1, 0, []) := by decide +kernel
theorem i_L_law_2267 : mv_look m_L_law.2.2.2.1 32 2267 = some (.iadd, 0, []) := by decide +kernel
theorem i_L_law_2268 : mv_look m_L_law.2.2.2.1 32 2268 = some (.iaload, 0, []) := by decide +kernel
theorem i_L_law_2269 : mv_look m_L_law.2.2.2.1 32 2269 = some (.i2c, 0, []) := by decide +kernel
theorem i_L_law_2270 : mv_look m_L_law.2.2.2.1 32 2270 = some (.invokevirtual 300, 0, []) := by decide +kernel
theorem i_L_law_2273 : mv_look m_L_law.2.2.2.1 32 2273 = some (.istore 7, 0, []) := by decide +kernel
theorem i_L_law_2275 : mv_look m_L_law.2.2.2.1 32 2275 = some (.aload_n 2, 0, []) := by decide +kernel
theorem i_L_law_2276 : mv_look m_L_law.2.2.2.1 32 2276 = some (.invokevirtual 156, 0, []) := by decide +kernel
theorem i_L_law_2279 : mv_look m_L_law.2.2.2.1 32 2279 = some (.iload 6, 0, []) := by decide +kernel
theorem i_L_law_2281 : mv_look m_L_law.2.2.2.1 32 2281 = some (.if_icmp .eq 5, 2286, []) := by decide +kernel
theorem i_L_law_2284 : mv_look m_L_law.2.2.2.1 32 2284 = some (.iconst 0, 0, []) := by decide +kernel
theorem i_L_law_2285 : mv_look m_L_law.2.2.2.1 32 2285 = some (.ireturn, 0, []) := by decide +kernel
theorem i_L_law_2286 : mv_look m_L_law.2.2.2.1 32 2286 = some (.iload 6, 0, []) := by decide +kernel
theorem i_L_law_2288 : mv_look m_L_law.2.2.2.1 32 2288 = some (.ifCond .ne 15, 2303, []) := by decide +kernel
theorem i_L_law_2291 : mv_look m_L_law.2.2.2.1 32 2291 = some (.aload_n 3, 0, []) := by decide +kernel
theorem i_L_law_2292 : mv_look m_L_law.2.2.2.1 32 2292 = some (.iconst 0, 0, []) := by decide +kernel
theorem i_L_law_2293 : mv_look m_L_law.2.2.2.1 32 2293 = some (.laload, 0, []) := by decide +kernel
theorem i_L_law_2294 : mv_look m_L_law.2.2.2.1 32 2294 = some (.iload 7, 0, []) := by decide +kernel
theorem i_L_law_2296 : mv_look m_L_law.2.2.2.1 32 2296 = some (.i2l, 0, []) := by decide +kernel
theorem i_L_law_2297 : mv_look m_L_law.2.2.2.1 32 2297 = some (.lcmp, 0, []) := by decide +kernel
theorem i_L_law_2298 : mv_look m_L_law.2.2.2.1 32 2298 = some (.ifCond .eq 5, 2303, []) := by decide +kernel
theorem i_L_law_2301 : mv_look m_L_law.2.2.2.1 32 2301 = some (.iconst 0, 0, []) := by decide +kernel
theorem i_L_law_2302 : mv_look m_L_law.2.2.2.1 32 2302 = some (.ireturn, 0, []) := by decide +kernel
theorem i_L_law_2303 : mv_look m_L_law.2.2.2.1 32 2303 = some (.goto 449, 2752, []) := by decide +kernel
theorem i_L_law_2306 : mv_look m_L_law.2.2.2.1 32 2306 = some (.aload_n 1, 0, []) := by decide +kernel
theorem i_L_law_2307 : mv_look m_L_law.2.2.2.1 32 2307 = some (.aload_n 3, 0, []) := by decide +kernel
theorem i_L_law_2308 : mv_look m_L_law.2.2.2.1 32 2308 = some (.invokestatic 301, 0, []) := by decide +kernel
theorem i_L_law_2311 : mv_look m_L_law.2.2.2.1 32 2311 = some (.istore 6, 0, []) := by decide +kernel
theorem i_L_law_2313 : mv_look m_L_law.2.2.2.1 32 2313 = some (.aload_n 2, 0, []) := by decide +kernel
theorem i_L_law_2314 : mv_look m_L_law.2.2.2.1 32 2314 = some (.invokevirtual 304, 0, []) := by decide +kernel
theorem i_L_law_2317 : mv_look m_L_law.2.2.2.1 32 2317 = some (.istore 7, 0, []) := by decide +kernel
theorem i_L_law_2319 : mv_look m_L_law.2.2.2.1 32 2319 = some (.aload_n 2, 0, []) := by decide +kernel
theorem i_L_law_2320 : mv_look m_L_law.2.2.2.1 32 2320 = some (.invokevirtual 156, 0, []) := by decide +kernel
theorem i_L_law_2323 : mv_look m_L_law.2.2.2.1 32 2323 = some (.iload 6, 0, []) := by decide +kernel
theorem i_L_law_2325 : mv_look m_L_law.2.2.2.1 32 2325 = some (.if_icmp .eq 5, 2330, []) := by decide +kernel
theorem i_L_law_2328 : mv_look m_L_law.2.2.2.1 32 2328 = some (.iconst 0, 0, []) := by decide +kernel
theorem i_L_law_2329 : mv_look m_L_law.2.2.2.1 32 2329 = some (.ireturn, 0, []) := by decide +kernel
theorem i_L_law_2330 : mv_look m_L_law.2.2.2.1 32 2330 = some (.iload 6, 0, []) := by decide +kernel
theorem i_L_law_2332 : mv_look m_L_law.2.2.2.1 32 2332 = some (.ifCond .ne 15, 2347, []) := by decide +kernel
theorem i_L_law_2335 : mv_look m_L_law.2.2.2.1 32 2335 = some (.aload_n 3, 0, []) := by decide +kernel
theorem i_L_law_2336 : mv_look m_L_law.2.2.2.1 32 2336 = some (.iconst 0, 0, []) := by decide +kernel
theorem i_L_law_2337 : mv_look m_L_law.2.2.2.1 32 2337 = some (.laload, 0, []) := by decide +kernel
theorem i_L_law_2338 : mv_look m_L_law.2.2.2.1 32 2338 = some (.iload 7, 0, []) := by decide +kernel
theorem i_L_law_2340 : mv_look m_L_law.2.2.2.1 32 2340 = some (.i2l, 0, []) := by decide +kernel
theorem i_L_law_2341 : mv_look m_L_law.2.2.2.1 32 2341 = some (.lcmp, 0, []) := by decide +kernel
theorem i_L_law_2342 : mv_look m_L_law.2.2.2.1 32 2342 = some (.ifCond .eq 5, 2347, []) := by decide +kernel
theorem i_L_law_2345 : mv_look m_L_law.2.2.2.1 32 2345 = some (.iconst 0, 0, []) := by decide +kernel
theorem i_L_law_2346 : mv_look m_L_law.2.2.2.1 32 2346 = some (.ireturn, 0, []) := by decide +kernel
theorem i_L_law_2347 : mv_look m_L_law.2.2.2.1 32 2347 = some (.goto 405, 2752, []) := by decide +kernel
theorem i_L_law_2350 : mv_look m_L_law.2.2.2.1 32 2350 = some (.aload_n 1, 0, []) := by decide +kernel
theorem i_L_law_2351 : mv_look m_L_law.2.2.2.1 32 2351 = some (.aload_n 3, 0, []) := by decide +kernel
theorem i_L_law_2352 : mv_look m_L_law.2.2.2.1 32 2352 = some (.invokestatic 305, 0, []) := by decide +kernel
theorem i_L_law_2355 : mv_look m_L_law.2.2.2.1 32 2355 = some (.istore 6, 0, []) := by decide +kernel
theorem i_L_law_2357 : mv_look m_L_law.2.2.2.1 32 2357 = some (.aload_n 2, 0, []) := by decide +kernel
theorem i_L_law_2358 : mv_look m_L_law.2.2.2.1 32 2358 = some (.invokevirtual 307, 0, []) := by decide +kernel
theorem i_L_law_2361 : mv_look m_L_law.2.2.2.1 32 2361 = some (.istore 7, 0, []) := by decide +kernel
theorem i_L_law_2363 : mv_look m_L_law.2.2.2.1 32 2363 = some (.aload_n 2, 0, []) := by decide +kernel
theorem i_L_law_2364 : mv_look m_L_law.2.2.2.1 32 2364 = some (.invokevirtual 156, 0, []) := by decide +kernel
theorem i_L_law_2367 : mv_look m_L_law.2.2.2.1 32 2367 = some (.iload 6, 0, []) := by decide +kernel
theorem i_L_law_2369 : mv_look m_L_law.2.2.2.1 32 2369 = some (.if_icmp .eq 5, 2374, []) := by decide +kernel
theorem i_L_law_2372 : mv_look m_L_law.2.2.2.1 32 2372 = some (.iconst 0, 0, []) := by decide +kernel
theorem i_L_law_2373 : mv_look m_L_law.2.2.2.1 32 2373 = some (.ireturn, 0, []) := by decide +kernel
theorem i_L_law_2374 : mv_look m_L_law.2.2.2.1 32 2374 = some (.iload 6, 0, []) := by decide +kernel
theorem i_L_law_2376 : mv_look m_L_law.2.2.2.1 32 2376 = some (.ifCond .ne 15, 2391, []) := by decide +kernel
theorem i_L_law_2379 : mv_look m_L_law.2.2.2.1 32 2379 = some (.aload_n 3, 0, []) := by decide +kernel
theorem i_L_law_2380 : mv_look m_L_law.2.2.2.1 32 2380 = some (.iconst 0, 0, []) := by decide +kernel
theorem i_L_law_2381 : mv_look m_L_law.2.2.2.1 32 2381 = some (.laload, 0, []) := by decide +kernel
theorem i_L_law_2382 : mv_look m_L_law.2.2.2.1 32 2382 = some (.iload 7, 0, []) := by decide +kernel
theorem i_L_law_2384 : mv_look m_L_law.2.2.2.1 32 2384 = some (.i2l, 0, []) := by decide +kernel
theorem i_L_law_2385 : mv_look m_L_law.2.2.2.1 32 2385 = some (.lcmp, 0, []) := by decide +kernel
theorem i_L_law_2386 : mv_look m_L_law.2.2.2.1 32 2386 = some (.ifCond .eq 5, 2391, []) := by decide +kernel
theorem i_L_law_2389 : mv_look m_L_law.2.2.2.1 32 2389 = some (.iconst 0, 0, []) := by decide +kernel
theorem i_L_law_2390 : mv_look m_L_law.2.2.2.1 32 2390 = some (.ireturn, 0, []) := by decide +kernel
theorem i_L_law_2391 : mv_look m_L_law.2.2.2.1 32 2391 = some (.goto 361, 2752, []) := by decide +kernel
theorem i_L_law_2394 : mv_look m_L_law.2.2.2.1 32 2394 = some (.aload_n 1, 0, []) := by decide +kernel
theorem i_L_law_2395 : mv_look m_L_law.2.2.2.1 32 2395 = some (.aload_n 0, 0, []) := by decide +kernel
theorem i_L_law_2396 : mv_look m_L_law.2.2.2.1 32 2396 = some (.iload 5, 0, []) := by decide +kernel
theorem i_L_law_2398 : mv_look m_L_law.2.2.2.1 32 2398 = some (.iconst 1, 0, []) := by decide +kernel
theorem i_L_law_2399 : mv_look m_L_law.2.2.2.1 32 2399 = some (.iadd, 0, []) := by decide +kernel
theorem i_L_law_2400 : mv_look m_L_law.2.2.2.1 32 2400 = some (.iaload, 0, []) := by decide +kernel
theorem i_L_law_2401 : mv_look m_L_law.2.2.2.1 32 2401 = some (.aload_n 3, 0, []) := by decide +kernel
theorem i_L_law_2402 : mv_look m_L_law.2.2.2.1 32 2402 = some (.invokestatic 308, 0, []) := by decide +kernel
theorem i_L_law_2405 : mv_look m_L_law.2.2.2.1 32 2405 = some (.istore 6, 0, []) := by decide +kernel
theorem i_L_law_2407 : mv_look m_L_law.2.2.2.1 32 2407 = some (.aload_n 2, 0, []) := by decide +kernel
theorem i_L_law_2408 : mv_look m_L_law.2.2.2.1 32 2408 = some (.aload_n 0, 0, []) := by decide +kernel
theorem i_L_law_2409 : mv_look m_L_law.2.2.2.1 32 2409 = some (.iload 5, 0, []) := by decide +kernel
theorem i_L_law_2411 : mv_look m_L_law.2.2.2.1 32 2411 = some (.iconst 1, 0, []) := by decide +kernel
theorem i_L_law_2412 : mv_look m_L_law.2.2.2.1 32 2412 = some (.iadd, 0, []) := by decide +kernel
theorem i_L_law_2413 : mv_look m_L_law.2.2.2.1 32 2413 = some (.iaload, 0, []) := by decide +kernel
theorem i_L_law_2414 : mv_look m_L_law.2.2.2.1 32 2414 = some (.invokevirtual 310, 0, []) := by decide +kernel
theorem i_L_law_2417 : mv_look m_L_law.2.2.2.1 32 2417 = some (.istore 7, 0, []) := by decide +kernel
theorem i_L_law_2419 : mv_look m_L_law.2.2.2.1 32 2419 = some (.aload_n 2, 0, []) := by decide +kernel
theorem i_L_law_2420 : mv_look m_L_law.2.2.2.1 32 2420 = some (.invokevirtual 156, 0, []) := by decide +kernel
theorem i_L_law_2423 : mv_look m_L_law.2.2.2.1 32 2423 = some (.iload 6, 0, []) := by decide +kernel
theorem i_L_law_2425 : mv_look m_L_law.2.2.2.1 32 2425 = some (.if_icmp .eq 5, 2430, []) := by decide +kernel
theorem i_L_law_2428 : mv_look m_L_law.2.2.2.1 32 2428 = some (.iconst 0, 0, []) := by decide +kernel
theorem i_L_law_2429 : mv_look m_L_law.2.2.2.1 32 2429 = some (.ireturn, 0, []) := by decide +kernel
theorem i_L_law_2430 : mv_look m_L_law.2.2.2.1 32 2430 = some (.iload 6, 0, []) := by decide +kernel
theorem i_L_law_2432 : mv_look m_L_law.2.2.2.1 32 2432 = some (.ifCond .ne 15, 2447, []) := by decide +kernel
theorem i_L_law_2435 : mv_look m_L_law.2.2.2.1 32 2435 = some (.aload_n 3, 0, []) := by decide +kernel
theorem i_L_law_2436 : mv_look m_L_law.2.2.2.1 32 2436 = some (.iconst 0, 0, []) := by decide +kernel
theorem i_L_law_2437 : mv_look m_L_law.2.2.2.1 32 2437 = some (.laload, 0, []) := by decide +kernel
theorem i_L_law_2438 : mv_look m_L_law.2.2.2.1 32 2438 = some (.iload 7, 0, []) := by decide +kernel
theorem i_L_law_2440 : mv_look m_L_law.2.2.2.1 32 2440 = some (.i2l, 0, []) := by decide +kernel
theorem i_L_law_2441 : mv_look m_L_law.2.2.2.1 32 2441 = some (.lcmp, 0, []) := by decide +kernel
theorem i_L_law_2442 : mv_look m_L_law.2.2.2.1 32 2442 = some (.ifCond .eq 5, 2447, []) := by decide +kernel
theorem i_L_law_2445 : mv_look m_L_law.2.2.2.1 32 2445 = some (.iconst 0, 0, []) := by decide +kernel
theorem i_L_law_2446 : mv_look m_L_law.2.2.2.1 32 2446 = some (.ireturn, 0, []) := by decide +kernel
theorem i_L_law_2447 : mv_look m_L_law.2.2.2.1 32 2447 = some (.goto 305, 2752, []) := by decide +kernel
theorem i_L_law_2450 : mv_look m_L_law.2.2.2.1 32 2450 = some (.aload_n 1, 0, []) := by decide +kernel
theorem i_L_law_2451 : mv_look m_L_law.2.2.2.1 32 2451 = some (.aload_n 0, 0, []) := by decide +kernel
theorem i_L_law_2452 : mv_look m_L_law.2.2.2.1 32 2452 = some (.iload 5, 0, []) := by decide +kernel
theorem i_L_law_2454 : mv_look m_L_law.2.2.2.1 32 2454 = some (.iconst 1, 0, []) := by decide +kernel
theorem i_L_law_2455 : mv_look m_L_law.2.2.2.1 32 2455 = some (.iadd, 0, []) := by decide +kernel
theorem i_L_law_2456 : mv_look m_L_law.2.2.2.1 32 2456 = some (.iaload, 0, []) := by decide +kernel
theorem i_L_law_2457 : mv_look m_L_law.2.2.2.1 32 2457 = some (.aload_n 3, 0, []) := by decide +kernel
theorem i_L_law_2458 : mv_look m_L_law.2.2.2.1 32 2458 = some (.invokestatic 311, 0, []) := by decide +kernel
theorem i_L_law_2461 : mv_look m_L_law.2.2.2.1 32 2461 = some (.istore 6, 0, []) := by decide +kernel
theorem i_L_law_2463 : mv_look m_L_law.2.2.2.1 32 2463 = some (.aload_n 2, 0, []) := by decide +kernel
theorem i_L_law_2464 : mv_look m_L_law.2.2.2.1 32 2464 = some (.aload_n 0, 0, []) := by decide +kernel
theorem i_L_law_2465 : mv_look m_L_law.2.2.2.1 32 2465 = some (.iload 5, 0, []) := by decide +kernel
theorem i_L_law_2467 : mv_look m_L_law.2.2.2.1 32 2467 = some (.iconst 1, 0, []) := by decide +kernel
theorem i_L_law_2468 : mv_look m_L_law.2.2.2.1 32 2468 = some (.iadd, 0, []) := by decide +kernel
theorem i_L_law_2469 : mv_look m_L_law.2.2.2.1 32 2469 = some (.iaload, 0, []) := by decide +kernel
theorem i_L_law_2470 : mv_look m_L_law.2.2.2.1 32 2470 = some (.invokevirtual 313, 0, []) := by decide +kernel
theorem i_L_law_2473 : mv_look m_L_law.2.2.2.1 32 2473 = some (.istore 7, 0, []) := by decide +kernel
theorem i_L_law_2475 : mv_look m_L_law.2.2.2.1 32 2475 = some (.aload_n 2, 0, []) := by decide +kernel
theorem i_L_law_2476 : mv_look m_L_law.2.2.2.1 32 2476 = some (.invokevirtual 156, 0, []) := by decide +kernel
theorem i_L_law_2479 : mv_look m_L_law.2.2.2.1 32 2479 = some (.iload 6, 0, []) := by decide +kernel
theorem i_L_law_2481 : mv_look m_L_law.2.2.2.1 32 2481 = some (.if_icmp .eq 5, 2486, []) := by decide +kernel
theorem i_L_law_2484 : mv_look m_L_law.2.2.2.1 32 2484 = some (.iconst 0, 0, []) := by decide +kernel
theorem i_L_law_2485 : mv_look m_L_law.2.2.2.1 32 2485 = some (.ireturn, 0, []) := by decide +kernel
theorem i_L_law_2486 : mv_look m_L_law.2.2.2.1 32 2486 = some (.iload 6, 0, []) := by decide +kernel
theorem i_L_law_2488 : mv_look m_L_law.2.2.2.1 32 2488 = some (.ifCond .ne 15, 2503, []) := by decide +kernel
theorem i_L_law_2491 : mv_look m_L_law.2.2.2.1 32 2491 = some (.aload_n 3, 0, []) := by decide +kernel
theorem i_L_law_2492 : mv_look m_L_law.2.2.2.1 32 2492 = some (.iconst 0, 0, []) := by decide +kernel
theorem i_L_law_2493 : mv_look m_L_law.2.2.2.1 32 2493 = some (.laload, 0, []) := by decide +kernel
theorem i_L_law_2494 : mv_look m_L_law.2.2.2.1 32 2494 = some (.iload 7, 0, []) := by decide +kernel
theorem i_L_law_2496 : mv_look m_L_law.2.2.2.1 32 2496 = some (.i2l, 0, []) := by decide +kernel
theorem i_L_law_2497 : mv_look m_L_law.2.2.2.1 32 2497 = some (.lcmp, 0, []) := by decide +kernel
theorem i_L_law_2498 : mv_look m_L_law.2.2.2.1 32 2498 = some (.ifCond .eq 5, 2503, []) := by decide +kernel
theorem i_L_law_2501 : mv_look m_L_law.2.2.2.1 32 2501 = some (.iconst 0, 0, []) := by decide +kernel
theorem i_L_law_2502 : mv_look m_L_law.2.2.2.1 32 2502 = some (.ireturn, 0, []) := by decide +kernel
theorem i_L_law_2503 : mv_look m_L_law.2.2.2.1 32 2503 = some (.goto 249, 2752, []) := by decide +kernel
theorem i_L_law_2506 : mv_look m_L_law.2.2.2.1 32 2506 = some (.aload_n 1, 0, []) := by decide +kernel
theorem i_L_law_2507 : mv_look m_L_law.2.2.2.1 32 2507 = some (.aload_n 3, 0, []) := by decide +kernel
theorem i_L_law_2508 : mv_look m_L_law.2.2.2.1 32 2508 = some (.invokestatic 314, 0, []) := by decide +kernel
theorem i_L_law_2511 : mv_look m_L_law.2.2.2.1 32 2511 = some (.istore 6, 0, []) := by decide +kernel
theorem i_L_law_2513 : mv_look m_L_law.2.2.2.1 32 2513 = some (.aload_n 2, 0, []) := by decide +kernel
theorem i_L_law_2514 : mv_look m_L_law.2.2.2.1 32 2514 = some (.invokevirtual 316, 0, []) := by decide +kernel
theorem i_L_law_2517 : mv_look m_L_law.2.2.2.1 32 2517 = some (.istore 7, 0, []) := by decide +kernel
theorem i_L_law_2519 : mv_look m_L_law.2.2.2.1 32 2519 = some (.aload_n 2, 0, []) := by decide +kernel
theorem i_L_law_2520 : mv_look m_L_law.2.2.2.1 32 2520 = some (.invokevirtual 156, 0, []) := by decide +kernel
theorem i_L_law_2523 : mv_look m_L_law.2.2.2.1 32 2523 = some (.iload 6, 0, []) := by decide +kernel
theorem i_L_law_2525 : mv_look m_L_law.2.2.2.1 32 2525 = some (.if_icmp .eq 5, 2530, []) := by decide +kernel
theorem i_L_law_2528 : mv_look m_L_law.2.2.2.1 32 2528 = some (.iconst 0, 0, []) := by decide +kernel
theorem i_L_law_2529 : mv_look m_L_law.2.2.2.1 32 2529 = some (.ireturn, 0, []) := by decide +kernel
theorem i_L_law_2530 : mv_look m_L_law.2.2.2.1 32 2530 = some (.iload 6, 0, []) := by decide +kernel
theorem i_L_law_2532 : mv_look m_L_law.2.2.2.1 32 2532 = some (.ifCond .ne 15, 2547, []) := by decide +kernel
theorem i_L_law_2535 : mv_look m_L_law.2.2.2.1 32 2535 = some (.aload_n 3, 0, []) := by decide +kernel
theorem i_L_law_2536 : mv_look m_L_law.2.2.2.1 32 2536 = some (.iconst 0, 0, []) := by decide +kernel
theorem i_L_law_2537 : mv_look m_L_law.2.2.2.1 32 2537 = some (.laload, 0, []) := by decide +kernel
theorem i_L_law_2538 : mv_look m_L_law.2.2.2.1 32 2538 = some (.iload 7, 0, []) := by decide +kernel
theorem i_L_law_2540 : mv_look m_L_law.2.2.2.1 32 2540 = some (.i2l, 0, []) := by decide +kernel
theorem i_L_law_2541 : mv_look m_L_law.2.2.2.1 32 2541 = some (.lcmp, 0, []) := by decide +kernel
theorem i_L_law_2542 : mv_look m_L_law.2.2.2.1 32 2542 = some (.ifCond .eq 5, 2547, []) := by decide +kernel
theorem i_L_law_2545 : mv_look m_L_law.2.2.2.1 32 2545 = some (.iconst 0, 0, []) := by decide +kernel
theorem i_L_law_2546 : mv_look m_L_law.2.2.2.1 32 2546 = some (.ireturn, 0, []) := by decide +kernel
theorem i_L_law_2547 : mv_look m_L_law.2.2.2.1 32 2547 = some (.goto 205, 2752, []) := by decide +kernel
theorem i_L_law_2550 : mv_look m_L_law.2.2.2.1 32 2550 = some (.aload_n 1, 0, []) := by decide +kernel
theorem i_L_law_2551 : mv_look m_L_law.2.2.2.1 32 2551 = some (.aload_n 3, 0, []) := by decide +kernel
theorem i_L_law_2552 : mv_look m_L_law.2.2.2.1 32 2552 = some (.invokestatic 317, 0, []) := by decide +kernel
theorem i_L_law_2555 : mv_look m_L_law.2.2.2.1 32 2555 = some (.istore 6, 0, []) := by decide +kernel
theorem i_L_law_2557 : mv_look m_L_law.2.2.2.1 32 2557 = some (.aload_n 2, 0, []) := by decide +kernel
theorem i_L_law_2558 : mv_look m_L_law.2.2.2.1 32 2558 = some (.invokevirtual 319, 0, []) := by decide +kernel
theorem i_L_law_2561 : mv_look m_L_law.2.2.2.1 32 2561 = some (.istore 7, 0, []) := by decide +kernel
theorem i_L_law_2563 : mv_look m_L_law.2.2.2.1 32 2563 = some (.aload_n 2, 0, []) := by decide +kernel
theorem i_L_law_2564 : mv_look m_L_law.2.2.2.1 32 2564 = some (.invokevirtual 156, 0, []) := by decide +kernel
theorem i_L_law_2567 : mv_look m_L_law.2.2.2.1 32 2567 = some (.iload 6, 0, []) := by decide +kernel
theorem i_L_law_2569 : mv_look m_L_law.2.2.2.1 32 2569 = some (.if_icmp .eq 5, 2574, []) := by decide +kernel
theorem i_L_law_2572 : mv_look m_L_law.2.2.2.1 32 2572 = some (.iconst 0, 0, []) := by decide +kernel
theorem i_L_law_2573 : mv_look m_L_law.2.2.2.1 32 2573 = some (.ireturn, 0, []) := by decide +kernel
theorem i_L_law_2574 : mv_look m_L_law.2.2.2.1 32 2574 = some (.iload 6, 0, []) := by decide +kernel
theorem i_L_law_2576 : mv_look m_L_law.2.2.2.1 32 2576 = some (.ifCond .ne 15, 2591, []) := by decide +kernel
theorem i_L_law_2579 : mv_look m_L_law.2.2.2.1 32 2579 = some (.aload_n 3, 0, []) := by decide +kernel
theorem i_L_law_2580 : mv_look m_L_law.2.2.2.1 32 2580 = some (.iconst 0, 0, []) := by decide +kernel
theorem i_L_law_2581 : mv_look m_L_law.2.2.2.1 32 2581 = some (.laload, 0, []) := by decide +kernel
theorem i_L_law_2582 : mv_look m_L_law.2.2.2.1 32 2582 = some (.iload 7, 0, []) := by decide +kernel
theorem i_L_law_2584 : mv_look m_L_law.2.2.2.1 32 2584 = some (.i2l, 0, []) := by decide +kernel
theorem i_L_law_2585 : mv_look m_L_law.2.2.2.1 32 2585 = some (.lcmp, 0, []) := by decide +kernel
theorem i_L_law_2586 : mv_look m_L_law.2.2.2.1 32 2586 = some (.ifCond .eq 5, 2591, []) := by decide +kernel
theorem i_L_law_2589 : mv_look m_L_law.2.2.2.1 32 2589 = some (.iconst 0, 0, []) := by decide +kernel
theorem i_L_law_2590 : mv_look m_L_law.2.2.2.1 32 2590 = some (.ireturn, 0, []) := by decide +kernel
theorem i_L_law_2591 : mv_look m_L_law.2.2.2.1 32 2591 = some (.goto 161, 2752, []) := by decide +kernel
theorem i_L_law_2594 : mv_look m_L_law.2.2.2.1 32 2594 = some (.aload_n 1, 0, []) := by decide +kernel
theorem i_L_law_2595 : mv_look m_L_law.2.2.2.1 32 2595 = some (.aload_n 3, 0, []) := by decide +kernel
theorem i_L_law_2596 : mv_look m_L_law.2.2.2.1 32 2596 = some (.invokestatic 320, 0, []) := by decide +kernel
theorem i_L_law_2599 : mv_look m_L_law.2.2.2.1 32 2599 = some (.istore 6, 0, []) := by decide +kernel
theorem i_L_law_2601 : mv_look m_L_law.2.2.2.1 32 2601 = some (.aload_n 2, 0, []) := by decide +kernel
theorem i_L_law_2602 : mv_look m_L_law.2.2.2.1 32 2602 = some (.invokevirtual 322, 0, []) := by decide +kernel
theorem i_L_law_2605 : mv_look m_L_law.2.2.2.1 32 2605 = some (.istore 7, 0, []) := by decide +kernel
theorem i_L_law_2607 : mv_look m_L_law.2.2.2.1 32 2607 = some (.aload_n 2, 0, []) := by decide +kernel
theorem i_L_law_2608 : mv_look m_L_law.2.2.2.1 32 2608 = some (.invokevirtual 156, 0, []) := by decide +kernel
theorem i_L_law_2611 : mv_look m_L_law.2.2.2.1 32 2611 = some (.iload 6, 0, []) := by decide +kernel
theorem i_L_law_2613 : mv_look m_L_law.2.2.2.1 32 2613 = some (.if_icmp .eq 5, 2618, []) := by decide +kernel
theorem i_L_law_2616 : mv_look m_L_law.2.2.2.1 32 2616 = some (.iconst 0, 0, []) := by decide +kernel
theorem i_L_law_2617 : mv_look m_L_law.2.2.2.1 32 2617 = some (.ireturn, 0, []) := by decide +kernel
theorem i_L_law_2618 : mv_look m_L_law.2.2.2.1 32 2618 = some (.iload 6, 0, []) := by decide +kernel
theorem i_L_law_2620 : mv_look m_L_law.2.2.2.1 32 2620 = some (.ifCond .ne 15, 2635, []) := by decide +kernel
theorem i_L_law_2623 : mv_look m_L_law.2.2.2.1 32 2623 = some (.aload_n 3, 0, []) := by decide +kernel
theorem i_L_law_2624 : mv_look m_L_law.2.2.2.1 32 2624 = some (.iconst 0, 0, []) := by decide +kernel
theorem i_L_law_2625 : mv_look m_L_law.2.2.2.1 32 2625 = some (.laload, 0, []) := by decide +kernel
theorem i_L_law_2626 : mv_look m_L_law.2.2.2.1 32 2626 = some (.iload 7, 0, []) := by decide +kernel
theorem i_L_law_2628 : mv_look m_L_law.2.2.2.1 32 2628 = some (.i2l, 0, []) := by decide +kernel
theorem i_L_law_2629 : mv_look m_L_law.2.2.2.1 32 2629 = some (.lcmp, 0, []) := by decide +kernel
theorem i_L_law_2630 : mv_look m_L_law.2.2.2.1 32 2630 = some (.ifCond .eq 5, 2635, []) := by decide +kernel
theorem i_L_law_2633 : mv_look m_L_law.2.2.2.1 32 2633 = some (.iconst 0, 0, []) := by decide +kernel
theorem i_L_law_2634 : mv_look m_L_law.2.2.2.1 32 2634 = some (.ireturn, 0, []) := by decide +kernel
theorem i_L_law_2635 : mv_look m_L_law.2.2.2.1 32 2635 = some (.goto 117, 2752, []) := by decide +kernel
theorem i_L_law_2638 : mv_look m_L_law.2.2.2.1 32 2638 = some (.aload_n 1, 0, []) := by decide +kernel
theorem i_L_law_2639 : mv_look m_L_law.2.2.2.1 32 2639 = some (.aload_n 3, 0, []) := by decide +kernel
theorem i_L_law_2640 : mv_look m_L_law.2.2.2.1 32 2640 = some (.invokestatic 323, 0, []) := by decide +kernel
theorem i_L_law_2643 : mv_look m_L_law.2.2.2.1 32 2643 = some (.istore 6, 0, []) := by decide +kernel
theorem i_L_law_2645 : mv_look m_L_law.2.2.2.1 32 2645 = some (.aload_n 2, 0, []) := by decide +kernel
theorem i_L_law_2646 : mv_look m_L_law.2.2.2.1 32 2646 = some (.invokevirtual 325, 0, []) := by decide +kernel
theorem i_L_law_2649 : mv_look m_L_law.2.2.2.1 32 2649 = some (.istore 7, 0, []) := by decide +kernel
theorem i_L_law_2651 : mv_look m_L_law.2.2.2.1 32 2651 = some (.aload_n 2, 0, []) := by decide +kernel
theorem i_L_law_2652 : mv_look m_L_law.2.2.2.1 32 2652 = some (.invokevirtual 156, 0, []) := by decide +kernel
theorem i_L_law_2655 : mv_look m_L_law.2.2.2.1 32 2655 = some (.iload 6, 0, []) := by decide +kernel
theorem i_L_law_2657 : mv_look m_L_law.2.2.2.1 32 2657 = some (.if_icmp .eq 5, 2662, []) := by decide +kernel
theorem i_L_law_2660 : mv_look m_L_law.2.2.2.1 32 2660 = some (.iconst 0, 0, []) := by decide +kernel
theorem i_L_law_2661 : mv_look m_L_law.2.2.2.1 32 2661 = some (.ireturn, 0, []) := by decide +kernel
theorem i_L_law_2662 : mv_look m_L_law.2.2.2.1 32 2662 = some (.iload 6, 0, []) := by decide +kernel
theorem i_L_law_2664 : mv_look m_L_law.2.2.2.1 32 2664 = some (.ifCond .ne 15, 2679, []) := by decide +kernel
theorem i_L_law_2667 : mv_look m_L_law.2.2.2.1 32 2667 = some (.aload_n 3, 0, []) := by decide +kernel
theorem i_L_law_2668 : mv_look m_L_law.2.2.2.1 32 2668 = some (.iconst 0, 0, []) := by decide +kernel
theorem i_L_law_2669 : mv_look m_L_law.2.2.2.1 32 2669 = some (.laload, 0, []) := by decide +kernel
theorem i_L_law_2670 : mv_look m_L_law.2.2.2.1 32 2670 = some (.iload 7, 0, []) := by decide +kernel
theorem i_L_law_2672 : mv_look m_L_law.2.2.2.1 32 2672 = some (.i2l, 0, []) := by decide +kernel
theorem i_L_law_2673 : mv_look m_L_law.2.2.2.1 32 2673 = some (.lcmp, 0, []) := by decide +kernel
theorem i_L_law_2674 : mv_look m_L_law.2.2.2.1 32 2674 = some (.ifCond .eq 5, 2679, []) := by decide +kernel
theorem i_L_law_2677 : mv_look m_L_law.2.2.2.1 32 2677 = some (.iconst 0, 0, []) := by decide +kernel
theorem i_L_law_2678 : mv_look m_L_law.2.2.2.1 32 2678 = some (.ireturn, 0, []) := by decide +kernel
theorem i_L_law_2679 : mv_look m_L_law.2.2.2.1 32 2679 = some (.goto 73, 2752, []) := by decide +kernel
theorem i_L_law_2682 : mv_look m_L_law.2.2.2.1 32 2682 = some (.aload_n 1, 0, []) := by decide +kernel
theorem i_L_law_2683 : mv_look m_L_law.2.2.2.1 32 2683 = some (.invokevirtual 326, 0, []) := by decide +kernel
theorem i_L_law_2686 : mv_look m_L_law.2.2.2.1 32 2686 = some (.aload_n 2, 0, []) := by decide +kernel
theorem i_L_law_2687 : mv_look m_L_law.2.2.2.1 32 2687 = some (.invokevirtual 329, 0, []) := by decide +kernel
theorem i_L_law_2690 : mv_look m_L_law.2.2.2.1 32 2690 = some (.if_icmp .eq 62, 2752, []) := by decide +kernel
theorem i_L_law_2693 : mv_look m_L_law.2.2.2.1 32 2693 = some (.iconst 0, 0, []) := by decide +kernel
theorem i_L_law_2694 : mv_look m_L_law.2.2.2.1 32 2694 = some (.ireturn, 0, []) := by decide +kernel
theorem i_L_law_2695 : mv_look m_L_law.2.2.2.1 32 2695 = some (.aload_n 1, 0, []) := by decide +kernel
theorem i_L_law_2696 : mv_look m_L_law.2.2.2.1 32 2696 = some (.invokevirtual 330, 0, []) := by decide +kernel
theorem i_L_law_2699 : mv_look m_L_law.2.2.2.1 32 2699 = some (.aload_n 2, 0, []) := by decide +kernel
theorem i_L_law_2700 : mv_look m_L_law.2.2.2.1 32 2700 = some (.invokevirtual 333, 0, []) := by decide +kernel
theorem i_L_law_2703 : mv_look m_L_law.2.2.2.1 32 2703 = some (.if_icmp .eq 49, 2752, []) := by decide +kernel
theorem i_L_law_2706 : mv_look m_L_law.2.2.2.1 32 2706 = some (.iconst 0, 0, []) := by decide +kernel
theorem i_L_law_2707 : mv_look m_L_law.2.2.2.1 32 2707 = some (.ireturn, 0, []) := by decide +kernel
theorem i_L_law_2708 : mv_look m_L_law.2.2.2.1 32 2708 = some (.aload_n 1, 0, []) := by decide +kernel
theorem i_L_law_2709 : mv_look m_L_law.2.2.2.1 32 2709 = some (.aload_n 3, 0, []) := by decide +kernel
theorem i_L_law_2710 : mv_look m_L_law.2.2.2.1 32 2710 = some (.invokestatic 334, 0, []) := by decide +kernel
theorem i_L_law_2713 : mv_look m_L_law.2.2.2.1 32 2713 = some (.istore 6, 0, []) := by decide +kernel
theorem i_L_law_2715 : mv_look m_L_law.2.2.2.1 32 2715 = some (.aload_n 2, 0, []) := by decide +kernel
theorem i_L_law_2716 : mv_look m_L_law.2.2.2.1 32 2716 = some (.invokevirtual 336, 0, []) := by decide +kernel
theorem i_L_law_2719 : mv_look m_L_law.2.2.2.1 32 2719 = some (.istore 7, 0, []) := by decide +kernel
theorem i_L_law_2721 : mv_look m_L_law.2.2.2.1 32 2721 = some (.aload_n 2, 0, []) := by decide +kernel
theorem i_L_law_2722 : mv_look m_L_law.2.2.2.1 32 2722 = some (.invokevirtual 156, 0, []) := by decide +kernel
theorem i_L_law_2725 : mv_look m_L_law.2.2.2.1 32 2725 = some (.iload 6, 0, []) := by decide +kernel
theorem i_L_law_2727 : mv_look m_L_law.2.2.2.1 32 2727 = some (.if_icmp .eq 5, 2732, []) := by decide +kernel
theorem i_L_law_2730 : mv_look m_L_law.2.2.2.1 32 2730 = some (.iconst 0, 0, []) := by decide +kernel
theorem i_L_law_2731 : mv_look m_L_law.2.2.2.1 32 2731 = some (.ireturn, 0, []) := by decide +kernel
theorem i_L_law_2732 : mv_look m_L_law.2.2.2.1 32 2732 = some (.iload 6, 0, []) := by decide +kernel
theorem i_L_law_2734 : mv_look m_L_law.2.2.2.1 32 2734 = some (.ifCond .ne 15, 2749, []) := by decide +kernel
theorem i_L_law_2737 : mv_look m_L_law.2.2.2.1 32 2737 = some (.aload_n 3, 0, []) := by decide +kernel
theorem i_L_law_2738 : mv_look m_L_law.2.2.2.1 32 2738 = some (.iconst 0, 0, []) := by decide +kernel
theorem i_L_law_2739 : mv_look m_L_law.2.2.2.1 32 2739 = some (.laload, 0, []) := by decide +kernel
theorem i_L_law_2740 : mv_look m_L_law.2.2.2.1 32 2740 = some (.iload 7, 0, []) := by decide +kernel
theorem i_L_law_2742 : mv_look m_L_law.2.2.2.1 32 2742 = some (.i2l, 0, []) := by decide +kernel
theorem i_L_law_2743 : mv_look m_L_law.2.2.2.1 32 2743 = some (.lcmp, 0, []) := by decide +kernel
theorem i_L_law_2744 : mv_look m_L_law.2.2.2.1 32 2744 = some (.ifCond .eq 5, 2749, []) := by decide +kernel
theorem i_L_law_2747 : mv_look m_L_law.2.2.2.1 32 2747 = some (.iconst 0, 0, []) := by decide +kernel
theorem i_L_law_2748 : mv_look m_L_law.2.2.2.1 32 2748 = some (.ireturn, 0, []) := by decide +kernel
theorem i_L_law_2749 : mv_look m_L_law.2.2.2.1 32 2749 = some (.goto 3, 2752, []) := by decide +kernel
theorem i_L_law_2752 : mv_look m_L_law.2.2.2.1 32 2752 = some (.iinc 5 5, 0, []) := by decide +kernel
theorem i_L_law_2755 : mv_look m_L_law.2.2.2.1 32 2755 = some (.goto (-2727), 28, []) := by decide +kernel
theorem i_L_law_2758 : mv_look m_L_law.2.2.2.1 32 2758 = some (.iconst 1, 0, []) := by decide +kernel
theorem i_L_law_2759 : mv_look m_L_law.2.2.2.1 32 2759 = some (.ireturn, 0, []) := by decide +kernel
theorem bk_L_law_0 (X : mv_X) (call : mv_G) (h : mv_H) (a0 : Nat) : mv_run X call m_L_law 0 [.ref a0, .retAddr 0, .retAddr 0, .retAddr 0, .retAddr 0, .retAddr 0, .retAddr 0, .retAddr 0, .retAddr 0] [] h =
  mv_new h (.inl (12, mv_df 12)) 14 fun r1 h1 =>
  mv_clV call 83 [.ref r1] h1 mv_raise fun h2 =>
  mv_new h2 (.inl (13, mv_df 13)) 27 fun r2 h3 =>
  mv_clV call 147 [.ref r2] h3 mv_raise fun h4 =>
  mv_newa h4 .long (.long 0) (nZ 1) fun r3 h5 =>
  mv_newa h5 .double (.double 0) (nZ 1) fun r4 h6 =>
  mv_run X call m_L_law 28 [.ref a0, .ref r1, .ref r2, .ref r3, .ref r4, .int (nZ 0), .retAddr 0, .retAddr 0, .retAddr 0] [] h6 :=
  (s_new i_L_law_0 rfl).trans <| c_new fun r1 h1 => (s_dupR i_L_law_3).trans <| (s_i0 [] [.ref r1] i_L_law_4 rfl (fun _ => rfl)).trans <| c_clV fun h2 => (s_astore_n (ls2 := [.ref a0, .ref r1, .retAddr 0, .retAddr 0, .retAddr 0, .retAddr 0, .retAddr 0, .retAddr 0, .retAddr 0]) i_L_law_7 (fun _ => rfl)).trans <| (s_new i_L_law_8 rfl).trans <| c_new fun r2 h3 => (s_dupR i_L_law_11).trans <| (s_i0 [] [.ref r2] i_L_law_12 rfl (fun _ => rfl)).trans <| c_clV fun h4 => (s_astore_n (ls2 := [.ref a0, .ref r1, .ref r2, .retAddr 0, .retAddr 0, .retAddr 0, .retAddr 0, .retAddr 0, .retAddr 0]) i_L_law_15 (fun _ => rfl)).trans <| (s_iconst i_L_law_16).trans <| (s_newa_long i_L_law_17).trans <| c_newa fun r3 h5 => (s_astore_n (ls2 := [.ref a0, .ref r1, .ref r2, .ref r3, .retAddr 0, .retAddr 0, .retAddr 0, .retAddr 0, .retAddr 0]) i_L_law_19 (fun _ => rfl)).trans <| (s_iconst i_L_law_20).trans <| (s_newa_double i_L_law_21).trans <| c_newa fun r4 h6 => (s_astore (ls2 := [.ref a0, .ref r1, .ref r2, .ref r3, .ref r4, .retAddr 0, .retAddr 0, .retAddr 0, .retAddr 0]) i_L_law_23 (fun _ => rfl)).trans <| (s_iconst i_L_law_25).trans <| (s_istore (ls2 := [.ref a0, .ref r1, .ref r2, .ref r3, .ref r4, .int (nZ 0), .retAddr 0, .retAddr 0, .retAddr 0]) i_L_law_26 (fun _ => rfl)).trans <| rfl
theorem bk_L_law_28 (X : mv_X) (call : mv_G) (h : mv_H) (a0 : Nat) (a1 : Nat) (a2 : Nat) (a3 : Nat) (a4 : Nat) (v5 : Int32) (j6 : Value) (j7 : Value) : mv_run X call m_L_law 28 [.ref a0, .ref a1, .ref a2, .ref a3, .ref a4, .int v5, j6, j7, .retAddr 0] [] h =
  mv_len X h a0 fun x1 =>
  if (x1 - (nZ 5)) < v5 then 
  ((some (.inl (some (.int (nZ 1))), h)))
  else (mv_aI X h 1 a0 v5 fun x2 =>
    if (x2 &&& (nZ 63)) = nZ 0 then (mv_run X call m_L_law 272 [.ref a0, .ref a1, .ref a2, .ref a3, .ref a4, .int v5, j6, j7, .retAddr 0] [] h) else
    if (x2 &&& (nZ 63)) = nZ 1 then (mv_run X call m_L_law 364 [.ref a0, .ref a1, .ref a2, .ref a3, .ref a4, .int v5, j6, j7, .retAddr 0] [] h) else
    if (x2 &&& (nZ 63)) = nZ 2 then (mv_run X call m_L_law 420 [.ref a0, .ref a1, .ref a2, .ref a3, .ref a4, .int v5, j6, j7, .retAddr 0] [] h) else
    if (x2 &&& (nZ 63)) = nZ 3 then (mv_run X call m_L_law 433 [.ref a0, .ref a1, .ref a2, .ref a3, .ref a4, .int v5, j6, j7, .retAddr 0] [] h) else
    if (x2 &&& (nZ 63)) = nZ 4 then (mv_run X call m_L_law 496 [.ref a0, .ref a1, .ref a2, .ref a3, .ref a4, .int v5, j6, j7, .retAddr 0] [] h) else
    if (x2 &&& (nZ 63)) = nZ 5 then (mv_run X call m_L_law 552 [.ref a0, .ref a1, .ref a2, .ref a3, .ref a4, .int v5, j6, j7, .retAddr 0] [] h) else
    if (x2 &&& (nZ 63)) = nZ 6 then (mv_run X call m_L_law 608 [.ref a0, .ref a1, .ref a2, .ref a3, .ref a4, .int v5, j6, j7, .retAddr 0] [] h) else
    if (x2 &&& (nZ 63)) = nZ 7 then (mv_run X call m_L_law 664 [.ref a0, .ref a1, .ref a2, .ref a3, .ref a4, .int v5, j6, j7, .retAddr 0] [] h) else
    if (x2 &&& (nZ 63)) = nZ 8 then (mv_run X call m_L_law 727 [.ref a0, .ref a1, .ref a2, .ref a3, .ref a4, .int v5, j6, j7, .retAddr 0] [] h) else
    if (x2 &&& (nZ 63)) = nZ 9 then (mv_run X call m_L_law 783 [.ref a0, .ref a1, .ref a2, .ref a3, .ref a4, .int v5, j6, j7, .retAddr 0] [] h) else
    if (x2 &&& (nZ 63)) = nZ 10 then (mv_run X call m_L_law 851 [.ref a0, .ref a1, .ref a2, .ref a3, .ref a4, .int v5, j6, j7, .retAddr 0] [] h) else
    if (x2 &&& (nZ 63)) = nZ 11 then (mv_run X call m_L_law 919 [.ref a0, .ref a1, .ref a2, .ref a3, .ref a4, .int v5, j6, j7, .retAddr 0] [] h) else
    if (x2 &&& (nZ 63)) = nZ 12 then (mv_run X call m_L_law 987 [.ref a0, .ref a1, .ref a2, .ref a3, .ref a4, .int v5, j6, j7, .retAddr 0] [] h) else
    if (x2 &&& (nZ 63)) = nZ 13 then (mv_run X call m_L_law 1043 [.ref a0, .ref a1, .ref a2, .ref a3, .ref a4, .int v5, j6, j7, .retAddr 0] [] h) else
    if (x2 &&& (nZ 63)) = nZ 14 then (mv_run X call m_L_law 1111 [.ref a0, .ref a1, .ref a2, .ref a3, .ref a4, .int v5, j6, j7, .retAddr 0] [] h) else
    if (x2 &&& (nZ 63)) = nZ 15 then (mv_run X call m_L_law 1179 [.ref a0, .ref a1, .ref a2, .ref a3, .ref a4, .int v5, j6, j7, .retAddr 0] [] h) else
    if (x2 &&& (nZ 63)) = nZ 16 then (mv_run X call m_L_law 1247 [.ref a0, .ref a1, .ref a2, .ref a3, .ref a4, .int v5, j6, j7, .retAddr 0] [] h) else
    if (x2 &&& (nZ 63)) = nZ 17 then (mv_run X call m_L_law 1315 [.ref a0, .ref a1, .ref a2, .ref a3, .ref a4, .int v5, j6, j7, .retAddr 0] [] h) else
    if (x2 &&& (nZ 63)) = nZ 18 then (mv_run X call m_L_law 1383 [.ref a0, .ref a1, .ref a2, .ref a3, .ref a4, .int v5, j6, j7, .retAddr 0] [] h) else
    if (x2 &&& (nZ 63)) = nZ 19 then (mv_run X call m_L_law 1439 [.ref a0, .ref a1, .ref a2, .ref a3, .ref a4, .int v5, j6, j7, .retAddr 0] [] h) else
    if (x2 &&& (nZ 63)) = nZ 20 then (mv_run X call m_L_law 1495 [.ref a0, .ref a1, .ref a2, .ref a3, .ref a4, .int v5, j6, j7, .retAddr 0] [] h) else
    if (x2 &&& (nZ 63)) = nZ 21 then (mv_run X call m_L_law 1508 [.ref a0, .ref a1, .ref a2, .ref a3, .ref a4, .int v5, j6, j7, .retAddr 0] [] h) else
    if (x2 &&& (nZ 63)) = nZ 22 then (mv_run X call m_L_law 1521 [.ref a0, .ref a1, .ref a2, .ref a3, .ref a4, .int v5, j6, j7, .retAddr 0] [] h) else
    if (x2 &&& (nZ 63)) = nZ 23 then (mv_run X call m_L_law 1577 [.ref a0, .ref a1, .ref a2, .ref a3, .ref a4, .int v5, j6, j7, .retAddr 0] [] h) else
    if (x2 &&& (nZ 63)) = nZ 24 then (mv_run X call m_L_law 1633 [.ref a0, .ref a1, .ref a2, .ref a3, .ref a4, .int v5, j6, j7, .retAddr 0] [] h) else
    if (x2 &&& (nZ 63)) = nZ 25 then (mv_run X call m_L_law 1713 [.ref a0, .ref a1, .ref a2, .ref a3, .ref a4, .int v5, j6, j7, .retAddr 0] [] h) else
    if (x2 &&& (nZ 63)) = nZ 26 then (mv_run X call m_L_law 1769 [.ref a0, .ref a1, .ref a2, .ref a3, .ref a4, .int v5, j6, j7, .retAddr 0] [] h) else
    if (x2 &&& (nZ 63)) = nZ 27 then (mv_run X call m_L_law 1782 [.ref a0, .ref a1, .ref a2, .ref a3, .ref a4, .int v5, j6, j7, .retAddr 0] [] h) else
    if (x2 &&& (nZ 63)) = nZ 28 then (mv_run X call m_L_law 1857 [.ref a0, .ref a1, .ref a2, .ref a3, .ref a4, .int v5, j6, j7, .retAddr 0] [] h) else
    if (x2 &&& (nZ 63)) = nZ 29 then (mv_run X call m_L_law 1932 [.ref a0, .ref a1, .ref a2, .ref a3, .ref a4, .int v5, j6, j7, .retAddr 0] [] h) else
    if (x2 &&& (nZ 63)) = nZ 30 then (mv_run X call m_L_law 1945 [.ref a0, .ref a1, .ref a2, .ref a3, .ref a4, .int v5, j6, j7, .retAddr 0] [] h) else
    if (x2 &&& (nZ 63)) = nZ 31 then (mv_run X call m_L_law 1958 [.ref a0, .ref a1, .ref a2, .ref a3, .ref a4, .int v5, j6, j7, .retAddr 0] [] h) else
    if (x2 &&& (nZ 63)) = nZ 32 then (mv_run X call m_L_law 2014 [.ref a0, .ref a1, .ref a2, .ref a3, .ref a4, .int v5, j6, j7, .retAddr 0] [] h) else
    if (x2 &&& (nZ 63)) = nZ 33 then (mv_run X call m_L_law 2027 [.ref a0, .ref a1, .ref a2, .ref a3, .ref a4, .int v5, j6, j7, .retAddr 0] [] h) else
    if (x2 &&& (nZ 63)) = nZ 34 then (mv_run X call m_L_law 2040 [.ref a0, .ref a1, .ref a2, .ref a3, .ref a4, .int v5, j6, j7, .retAddr 0] [] h) else
    if (x2 &&& (nZ 63)) = nZ 35 then (mv_run X call m_L_law 2053 [.ref a0, .ref a1, .ref a2, .ref a3, .ref a4, .int v5, j6, j7, .retAddr 0] [] h) else
    if (x2 &&& (nZ 63)) = nZ 36 then (mv_run X call m_L_law 2066 [.ref a0, .ref a1, .ref a2, .ref a3, .ref a4, .int v5, j6, j7, .retAddr 0] [] h) else
    if (x2 &&& (nZ 63)) = nZ 37 then (mv_run X call m_L_law 2079 [.ref a0, .ref a1, .ref a2, .ref a3, .ref a4, .int v5, j6, j7, .retAddr 0] [] h) else
    if (x2 &&& (nZ 63)) = nZ 38 then (mv_run X call m_L_law 2092 [.ref a0, .ref a1, .ref a2, .ref a3, .ref a4, .int v5, j6, j7, .retAddr 0] [] h) else
    if (x2 &&& (nZ 63)) = nZ 39 then (mv_run X call m_L_law 2105 [.ref a0, .ref a1, .ref a2, .ref a3, .ref a4, .int v5, j6, j7, .retAddr 0] [] h) else
    if (x2 &&& (nZ 63)) = nZ 40 then (mv_run X call m_L_law 2170 [.ref a0, .ref a1, .ref a2, .ref a3, .ref a4, .int v5, j6, j7, .retAddr 0] [] h) else
    if (x2 &&& (nZ 63)) = nZ 41 then (mv_run X call m_L_law 2248 [.ref a0, .ref a1, .ref a2, .ref a3, .ref a4, .int v5, j6, j7, .retAddr 0] [] h) else
    if (x2 &&& (nZ 63)) = nZ 42 then (mv_run X call m_L_law 2306 [.ref a0, .ref a1, .ref a2, .ref a3, .ref a4, .int v5, j6, j7, .retAddr 0] [] h) else
    if (x2 &&& (nZ 63)) = nZ 43 then (mv_run X call m_L_law 2350 [.ref a0, .ref a1, .ref a2, .ref a3, .ref a4, .int v5, j6, j7, .retAddr 0] [] h) else
    if (x2 &&& (nZ 63)) = nZ 44 then (mv_run X call m_L_law 2394 [.ref a0, .ref a1, .ref a2, .ref a3, .ref a4, .int v5, j6, j7, .retAddr 0] [] h) else
    if (x2 &&& (nZ 63)) = nZ 45 then (mv_run X call m_L_law 2450 [.ref a0, .ref a1, .ref a2, .ref a3, .ref a4, .int v5, j6, j7, .retAddr 0] [] h) else
    if (x2 &&& (nZ 63)) = nZ 46 then (mv_run X call m_L_law 2506 [.ref a0, .ref a1, .ref a2, .ref a3, .ref a4, .int v5, j6, j7, .retAddr 0] [] h) else
    if (x2 &&& (nZ 63)) = nZ 47 then (mv_run X call m_L_law 2550 [.ref a0, .ref a1, .ref a2, .ref a3, .ref a4, .int v5, j6, j7, .retAddr 0] [] h) else
    if (x2 &&& (nZ 63)) = nZ 48 then (mv_run X call m_L_law 2594 [.ref a0, .ref a1, .ref a2, .ref a3, .ref a4, .int v5, j6, j7, .retAddr 0] [] h) else
    if (x2 &&& (nZ 63)) = nZ 49 then (mv_run X call m_L_law 2638 [.ref a0, .ref a1, .ref a2, .ref a3, .ref a4, .int v5, j6, j7, .retAddr 0] [] h) else
    if (x2 &&& (nZ 63)) = nZ 50 then (mv_run X call m_L_law 2682 [.ref a0, .ref a1, .ref a2, .ref a3, .ref a4, .int v5, j6, j7, .retAddr 0] [] h) else
    if (x2 &&& (nZ 63)) = nZ 51 then (mv_run X call m_L_law 2695 [.ref a0, .ref a1, .ref a2, .ref a3, .ref a4, .int v5, j6, j7, .retAddr 0] [] h) else
    if (x2 &&& (nZ 63)) = nZ 52 then (mv_run X call m_L_law 2708 [.ref a0, .ref a1, .ref a2, .ref a3, .ref a4, .int v5, j6, j7, .retAddr 0] [] h) else
     (mv_run X call m_L_law 2752 [.ref a0, .ref a1, .ref a2, .ref a3, .ref a4, .int v5, j6, j7, .retAddr 0] [] h)) :=
  (s_iload i_L_law_28 rfl).trans <| (s_aload_n i_L_law_30 rfl).trans <| (s_alen i_L_law_31).trans <| c_len fun x1 => (s_iconst i_L_law_32).trans <| (s_isub i_L_law_33).trans <| (s_icmp_gt i_L_law_34).trans <| c_ite ((s_iconst i_L_law_2758).trans <| s_iretb i_L_law_2759 rfl) ((s_aload_n i_L_law_37 rfl).trans <| (s_iload i_L_law_38 rfl).trans <| (s_iaload i_L_law_40).trans <| c_aI fun x2 => (s_bipush i_L_law_41).trans <| (s_iand i_L_law_43).trans <| (s_tsw i_L_law_44).trans <| c_swc (rfl) <| c_swc (rfl) <| c_swc (rfl) <| c_swc (rfl) <| c_swc (rfl) <| c_swc (rfl) <| c_swc (rfl) <| c_swc (rfl) <| c_swc (rfl) <| c_swc (rfl) <| c_swc (rfl) <| c_swc (rfl) <| c_swc (rfl) <| c_swc (rfl) <| c_swc (rfl) <| c_swc (rfl) <| c_swc (rfl) <| c_swc (rfl) <| c_swc (rfl) <| c_swc (rfl) <| c_swc (rfl) <| c_swc (rfl) <| c_swc (rfl) <| c_swc (rfl) <| c_swc (rfl) <| c_swc (rfl) <| c_swc (rfl) <| c_swc (rfl) <| c_swc (rfl) <| c_swc (rfl) <| c_swc (rfl) <| c_swc (rfl) <| c_swc (rfl) <| c_swc (rfl) <| c_swc (rfl) <| c_swc (rfl) <| c_swc (rfl) <| c_swc (rfl) <| c_swc (rfl) <| c_swc (rfl) <| c_swc (rfl) <| c_swc (rfl) <| c_swc (rfl) <| c_swc (rfl) <| c_swc (rfl) <| c_swc (rfl) <| c_swc (rfl) <| c_swc (rfl) <| c_swc (rfl) <| c_swc (rfl) <| c_swc (rfl) <| c_swc (rfl) <| c_swc (rfl) <| c_swn (rfl))
theorem bk_L_law_272 (X : mv_X) (call : mv_G) (h : mv_H) (a0 : Nat) (a1 : Nat) (a2 : Nat) (a3 : Nat) (a4 : Nat) (v5 : Int32) (j6 : Value) (j7 : Value) : mv_run X call m_L_law 272 [.ref a0, .ref a1, .ref a2, .ref a3, .ref a4, .int v5, j6, j7, .retAddr 0] [] h =
  mv_aI X h 1 a0 (v5 + (nZ 1)) fun x1 =>
  mv_aI X h 1 a0 (v5 + (nZ 2)) fun x2 =>
  mv_aI X h 1 a0 (v5 + (nZ 3)) fun x3 =>
  mv_aI X h 1 a0 (v5 + (nZ 4)) fun x4 =>
  mv_clI call 285 [.ref a1, .int x1, .int x2, .int x3, .int x4, .ref a3] h mv_raise fun x5 h1 =>
  mv_aI X h1 1 a0 (v5 + (nZ 1)) fun x6 =>
  mv_aI X h1 1 a0 (v5 + (nZ 2)) fun x7 =>
  mv_aI X h1 1 a0 (v5 + (nZ 3)) fun x8 =>
  mv_aI X h1 1 a0 (v5 + (nZ 4)) fun x9 =>
  mv_rcv X h1 [.ref a2, .int x6, .int x7, .int x8, .int x9] 13 (mv_clI call 187 [.ref a2, .int x6, .int x7, .int x8, .int x9] h1 mv_raise fun x10 h2 =>
  mv_rcv X h2 [.ref a2] 13 (mv_clI call 148 [.ref a2] h2 mv_raise fun x11 h3 =>
  if x11 = x5 then 
  (if x5 = 0 then 
    (mv_aL X h3 a3 (nZ 0) fun l1 =>
      if (lg_cmp l1 (x10).toInt64) = 0 then 
      (mv_run X call m_L_law 2752 [.ref a0, .ref a1, .ref a2, .ref a3, .ref a4, .int v5, .int x5, .int x10, .retAddr 0] [] h3)
      else ((some (.inl (some (.int (nZ 0))), h3))))
    else (mv_run X call m_L_law 2752 [.ref a0, .ref a1, .ref a2, .ref a3, .ref a4, .int v5, .int x5, .int x10, .retAddr 0] [] h3))
  else ((some (.inl (some (.int (nZ 0))), h3))))) :=
  (s_aload_n i_L_law_272 rfl).trans <| (s_aload_n i_L_law_273 rfl).trans <| (s_iload i_L_law_274 rfl).trans <| (s_iconst i_L_law_276).trans <| (s_iadd i_L_law_277).trans <| (s_iaload i_L_law_278).trans <| c_aI fun x1 => (s_aload_n i_L_law_279 rfl).trans <| (s_iload i_L_law_280 rfl).trans <| (s_iconst i_L_law_282).trans <| (s_iadd i_L_law_283).trans <| (s_iaload i_L_law_284).trans <| c_aI fun x2 => (s_aload_n i_L_law_285 rfl).trans <| (s_iload i_L_law_286 rfl).trans <| (s_iconst i_L_law_288).trans <| (s_iadd i_L_law_289).trans <| (s_iaload i_L_law_290).trans <| c_aI fun x3 => (s_aload_n i_L_law_291 rfl).trans <| (s_iload i_L_law_292 rfl).trans <| (s_iconst i_L_law_294).trans <| (s_iadd i_L_law_295).trans <| (s_iaload i_L_law_296).trans <| c_aI fun x4 => (s_aload_n i_L_law_297 rfl).trans <| (s_s1 [.ref a1, .int x1, .int x2, .int x3, .int x4, .ref a3] [] i_L_law_298 rfl (fun _ => rfl)).trans <| c_clI fun x5 h1 => (s_istore (ls2 := [.ref a0, .ref a1, .ref a2, .ref a3, .ref a4, .int v5, .int x5, j7, .retAddr 0]) i_L_law_301 (fun _ => rfl)).trans <| (s_aload_n i_L_law_303 rfl).trans <| (s_aload_n i_L_law_304 rfl).trans <| (s_iload i_L_law_305 rfl).trans <| (s_iconst i_L_law_307).trans <| (s_iadd i_L_law_308).trans <| (s_iaload i_L_law_309).trans <| c_aI fun x6 => (s_aload_n i_L_law_310 rfl).trans <| (s_iload i_L_law_311 rfl).trans <| (s_iconst i_L_law_313).trans <| (s_iadd i_L_law_314).trans <| (s_iaload i_L_law_315).trans <| c_aI fun x7 => (s_aload_n i_L_law_316 rfl).trans <| (s_iload i_L_law_317 rfl).trans <| (s_iconst i_L_law_319).trans <| (s_iadd i_L_law_320).trans <| (s_iaload i_L_law_321).trans <| c_aI fun x8 => (s_aload_n i_L_law_322 rfl).trans <| (s_iload i_L_law_323 rfl).trans <| (s_iconst i_L_law_325).trans <| (s_iadd i_L_law_326).trans <| (s_iaload i_L_law_327).trans <| c_aI fun x9 => (s_v1 [.ref a2, .int x6, .int x7, .int x8, .int x9] [] i_L_law_328 rfl (fun _ => rfl)).trans <| c_rcv <| c_clI fun x10 h2 => (s_istore (ls2 := [.ref a0, .ref a1, .ref a2, .ref a3, .ref a4, .int v5, .int x5, .int x10, .retAddr 0]) i_L_law_331 (fun _ => rfl)).trans <| (s_aload_n i_L_law_333 rfl).trans <| (s_v1 [.ref a2] [] i_L_law_334 rfl (fun _ => rfl)).trans <| c_rcv <| c_clI fun x11 h3 => (s_iload i_L_law_337 rfl).trans <| (s_icmp_eq i_L_law_339).trans <| c_ite ((s_iload i_L_law_344 rfl).trans <| (s_if_ne i_L_law_346).trans <| c_ite ((s_aload_n i_L_law_349 rfl).trans <| (s_iconst i_L_law_350).trans <| (s_laload i_L_law_351).trans <| c_aL fun l1 => (s_iload i_L_law_352 rfl).trans <| (s_i2l i_L_law_354).trans <| (s_lcmp i_L_law_355).trans <| (s_if_eq i_L_law_356).trans <| c_ite ((s_goto i_L_law_361).trans <| rfl) ((s_iconst i_L_law_359).trans <| s_iretb i_L_law_360 rfl)) ((s_goto i_L_law_361).trans <| rfl)) ((s_iconst i_L_law_342).trans <| s_iretb i_L_law_343 rfl)
theorem bk_L_law_364 (X : mv_X) (call : mv_G) (h : mv_H) (a0 : Nat) (a1 : Nat) (a2 : Nat) (a3 : Nat) (a4 : Nat) (v5 : Int32) (j6 : Value) (j7 : Value) : mv_run X call m_L_law 364 [.ref a0, .ref a1, .ref a2, .ref a3, .ref a4, .int v5, j6, j7, .retAddr 0] [] h =
  mv_aI X h 1 a0 (v5 + (nZ 1)) fun x1 =>
  mv_clI call 286 [.ref a1, .int x1, .ref a3] h mv_raise fun x2 h1 =>
  mv_aI X h1 1 a0 (v5 + (nZ 1)) fun x3 =>
  mv_rcv X h1 [.ref a2, .int x3] 13 (mv_clI call 188 [.ref a2, .int x3] h1 mv_raise fun x4 h2 =>
  mv_rcv X h2 [.ref a2] 13 (mv_clI call 148 [.ref a2] h2 mv_raise fun x5 h3 =>
  if x5 = x2 then 
  (if x2 = 0 then 
    (mv_aL X h3 a3 (nZ 0) fun l1 =>
      if (lg_cmp l1 (x4).toInt64) = 0 then 
      (mv_run X call m_L_law 2752 [.ref a0, .ref a1, .ref a2, .ref a3, .ref a4, .int v5, .int x2, .int x4, .retAddr 0] [] h3)
      else ((some (.inl (some (.int (nZ 0))), h3))))
    else (mv_run X call m_L_law 2752 [.ref a0, .ref a1, .ref a2, .ref a3, .ref a4, .int v5, .int x2, .int x4, .retAddr 0] [] h3))
  else ((some (.inl (some (.int (nZ 0))), h3))))) :=
  (s_aload_n i_L_law_364 rfl).trans <| (s_aload_n i_L_law_365 rfl).trans <| (s_iload i_L_law_366 rfl).trans <| (s_iconst i_L_law_368).trans <| (s_iadd i_L_law_369).trans <| (s_iaload i_L_law_370).trans <| c_aI fun x1 => (s_aload_n i_L_law_371 rfl).trans <| (s_s1 [.ref a1, .int x1, .ref a3] [] i_L_law_372 rfl (fun _ => rfl)).trans <| c_clI fun x2 h1 => (s_istore (ls2 := [.ref a0, .ref a1, .ref a2, .ref a3, .ref a4, .int v5, .int x2, j7, .retAddr 0]) i_L_law_375 (fun _ => rfl)).trans <| (s_aload_n i_L_law_377 rfl).trans <| (s_aload_n i_L_law_378 rfl).trans <| (s_iload i_L_law_379 rfl).trans <| (s_iconst i_L_law_381).trans <| (s_iadd i_L_law_382).trans <| (s_iaload i_L_law_383).trans <| c_aI fun x3 => (s_v1 [.ref a2, .int x3] [] i_L_law_384 rfl (fun _ => rfl)).trans <| c_rcv <| c_clI fun x4 h2 => (s_istore (ls2 := [.ref a0, .ref a1, .ref a2, .ref a3, .ref a4, .int v5, .int x2, .int x4, .retAddr 0]) i_L_law_387 (fun _ => rfl)).trans <| (s_aload_n i_L_law_389 rfl).trans <| (s_v1 [.ref a2] [] i_L_law_390 rfl (fun _ => rfl)).trans <| c_rcv <| c_clI fun x5 h3 => (s_iload i_L_law_393 rfl).trans <| (s_icmp_eq i_L_law_395).trans <| c_ite ((s_iload i_L_law_400 rfl).trans <| (s_if_ne i_L_law_402).trans <| c_ite ((s_aload_n i_L_law_405 rfl).trans <| (s_iconst i_L_law_406).trans <| (s_laload i_L_law_407).trans <| c_aL fun l1 => (s_iload i_L_law_408 rfl).trans <| (s_i2l i_L_law_410).trans <| (s_lcmp i_L_law_411).trans <| (s_if_eq i_L_law_412).trans <| c_ite ((s_goto i_L_law_417).trans <| rfl) ((s_iconst i_L_law_415).trans <| s_iretb i_L_law_416 rfl)) ((s_goto i_L_law_417).trans <| rfl)) ((s_iconst i_L_law_398).trans <| s_iretb i_L_law_399 rfl)
theorem bk_L_law_420 (X : mv_X) (call : mv_G) (h : mv_H) (a0 : Nat) (a1 : Nat) (a2 : Nat) (a3 : Nat) (a4 : Nat) (v5 : Int32) (j6 : Value) (j7 : Value) : mv_run X call m_L_law 420 [.ref a0, .ref a1, .ref a2, .ref a3, .ref a4, .int v5, j6, j7, .retAddr 0] [] h =
  mv_rcv X h [.ref a1] 12 (mv_clI call 86 [.ref a1] h mv_raise fun x1 h1 =>
  mv_rcv X h1 [.ref a2] 13 (mv_clI call 196 [.ref a2] h1 mv_raise fun x2 h2 =>
  if x1 = x2 then 
  (mv_run X call m_L_law 2752 [.ref a0, .ref a1, .ref a2, .ref a3, .ref a4, .int v5, j6, j7, .retAddr 0] [] h2)
  else ((some (.inl (some (.int (nZ 0))), h2))))) :=
  (s_aload_n i_L_law_420 rfl).trans <| (s_v1 [.ref a1] [] i_L_law_421 rfl (fun _ => rfl)).trans <| c_rcv <| c_clI fun x1 h1 => (s_aload_n i_L_law_424 rfl).trans <| (s_v1 [.ref a2] [.int x1] i_L_law_425 rfl (fun _ => rfl)).trans <| c_rcv <| c_clI fun x2 h2 => (s_icmp_eq i_L_law_428).trans <| c_ite (rfl) ((s_iconst i_L_law_431).trans <| s_iretb i_L_law_432 rfl)
theorem bk_L_law_433 (X : mv_X) (call : mv_G) (h : mv_H) (a0 : Nat) (a1 : Nat) (a2 : Nat) (a3 : Nat) (a4 : Nat) (v5 : Int32) (j6 : Value) (j7 : Value) : mv_run X call m_L_law 433 [.ref a0, .ref a1, .ref a2, .ref a3, .ref a4, .int v5, j6, j7, .retAddr 0] [] h =
  mv_aI X h 1 a0 (v5 + (nZ 1)) fun x1 =>
  mv_clI call 287 [.ref a1, .int x1, .ref a3] h mv_raise fun x2 h1 =>
  mv_aI X h1 1 a0 (v5 + (nZ 1)) fun x3 =>
  mv_rcv X h1 [.ref a2, .int x3] 13 (mv_clI call 197 [.ref a2, .int x3] h1 mv_raise fun x4 h2 =>
  mv_rcv X h2 [.ref a2] 13 (mv_clI call 148 [.ref a2] h2 mv_raise fun x5 h3 =>
  if x5 = x2 then 
  (if x2 = 0 then 
    (mv_aL X h3 a3 (nZ 0) fun l1 =>
      if x4 = 0 then 
      (if (lg_cmp l1 (Int64.ofNat 0)) = 0 then 
        (mv_run X call m_L_law 2752 [.ref a0, .ref a1, .ref a2, .ref a3, .ref a4, .int v5, .int x2, .int x4, .retAddr 0] [] h3)
        else ((some (.inl (some (.int (nZ 0))), h3))))
      else (if (lg_cmp l1 (Int64.ofNat 1)) = 0 then 
        (mv_run X call m_L_law 2752 [.ref a0, .ref a1, .ref a2, .ref a3, .ref a4, .int v5, .int x2, .int x4, .retAddr 0] [] h3)
        else ((some (.inl (some (.int (nZ 0))), h3)))))
    else (mv_run X call m_L_law 2752 [.ref a0, .ref a1, .ref a2, .ref a3, .ref a4, .int v5, .int x2, .int x4, .retAddr 0] [] h3))
  else ((some (.inl (some (.int (nZ 0))), h3))))) :=
  (s_aload_n i_L_law_433 rfl).trans <| (s_aload_n i_L_law_434 rfl).trans <| (s_iload i_L_law_435 rfl).trans <| (s_iconst i_L_law_437).trans <| (s_iadd i_L_law_438).trans <| (s_iaload i_L_law_439).trans <| c_aI fun x1 => (s_aload_n i_L_law_440 rfl).trans <| (s_s1 [.ref a1, .int x1, .ref a3] [] i_L_law_441 rfl (fun _ => rfl)).trans <| c_clI fun x2 h1 => (s_istore (ls2 := [.ref a0, .ref a1, .ref a2, .ref a3, .ref a4, .int v5, .int x2, j7, .retAddr 0]) i_L_law_444 (fun _ => rfl)).trans <| (s_aload_n i_L_law_446 rfl).trans <| (s_aload_n i_L_law_447 rfl).trans <| (s_iload i_L_law_448 rfl).trans <| (s_iconst i_L_law_450).trans <| (s_iadd i_L_law_451).trans <| (s_iaload i_L_law_452).trans <| c_aI fun x3 => (s_v1 [.ref a2, .int x3] [] i_L_law_453 rfl (fun _ => rfl)).trans <| c_rcv <| c_clI fun x4 h2 => (s_istore (ls2 := [.ref a0, .ref a1, .ref a2, .ref a3, .ref a4, .int v5, .int x2, .int x4, .retAddr 0]) i_L_law_456 (fun _ => rfl)).trans <| (s_aload_n i_L_law_458 rfl).trans <| (s_v1 [.ref a2] [] i_L_law_459 rfl (fun _ => rfl)).trans <| c_rcv <| c_clI fun x5 h3 => (s_iload i_L_law_462 rfl).trans <| (s_icmp_eq i_L_law_464).trans <| c_ite ((s_iload i_L_law_469 rfl).trans <| (s_if_ne i_L_law_471).trans <| c_ite ((s_aload_n i_L_law_474 rfl).trans <| (s_iconst i_L_law_475).trans <| (s_laload i_L_law_476).trans <| c_aL fun l1 => (s_iload i_L_law_477 rfl).trans <| (s_if_eq i_L_law_479).trans <| c_ite ((s_lconst 0 i_L_law_486 rfl).trans <| (s_lcmp i_L_law_487).trans <| (s_if_eq i_L_law_488).trans <| c_ite ((s_goto i_L_law_493).trans <| rfl) ((s_iconst i_L_law_491).trans <| s_iretb i_L_law_492 rfl)) ((s_lconst 1 i_L_law_482 rfl).trans <| (s_goto i_L_law_483).trans <| (s_lcmp i_L_law_487).trans <| (s_if_eq i_L_law_488).trans <| c_ite ((s_goto i_L_law_493).trans <| rfl) ((s_iconst i_L_law_491).trans <| s_iretb i_L_law_492 rfl))) ((s_goto i_L_law_493).trans <| rfl)) ((s_iconst i_L_law_467).trans <| s_iretb i_L_law_468 rfl)
theorem bk_L_law_496 (X : mv_X) (call : mv_G) (h : mv_H) (a0 : Nat) (a1 : Nat) (a2 : Nat) (a3 : Nat) (a4 : Nat) (v5 : Int32) (j6 : Value) (j7 : Value) : mv_run X call m_L_law 496 [.ref a0, .ref a1, .ref a2, .ref a3, .ref a4, .int v5, j6, j7, .retAddr 0] [] h =
  mv_aI X h 1 a0 (v5 + (nZ 1)) fun x1 =>
  mv_clI call 288 [.ref a1, .int x1, .ref a3] h mv_raise fun x2 h1 =>
  mv_aI X h1 1 a0 (v5 + (nZ 1)) fun x3 =>
  mv_rcv X h1 [.ref a2, .int x3] 13 (mv_clI call 199 [.ref a2, .int x3] h1 mv_raise fun x4 h2 =>
  mv_rcv X h2 [.ref a2] 13 (mv_clI call 148 [.ref a2] h2 mv_raise fun x5 h3 =>
  if x5 = x2 then 
  (if x2 = 0 then 
    (mv_aL X h3 a3 (nZ 0) fun l1 =>
      if (lg_cmp l1 (x4).toInt64) = 0 then 
      (mv_run X call m_L_law 2752 [.ref a0, .ref a1, .ref a2, .ref a3, .ref a4, .int v5, .int x2, .int x4, .retAddr 0] [] h3)
      else ((some (.inl (some (.int (nZ 0))), h3))))
    else (mv_run X call m_L_law 2752 [.ref a0, .ref a1, .ref a2, .ref a3, .ref a4, .int v5, .int x2, .int x4, .retAddr 0] [] h3))
  else ((some (.inl (some (.int (nZ 0))), h3))))) :=
  (s_aload_n i_L_law_496 rfl).trans <| (s_aload_n i_L_law_497 rfl).trans <| (s_iload i_L_law_498 rfl).trans <| (s_iconst i_L_law_500).trans <| (s_iadd i_L_law_501).trans <| (s_iaload i_L_law_502).trans <| c_aI fun x1 => (s_aload_n i_L_law_503 rfl).trans <| (s_s1 [.ref a1, .int x1, .ref a3] [] i_L_law_504 rfl (fun _ => rfl)).trans <| c_clI fun x2 h1 => (s_istore (ls2 := [.ref a0, .ref a1, .ref a2, .ref a3, .ref a4, .int v5, .int x2, j7, .retAddr 0]) i_L_law_507 (fun _ => rfl)).trans <| (s_aload_n i_L_law_509 rfl).trans <| (s_aload_n i_L_law_510 rfl).trans <| (s_iload i_L_law_511 rfl).trans <| (s_iconst i_L_law_513).trans <| (s_iadd i_L_law_514).trans <| (s_iaload i_L_law_515).trans <| c_aI fun x3 => (s_v1 [.ref a2, .int x3] [] i_L_law_516 rfl (fun _ => rfl)).trans <| c_rcv <| c_clI fun x4 h2 => (s_istore (ls2 := [.ref a0, .ref a1, .ref a2, .ref a3, .ref a4, .int v5, .int x2, .int x4, .retAddr 0]) i_L_law_519 (fun _ => rfl)).trans <| (s_aload_n i_L_law_521 rfl).trans <| (s_v1 [.ref a2] [] i_L_law_522 rfl (fun _ => rfl)).trans <| c_rcv <| c_clI fun x5 h3 => (s_iload i_L_law_525 rfl).trans <| (s_icmp_eq i_L_law_527).trans <| c_ite ((s_iload i_L_law_532 rfl).trans <| (s_if_ne i_L_law_534).trans <| c_ite ((s_aload_n i_L_law_537 rfl).trans <| (s_iconst i_L_law_538).trans <| (s_laload i_L_law_539).trans <| c_aL fun l1 => (s_iload i_L_law_540 rfl).trans <| (s_i2l i_L_law_542).trans <| (s_lcmp i_L_law_543).trans <| (s_if_eq i_L_law_544).trans <| c_ite ((s_goto i_L_law_549).trans <| rfl) ((s_iconst i_L_law_547).trans <| s_iretb i_L_law_548 rfl)) ((s_goto i_L_law_549).trans <| rfl)) ((s_iconst i_L_law_530).trans <| s_iretb i_L_law_531 rfl)
theorem bk_L_law_552 (X : mv_X) (call : mv_G) (h : mv_H) (a0 : Nat) (a1 : Nat) (a2 : Nat) (a3 : Nat) (a4 : Nat) (v5 : Int32) (j6 : Value) (j7 : Value) : mv_run X call m_L_law 552 [.ref a0, .ref a1, .ref a2, .ref a3, .ref a4, .int v5, j6, j7, .retAddr 0] [] h =
  mv_aI X h 1 a0 (v5 + (nZ 1)) fun x1 =>
  mv_clI call 289 [.ref a1, .int x1, .ref a3] h mv_raise fun x2 h1 =>
  mv_aI X h1 1 a0 (v5 + (nZ 1)) fun x3 =>
  mv_rcv X h1 [.ref a2, .int x3] 13 (mv_clI call 200 [.ref a2, .int x3] h1 mv_raise fun x4 h2 =>
  mv_rcv X h2 [.ref a2] 13 (mv_clI call 148 [.ref a2] h2 mv_raise fun x5 h3 =>
  if x5 = x2 then 
  (if x2 = 0 then 
    (mv_aL X h3 a3 (nZ 0) fun l1 =>
      if (lg_cmp l1 (x4).toInt64) = 0 then 
      (mv_run X call m_L_law 2752 [.ref a0, .ref a1, .ref a2, .ref a3, .ref a4, .int v5, .int x2, .int x4, .retAddr 0] [] h3)
      else ((some (.inl (some (.int (nZ 0))), h3))))
    else (mv_run X call m_L_law 2752 [.ref a0, .ref a1, .ref a2, .ref a3, .ref a4, .int v5, .int x2, .int x4, .retAddr 0] [] h3))
  else ((some (.inl (some (.int (nZ 0))), h3))))) :=
  (s_aload_n i_L_law_552 rfl).trans <| (s_aload_n i_L_law_553 rfl).trans <| (s_iload i_L_law_554 rfl).trans <| (s_iconst i_L_law_556).trans <| (s_iadd i_L_law_557).trans <| (s_iaload i_L_law_558).trans <| c_aI fun x1 => (s_aload_n i_L_law_559 rfl).trans <| (s_s1 [.ref a1, .int x1, .ref a3] [] i_L_law_560 rfl (fun _ => rfl)).trans <| c_clI fun x2 h1 => (s_istore (ls2 := [.ref a0, .ref a1, .ref a2, .ref a3, .ref a4, .int v5, .int x2, j7, .retAddr 0]) i_L_law_563 (fun _ => rfl)).trans <| (s_aload_n i_L_law_565 rfl).trans <| (s_aload_n i_L_law_566 rfl).trans <| (s_iload i_L_law_567 rfl).trans <| (s_iconst i_L_law_569).trans <| (s_iadd i_L_law_570).trans <| (s_iaload i_L_law_571).trans <| c_aI fun x3 => (s_v1 [.ref a2, .int x3] [] i_L_law_572 rfl (fun _ => rfl)).trans <| c_rcv <| c_clI fun x4 h2 => (s_istore (ls2 := [.ref a0, .ref a1, .ref a2, .ref a3, .ref a4, .int v5, .int x2, .int x4, .retAddr 0]) i_L_law_575 (fun _ => rfl)).trans <| (s_aload_n i_L_law_577 rfl).trans <| (s_v1 [.ref a2] [] i_L_law_578 rfl (fun _ => rfl)).trans <| c_rcv <| c_clI fun x5 h3 => (s_iload i_L_law_581 rfl).trans <| (s_icmp_eq i_L_law_583).trans <| c_ite ((s_iload i_L_law_588 rfl).trans <| (s_if_ne i_L_law_590).trans <| c_ite ((s_aload_n i_L_law_593 rfl).trans <| (s_iconst i_L_law_594).trans <| (s_laload i_L_law_595).trans <| c_aL fun l1 => (s_iload i_L_law_596 rfl).trans <| (s_i2l i_L_law_598).trans <| (s_lcmp i_L_law_599).trans <| (s_if_eq i_L_law_600).trans <| c_ite ((s_goto i_L_law_605).trans <| rfl) ((s_iconst i_L_law_603).trans <| s_iretb i_L_law_604 rfl)) ((s_goto i_L_law_605).trans <| rfl)) ((s_iconst i_L_law_586).trans <| s_iretb i_L_law_587 rfl)
theorem bk_L_law_608 (X : mv_X) (call : mv_G) (h : mv_H) (a0 : Nat) (a1 : Nat) (a2 : Nat) (a3 : Nat) (a4 : Nat) (v5 : Int32) (j6 : Value) (j7 : Value) : mv_run X call m_L_law 608 [.ref a0, .ref a1, .ref a2, .ref a3, .ref a4, .int v5, j6, j7, .retAddr 0] [] h =
  mv_aI X h 1 a0 (v5 + (nZ 1)) fun x1 =>
  mv_clI call 290 [.ref a1, .int x1, .ref a3] h mv_raise fun x2 h1 =>
  mv_aI X h1 1 a0 (v5 + (nZ 1)) fun x3 =>
  mv_rcv X h1 [.ref a2, .int x3] 13 (mv_clI call 201 [.ref a2, .int x3] h1 mv_raise fun x4 h2 =>
  mv_rcv X h2 [.ref a2] 13 (mv_clI call 148 [.ref a2] h2 mv_raise fun x5 h3 =>
  if x5 = x2 then 
  (if x2 = 0 then 
    (mv_aL X h3 a3 (nZ 0) fun l1 =>
      if (lg_cmp l1 (x4).toInt64) = 0 then 
      (mv_run X call m_L_law 2752 [.ref a0, .ref a1, .ref a2, .ref a3, .ref a4, .int v5, .int x2, .int x4, .retAddr 0] [] h3)
      else ((some (.inl (some (.int (nZ 0))), h3))))
    else (mv_run X call m_L_law 2752 [.ref a0, .ref a1, .ref a2, .ref a3, .ref a4, .int v5, .int x2, .int x4, .retAddr 0] [] h3))
  else ((some (.inl (some (.int (nZ 0))), h3))))) :=
  (s_aload_n i_L_law_608 rfl).trans <| (s_aload_n i_L_law_609 rfl).trans <| (s_iload i_L_law_610 rfl).trans <| (s_iconst i_L_law_612).trans <| (s_iadd i_L_law_613).trans <| (s_iaload i_L_law_614).trans <| c_aI fun x1 => (s_aload_n i_L_law_615 rfl).trans <| (s_s1 [.ref a1, .int x1, .ref a3] [] i_L_law_616 rfl (fun _ => rfl)).trans <| c_clI fun x2 h1 => (s_istore (ls2 := [.ref a0, .ref a1, .ref a2, .ref a3, .ref a4, .int v5, .int x2, j7, .retAddr 0]) i_L_law_619 (fun _ => rfl)).trans <| (s_aload_n i_L_law_621 rfl).trans <| (s_aload_n i_L_law_622 rfl).trans <| (s_iload i_L_law_623 rfl).trans <| (s_iconst i_L_law_625).trans <| (s_iadd i_L_law_626).trans <| (s_iaload i_L_law_627).trans <| c_aI fun x3 => (s_v1 [.ref a2, .int x3] [] i_L_law_628 rfl (fun _ => rfl)).trans <| c_rcv <| c_clI fun x4 h2 => (s_istore (ls2 := [.ref a0, .ref a1, .ref a2, .ref a3, .ref a4, .int v5, .int x2, .int x4, .retAddr 0]) i_L_law_631 (fun _ => rfl)).trans <| (s_aload_n i_L_law_633 rfl).trans <| (s_v1 [.ref a2] [] i_L_law_634 rfl (fun _ => rfl)).trans <| c_rcv <| c_clI fun x5 h3 => (s_iload i_L_law_637 rfl).trans <| (s_icmp_eq i_L_law_639).trans <| c_ite ((s_iload i_L_law_644 rfl).trans <| (s_if_ne i_L_law_646).trans <| c_ite ((s_aload_n i_L_law_649 rfl).trans <| (s_iconst i_L_law_650).trans <| (s_laload i_L_law_651).trans <| c_aL fun l1 => (s_iload i_L_law_652 rfl).trans <| (s_i2l i_L_law_654).trans <| (s_lcmp i_L_law_655).trans <| (s_if_eq i_L_law_656).trans <| c_ite ((s_goto i_L_law_661).trans <| rfl) ((s_iconst i_L_law_659).trans <| s_iretb i_L_law_660 rfl)) ((s_goto i_L_law_661).trans <| rfl)) ((s_iconst i_L_law_642).trans <| s_iretb i_L_law_643 rfl)
theorem bk_L_law_664 (X : mv_X) (call : mv_G) (h : mv_H) (a0 : Nat) (a1 : Nat) (a2 : Nat) (a3 : Nat) (a4 : Nat) (v5 : Int32) (j6 : Value) (j7 : Value) : mv_run X call m_L_law 664 [.ref a0, .ref a1, .ref a2, .ref a3, .ref a4, .int v5, j6, j7, .retAddr 0] [] h =
  mv_aI X h 1 a0 (v5 + (nZ 1)) fun x1 =>
  mv_clI call 291 [.ref a1, .int x1, .ref a3] h mv_raise fun x2 h1 =>
  mv_aI X h1 1 a0 (v5 + (nZ 1)) fun x3 =>
  mv_rcv X h1 [.ref a2, .int x3] 13 (mv_clI call 202 [.ref a2, .int x3] h1 mv_raise fun x4 h2 =>
  mv_rcv X h2 [.ref a2] 13 (mv_clI call 148 [.ref a2] h2 mv_raise fun x5 h3 =>
  if x5 = x2 then 
  (if x2 = 0 then 
    (mv_aL X h3 a3 (nZ 0) fun l1 =>
      if x4 = 0 then 
      (if (lg_cmp l1 (Int64.ofNat 0)) = 0 then 
        (mv_run X call m_L_law 2752 [.ref a0, .ref a1, .ref a2, .ref a3, .ref a4, .int v5, .int x2, .int x4, .retAddr 0] [] h3)
        else ((some (.inl (some (.int (nZ 0))), h3))))
      else (if (lg_cmp l1 (Int64.ofNat 1)) = 0 then 
        (mv_run X call m_L_law 2752 [.ref a0, .ref a1, .ref a2, .ref a3, .ref a4, .int v5, .int x2, .int x4, .retAddr 0] [] h3)
        else ((some (.inl (some (.int (nZ 0))), h3)))))
    else (mv_run X call m_L_law 2752 [.ref a0, .ref a1, .ref a2, .ref a3, .ref a4, .int v5, .int x2, .int x4, .retAddr 0] [] h3))
  else ((some (.inl (some (.int (nZ 0))), h3))))) :=
  (s_aload_n i_L_law_664 rfl).trans <| (s_aload_n i_L_law_665 rfl).trans <| (s_iload i_L_law_666 rfl).trans <| (s_iconst i_L_law_668).trans <| (s_iadd i_L_law_669).trans <| (s_iaload i_L_law_670).trans <| c_aI fun x1 => (s_aload_n i_L_law_671 rfl).trans <| (s_s1 [.ref a1, .int x1, .ref a3] [] i_L_law_672 rfl (fun _ => rfl)).trans <| c_clI fun x2 h1 => (s_istore (ls2 := [.ref a0, .ref a1, .ref a2, .ref a3, .ref a4, .int v5, .int x2, j7, .retAddr 0]) i_L_law_675 (fun _ => rfl)).trans <| (s_aload_n i_L_law_677 rfl).trans <| (s_aload_n i_L_law_678 rfl).trans <| (s_iload i_L_law_679 rfl).trans <| (s_iconst i_L_law_681).trans <| (s_iadd i_L_law_682).trans <| (s_iaload i_L_law_683).trans <| c_aI fun x3 => (s_v1 [.ref a2, .int x3] [] i_L_law_684 rfl (fun _ => rfl)).trans <| c_rcv <| c_clI fun x4 h2 => (s_istore (ls2 := [.ref a0, .ref a1, .ref a2, .ref a3, .ref a4, .int v5, .int x2, .int x4, .retAddr 0]) i_L_law_687 (fun _ => rfl)).trans <| (s_aload_n i_L_law_689 rfl).trans <| (s_v1 [.ref a2] [] i_L_law_690 rfl (fun _ => rfl)).trans <| c_rcv <| c_clI fun x5 h3 => (s_iload i_L_law_693 rfl).trans <| (s_icmp_eq i_L_law_695).trans <| c_ite ((s_iload i_L_law_700 rfl).trans <| (s_if_ne i_L_law_702).trans <| c_ite ((s_aload_n i_L_law_705 rfl).trans <| (s_iconst i_L_law_706).trans <| (s_laload i_L_law_707).trans <| c_aL fun l1 => (s_iload i_L_law_708 rfl).trans <| (s_if_eq i_L_law_710).trans <| c_ite ((s_lconst 0 i_L_law_717 rfl).trans <| (s_lcmp i_L_law_718).trans <| (s_if_eq i_L_law_719).trans <| c_ite ((s_goto i_L_law_724).trans <| rfl) ((s_iconst i_L_law_722).trans <| s_iretb i_L_law_723 rfl)) ((s_lconst 1 i_L_law_713 rfl).trans <| (s_goto i_L_law_714).trans <| (s_lcmp i_L_law_718).trans <| (s_if_eq i_L_law_719).trans <| c_ite ((s_goto i_L_law_724).trans <| rfl) ((s_iconst i_L_law_722).trans <| s_iretb i_L_law_723 rfl))) ((s_goto i_L_law_724).trans <| rfl)) ((s_iconst i_L_law_698).trans <| s_iretb i_L_law_699 rfl)
theorem bk_L_law_727 (X : mv_X) (call : mv_G) (h : mv_H) (a0 : Nat) (a1 : Nat) (a2 : Nat) (a3 : Nat) (a4 : Nat) (v5 : Int32) (j6 : Value) (j7 : Value) : mv_run X call m_L_law 727 [.ref a0, .ref a1, .ref a2, .ref a3, .ref a4, .int v5, j6, j7, .retAddr 0] [] h =
  mv_aI X h 1 a0 (v5 + (nZ 1)) fun x1 =>
  mv_clI call 292 [.ref a1, .int x1, .ref a3] h mv_raise fun x2 h1 =>
  mv_aI X h1 1 a0 (v5 + (nZ 1)) fun x3 =>
  mv_rcv X h1 [.ref a2, .int x3] 13 (mv_clI call 204 [.ref a2, .int x3] h1 mv_raise fun x4 h2 =>
  mv_rcv X h2 [.ref a2] 13 (mv_clI call 148 [.ref a2] h2 mv_raise fun x5 h3 =>
  if x5 = x2 then 
  (if x2 = 0 then 
    (mv_aL X h3 a3 (nZ 0) fun l1 =>
      if (lg_cmp l1 (x4).toInt64) = 0 then 
      (mv_run X call m_L_law 2752 [.ref a0, .ref a1, .ref a2, .ref a3, .ref a4, .int v5, .int x2, .int x4, .retAddr 0] [] h3)
      else ((some (.inl (some (.int (nZ 0))), h3))))
    else (mv_run X call m_L_law 2752 [.ref a0, .ref a1, .ref a2, .ref a3, .ref a4, .int v5, .int x2, .int x4, .retAddr 0] [] h3))
  else ((some (.inl (some (.int (nZ 0))), h3))))) :=
  (s_aload_n i_L_law_727 rfl).trans <| (s_aload_n i_L_law_728 rfl).trans <| (s_iload i_L_law_729 rfl).trans <| (s_iconst i_L_law_731).trans <| (s_iadd i_L_law_732).trans <| (s_iaload i_L_law_733).trans <| c_aI fun x1 => (s_aload_n i_L_law_734 rfl).trans <| (s_s1 [.ref a1, .int x1, .ref a3] [] i_L_law_735 rfl (fun _ => rfl)).trans <| c_clI fun x2 h1 => (s_istore (ls2 := [.ref a0, .ref a1, .ref a2, .ref a3, .ref a4, .int v5, .int x2, j7, .retAddr 0]) i_L_law_738 (fun _ => rfl)).trans <| (s_aload_n i_L_law_740 rfl).trans <| (s_aload_n i_L_law_741 rfl).trans <| (s_iload i_L_law_742 rfl).trans <| (s_iconst i_L_law_744).trans <| (s_iadd i_L_law_745).trans <| (s_iaload i_L_law_746).trans <| c_aI fun x3 => (s_v1 [.ref a2, .int x3] [] i_L_law_747 rfl (fun _ => rfl)).trans <| c_rcv <| c_clI fun x4 h2 => (s_istore (ls2 := [.ref a0, .ref a1, .ref a2, .ref a3, .ref a4, .int v5, .int x2, .int x4, .retAddr 0]) i_L_law_750 (fun _ => rfl)).trans <| (s_aload_n i_L_law_752 rfl).trans <| (s_v1 [.ref a2] [] i_L_law_753 rfl (fun _ => rfl)).trans <| c_rcv <| c_clI fun x5 h3 => (s_iload i_L_law_756 rfl).trans <| (s_icmp_eq i_L_law_758).trans <| c_ite ((s_iload i_L_law_763 rfl).trans <| (s_if_ne i_L_law_765).trans <| c_ite ((s_aload_n i_L_law_768 rfl).trans <| (s_iconst i_L_law_769).trans <| (s_laload i_L_law_770).trans <| c_aL fun l1 => (s_iload i_L_law_771 rfl).trans <| (s_i2l i_L_law_773).trans <| (s_lcmp i_L_law_774).trans <| (s_if_eq i_L_law_775).trans <| c_ite ((s_goto i_L_law_780).trans <| rfl) ((s_iconst i_L_law_778).trans <| s_iretb i_L_law_779 rfl)) ((s_goto i_L_law_780).trans <| rfl)) ((s_iconst i_L_law_761).trans <| s_iretb i_L_law_762 rfl)
theorem bk_L_law_783 (X : mv_X) (call : mv_G) (h : mv_H) (a0 : Nat) (a1 : Nat) (a2 : Nat) (a3 : Nat) (a4 : Nat) (v5 : Int32) (j6 : Value) (j7 : Value) : mv_run X call m_L_law 783 [.ref a0, .ref a1, .ref a2, .ref a3, .ref a4, .int v5, j6, j7, .retAddr 0] [] h =
  mv_aI X h 1 a0 (v5 + (nZ 1)) fun x1 =>
  mv_aI X h 1 a0 (v5 + (nZ 2)) fun x2 =>
  mv_clI call 293 [.ref a1, .int x1, .int x2, .ref a3] h mv_raise fun x3 h1 =>
  mv_aI X h1 1 a0 (v5 + (nZ 1)) fun x4 =>
  mv_aI X h1 1 a0 (v5 + (nZ 2)) fun x5 =>
  mv_rcv X h1 [.ref a2, .int x4, .int x5] 13 (mv_clI call 189 [.ref a2, .int x4, .int x5] h1 mv_raise fun x6 h2 =>
  mv_rcv X h2 [.ref a2] 13 (mv_clI call 148 [.ref a2] h2 mv_raise fun x7 h3 =>
  if x7 = x3 then 
  (if x3 = 0 then 
    (mv_aL X h3 a3 (nZ 0) fun l1 =>
      if (lg_cmp l1 (x6).toInt64) = 0 then 
      (mv_run X call m_L_law 2752 [.ref a0, .ref a1, .ref a2, .ref a3, .ref a4, .int v5, .int x3, .int x6, .retAddr 0] [] h3)
      else ((some (.inl (some (.int (nZ 0))), h3))))
    else (mv_run X call m_L_law 2752 [.ref a0, .ref a1, .ref a2, .ref a3, .ref a4, .int v5, .int x3, .int x6, .retAddr 0] [] h3))
  else ((some (.inl (some (.int (nZ 0))), h3))))) :=
  (s_aload_n i_L_law_783 rfl).trans <| (s_aload_n i_L_law_784 rfl).trans <| (s_iload i_L_law_785 rfl).trans <| (s_iconst i_L_law_787).trans <| (s_iadd i_L_law_788).trans <| (s_iaload i_L_law_789).trans <| c_aI fun x1 => (s_aload_n i_L_law_790 rfl).trans <| (s_iload i_L_law_791 rfl).trans <| (s_iconst i_L_law_793).trans <| (s_iadd i_L_law_794).trans <| (s_iaload i_L_law_795).trans <| c_aI fun x2 => (s_aload_n i_L_law_796 rfl).trans <| (s_s1 [.ref a1, .int x1, .int x2, .ref a3] [] i_L_law_797 rfl (fun _ => rfl)).trans <| c_clI fun x3 h1 => (s_istore (ls2 := [.ref a0, .ref a1, .ref a2, .ref a3, .ref a4, .int v5, .int x3, j7, .retAddr 0]) i_L_law_800 (fun _ => rfl)).trans <| (s_aload_n i_L_law_802 rfl).trans <| (s_aload_n i_L_law_803 rfl).trans <| (s_iload i_L_law_804 rfl).trans <| (s_iconst i_L_law_806).trans <| (s_iadd i_L_law_807).trans <| (s_iaload i_L_law_808).trans <| c_aI fun x4 => (s_aload_n i_L_law_809 rfl).trans <| (s_iload i_L_law_810 rfl).trans <| (s_iconst i_L_law_812).trans <| (s_iadd i_L_law_813).trans <| (s_iaload i_L_law_814).trans <| c_aI fun x5 => (s_v1 [.ref a2, .int x4, .int x5] [] i_L_law_815 rfl (fun _ => rfl)).trans <| c_rcv <| c_clI fun x6 h2 => (s_istore (ls2 := [.ref a0, .ref a1, .ref a2, .ref a3, .ref a4, .int v5, .int x3, .int x6, .retAddr 0]) i_L_law_818 (fun _ => rfl)).trans <| (s_aload_n i_L_law_820 rfl).trans <| (s_v1 [.ref a2] [] i_L_law_821 rfl (fun _ => rfl)).trans <| c_rcv <| c_clI fun x7 h3 => (s_iload i_L_law_824 rfl).trans <| (s_icmp_eq i_L_law_826).trans <| c_ite ((s_iload i_L_law_831 rfl).trans <| (s_if_ne i_L_law_833).trans <| c_ite ((s_aload_n i_L_law_836 rfl).trans <| (s_iconst i_L_law_837).trans <| (s_laload i_L_law_838).trans <| c_aL fun l1 => (s_iload i_L_law_839 rfl).trans <| (s_i2l i_L_law_841).trans <| (s_lcmp i_L_law_842).trans <| (s_if_eq i_L_law_843).trans <| c_ite ((s_goto i_L_law_848).trans <| rfl) ((s_iconst i_L_law_846).trans <| s_iretb i_L_law_847 rfl)) ((s_goto i_L_law_848).trans <| rfl)) ((s_iconst i_L_law_829).trans <| s_iretb i_L_law_830 rfl)
theorem bk_L_law_851 (X : mv_X) (call : mv_G) (h : mv_H) (a0 : Nat) (a1 : Nat) (a2 : Nat) (a3 : Nat) (a4 : Nat) (v5 : Int32) (j6 : Value) (j7 : Value) : mv_run X call m_L_law 851 [.ref a0, .ref a1, .ref a2, .ref a3, .ref a4, .int v5, j6, j7, .retAddr 0] [] h =
  mv_aI X h 1 a0 (v5 + (nZ 1)) fun x1 =>
  mv_aI X h 1 a0 (v5 + (nZ 2)) fun x2 =>
  mv_clI call 294 [.ref a1, .int x1, .int x2, .ref a3] h mv_raise fun x3 h1 =>
  mv_aI X h1 1 a0 (v5 + (nZ 1)) fun x4 =>
  mv_aI X h1 1 a0 (v5 + (nZ 2)) fun x5 =>
  mv_rcv X h1 [.ref a2, .int x4, .int x5] 13 (mv_clI call 190 [.ref a2, .int x4, .int x5] h1 mv_raise fun x6 h2 =>
  mv_rcv X h2 [.ref a2] 13 (mv_clI call 148 [.ref a2] h2 mv_raise fun x7 h3 =>
  if x7 = x3 then 
  (if x3 = 0 then 
    (mv_aL X h3 a3 (nZ 0) fun l1 =>
      if (lg_cmp l1 (x6).toInt64) = 0 then 
      (mv_run X call m_L_law 2752 [.ref a0, .ref a1, .ref a2, .ref a3, .ref a4, .int v5, .int x3, .int x6, .retAddr 0] [] h3)
      else ((some (.inl (some (.int (nZ 0))), h3))))
    else (mv_run X call m_L_law 2752 [.ref a0, .ref a1, .ref a2, .ref a3, .ref a4, .int v5, .int x3, .int x6, .retAddr 0] [] h3))
  else ((some (.inl (some (.int (nZ 0))), h3))))) :=
  (s_aload_n i_L_law_851 rfl).trans <| (s_aload_n i_L_law_852 rfl).trans <| (s_iload i_L_law_853 rfl).trans <| (s_iconst i_L_law_855).trans <| (s_iadd i_L_law_856).trans <| (s_iaload i_L_law_857).trans <| c_aI fun x1 => (s_aload_n i_L_law_858 rfl).trans <| (s_iload i_L_law_859 rfl).trans <| (s_iconst i_L_law_861).trans <| (s_iadd i_L_law_862).trans <| (s_iaload i_L_law_863).trans <| c_aI fun x2 => (s_aload_n i_L_law_864 rfl).trans <| (s_s1 [.ref a1, .int x1, .int x2, .ref a3] [] i_L_law_865 rfl (fun _ => rfl)).trans <| c_clI fun x3 h1 => (s_istore (ls2 := [.ref a0, .ref a1, .ref a2, .ref a3, .ref a4, .int v5, .int x3, j7, .retAddr 0]) i_L_law_868 (fun _ => rfl)).trans <| (s_aload_n i_L_law_870 rfl).trans <| (s_aload_n i_L_law_871 rfl).trans <| (s_iload i_L_law_872 rfl).trans <| (s_iconst i_L_law_874).trans <| (s_iadd i_L_law_875).trans <| (s_iaload i_L_law_876).trans <| c_aI fun x4 => (s_aload_n i_L_law_877 rfl).trans <| (s_iload i_L_law_878 rfl).trans <| (s_iconst i_L_law_880).trans <| (s_iadd i_L_law_881).trans <| (s_iaload i_L_law_882).trans <| c_aI fun x5 => (s_v1 [.ref a2, .int x4, .int x5] [] i_L_law_883 rfl (fun _ => rfl)).trans <| c_rcv <| c_clI fun x6 h2 => (s_istore (ls2 := [.ref a0, .ref a1, .ref a2, .ref a3, .ref a4, .int v5, .int x3, .int x6, .retAddr 0]) i_L_law_886 (fun _ => rfl)).trans <| (s_aload_n i_L_law_888 rfl).trans <| (s_v1 [.ref a2] [] i_L_law_889 rfl (fun _ => rfl)).trans <| c_rcv <| c_clI fun x7 h3 => (s_iload i_L_law_892 rfl).trans <| (s_icmp_eq i_L_law_894).trans <| c_ite ((s_iload i_L_law_899 rfl).trans <| (s_if_ne i_L_law_901).trans <| c_ite ((s_aload_n i_L_law_904 rfl).trans <| (s_iconst i_L_law_905).trans <| (s_laload i_L_law_906).trans <| c_aL fun l1 => (s_iload i_L_law_907 rfl).trans <| (s_i2l i_L_law_909).trans <| (s_lcmp i_L_law_910).trans <| (s_if_eq i_L_law_911).trans <| c_ite ((s_goto i_L_law_916).trans <| rfl) ((s_iconst i_L_law_914).trans <| s_iretb i_L_law_915 rfl)) ((s_goto i_L_law_916).trans <| rfl)) ((s_iconst i_L_law_897).trans <| s_iretb i_L_law_898 rfl)
theorem bk_L_law_919 (X : mv_X) (call : mv_G) (h : mv_H) (a0 : Nat) (a1 : Nat) (a2 : Nat) (a3 : Nat) (a4 : Nat) (v5 : Int32) (j6 : Value) (j7 : Value) : mv_run X call m_L_law 919 [.ref a0, .ref a1, .ref a2, .ref a3, .ref a4, .int v5, j6, j7, .retAddr 0] [] h =
  mv_aI X h 1 a0 (v5 + (nZ 1)) fun x1 =>
  mv_aI X h 1 a0 (v5 + (nZ 2)) fun x2 =>
  mv_clI call 295 [.ref a1, .int x1, .int x2, .ref a3] h mv_raise fun x3 h1 =>
  mv_aI X h1 1 a0 (v5 + (nZ 1)) fun x4 =>
  mv_aI X h1 1 a0 (v5 + (nZ 2)) fun x5 =>
  mv_rcv X h1 [.ref a2, .int x4, .int x5] 13 (mv_clI call 191 [.ref a2, .int x4, .int x5] h1 mv_raise fun x6 h2 =>
  mv_rcv X h2 [.ref a2] 13 (mv_clI call 148 [.ref a2] h2 mv_raise fun x7 h3 =>
  if x7 = x3 then 
  (if x3 = 0 then 
    (mv_aL X h3 a3 (nZ 0) fun l1 =>
      if (lg_cmp l1 (x6).toInt64) = 0 then 
      (mv_run X call m_L_law 2752 [.ref a0, .ref a1, .ref a2, .ref a3, .ref a4, .int v5, .int x3, .int x6, .retAddr 0] [] h3)
      else ((some (.inl (some (.int (nZ 0))), h3))))
    else (mv_run X call m_L_law 2752 [.ref a0, .ref a1, .ref a2, .ref a3, .ref a4, .int v5, .int x3, .int x6, .retAddr 0] [] h3))
  else ((some (.inl (some (.int (nZ 0))), h3))))) :=
  (s_aload_n i_L_law_919 rfl).trans <| (s_aload_n i_L_law_920 rfl).trans <| (s_iload i_L_law_921 rfl).trans <| (s_iconst i_L_law_923).trans <| (s_iadd i_L_law_924).trans <| (s_iaload i_L_law_925).trans <| c_aI fun x1 => (s_aload_n i_L_law_926 rfl).trans <| (s_iload i_L_law_927 rfl).trans <| (s_iconst i_L_law_929).trans <| (s_iadd i_L_law_930).trans <| (s_iaload i_L_law_931).trans <| c_aI fun x2 => (s_aload_n i_L_law_932 rfl).trans <| (s_s1 [.ref a1, .int x1, .int x2, .ref a3] [] i_L_law_933 rfl (fun _ => rfl)).trans <| c_clI fun x3 h1 => (s_istore (ls2 := [.ref a0, .ref a1, .ref a2, .ref a3, .ref a4, .int v5, .int x3, j7, .retAddr 0]) i_L_law_936 (fun _ => rfl)).trans <| (s_aload_n i_L_law_938 rfl).trans <| (s_aload_n i_L_law_939 rfl).trans <| (s_iload i_L_law_940 rfl).trans <| (s_iconst i_L_law_942).trans <| (s_iadd i_L_law_943).trans <| (s_iaload i_L_law_944).trans <| c_aI fun x4 => (s_aload_n i_L_law_945 rfl).trans <| (s_iload i_L_law_946 rfl).trans <| (s_iconst i_L_law_948).trans <| (s_iadd i_L_law_949).trans <| (s_iaload i_L_law_950).trans <| c_aI fun x5 => (s_v1 [.ref a2, .int x4, .int x5] [] i_L_law_951 rfl (fun _ => rfl)).trans <| c_rcv <| c_clI fun x6 h2 => (s_istore (ls2 := [.ref a0, .ref a1, .ref a2, .ref a3, .ref a4, .int v5, .int x3, .int x6, .retAddr 0]) i_L_law_954 (fun _ => rfl)).trans <| (s_aload_n i_L_law_956 rfl).trans <| (s_v1 [.ref a2] [] i_L_law_957 rfl (fun _ => rfl)).trans <| c_rcv <| c_clI fun x7 h3 => (s_iload i_L_law_960 rfl).trans <| (s_icmp_eq i_L_law_962).trans <| c_ite ((s_iload i_L_law_967 rfl).trans <| (s_if_ne i_L_law_969).trans <| c_ite ((s_aload_n i_L_law_972 rfl).trans <| (s_iconst i_L_law_973).trans <| (s_laload i_L_law_974).trans <| c_aL fun l1 => (s_iload i_L_law_975 rfl).trans <| (s_i2l i_L_law_977).trans <| (s_lcmp i_L_law_978).trans <| (s_if_eq i_L_law_979).trans <| c_ite ((s_goto i_L_law_984).trans <| rfl) ((s_iconst i_L_law_982).trans <| s_iretb i_L_law_983 rfl)) ((s_goto i_L_law_984).trans <| rfl)) ((s_iconst i_L_law_965).trans <| s_iretb i_L_law_966 rfl)
theorem bk_L_law_987 (X : mv_X) (call : mv_G) (h : mv_H) (a0 : Nat) (a1 : Nat) (a2 : Nat) (a3 : Nat) (a4 : Nat) (v5 : Int32) (j6 : Value) (j7 : Value) : mv_run X call m_L_law 987 [.ref a0, .ref a1, .ref a2, .ref a3, .ref a4, .int v5, j6, j7, .retAddr 0] [] h =
  mv_aI X h 1 a0 (v5 + (nZ 1)) fun x1 =>
  mv_clI call 296 [.ref a1, .int x1, .ref a3] h mv_raise fun x2 h1 =>
  mv_aI X h1 1 a0 (v5 + (nZ 1)) fun x3 =>
  mv_rcv X h1 [.ref a2, .int x3] 13 (mv_clI call 205 [.ref a2, .int x3] h1 mv_raise fun x4 h2 =>
  mv_rcv X h2 [.ref a2] 13 (mv_clI call 148 [.ref a2] h2 mv_raise fun x5 h3 =>
  if x5 = x2 then 
  (if x2 = 0 then 
    (mv_aL X h3 a3 (nZ 0) fun l1 =>
      if (lg_cmp l1 (x4).toInt64) = 0 then 
      (mv_run X call m_L_law 2752 [.ref a0, .ref a1, .ref a2, .ref a3, .ref a4, .int v5, .int x2, .int x4, .retAddr 0] [] h3)
      else ((some (.inl (some (.int (nZ 0))), h3))))
    else (mv_run X call m_L_law 2752 [.ref a0, .ref a1, .ref a2, .ref a3, .ref a4, .int v5, .int x2, .int x4, .retAddr 0] [] h3))
  else ((some (.inl (some (.int (nZ 0))), h3))))) :=
  (s_aload_n i_L_law_987 rfl).trans <| (s_aload_n i_L_law_988 rfl).trans <| (s_iload i_L_law_989 rfl).trans <| (s_iconst i_L_law_991).trans <| (s_iadd i_L_law_992).trans <| (s_iaload i_L_law_993).trans <| c_aI fun x1 => (s_aload_n i_L_law_994 rfl).trans <| (s_s1 [.ref a1, .int x1, .ref a3] [] i_L_law_995 rfl (fun _ => rfl)).trans <| c_clI fun x2 h1 => (s_istore (ls2 := [.ref a0, .ref a1, .ref a2, .ref a3, .ref a4, .int v5, .int x2, j7, .retAddr 0]) i_L_law_998 (fun _ => rfl)).trans <| (s_aload_n i_L_law_1000 rfl).trans <| (s_aload_n i_L_law_1001 rfl).trans <| (s_iload i_L_law_1002 rfl).trans <| (s_iconst i_L_law_1004).trans <| (s_iadd i_L_law_1005).trans <| (s_iaload i_L_law_1006).trans <| c_aI fun x3 => (s_v1 [.ref a2, .int x3] [] i_L_law_1007 rfl (fun _ => rfl)).trans <| c_rcv <| c_clI fun x4 h2 => (s_istore (ls2 := [.ref a0, .ref a1, .ref a2, .ref a3, .ref a4, .int v5, .int x2, .int x4, .retAddr 0]) i_L_law_1010 (fun _ => rfl)).trans <| (s_aload_n i_L_law_1012 rfl).trans <| (s_v1 [.ref a2] [] i_L_law_1013 rfl (fun _ => rfl)).trans <| c_rcv <| c_clI fun x5 h3 => (s_iload i_L_law_1016 rfl).trans <| (s_icmp_eq i_L_law_1018).trans <| c_ite ((s_iload i_L_law_1023 rfl).trans <| (s_if_ne i_L_law_1025).trans <| c_ite ((s_aload_n i_L_law_1028 rfl).trans <| (s_iconst i_L_law_1029).trans <| (s_laload i_L_law_1030).trans <| c_aL fun l1 => (s_iload i_L_law_1031 rfl).trans <| (s_i2l i_L_law_1033).trans <| (s_lcmp i_L_law_1034).trans <| (s_if_eq i_L_law_1035).trans <| c_ite ((s_goto i_L_law_1040).trans <| rfl) ((s_iconst i_L_law_1038).trans <| s_iretb i_L_law_1039 rfl)) ((s_goto i_L_law_1040).trans <| rfl)) ((s_iconst i_L_law_1021).trans <| s_iretb i_L_law_1022 rfl)
theorem bk_L_law_1043 (X : mv_X) (call : mv_G) (h : mv_H) (a0 : Nat) (a1 : Nat) (a2 : Nat) (a3 : Nat) (a4 : Nat) (v5 : Int32) (j6 : Value) (j7 : Value) : mv_run X call m_L_law 1043 [.ref a0, .ref a1, .ref a2, .ref a3, .ref a4, .int v5, j6, j7, .retAddr 0] [] h =
  mv_aI X h 1 a0 (v5 + (nZ 1)) fun x1 =>
  mv_aI X h 1 a0 (v5 + (nZ 2)) fun x2 =>
  mv_clI call 297 [.ref a1, .int x1, .int x2, .ref a3] h mv_raise fun x3 h1 =>
  mv_aI X h1 1 a0 (v5 + (nZ 1)) fun x4 =>
  mv_aI X h1 1 a0 (v5 + (nZ 2)) fun x5 =>
  mv_rcv X h1 [.ref a2, .int x4, .int x5] 13 (mv_clI call 206 [.ref a2, .int x4, .int x5] h1 mv_raise fun x6 h2 =>
  mv_rcv X h2 [.ref a2] 13 (mv_clI call 148 [.ref a2] h2 mv_raise fun x7 h3 =>
  if x7 = x3 then 
  (if x3 = 0 then 
    (mv_aL X h3 a3 (nZ 0) fun l1 =>
      if (lg_cmp l1 (x6).toInt64) = 0 then 
      (mv_run X call m_L_law 2752 [.ref a0, .ref a1, .ref a2, .ref a3, .ref a4, .int v5, .int x3, .int x6, .retAddr 0] [] h3)
      else ((some (.inl (some (.int (nZ 0))), h3))))
    else (mv_run X call m_L_law 2752 [.ref a0, .ref a1, .ref a2, .ref a3, .ref a4, .int v5, .int x3, .int x6, .retAddr 0] [] h3))
  else ((some (.inl (some (.int (nZ 0))), h3))))) :=
  (s_aload_n i_L_law_1043 rfl).trans <| (s_aload_n i_L_law_1044 rfl).trans <| (s_iload i_L_law_1045 rfl).trans <| (s_iconst i_L_law_1047).trans <| (s_iadd i_L_law_1048).trans <| (s_iaload i_L_law_1049).trans <| c_aI fun x1 => (s_aload_n i_L_law_1050 rfl).trans <| (s_iload i_L_law_1051 rfl).trans <| (s_iconst i_L_law_1053).trans <| (s_iadd i_L_law_1054).trans <| (s_iaload i_L_law_1055).trans <| c_aI fun x2 => (s_aload_n i_L_law_1056 rfl).trans <| (s_s1 [.ref a1, .int x1, .int x2, .ref a3] [] i_L_law_1057 rfl (fun _ => rfl)).trans <| c_clI fun x3 h1 => (s_istore (ls2 := [.ref a0, .ref a1, .ref a2, .ref a3, .ref a4, .int v5, .int x3, j7, .retAddr 0]) i_L_law_1060 (fun _ => rfl)).trans <| (s_aload_n i_L_law_1062 rfl).trans <| (s_aload_n i_L_law_1063 rfl).trans <| (s_iload i_L_law_1064 rfl).trans <| (s_iconst i_L_law_1066).trans <| (s_iadd i_L_law_1067).trans <| (s_iaload i_L_law_1068).trans <| c_aI fun x4 => (s_aload_n i_L_law_1069 rfl).trans <| (s_iload i_L_law_1070 rfl).trans <| (s_iconst i_L_law_1072).trans <| (s_iadd i_L_law_1073).trans <| (s_iaload i_L_law_1074).trans <| c_aI fun x5 => (s_v1 [.ref a2, .int x4, .int x5] [] i_L_law_1075 rfl (fun _ => rfl)).trans <| c_rcv <| c_clI fun x6 h2 => (s_istore (ls2 := [.ref a0, .ref a1, .ref a2, .ref a3, .ref a4, .int v5, .int x3, .int x6, .retAddr 0]) i_L_law_1078 (fun _ => rfl)).trans <| (s_aload_n i_L_law_1080 rfl).trans <| (s_v1 [.ref a2] [] i_L_law_1081 rfl (fun _ => rfl)).trans <| c_rcv <| c_clI fun x7 h3 => (s_iload i_L_law_1084 rfl).trans <| (s_icmp_eq i_L_law_1086).trans <| c_ite ((s_iload i_L_law_1091 rfl).trans <| (s_if_ne i_L_law_1093).trans <| c_ite ((s_aload_n i_L_law_1096 rfl).trans <| (s_iconst i_L_law_1097).trans <| (s_laload i_L_law_1098).trans <| c_aL fun l1 => (s_iload i_L_law_1099 rfl).trans <| (s_i2l i_L_law_1101).trans <| (s_lcmp i_L_law_1102).trans <| (s_if_eq i_L_law_1103).trans <| c_ite ((s_goto i_L_law_1108).trans <| rfl) ((s_iconst i_L_law_1106).trans <| s_iretb i_L_law_1107 rfl)) ((s_goto i_L_law_1108).trans <| rfl)) ((s_iconst i_L_law_1089).trans <| s_iretb i_L_law_1090 rfl)
theorem bk_L_law_1111 (X : mv_X) (call : mv_G) (h : mv_H) (a0 : Nat) (a1 : Nat) (a2 : Nat) (a3 : Nat) (a4 : Nat) (v5 : Int32) (j6 : Value) (j7 : Value) : mv_run X call m_L_law 1111 [.ref a0, .ref a1, .ref a2, .ref a3, .ref a4, .int v5, j6, j7, .retAddr 0] [] h =
  mv_aI X h 1 a0 (v5 + (nZ 1)) fun x1 =>
  mv_aI X h 1 a0 (v5 + (nZ 2)) fun x2 =>
  mv_clI call 298 [.ref a1, .int x1, .int x2, .ref a3] h mv_raise fun x3 h1 =>
  mv_aI X h1 1 a0 (v5 + (nZ 1)) fun x4 =>
  mv_aI X h1 1 a0 (v5 + (nZ 2)) fun x5 =>
  mv_rcv X h1 [.ref a2, .int x4, .int x5] 13 (mv_clI call 208 [.ref a2, .int x4, .int x5] h1 mv_raise fun x6 h2 =>
  mv_rcv X h2 [.ref a2] 13 (mv_clI call 148 [.ref a2] h2 mv_raise fun x7 h3 =>
  if x7 = x3 then 
  (if x3 = 0 then 
    (mv_aL X h3 a3 (nZ 0) fun l1 =>
      if (lg_cmp l1 (x6).toInt64) = 0 then 
      (mv_run X call m_L_law 2752 [.ref a0, .ref a1, .ref a2, .ref a3, .ref a4, .int v5, .int x3, .int x6, .retAddr 0] [] h3)
      else ((some (.inl (some (.int (nZ 0))), h3))))
    else (mv_run X call m_L_law 2752 [.ref a0, .ref a1, .ref a2, .ref a3, .ref a4, .int v5, .int x3, .int x6, .retAddr 0] [] h3))
  else ((some (.inl (some (.int (nZ 0))), h3))))) :=
  (s_aload_n i_L_law_1111 rfl).trans <| (s_aload_n i_L_law_1112 rfl).trans <| (s_iload i_L_law_1113 rfl).trans <| (s_iconst i_L_law_1115).trans <| (s_iadd i_L_law_1116).trans <| (s_iaload i_L_law_1117).trans <| c_aI fun x1 => (s_aload_n i_L_law_1118 rfl).trans <| (s_iload i_L_law_1119 rfl).trans <| (s_iconst i_L_law_1121).trans <| (s_iadd i_L_law_1122).trans <| (s_iaload i_L_law_1123).trans <| c_aI fun x2 => (s_aload_n i_L_law_1124 rfl).trans <| (s_s1 [.ref a1, .int x1, .int x2, .ref a3] [] i_L_law_1125 rfl (fun _ => rfl)).trans <| c_clI fun x3 h1 => (s_istore (ls2 := [.ref a0, .ref a1, .ref a2, .ref a3, .ref a4, .int v5, .int x3, j7, .retAddr 0]) i_L_law_1128 (fun _ => rfl)).trans <| (s_aload_n i_L_law_1130 rfl).trans <| (s_aload_n i_L_law_1131 rfl).trans <| (s_iload i_L_law_1132 rfl).trans <| (s_iconst i_L_law_1134).trans <| (s_iadd i_L_law_1135).trans <| (s_iaload i_L_law_1136).trans <| c_aI fun x4 => (s_aload_n i_L_law_1137 rfl).trans <| (s_iload i_L_law_1138 rfl).trans <| (s_iconst i_L_law_1140).trans <| (s_iadd i_L_law_1141).trans <| (s_iaload i_L_law_1142).trans <| c_aI fun x5 => (s_v1 [.ref a2, .int x4, .int x5] [] i_L_law_1143 rfl (fun _ => rfl)).trans <| c_rcv <| c_clI fun x6 h2 => (s_istore (ls2 := [.ref a0, .ref a1, .ref a2, .ref a3, .ref a4, .int v5, .int x3, .int x6, .retAddr 0]) i_L_law_1146 (fun _ => rfl)).trans <| (s_aload_n i_L_law_1148 rfl).trans <| (s_v1 [.ref a2] [] i_L_law_1149 rfl (fun _ => rfl)).trans <| c_rcv <| c_clI fun x7 h3 => (s_iload i_L_law_1152 rfl).trans <| (s_icmp_eq i_L_law_1154).trans <| c_ite ((s_iload i_L_law_1159 rfl).trans <| (s_if_ne i_L_law_1161).trans <| c_ite ((s_aload_n i_L_law_1164 rfl).trans <| (s_iconst i_L_law_1165).trans <| (s_laload i_L_law_1166).trans <| c_aL fun l1 => (s_iload i_L_law_1167 rfl).trans <| (s_i2l i_L_law_1169).trans <| (s_lcmp i_L_law_1170).trans <| (s_if_eq i_L_law_1171).trans <| c_ite ((s_goto i_L_law_1176).trans <| rfl) ((s_iconst i_L_law_1174).trans <| s_iretb i_L_law_1175 rfl)) ((s_goto i_L_law_1176).trans <| rfl)) ((s_iconst i_L_law_1157).trans <| s_iretb i_L_law_1158 rfl)
theorem bk_L_law_1179 (X : mv_X) (call : mv_G) (h : mv_H) (a0 : Nat) (a1 : Nat) (a2 : Nat) (a3 : Nat) (a4 : Nat) (v5 : Int32) (j6 : Value) (j7 : Value) : mv_run X call m_L_law 1179 [.ref a0, .ref a1, .ref a2, .ref a3, .ref a4, .int v5, j6, j7, .retAddr 0] [] h =
  mv_aI X h 1 a0 (v5 + (nZ 1)) fun x1 =>
  mv_aI X h 1 a0 (v5 + (nZ 2)) fun x2 =>
  mv_clI call 299 [.ref a1, .int x1, .int x2, .ref a3] h mv_raise fun x3 h1 =>
  mv_aI X h1 1 a0 (v5 + (nZ 1)) fun x4 =>
  mv_aI X h1 1 a0 (v5 + (nZ 2)) fun x5 =>
  mv_rcv X h1 [.ref a2, .int x4, .int x5] 13 (mv_clI call 209 [.ref a2, .int x4, .int x5] h1 mv_raise fun x6 h2 =>
  mv_rcv X h2 [.ref a2] 13 (mv_clI call 148 [.ref a2] h2 mv_raise fun x7 h3 =>
  if x7 = x3 then 
  (if x3 = 0 then 
    (mv_aL X h3 a3 (nZ 0) fun l1 =>
      if (lg_cmp l1 (x6).toInt64) = 0 then 
      (mv_run X call m_L_law 2752 [.ref a0, .ref a1, .ref a2, .ref a3, .ref a4, .int v5, .int x3, .int x6, .retAddr 0] [] h3)
      else ((some (.inl (some (.int (nZ 0))), h3))))
    else (mv_run X call m_L_law 2752 [.ref a0, .ref a1, .ref a2, .ref a3, .ref a4, .int v5, .int x3, .int x6, .retAddr 0] [] h3))
  else ((some (.inl (some (.int (nZ 0))), h3))))) :=
  (s_aload_n i_L_law_1179 rfl).trans <| (s_aload_n i_L_law_1180 rfl).trans <| (s_iload i_L_law_1181 rfl).trans <| (s_iconst i_L_law_1183).trans <| (s_iadd i_L_law_1184).trans <| (s_iaload i_L_law_1185).trans <| c_aI fun x1 => (s_aload_n i_L_law_1186 rfl).trans <| (s_iload i_L_law_1187 rfl).trans <| (s_iconst i_L_law_1189).trans <| (s_iadd i_L_law_1190).trans <| (s_iaload i_L_law_1191).trans <| c_aI fun x2 => (s_aload_n i_L_law_1192 rfl).trans <| (s_s1 [.ref a1, .int x1, .int x2, .ref a3] [] i_L_law_1193 rfl (fun _ => rfl)).trans <| c_clI fun x3 h1 => (s_istore (ls2 := [.ref a0, .ref a1, .ref a2, .ref a3, .ref a4, .int v5, .int x3, j7, .retAddr 0]) i_L_law_1196 (fun _ => rfl)).trans <| (s_aload_n i_L_law_1198 rfl).trans <| (s_aload_n i_L_law_1199 rfl).trans <| (s_iload i_L_law_1200 rfl).trans <| (s_iconst i_L_law_1202).trans <| (s_iadd i_L_law_1203).trans <| (s_iaload i_L_law_1204).trans <| c_aI fun x4 => (s_aload_n i_L_law_1205 rfl).trans <| (s_iload i_L_law_1206 rfl).trans <| (s_iconst i_L_law_1208).trans <| (s_iadd i_L_law_1209).trans <| (s_iaload i_L_law_1210).trans <| c_aI fun x5 => (s_v1 [.ref a2, .int x4, .int x5] [] i_L_law_1211 rfl (fun _ => rfl)).trans <| c_rcv <| c_clI fun x6 h2 => (s_istore (ls2 := [.ref a0, .ref a1, .ref a2, .ref a3, .ref a4, .int v5, .int x3, .int x6, .retAddr 0]) i_L_law_1214 (fun _ => rfl)).trans <| (s_aload_n i_L_law_1216 rfl).trans <| (s_v1 [.ref a2] [] i_L_law_1217 rfl (fun _ => rfl)).trans <| c_rcv <| c_clI fun x7 h3 => (s_iload i_L_law_1220 rfl).trans <| (s_icmp_eq i_L_law_1222).trans <| c_ite ((s_iload i_L_law_1227 rfl).trans <| (s_if_ne i_L_law_1229).trans <| c_ite ((s_aload_n i_L_law_1232 rfl).trans <| (s_iconst i_L_law_1233).trans <| (s_laload i_L_law_1234).trans <| c_aL fun l1 => (s_iload i_L_law_1235 rfl).trans <| (s_i2l i_L_law_1237).trans <| (s_lcmp i_L_law_1238).trans <| (s_if_eq i_L_law_1239).trans <| c_ite ((s_goto i_L_law_1244).trans <| rfl) ((s_iconst i_L_law_1242).trans <| s_iretb i_L_law_1243 rfl)) ((s_goto i_L_law_1244).trans <| rfl)) ((s_iconst i_L_law_1225).trans <| s_iretb i_L_law_1226 rfl)
theorem bk_L_law_1247 (X : mv_X) (call : mv_G) (h : mv_H) (a0 : Nat) (a1 : Nat) (a2 : Nat) (a3 : Nat) (a4 : Nat) (v5 : Int32) (j6 : Value) (j7 : Value) : mv_run X call m_L_law 1247 [.ref a0, .ref a1, .ref a2, .ref a3, .ref a4, .int v5, j6, j7, .retAddr 0] [] h =
  mv_aI X h 1 a0 (v5 + (nZ 1)) fun x1 =>
  mv_aI X h 1 a0 (v5 + (nZ 2)) fun x2 =>
  mv_clI call 300 [.ref a1, .int x1, .int x2, .ref a3] h mv_raise fun x3 h1 =>
  mv_aI X h1 1 a0 (v5 + (nZ 1)) fun x4 =>
  mv_aI X h1 1 a0 (v5 + (nZ 2)) fun x5 =>
  mv_rcv X h1 [.ref a2, .int x4, .int x5] 13 (mv_clI call 210 [.ref a2, .int x4, .int x5] h1 mv_raise fun x6 h2 =>
  mv_rcv X h2 [.ref a2] 13 (mv_clI call 148 [.ref a2] h2 mv_raise fun x7 h3 =>
  if x7 = x3 then 
  (if x3 = 0 then 
    (mv_aL X h3 a3 (nZ 0) fun l1 =>
      if (lg_cmp l1 (x6).toInt64) = 0 then 
      (mv_run X call m_L_law 2752 [.ref a0, .ref a1, .ref a2, .ref a3, .ref a4, .int v5, .int x3, .int x6, .retAddr 0] [] h3)
      else ((some (.inl (some (.int (nZ 0))), h3))))
    else (mv_run X call m_L_law 2752 [.ref a0, .ref a1, .ref a2, .ref a3, .ref a4, .int v5, .int x3, .int x6, .retAddr 0] [] h3))
  else ((some (.inl (some (.int (nZ 0))), h3))))) :=
  (s_aload_n i_L_law_1247 rfl).trans <| (s_aload_n i_L_law_1248 rfl).trans <| (s_iload i_L_law_1249 rfl).trans <| (s_iconst i_L_law_1251).trans <| (s_iadd i_L_law_1252).trans <| (s_iaload i_L_law_1253).trans <| c_aI fun x1 => (s_aload_n i_L_law_1254 rfl).trans <| (s_iload i_L_law_1255 rfl).trans <| (s_iconst i_L_law_1257).trans <| (s_iadd i_L_law_1258).trans <| (s_iaload i_L_law_1259).trans <| c_aI fun x2 => (s_aload_n i_L_law_1260 rfl).trans <| (s_s1 [.ref a1, .int x1, .int x2, .ref a3] [] i_L_law_1261 rfl (fun _ => rfl)).trans <| c_clI fun x3 h1 => (s_istore (ls2 := [.ref a0, .ref a1, .ref a2, .ref a3, .ref a4, .int v5, .int x3, j7, .retAddr 0]) i_L_law_1264 (fun _ => rfl)).trans <| (s_aload_n i_L_law_1266 rfl).trans <| (s_aload_n i_L_law_1267 rfl).trans <| (s_iload i_L_law_1268 rfl).trans <| (s_iconst i_L_law_1270).trans <| (s_iadd i_L_law_1271).trans <| (s_iaload i_L_law_1272).trans <| c_aI fun x4 => (s_aload_n i_L_law_1273 rfl).trans <| (s_iload i_L_law_1274 rfl).trans <| (s_iconst i_L_law_1276).trans <| (s_iadd i_L_law_1277).trans <| (s_iaload i_L_law_1278).trans <| c_aI fun x5 => (s_v1 [.ref a2, .int x4, .int x5] [] i_L_law_1279 rfl (fun _ => rfl)).trans <| c_rcv <| c_clI fun x6 h2 => (s_istore (ls2 := [.ref a0, .ref a1, .ref a2, .ref a3, .ref a4, .int v5, .int x3, .int x6, .retAddr 0]) i_L_law_1282 (fun _ => rfl)).trans <| (s_aload_n i_L_law_1284 rfl).trans <| (s_v1 [.ref a2] [] i_L_law_1285 rfl (fun _ => rfl)).trans <| c_rcv <| c_clI fun x7 h3 => (s_iload i_L_law_1288 rfl).trans <| (s_icmp_eq i_L_law_1290).trans <| c_ite ((s_iload i_L_law_1295 rfl).trans <| (s_if_ne i_L_law_1297).trans <| c_ite ((s_aload_n i_L_law_1300 rfl).trans <| (s_iconst i_L_law_1301).trans <| (s_laload i_L_law_1302).trans <| c_aL fun l1 => (s_iload i_L_law_1303 rfl).trans <| (s_i2l i_L_law_1305).trans <| (s_lcmp i_L_law_1306).trans <| (s_if_eq i_L_law_1307).trans <| c_ite ((s_goto i_L_law_1312).trans <| rfl) ((s_iconst i_L_law_1310).trans <| s_iretb i_L_law_1311 rfl)) ((s_goto i_L_law_1312).trans <| rfl)) ((s_iconst i_L_law_1293).trans <| s_iretb i_L_law_1294 rfl)
theorem bk_L_law_1315 (X : mv_X) (call : mv_G) (h : mv_H) (a0 : Nat) (a1 : Nat) (a2 : Nat) (a3 : Nat) (a4 : Nat) (v5 : Int32) (j6 : Value) (j7 : Value) : mv_run X call m_L_law 1315 [.ref a0, .ref a1, .ref a2, .ref a3, .ref a4, .int v5, j6, j7, .retAddr 0] [] h =
  mv_aI X h 1 a0 (v5 + (nZ 1)) fun x1 =>
  mv_aI X h 1 a0 (v5 + (nZ 2)) fun x2 =>
  mv_clI call 301 [.ref a1, .int x1, .int x2, .ref a3] h mv_raise fun x3 h1 =>
  mv_aI X h1 1 a0 (v5 + (nZ 1)) fun x4 =>
  mv_aI X h1 1 a0 (v5 + (nZ 2)) fun x5 =>
  mv_rcv X h1 [.ref a2, .int x4, .int x5] 13 (mv_clI call 192 [.ref a2, .int x4, .int x5] h1 mv_raise fun x6 h2 =>
  mv_rcv X h2 [.ref a2] 13 (mv_clI call 148 [.ref a2] h2 mv_raise fun x7 h3 =>
  if x7 = x3 then 
  (if x3 = 0 then 
    (mv_aL X h3 a3 (nZ 0) fun l1 =>
      if (lg_cmp l1 (x6).toInt64) = 0 then 
      (mv_run X call m_L_law 2752 [.ref a0, .ref a1, .ref a2, .ref a3, .ref a4, .int v5, .int x3, .int x6, .retAddr 0] [] h3)
      else ((some (.inl (some (.int (nZ 0))), h3))))
    else (mv_run X call m_L_law 2752 [.ref a0, .ref a1, .ref a2, .ref a3, .ref a4, .int v5, .int x3, .int x6, .retAddr 0] [] h3))
  else ((some (.inl (some (.int (nZ 0))), h3))))) :=
  (s_aload_n i_L_law_1315 rfl).trans <| (s_aload_n i_L_law_1316 rfl).trans <| (s_iload i_L_law_1317 rfl).trans <| (s_iconst i_L_law_1319).trans <| (s_iadd i_L_law_1320).trans <| (s_iaload i_L_law_1321).trans <| c_aI fun x1 => (s_aload_n i_L_law_1322 rfl).trans <| (s_iload i_L_law_1323 rfl).trans <| (s_iconst i_L_law_1325).trans <| (s_iadd i_L_law_1326).trans <| (s_iaload i_L_law_1327).trans <| c_aI fun x2 => (s_aload_n i_L_law_1328 rfl).trans <| (s_s1 [.ref a1, .int x1, .int x2, .ref a3] [] i_L_law_1329 rfl (fun _ => rfl)).trans <| c_clI fun x3 h1 => (s_istore (ls2 := [.ref a0, .ref a1, .ref a2, .ref a3, .ref a4, .int v5, .int x3, j7, .retAddr 0]) i_L_law_1332 (fun _ => rfl)).trans <| (s_aload_n i_L_law_1334 rfl).trans <| (s_aload_n i_L_law_1335 rfl).trans <| (s_iload i_L_law_1336 rfl).trans <| (s_iconst i_L_law_1338).trans <| (s_iadd i_L_law_1339).trans <| (s_iaload i_L_law_1340).trans <| c_aI fun x4 => (s_aload_n i_L_law_1341 rfl).trans <| (s_iload i_L_law_1342 rfl).trans <| (s_iconst i_L_law_1344).trans <| (s_iadd i_L_law_1345).trans <| (s_iaload i_L_law_1346).trans <| c_aI fun x5 => (s_v1 [.ref a2, .int x4, .int x5] [] i_L_law_1347 rfl (fun _ => rfl)).trans <| c_rcv <| c_clI fun x6 h2 => (s_istore (ls2 := [.ref a0, .ref a1, .ref a2, .ref a3, .ref a4, .int v5, .int x3, .int x6, .retAddr 0]) i_L_law_1350 (fun _ => rfl)).trans <| (s_aload_n i_L_law_1352 rfl).trans <| (s_v1 [.ref a2] [] i_L_law_1353 rfl (fun _ => rfl)).trans <| c_rcv <| c_clI fun x7 h3 => (s_iload i_L_law_1356 rfl).trans <| (s_icmp_eq i_L_law_1358).trans <| c_ite ((s_iload i_L_law_1363 rfl).trans <| (s_if_ne i_L_law_1365).trans <| c_ite ((s_aload_n i_L_law_1368 rfl).trans <| (s_iconst i_L_law_1369).trans <| (s_laload i_L_law_1370).trans <| c_aL fun l1 => (s_iload i_L_law_1371 rfl).trans <| (s_i2l i_L_law_1373).trans <| (s_lcmp i_L_law_1374).trans <| (s_if_eq i_L_law_1375).trans <| c_ite ((s_goto i_L_law_1380).trans <| rfl) ((s_iconst i_L_law_1378).trans <| s_iretb i_L_law_1379 rfl)) ((s_goto i_L_law_1380).trans <| rfl)) ((s_iconst i_L_law_1361).trans <| s_iretb i_L_law_1362 rfl)
theorem bk_L_law_1383 (X : mv_X) (call : mv_G) (h : mv_H) (a0 : Nat) (a1 : Nat) (a2 : Nat) (a3 : Nat) (a4 : Nat) (v5 : Int32) (j6 : Value) (j7 : Value) : mv_run X call m_L_law 1383 [.ref a0, .ref a1, .ref a2, .ref a3, .ref a4, .int v5, j6, j7, .retAddr 0] [] h =
  mv_aI X h 1 a0 (v5 + (nZ 1)) fun x1 =>
  mv_clI call 302 [.ref a1, .int x1, .ref a3] h mv_raise fun x2 h1 =>
  mv_aI X h1 1 a0 (v5 + (nZ 1)) fun x3 =>
  mv_rcv X h1 [.ref a2, .int x3] 13 (mv_clI call 211 [.ref a2, .int x3] h1 mv_raise fun x4 h2 =>
  mv_rcv X h2 [.ref a2] 13 (mv_clI call 148 [.ref a2] h2 mv_raise fun x5 h3 =>
  if x5 = x2 then 
  (if x2 = 0 then 
    (mv_aL X h3 a3 (nZ 0) fun l1 =>
      if (lg_cmp l1 (x4).toInt64) = 0 then 
      (mv_run X call m_L_law 2752 [.ref a0, .ref a1, .ref a2, .ref a3, .ref a4, .int v5, .int x2, .int x4, .retAddr 0] [] h3)
      else ((some (.inl (some (.int (nZ 0))), h3))))
    else (mv_run X call m_L_law 2752 [.ref a0, .ref a1, .ref a2, .ref a3, .ref a4, .int v5, .int x2, .int x4, .retAddr 0] [] h3))
  else ((some (.inl (some (.int (nZ 0))), h3))))) :=
  (s_aload_n i_L_law_1383 rfl).trans <| (s_aload_n i_L_law_1384 rfl).trans <| (s_iload i_L_law_1385 rfl).trans <| (s_iconst i_L_law_1387).trans <| (s_iadd i_L_law_1388).trans <| (s_iaload i_L_law_1389).trans <| c_aI fun x1 => (s_aload_n i_L_law_1390 rfl).trans <| (s_s1 [.ref a1, .int x1, .ref a3] [] i_L_law_1391 rfl (fun _ => rfl)).trans <| c_clI fun x2 h1 => (s_istore (ls2 := [.ref a0, .ref a1, .ref a2, .ref a3, .ref a4, .int v5, .int x2, j7, .retAddr 0]) i_L_law_1394 (fun _ => rfl)).trans <| (s_aload_n i_L_law_1396 rfl).trans <| (s_aload_n i_L_law_1397 rfl).trans <| (s_iload i_L_law_1398 rfl).trans <| (s_iconst i_L_law_1400).trans <| (s_iadd i_L_law_1401).trans <| (s_iaload i_L_law_1402).trans <| c_aI fun x3 => (s_v1 [.ref a2, .int x3] [] i_L_law_1403 rfl (fun _ => rfl)).trans <| c_rcv <| c_clI fun x4 h2 => (s_istore (ls2 := [.ref a0, .ref a1, .ref a2, .ref a3, .ref a4, .int v5, .int x2, .int x4, .retAddr 0]) i_L_law_1406 (fun _ => rfl)).trans <| (s_aload_n i_L_law_1408 rfl).trans <| (s_v1 [.ref a2] [] i_L_law_1409 rfl (fun _ => rfl)).trans <| c_rcv <| c_clI fun x5 h3 => (s_iload i_L_law_1412 rfl).trans <| (s_icmp_eq i_L_law_1414).trans <| c_ite ((s_iload i_L_law_1419 rfl).trans <| (s_if_ne i_L_law_1421).trans <| c_ite ((s_aload_n i_L_law_1424 rfl).trans <| (s_iconst i_L_law_1425).trans <| (s_laload i_L_law_1426).trans <| c_aL fun l1 => (s_iload i_L_law_1427 rfl).trans <| (s_i2l i_L_law_1429).trans <| (s_lcmp i_L_law_1430).trans <| (s_if_eq i_L_law_1431).trans <| c_ite ((s_goto i_L_law_1436).trans <| rfl) ((s_iconst i_L_law_1434).trans <| s_iretb i_L_law_1435 rfl)) ((s_goto i_L_law_1436).trans <| rfl)) ((s_iconst i_L_law_1417).trans <| s_iretb i_L_law_1418 rfl)
theorem bk_L_law_1439 (X : mv_X) (call : mv_G) (h : mv_H) (a0 : Nat) (a1 : Nat) (a2 : Nat) (a3 : Nat) (a4 : Nat) (v5 : Int32) (j6 : Value) (j7 : Value) : mv_run X call m_L_law 1439 [.ref a0, .ref a1, .ref a2, .ref a3, .ref a4, .int v5, j6, j7, .retAddr 0] [] h =
  mv_aI X h 1 a0 (v5 + (nZ 1)) fun x1 =>
  mv_clI call 303 [.ref a1, .int x1, .ref a3] h mv_raise fun x2 h1 =>
  mv_aI X h1 1 a0 (v5 + (nZ 1)) fun x3 =>
  mv_rcv X h1 [.ref a2, .int x3] 13 (mv_clI call 212 [.ref a2, .int x3] h1 mv_raise fun x4 h2 =>
  mv_rcv X h2 [.ref a2] 13 (mv_clI call 148 [.ref a2] h2 mv_raise fun x5 h3 =>
  if x5 = x2 then 
  (if x2 = 0 then 
    (mv_aL X h3 a3 (nZ 0) fun l1 =>
      if (lg_cmp l1 (x4).toInt64) = 0 then 
      (mv_run X call m_L_law 2752 [.ref a0, .ref a1, .ref a2, .ref a3, .ref a4, .int v5, .int x2, .int x4, .retAddr 0] [] h3)
      else ((some (.inl (some (.int (nZ 0))), h3))))
    else (mv_run X call m_L_law 2752 [.ref a0, .ref a1, .ref a2, .ref a3, .ref a4, .int v5, .int x2, .int x4, .retAddr 0] [] h3))
  else ((some (.inl (some (.int (nZ 0))), h3))))) :=
  (s_aload_n i_L_law_1439 rfl).trans <| (s_aload_n i_L_law_1440 rfl).trans <| (s_iload i_L_law_1441 rfl).trans <| (s_iconst i_L_law_1443).trans <| (s_iadd i_L_law_1444).trans <| (s_iaload i_L_law_1445).trans <| c_aI fun x1 => (s_aload_n i_L_law_1446 rfl).trans <| (s_s1 [.ref a1, .int x1, .ref a3] [] i_L_law_1447 rfl (fun _ => rfl)).trans <| c_clI fun x2 h1 => (s_istore (ls2 := [.ref a0, .ref a1, .ref a2, .ref a3, .ref a4, .int v5, .int x2, j7, .retAddr 0]) i_L_law_1450 (fun _ => rfl)).trans <| (s_aload_n i_L_law_1452 rfl).trans <| (s_aload_n i_L_law_1453 rfl).trans <| (s_iload i_L_law_1454 rfl).trans <| (s_iconst i_L_law_1456).trans <| (s_iadd i_L_law_1457).trans <| (s_iaload i_L_law_1458).trans <| c_aI fun x3 => (s_v1 [.ref a2, .int x3] [] i_L_law_1459 rfl (fun _ => rfl)).trans <| c_rcv <| c_clI fun x4 h2 => (s_istore (ls2 := [.ref a0, .ref a1, .ref a2, .ref a3, .ref a4, .int v5, .int x2, .int x4, .retAddr 0]) i_L_law_1462 (fun _ => rfl)).trans <| (s_aload_n i_L_law_1464 rfl).trans <| (s_v1 [.ref a2] [] i_L_law_1465 rfl (fun _ => rfl)).trans <| c_rcv <| c_clI fun x5 h3 => (s_iload i_L_law_1468 rfl).trans <| (s_icmp_eq i_L_law_1470).trans <| c_ite ((s_iload i_L_law_1475 rfl).trans <| (s_if_ne i_L_law_1477).trans <| c_ite ((s_aload_n i_L_law_1480 rfl).trans <| (s_iconst i_L_law_1481).trans <| (s_laload i_L_law_1482).trans <| c_aL fun l1 => (s_iload i_L_law_1483 rfl).trans <| (s_i2l i_L_law_1485).trans <| (s_lcmp i_L_law_1486).trans <| (s_if_eq i_L_law_1487).trans <| c_ite ((s_goto i_L_law_1492).trans <| rfl) ((s_iconst i_L_law_1490).trans <| s_iretb i_L_law_1491 rfl)) ((s_goto i_L_law_1492).trans <| rfl)) ((s_iconst i_L_law_1473).trans <| s_iretb i_L_law_1474 rfl)
theorem bk_L_law_1495 (X : mv_X) (call : mv_G) (h : mv_H) (a0 : Nat) (a1 : Nat) (a2 : Nat) (a3 : Nat) (a4 : Nat) (v5 : Int32) (j6 : Value) (j7 : Value) : mv_run X call m_L_law 1495 [.ref a0, .ref a1, .ref a2, .ref a3, .ref a4, .int v5, j6, j7, .retAddr 0] [] h =
  mv_rcv X h [.ref a1] 12 (mv_clI call 104 [.ref a1] h mv_raise fun x1 h1 =>
  mv_rcv X h1 [.ref a2] 13 (mv_clI call 213 [.ref a2] h1 mv_raise fun x2 h2 =>
  if x1 = x2 then 
  (mv_run X call m_L_law 2752 [.ref a0, .ref a1, .ref a2, .ref a3, .ref a4, .int v5, j6, j7, .retAddr 0] [] h2)
  else ((some (.inl (some (.int (nZ 0))), h2))))) :=
  (s_aload_n i_L_law_1495 rfl).trans <| (s_v1 [.ref a1] [] i_L_law_1496 rfl (fun _ => rfl)).trans <| c_rcv <| c_clI fun x1 h1 => (s_aload_n i_L_law_1499 rfl).trans <| (s_v1 [.ref a2] [.int x1] i_L_law_1500 rfl (fun _ => rfl)).trans <| c_rcv <| c_clI fun x2 h2 => (s_icmp_eq i_L_law_1503).trans <| c_ite (rfl) ((s_iconst i_L_law_1506).trans <| s_iretb i_L_law_1507 rfl)
theorem bk_L_law_1508 (X : mv_X) (call : mv_G) (h : mv_H) (a0 : Nat) (a1 : Nat) (a2 : Nat) (a3 : Nat) (a4 : Nat) (v5 : Int32) (j6 : Value) (j7 : Value) : mv_run X call m_L_law 1508 [.ref a0, .ref a1, .ref a2, .ref a3, .ref a4, .int v5, j6, j7, .retAddr 0] [] h =
  mv_rcv X h [.ref a1] 12 (mv_clI call 105 [.ref a1] h mv_raise fun x1 h1 =>
  mv_rcv X h1 [.ref a2] 13 (mv_clI call 214 [.ref a2] h1 mv_raise fun x2 h2 =>
  if x1 = x2 then 
  (mv_run X call m_L_law 2752 [.ref a0, .ref a1, .ref a2, .ref a3, .ref a4, .int v5, j6, j7, .retAddr 0] [] h2)
  else ((some (.inl (some (.int (nZ 0))), h2))))) :=
  (s_aload_n i_L_law_1508 rfl).trans <| (s_v1 [.ref a1] [] i_L_law_1509 rfl (fun _ => rfl)).trans <| c_rcv <| c_clI fun x1 h1 => (s_aload_n i_L_law_1512 rfl).trans <| (s_v1 [.ref a2] [.int x1] i_L_law_1513 rfl (fun _ => rfl)).trans <| c_rcv <| c_clI fun x2 h2 => (s_icmp_eq i_L_law_1516).trans <| c_ite (rfl) ((s_iconst i_L_law_1519).trans <| s_iretb i_L_law_1520 rfl)
theorem bk_L_law_1521 (X : mv_X) (call : mv_G) (h : mv_H) (a0 : Nat) (a1 : Nat) (a2 : Nat) (a3 : Nat) (a4 : Nat) (v5 : Int32) (j6 : Value) (j7 : Value) : mv_run X call m_L_law 1521 [.ref a0, .ref a1, .ref a2, .ref a3, .ref a4, .int v5, j6, j7, .retAddr 0] [] h =
  mv_aI X h 1 a0 (v5 + (nZ 1)) fun x1 =>
  mv_clI call 304 [.ref a1, .int x1, .ref a3] h mv_raise fun x2 h1 =>
  mv_aI X h1 1 a0 (v5 + (nZ 1)) fun x3 =>
  mv_rcv X h1 [.ref a2, .int x3] 13 (mv_clI call 215 [.ref a2, .int x3] h1 mv_raise fun x4 h2 =>
  mv_rcv X h2 [.ref a2] 13 (mv_clI call 148 [.ref a2] h2 mv_raise fun x5 h3 =>
  if x5 = x2 then 
  (if x2 = 0 then 
    (mv_aL X h3 a3 (nZ 0) fun l1 =>
      if (lg_cmp l1 (x4).toInt64) = 0 then 
      (mv_run X call m_L_law 2752 [.ref a0, .ref a1, .ref a2, .ref a3, .ref a4, .int v5, .int x2, .int x4, .retAddr 0] [] h3)
      else ((some (.inl (some (.int (nZ 0))), h3))))
    else (mv_run X call m_L_law 2752 [.ref a0, .ref a1, .ref a2, .ref a3, .ref a4, .int v5, .int x2, .int x4, .retAddr 0] [] h3))
  else ((some (.inl (some (.int (nZ 0))), h3))))) :=
  (s_aload_n i_L_law_1521 rfl).trans <| (s_aload_n i_L_law_1522 rfl).trans <| (s_iload i_L_law_1523 rfl).trans <| (s_iconst i_L_law_1525).trans <| (s_iadd i_L_law_1526).trans <| (s_iaload i_L_law_1527).trans <| c_aI fun x1 => (s_aload_n i_L_law_1528 rfl).trans <| (s_s1 [.ref a1, .int x1, .ref a3] [] i_L_law_1529 rfl (fun _ => rfl)).trans <| c_clI fun x2 h1 => (s_istore (ls2 := [.ref a0, .ref a1, .ref a2, .ref a3, .ref a4, .int v5, .int x2, j7, .retAddr 0]) i_L_law_1532 (fun _ => rfl)).trans <| (s_aload_n i_L_law_1534 rfl).trans <| (s_aload_n i_L_law_1535 rfl).trans <| (s_iload i_L_law_1536 rfl).trans <| (s_iconst i_L_law_1538).trans <| (s_iadd i_L_law_1539).trans <| (s_iaload i_L_law_1540).trans <| c_aI fun x3 => (s_v1 [.ref a2, .int x3] [] i_L_law_1541 rfl (fun _ => rfl)).trans <| c_rcv <| c_clI fun x4 h2 => (s_istore (ls2 := [.ref a0, .ref a1, .ref a2, .ref a3, .ref a4, .int v5, .int x2, .int x4, .retAddr 0]) i_L_law_1544 (fun _ => rfl)).trans <| (s_aload_n i_L_law_1546 rfl).trans <| (s_v1 [.ref a2] [] i_L_law_1547 rfl (fun _ => rfl)).trans <| c_rcv <| c_clI fun x5 h3 => (s_iload i_L_law_1550 rfl).trans <| (s_icmp_eq i_L_law_1552).trans <| c_ite ((s_iload i_L_law_1557 rfl).trans <| (s_if_ne i_L_law_1559).trans <| c_ite ((s_aload_n i_L_law_1562 rfl).trans <| (s_iconst i_L_law_1563).trans <| (s_laload i_L_law_1564).trans <| c_aL fun l1 => (s_iload i_L_law_1565 rfl).trans <| (s_i2l i_L_law_1567).trans <| (s_lcmp i_L_law_1568).trans <| (s_if_eq i_L_law_1569).trans <| c_ite ((s_goto i_L_law_1574).trans <| rfl) ((s_iconst i_L_law_1572).trans <| s_iretb i_L_law_1573 rfl)) ((s_goto i_L_law_1574).trans <| rfl)) ((s_iconst i_L_law_1555).trans <| s_iretb i_L_law_1556 rfl)
theorem bk_L_law_1577 (X : mv_X) (call : mv_G) (h : mv_H) (a0 : Nat) (a1 : Nat) (a2 : Nat) (a3 : Nat) (a4 : Nat) (v5 : Int32) (j6 : Value) (j7 : Value) : mv_run X call m_L_law 1577 [.ref a0, .ref a1, .ref a2, .ref a3, .ref a4, .int v5, j6, j7, .retAddr 0] [] h =
  mv_aI X h 1 a0 (v5 + (nZ 1)) fun x1 =>
  mv_clI call 305 [.ref a1, .int x1, .ref a3] h mv_raise fun x2 h1 =>
  mv_aI X h1 1 a0 (v5 + (nZ 1)) fun x3 =>
  mv_rcv X h1 [.ref a2, .int x3] 13 (mv_clI call 216 [.ref a2, .int x3] h1 mv_raise fun x4 h2 =>
  mv_rcv X h2 [.ref a2] 13 (mv_clI call 148 [.ref a2] h2 mv_raise fun x5 h3 =>
  if x5 = x2 then 
  (if x2 = 0 then 
    (mv_aL X h3 a3 (nZ 0) fun l1 =>
      if (lg_cmp l1 (x4).toInt64) = 0 then 
      (mv_run X call m_L_law 2752 [.ref a0, .ref a1, .ref a2, .ref a3, .ref a4, .int v5, .int x2, .int x4, .retAddr 0] [] h3)
      else ((some (.inl (some (.int (nZ 0))), h3))))
    else (mv_run X call m_L_law 2752 [.ref a0, .ref a1, .ref a2, .ref a3, .ref a4, .int v5, .int x2, .int x4, .retAddr 0] [] h3))
  else ((some (.inl (some (.int (nZ 0))), h3))))) :=
  (s_aload_n i_L_law_1577 rfl).trans <| (s_aload_n i_L_law_1578 rfl).trans <| (s_iload i_L_law_1579 rfl).trans <| (s_iconst i_L_law_1581).trans <| (s_iadd i_L_law_1582).trans <| (s_iaload i_L_law_1583).trans <| c_aI fun x1 => (s_aload_n i_L_law_1584 rfl).trans <| (s_s1 [.ref a1, .int x1, .ref a3] [] i_L_law_1585 rfl (fun _ => rfl)).trans <| c_clI fun x2 h1 => (s_istore (ls2 := [.ref a0, .ref a1, .ref a2, .ref a3, .ref a4, .int v5, .int x2, j7, .retAddr 0]) i_L_law_1588 (fun _ => rfl)).trans <| (s_aload_n i_L_law_1590 rfl).trans <| (s_aload_n i_L_law_1591 rfl).trans <| (s_iload i_L_law_1592 rfl).trans <| (s_iconst i_L_law_1594).trans <| (s_iadd i_L_law_1595).trans <| (s_iaload i_L_law_1596).trans <| c_aI fun x3 => (s_v1 [.ref a2, .int x3] [] i_L_law_1597 rfl (fun _ => rfl)).trans <| c_rcv <| c_clI fun x4 h2 => (s_istore (ls2 := [.ref a0, .ref a1, .ref a2, .ref a3, .ref a4, .int v5, .int x2, .int x4, .retAddr 0]) i_L_law_1600 (fun _ => rfl)).trans <| (s_aload_n i_L_law_1602 rfl).trans <| (s_v1 [.ref a2] [] i_L_law_1603 rfl (fun _ => rfl)).trans <| c_rcv <| c_clI fun x5 h3 => (s_iload i_L_law_1606 rfl).trans <| (s_icmp_eq i_L_law_1608).trans <| c_ite ((s_iload i_L_law_1613 rfl).trans <| (s_if_ne i_L_law_1615).trans <| c_ite ((s_aload_n i_L_law_1618 rfl).trans <| (s_iconst i_L_law_1619).trans <| (s_laload i_L_law_1620).trans <| c_aL fun l1 => (s_iload i_L_law_1621 rfl).trans <| (s_i2l i_L_law_1623).trans <| (s_lcmp i_L_law_1624).trans <| (s_if_eq i_L_law_1625).trans <| c_ite ((s_goto i_L_law_1630).trans <| rfl) ((s_iconst i_L_law_1628).trans <| s_iretb i_L_law_1629 rfl)) ((s_goto i_L_law_1630).trans <| rfl)) ((s_iconst i_L_law_1611).trans <| s_iretb i_L_law_1612 rfl)
theorem bk_L_law_1633 (X : mv_X) (call : mv_G) (h : mv_H) (a0 : Nat) (a1 : Nat) (a2 : Nat) (a3 : Nat) (a4 : Nat) (v5 : Int32) (j6 : Value) (j7 : Value) : mv_run X call m_L_law 1633 [.ref a0, .ref a1, .ref a2, .ref a3, .ref a4, .int v5, j6, j7, .retAddr 0] [] h =
  mv_aI X h 1 a0 (v5 + (nZ 1)) fun x1 =>
  mv_aI X h 1 a0 (v5 + (nZ 2)) fun x2 =>
  mv_aI X h 1 a0 (v5 + (nZ 3)) fun x3 =>
  mv_clI call 306 [.ref a1, .int x1, .int x2, .int x3, .ref a3] h mv_raise fun x4 h1 =>
  mv_aI X h1 1 a0 (v5 + (nZ 1)) fun x5 =>
  mv_aI X h1 1 a0 (v5 + (nZ 2)) fun x6 =>
  mv_aI X h1 1 a0 (v5 + (nZ 3)) fun x7 =>
  mv_rcv X h1 [.ref a2, .int x5, .int x6, .int x7] 13 (mv_clI call 193 [.ref a2, .int x5, .int x6, .int x7] h1 mv_raise fun x8 h2 =>
  mv_rcv X h2 [.ref a2] 13 (mv_clI call 148 [.ref a2] h2 mv_raise fun x9 h3 =>
  if x9 = x4 then 
  (if x4 = 0 then 
    (mv_aL X h3 a3 (nZ 0) fun l1 =>
      if (lg_cmp l1 (x8).toInt64) = 0 then 
      (mv_run X call m_L_law 2752 [.ref a0, .ref a1, .ref a2, .ref a3, .ref a4, .int v5, .int x4, .int x8, .retAddr 0] [] h3)
      else ((some (.inl (some (.int (nZ 0))), h3))))
    else (mv_run X call m_L_law 2752 [.ref a0, .ref a1, .ref a2, .ref a3, .ref a4, .int v5, .int x4, .int x8, .retAddr 0] [] h3))
  else ((some (.inl (some (.int (nZ 0))), h3))))) :=
  (s_aload_n i_L_law_1633 rfl).trans <| (s_aload_n i_L_law_1634 rfl).trans <| (s_iload i_L_law_1635 rfl).trans <| (s_iconst i_L_law_1637).trans <| (s_iadd i_L_law_1638).trans <| (s_iaload i_L_law_1639).trans <| c_aI fun x1 => (s_aload_n i_L_law_1640 rfl).trans <| (s_iload i_L_law_1641 rfl).trans <| (s_iconst i_L_law_1643).trans <| (s_iadd i_L_law_1644).trans <| (s_iaload i_L_law_1645).trans <| c_aI fun x2 => (s_aload_n i_L_law_1646 rfl).trans <| (s_iload i_L_law_1647 rfl).trans <| (s_iconst i_L_law_1649).trans <| (s_iadd i_L_law_1650).trans <| (s_iaload i_L_law_1651).trans <| c_aI fun x3 => (s_aload_n i_L_law_1652 rfl).trans <| (s_s1 [.ref a1, .int x1, .int x2, .int x3, .ref a3] [] i_L_law_1653 rfl (fun _ => rfl)).trans <| c_clI fun x4 h1 => (s_istore (ls2 := [.ref a0, .ref a1, .ref a2, .ref a3, .ref a4, .int v5, .int x4, j7, .retAddr 0]) i_L_law_1656 (fun _ => rfl)).trans <| (s_aload_n i_L_law_1658 rfl).trans <| (s_aload_n i_L_law_1659 rfl).trans <| (s_iload i_L_law_1660 rfl).trans <| (s_iconst i_L_law_1662).trans <| (s_iadd i_L_law_1663).trans <| (s_iaload i_L_law_1664).trans <| c_aI fun x5 => (s_aload_n i_L_law_1665 rfl).trans <| (s_iload i_L_law_1666 rfl).trans <| (s_iconst i_L_law_1668).trans <| (s_iadd i_L_law_1669).trans <| (s_iaload i_L_law_1670).trans <| c_aI fun x6 => (s_aload_n i_L_law_1671 rfl).trans <| (s_iload i_L_law_1672 rfl).trans <| (s_iconst i_L_law_1674).trans <| (s_iadd i_L_law_1675).trans <| (s_iaload i_L_law_1676).trans <| c_aI fun x7 => (s_v1 [.ref a2, .int x5, .int x6, .int x7] [] i_L_law_1677 rfl (fun _ => rfl)).trans <| c_rcv <| c_clI fun x8 h2 => (s_istore (ls2 := [.ref a0, .ref a1, .ref a2, .ref a3, .ref a4, .int v5, .int x4, .int x8, .retAddr 0]) i_L_law_1680 (fun _ => rfl)).trans <| (s_aload_n i_L_law_1682 rfl).trans <| (s_v1 [.ref a2] [] i_L_law_1683 rfl (fun _ => rfl)).trans <| c_rcv <| c_clI fun x9 h3 => (s_iload i_L_law_1686 rfl).trans <| (s_icmp_eq i_L_law_1688).trans <| c_ite ((s_iload i_L_law_1693 rfl).trans <| (s_if_ne i_L_law_1695).trans <| c_ite ((s_aload_n i_L_law_1698 rfl).trans <| (s_iconst i_L_law_1699).trans <| (s_laload i_L_law_1700).trans <| c_aL fun l1 => (s_iload i_L_law_1701 rfl).trans <| (s_i2l i_L_law_1703).trans <| (s_lcmp i_L_law_1704).trans <| (s_if_eq i_L_law_1705).trans <| c_ite ((s_goto i_L_law_1710).trans <| rfl) ((s_iconst i_L_law_1708).trans <| s_iretb i_L_law_1709 rfl)) ((s_goto i_L_law_1710).trans <| rfl)) ((s_iconst i_L_law_1691).trans <| s_iretb i_L_law_1692 rfl)
theorem bk_L_law_1713 (X : mv_X) (call : mv_G) (h : mv_H) (a0 : Nat) (a1 : Nat) (a2 : Nat) (a3 : Nat) (a4 : Nat) (v5 : Int32) (j6 : Value) (j7 : Value) : mv_run X call m_L_law 1713 [.ref a0, .ref a1, .ref a2, .ref a3, .ref a4, .int v5, j6, j7, .retAddr 0] [] h =
  mv_aI X h 1 a0 (v5 + (nZ 1)) fun x1 =>
  mv_clI call 307 [.ref a1, .int x1, .ref a3] h mv_raise fun x2 h1 =>
  mv_aI X h1 1 a0 (v5 + (nZ 1)) fun x3 =>
  mv_rcv X h1 [.ref a2, .int x3] 13 (mv_clI call 194 [.ref a2, .int x3] h1 mv_raise fun x4 h2 =>
  mv_rcv X h2 [.ref a2] 13 (mv_clI call 148 [.ref a2] h2 mv_raise fun x5 h3 =>
  if x5 = x2 then 
  (if x2 = 0 then 
    (mv_aL X h3 a3 (nZ 0) fun l1 =>
      if (lg_cmp l1 (x4).toInt64) = 0 then 
      (mv_run X call m_L_law 2752 [.ref a0, .ref a1, .ref a2, .ref a3, .ref a4, .int v5, .int x2, .int x4, .retAddr 0] [] h3)
      else ((some (.inl (some (.int (nZ 0))), h3))))
    else (mv_run X call m_L_law 2752 [.ref a0, .ref a1, .ref a2, .ref a3, .ref a4, .int v5, .int x2, .int x4, .retAddr 0] [] h3))
  else ((some (.inl (some (.int (nZ 0))), h3))))) :=
  (s_aload_n i_L_law_1713 rfl).trans <| (s_aload_n i_L_law_1714 rfl).trans <| (s_iload i_L_law_1715 rfl).trans <| (s_iconst i_L_law_1717).trans <| (s_iadd i_L_law_1718).trans <| (s_iaload i_L_law_1719).trans <| c_aI fun x1 => (s_aload_n i_L_law_1720 rfl).trans <| (s_s1 [.ref a1, .int x1, .ref a3] [] i_L_law_1721 rfl (fun _ => rfl)).trans <| c_clI fun x2 h1 => (s_istore (ls2 := [.ref a0, .ref a1, .ref a2, .ref a3, .ref a4, .int v5, .int x2, j7, .retAddr 0]) i_L_law_1724 (fun _ => rfl)).trans <| (s_aload_n i_L_law_1726 rfl).trans <| (s_aload_n i_L_law_1727 rfl).trans <| (s_iload i_L_law_1728 rfl).trans <| (s_iconst i_L_law_1730).trans <| (s_iadd i_L_law_1731).trans <| (s_iaload i_L_law_1732).trans <| c_aI fun x3 => (s_v1 [.ref a2, .int x3] [] i_L_law_1733 rfl (fun _ => rfl)).trans <| c_rcv <| c_clI fun x4 h2 => (s_istore (ls2 := [.ref a0, .ref a1, .ref a2, .ref a3, .ref a4, .int v5, .int x2, .int x4, .retAddr 0]) i_L_law_1736 (fun _ => rfl)).trans <| (s_aload_n i_L_law_1738 rfl).trans <| (s_v1 [.ref a2] [] i_L_law_1739 rfl (fun _ => rfl)).trans <| c_rcv <| c_clI fun x5 h3 => (s_iload i_L_law_1742 rfl).trans <| (s_icmp_eq i_L_law_1744).trans <| c_ite ((s_iload i_L_law_1749 rfl).trans <| (s_if_ne i_L_law_1751).trans <| c_ite ((s_aload_n i_L_law_1754 rfl).trans <| (s_iconst i_L_law_1755).trans <| (s_laload i_L_law_1756).trans <| c_aL fun l1 => (s_iload i_L_law_1757 rfl).trans <| (s_i2l i_L_law_1759).trans <| (s_lcmp i_L_law_1760).trans <| (s_if_eq i_L_law_1761).trans <| c_ite ((s_goto i_L_law_1766).trans <| rfl) ((s_iconst i_L_law_1764).trans <| s_iretb i_L_law_1765 rfl)) ((s_goto i_L_law_1766).trans <| rfl)) ((s_iconst i_L_law_1747).trans <| s_iretb i_L_law_1748 rfl)
theorem bk_L_law_1769 (X : mv_X) (call : mv_G) (h : mv_H) (a0 : Nat) (a1 : Nat) (a2 : Nat) (a3 : Nat) (a4 : Nat) (v5 : Int32) (j6 : Value) (j7 : Value) : mv_run X call m_L_law 1769 [.ref a0, .ref a1, .ref a2, .ref a3, .ref a4, .int v5, j6, j7, .retAddr 0] [] h =
  mv_rcv X h [.ref a1] 12 (mv_clI call 110 [.ref a1] h mv_raise fun x1 h1 =>
  mv_rcv X h1 [.ref a2] 13 (mv_clI call 217 [.ref a2] h1 mv_raise fun x2 h2 =>
  if x1 = x2 then 
  (mv_run X call m_L_law 2752 [.ref a0, .ref a1, .ref a2, .ref a3, .ref a4, .int v5, j6, j7, .retAddr 0] [] h2)
  else ((some (.inl (some (.int (nZ 0))), h2))))) :=
  (s_aload_n i_L_law_1769 rfl).trans <| (s_v1 [.ref a1] [] i_L_law_1770 rfl (fun _ => rfl)).trans <| c_rcv <| c_clI fun x1 h1 => (s_aload_n i_L_law_1773 rfl).trans <| (s_v1 [.ref a2] [.int x1] i_L_law_1774 rfl (fun _ => rfl)).trans <| c_rcv <| c_clI fun x2 h2 => (s_icmp_eq i_L_law_1777).trans <| c_ite (rfl) ((s_iconst i_L_law_1780).trans <| s_iretb i_L_law_1781 rfl)
theorem bk_L_law_1782 (X : mv_X) (call : mv_G) (h : mv_H) (a0 : Nat) (a1 : Nat) (a2 : Nat) (a3 : Nat) (a4 : Nat) (v5 : Int32) (j6 : Value) (j7 : Value) : mv_run X call m_L_law 1782 [.ref a0, .ref a1, .ref a2, .ref a3, .ref a4, .int v5, j6, j7, .retAddr 0] [] h =
  mv_aI X h 1 a0 (v5 + (nZ 1)) fun x1 =>
  mv_aI X h 1 a0 (v5 + (nZ 2)) fun x2 =>
  mv_clI call 308 [.ref a1, .int x1, .int x2, .ref a3] h mv_raise fun x3 h1 =>
  mv_aI X h1 1 a0 (v5 + (nZ 1)) fun x4 =>
  mv_aI X h1 1 a0 (v5 + (nZ 2)) fun x5 =>
  mv_rcv X h1 [.ref a2, .int x4, .int x5] 13 (mv_clI call 220 [.ref a2, .int x4, .int x5] h1 mv_raise fun x6 h2 =>
  mv_rcv X h2 [.ref a2] 13 (mv_clI call 148 [.ref a2] h2 mv_raise fun x7 h3 =>
  if x7 = x3 then 
  (if x3 = 0 then 
    (mv_aL X h3 a3 (nZ 0) fun l1 =>
      if x6 = 0 then 
      (if (lg_cmp l1 (Int64.ofNat 0)) = 0 then 
        (mv_run X call m_L_law 2752 [.ref a0, .ref a1, .ref a2, .ref a3, .ref a4, .int v5, .int x3, .int x6, .retAddr 0] [] h3)
        else ((some (.inl (some (.int (nZ 0))), h3))))
      else (if (lg_cmp l1 (Int64.ofNat 1)) = 0 then 
        (mv_run X call m_L_law 2752 [.ref a0, .ref a1, .ref a2, .ref a3, .ref a4, .int v5, .int x3, .int x6, .retAddr 0] [] h3)
        else ((some (.inl (some (.int (nZ 0))), h3)))))
    else (mv_run X call m_L_law 2752 [.ref a0, .ref a1, .ref a2, .ref a3, .ref a4, .int v5, .int x3, .int x6, .retAddr 0] [] h3))
  else ((some (.inl (some (.int (nZ 0))), h3))))) :=
  (s_aload_n i_L_law_1782 rfl).trans <| (s_aload_n i_L_law_1783 rfl).trans <| (s_iload i_L_law_1784 rfl).trans <| (s_iconst i_L_law_1786).trans <| (s_iadd i_L_law_1787).trans <| (s_iaload i_L_law_1788).trans <| c_aI fun x1 => (s_aload_n i_L_law_1789 rfl).trans <| (s_iload i_L_law_1790 rfl).trans <| (s_iconst i_L_law_1792).trans <| (s_iadd i_L_law_1793).trans <| (s_iaload i_L_law_1794).trans <| c_aI fun x2 => (s_aload_n i_L_law_1795 rfl).trans <| (s_s1 [.ref a1, .int x1, .int x2, .ref a3] [] i_L_law_1796 rfl (fun _ => rfl)).trans <| c_clI fun x3 h1 => (s_istore (ls2 := [.ref a0, .ref a1, .ref a2, .ref a3, .ref a4, .int v5, .int x3, j7, .retAddr 0]) i_L_law_1799 (fun _ => rfl)).trans <| (s_aload_n i_L_law_1801 rfl).trans <| (s_aload_n i_L_law_1802 rfl).trans <| (s_iload i_L_law_1803 rfl).trans <| (s_iconst i_L_law_1805).trans <| (s_iadd i_L_law_1806).trans <| (s_iaload i_L_law_1807).trans <| c_aI fun x4 => (s_aload_n i_L_law_1808 rfl).trans <| (s_iload i_L_law_1809 rfl).trans <| (s_iconst i_L_law_1811).trans <| (s_iadd i_L_law_1812).trans <| (s_iaload i_L_law_1813).trans <| c_aI fun x5 => (s_v1 [.ref a2, .int x4, .int x5] [] i_L_law_1814 rfl (fun _ => rfl)).trans <| c_rcv <| c_clI fun x6 h2 => (s_istore (ls2 := [.ref a0, .ref a1, .ref a2, .ref a3, .ref a4, .int v5, .int x3, .int x6, .retAddr 0]) i_L_law_1817 (fun _ => rfl)).trans <| (s_aload_n i_L_law_1819 rfl).trans <| (s_v1 [.ref a2] [] i_L_law_1820 rfl (fun _ => rfl)).trans <| c_rcv <| c_clI fun x7 h3 => (s_iload i_L_law_1823 rfl).trans <| (s_icmp_eq i_L_law_1825).trans <| c_ite ((s_iload i_L_law_1830 rfl).trans <| (s_if_ne i_L_law_1832).trans <| c_ite ((s_aload_n i_L_law_1835 rfl).trans <| (s_iconst i_L_law_1836).trans <| (s_laload i_L_law_1837).trans <| c_aL fun l1 => (s_iload i_L_law_1838 rfl).trans <| (s_if_eq i_L_law_1840).trans <| c_ite ((s_lconst 0 i_L_law_1847 rfl).trans <| (s_lcmp i_L_law_1848).trans <| (s_if_eq i_L_law_1849).trans <| c_ite ((s_goto i_L_law_1854).trans <| rfl) ((s_iconst i_L_law_1852).trans <| s_iretb i_L_law_1853 rfl)) ((s_lconst 1 i_L_law_1843 rfl).trans <| (s_goto i_L_law_1844).trans <| (s_lcmp i_L_law_1848).trans <| (s_if_eq i_L_law_1849).trans <| c_ite ((s_goto i_L_law_1854).trans <| rfl) ((s_iconst i_L_law_1852).trans <| s_iretb i_L_law_1853 rfl))) ((s_goto i_L_law_1854).trans <| rfl)) ((s_iconst i_L_law_1828).trans <| s_iretb i_L_law_1829 rfl)
theorem bk_L_law_1857 (X : mv_X) (call : mv_G) (h : mv_H) (a0 : Nat) (a1 : Nat) (a2 : Nat) (a3 : Nat) (a4 : Nat) (v5 : Int32) (j6 : Value) (j7 : Value) : mv_run X call m_L_law 1857 [.ref a0, .ref a1, .ref a2, .ref a3, .ref a4, .int v5, j6, j7, .retAddr 0] [] h =
  mv_aI X h 1 a0 (v5 + (nZ 1)) fun x1 =>
  mv_aI X h 1 a0 (v5 + (nZ 2)) fun x2 =>
  mv_clI call 309 [.ref a1, .int x1, .int x2, .ref a3] h mv_raise fun x3 h1 =>
  mv_aI X h1 1 a0 (v5 + (nZ 1)) fun x4 =>
  mv_aI X h1 1 a0 (v5 + (nZ 2)) fun x5 =>
  mv_rcv X h1 [.ref a2, .int x4, .int x5] 13 (mv_clI call 221 [.ref a2, .int x4, .int x5] h1 mv_raise fun x6 h2 =>
  mv_rcv X h2 [.ref a2] 13 (mv_clI call 148 [.ref a2] h2 mv_raise fun x7 h3 =>
  if x7 = x3 then 
  (if x3 = 0 then 
    (mv_aL X h3 a3 (nZ 0) fun l1 =>
      if x6 = 0 then 
      (if (lg_cmp l1 (Int64.ofNat 0)) = 0 then 
        (mv_run X call m_L_law 2752 [.ref a0, .ref a1, .ref a2, .ref a3, .ref a4, .int v5, .int x3, .int x6, .retAddr 0] [] h3)
        else ((some (.inl (some (.int (nZ 0))), h3))))
      else (if (lg_cmp l1 (Int64.ofNat 1)) = 0 then 
        (mv_run X call m_L_law 2752 [.ref a0, .ref a1, .ref a2, .ref a3, .ref a4, .int v5, .int x3, .int x6, .retAddr 0] [] h3)
        else ((some (.inl (some (.int (nZ 0))), h3)))))
    else (mv_run X call m_L_law 2752 [.ref a0, .ref a1, .ref a2, .ref a3, .ref a4, .int v5, .int x3, .int x6, .retAddr 0] [] h3))
  else ((some (.inl (some (.int (nZ 0))), h3))))) :=
  (s_aload_n i_L_law_1857 rfl).trans <| (s_aload_n i_L_law_1858 rfl).trans <| (s_iload i_L_law_1859 rfl).trans <| (s_iconst i_L_law_1861).trans <| (s_iadd i_L_law_1862).trans <| (s_iaload i_L_law_1863).trans <| c_aI fun x1 => (s_aload_n i_L_law_1864 rfl).trans <| (s_iload i_L_law_1865 rfl).trans <| (s_iconst i_L_law_1867).trans <| (s_iadd i_L_law_1868).trans <| (s_iaload i_L_law_1869).trans <| c_aI fun x2 => (s_aload_n i_L_law_1870 rfl).trans <| (s_s1 [.ref a1, .int x1, .int x2, .ref a3] [] i_L_law_1871 rfl (fun _ => rfl)).trans <| c_clI fun x3 h1 => (s_istore (ls2 := [.ref a0, .ref a1, .ref a2, .ref a3, .ref a4, .int v5, .int x3, j7, .retAddr 0]) i_L_law_1874 (fun _ => rfl)).trans <| (s_aload_n i_L_law_1876 rfl).trans <| (s_aload_n i_L_law_1877 rfl).trans <| (s_iload i_L_law_1878 rfl).trans <| (s_iconst i_L_law_1880).trans <| (s_iadd i_L_law_1881).trans <| (s_iaload i_L_law_1882).trans <| c_aI fun x4 => (s_aload_n i_L_law_1883 rfl).trans <| (s_iload i_L_law_1884 rfl).trans <| (s_iconst i_L_law_1886).trans <| (s_iadd i_L_law_1887).trans <| (s_iaload i_L_law_1888).trans <| c_aI fun x5 => (s_v1 [.ref a2, .int x4, .int x5] [] i_L_law_1889 rfl (fun _ => rfl)).trans <| c_rcv <| c_clI fun x6 h2 => (s_istore (ls2 := [.ref a0, .ref a1, .ref a2, .ref a3, .ref a4, .int v5, .int x3, .int x6, .retAddr 0]) i_L_law_1892 (fun _ => rfl)).trans <| (s_aload_n i_L_law_1894 rfl).trans <| (s_v1 [.ref a2] [] i_L_law_1895 rfl (fun _ => rfl)).trans <| c_rcv <| c_clI fun x7 h3 => (s_iload i_L_law_1898 rfl).trans <| (s_icmp_eq i_L_law_1900).trans <| c_ite ((s_iload i_L_law_1905 rfl).trans <| (s_if_ne i_L_law_1907).trans <| c_ite ((s_aload_n i_L_law_1910 rfl).trans <| (s_iconst i_L_law_1911).trans <| (s_laload i_L_law_1912).trans <| c_aL fun l1 => (s_iload i_L_law_1913 rfl).trans <| (s_if_eq i_L_law_1915).trans <| c_ite ((s_lconst 0 i_L_law_1922 rfl).trans <| (s_lcmp i_L_law_1923).trans <| (s_if_eq i_L_law_1924).trans <| c_ite ((s_goto i_L_law_1929).trans <| rfl) ((s_iconst i_L_law_1927).trans <| s_iretb i_L_law_1928 rfl)) ((s_lconst 1 i_L_law_1918 rfl).trans <| (s_goto i_L_law_1919).trans <| (s_lcmp i_L_law_1923).trans <| (s_if_eq i_L_law_1924).trans <| c_ite ((s_goto i_L_law_1929).trans <| rfl) ((s_iconst i_L_law_1927).trans <| s_iretb i_L_law_1928 rfl))) ((s_goto i_L_law_1929).trans <| rfl)) ((s_iconst i_L_law_1903).trans <| s_iretb i_L_law_1904 rfl)
theorem bk_L_law_1932 (X : mv_X) (call : mv_G) (h : mv_H) (a0 : Nat) (a1 : Nat) (a2 : Nat) (a3 : Nat) (a4 : Nat) (v5 : Int32) (j6 : Value) (j7 : Value) : mv_run X call m_L_law 1932 [.ref a0, .ref a1, .ref a2, .ref a3, .ref a4, .int v5, j6, j7, .retAddr 0] [] h =
  mv_rcv X h [.ref a1] 12 (mv_clI call 113 [.ref a1] h mv_raise fun x1 h1 =>
  mv_rcv X h1 [.ref a2] 13 (mv_clI call 222 [.ref a2] h1 mv_raise fun x2 h2 =>
  if x1 = x2 then 
  (mv_run X call m_L_law 2752 [.ref a0, .ref a1, .ref a2, .ref a3, .ref a4, .int v5, j6, j7, .retAddr 0] [] h2)
  else ((some (.inl (some (.int (nZ 0))), h2))))) :=
  (s_aload_n i_L_law_1932 rfl).trans <| (s_v1 [.ref a1] [] i_L_law_1933 rfl (fun _ => rfl)).trans <| c_rcv <| c_clI fun x1 h1 => (s_aload_n i_L_law_1936 rfl).trans <| (s_v1 [.ref a2] [.int x1] i_L_law_1937 rfl (fun _ => rfl)).trans <| c_rcv <| c_clI fun x2 h2 => (s_icmp_eq i_L_law_1940).trans <| c_ite (rfl) ((s_iconst i_L_law_1943).trans <| s_iretb i_L_law_1944 rfl)
theorem bk_L_law_1945 (X : mv_X) (call : mv_G) (h : mv_H) (a0 : Nat) (a1 : Nat) (a2 : Nat) (a3 : Nat) (a4 : Nat) (v5 : Int32) (j6 : Value) (j7 : Value) : mv_run X call m_L_law 1945 [.ref a0, .ref a1, .ref a2, .ref a3, .ref a4, .int v5, j6, j7, .retAddr 0] [] h =
  mv_rcv X h [.ref a1] 12 (mv_clI call 114 [.ref a1] h mv_raise fun x1 h1 =>
  mv_rcv X h1 [.ref a2] 13 (mv_clI call 223 [.ref a2] h1 mv_raise fun x2 h2 =>
  if x1 = x2 then 
  (mv_run X call m_L_law 2752 [.ref a0, .ref a1, .ref a2, .ref a3, .ref a4, .int v5, j6, j7, .retAddr 0] [] h2)
  else ((some (.inl (some (.int (nZ 0))), h2))))) :=
  (s_aload_n i_L_law_1945 rfl).trans <| (s_v1 [.ref a1] [] i_L_law_1946 rfl (fun _ => rfl)).trans <| c_rcv <| c_clI fun x1 h1 => (s_aload_n i_L_law_1949 rfl).trans <| (s_v1 [.ref a2] [.int x1] i_L_law_1950 rfl (fun _ => rfl)).trans <| c_rcv <| c_clI fun x2 h2 => (s_icmp_eq i_L_law_1953).trans <| c_ite (rfl) ((s_iconst i_L_law_1956).trans <| s_iretb i_L_law_1957 rfl)
theorem bk_L_law_1958 (X : mv_X) (call : mv_G) (h : mv_H) (a0 : Nat) (a1 : Nat) (a2 : Nat) (a3 : Nat) (a4 : Nat) (v5 : Int32) (j6 : Value) (j7 : Value) : mv_run X call m_L_law 1958 [.ref a0, .ref a1, .ref a2, .ref a3, .ref a4, .int v5, j6, j7, .retAddr 0] [] h =
  mv_aI X h 1 a0 (v5 + (nZ 1)) fun x1 =>
  mv_clI call 310 [.ref a1, .int x1, .ref a3] h mv_raise fun x2 h1 =>
  mv_aI X h1 1 a0 (v5 + (nZ 1)) fun x3 =>
  mv_rcv X h1 [.ref a2, .int x3] 13 (mv_clI call 195 [.ref a2, .int x3] h1 mv_raise fun x4 h2 =>
  mv_rcv X h2 [.ref a2] 13 (mv_clI call 148 [.ref a2] h2 mv_raise fun x5 h3 =>
  if x5 = x2 then 
  (if x2 = 0 then 
    (mv_aL X h3 a3 (nZ 0) fun l1 =>
      if (lg_cmp l1 (x4).toInt64) = 0 then 
      (mv_run X call m_L_law 2752 [.ref a0, .ref a1, .ref a2, .ref a3, .ref a4, .int v5, .int x2, .int x4, .retAddr 0] [] h3)
      else ((some (.inl (some (.int (nZ 0))), h3))))
    else (mv_run X call m_L_law 2752 [.ref a0, .ref a1, .ref a2, .ref a3, .ref a4, .int v5, .int x2, .int x4, .retAddr 0] [] h3))
  else ((some (.inl (some (.int (nZ 0))), h3))))) :=
  (s_aload_n i_L_law_1958 rfl).trans <| (s_aload_n i_L_law_1959 rfl).trans <| (s_iload i_L_law_1960 rfl).trans <| (s_iconst i_L_law_1962).trans <| (s_iadd i_L_law_1963).trans <| (s_iaload i_L_law_1964).trans <| c_aI fun x1 => (s_aload_n i_L_law_1965 rfl).trans <| (s_s1 [.ref a1, .int x1, .ref a3] [] i_L_law_1966 rfl (fun _ => rfl)).trans <| c_clI fun x2 h1 => (s_istore (ls2 := [.ref a0, .ref a1, .ref a2, .ref a3, .ref a4, .int v5, .int x2, j7, .retAddr 0]) i_L_law_1969 (fun _ => rfl)).trans <| (s_aload_n i_L_law_1971 rfl).trans <| (s_aload_n i_L_law_1972 rfl).trans <| (s_iload i_L_law_1973 rfl).trans <| (s_iconst i_L_law_1975).trans <| (s_iadd i_L_law_1976).trans <| (s_iaload i_L_law_1977).trans <| c_aI fun x3 => (s_v1 [.ref a2, .int x3] [] i_L_law_1978 rfl (fun _ => rfl)).trans <| c_rcv <| c_clI fun x4 h2 => (s_istore (ls2 := [.ref a0, .ref a1, .ref a2, .ref a3, .ref a4, .int v5, .int x2, .int x4, .retAddr 0]) i_L_law_1981 (fun _ => rfl)).trans <| (s_aload_n i_L_law_1983 rfl).trans <| (s_v1 [.ref a2] [] i_L_law_1984 rfl (fun _ => rfl)).trans <| c_rcv <| c_clI fun x5 h3 => (s_iload i_L_law_1987 rfl).trans <| (s_icmp_eq i_L_law_1989).trans <| c_ite ((s_iload i_L_law_1994 rfl).trans <| (s_if_ne i_L_law_1996).trans <| c_ite ((s_aload_n i_L_law_1999 rfl).trans <| (s_iconst i_L_law_2000).trans <| (s_laload i_L_law_2001).trans <| c_aL fun l1 => (s_iload i_L_law_2002 rfl).trans <| (s_i2l i_L_law_2004).trans <| (s_lcmp i_L_law_2005).trans <| (s_if_eq i_L_law_2006).trans <| c_ite ((s_goto i_L_law_2011).trans <| rfl) ((s_iconst i_L_law_2009).trans <| s_iretb i_L_law_2010 rfl)) ((s_goto i_L_law_2011).trans <| rfl)) ((s_iconst i_L_law_1992).trans <| s_iretb i_L_law_1993 rfl)
theorem bk_L_law_2014 (X : mv_X) (call : mv_G) (h : mv_H) (a0 : Nat) (a1 : Nat) (a2 : Nat) (a3 : Nat) (a4 : Nat) (v5 : Int32) (j6 : Value) (j7 : Value) : mv_run X call m_L_law 2014 [.ref a0, .ref a1, .ref a2, .ref a3, .ref a4, .int v5, j6, j7, .retAddr 0] [] h =
  mv_rcv X h [.ref a1] 12 (mv_clI call 116 [.ref a1] h mv_raise fun x1 h1 =>
  mv_rcv X h1 [.ref a2] 13 (mv_clI call 224 [.ref a2] h1 mv_raise fun x2 h2 =>
  if x1 = x2 then 
  (mv_run X call m_L_law 2752 [.ref a0, .ref a1, .ref a2, .ref a3, .ref a4, .int v5, j6, j7, .retAddr 0] [] h2)
  else ((some (.inl (some (.int (nZ 0))), h2))))) :=
  (s_aload_n i_L_law_2014 rfl).trans <| (s_v1 [.ref a1] [] i_L_law_2015 rfl (fun _ => rfl)).trans <| c_rcv <| c_clI fun x1 h1 => (s_aload_n i_L_law_2018 rfl).trans <| (s_v1 [.ref a2] [.int x1] i_L_law_2019 rfl (fun _ => rfl)).trans <| c_rcv <| c_clI fun x2 h2 => (s_icmp_eq i_L_law_2022).trans <| c_ite (rfl) ((s_iconst i_L_law_2025).trans <| s_iretb i_L_law_2026 rfl)
theorem bk_L_law_2027 (X : mv_X) (call : mv_G) (h : mv_H) (a0 : Nat) (a1 : Nat) (a2 : Nat) (a3 : Nat) (a4 : Nat) (v5 : Int32) (j6 : Value) (j7 : Value) : mv_run X call m_L_law 2027 [.ref a0, .ref a1, .ref a2, .ref a3, .ref a4, .int v5, j6, j7, .retAddr 0] [] h =
  mv_rcv X h [.ref a1] 12 (mv_clI call 117 [.ref a1] h mv_raise fun x1 h1 =>
  mv_rcv X h1 [.ref a2] 13 (mv_clI call 225 [.ref a2] h1 mv_raise fun x2 h2 =>
  if x1 = x2 then 
  (mv_run X call m_L_law 2752 [.ref a0, .ref a1, .ref a2, .ref a3, .ref a4, .int v5, j6, j7, .retAddr 0] [] h2)
  else ((some (.inl (some (.int (nZ 0))), h2))))) :=
  (s_aload_n i_L_law_2027 rfl).trans <| (s_v1 [.ref a1] [] i_L_law_2028 rfl (fun _ => rfl)).trans <| c_rcv <| c_clI fun x1 h1 => (s_aload_n i_L_law_2031 rfl).trans <| (s_v1 [.ref a2] [.int x1] i_L_law_2032 rfl (fun _ => rfl)).trans <| c_rcv <| c_clI fun x2 h2 => (s_icmp_eq i_L_law_2035).trans <| c_ite (rfl) ((s_iconst i_L_law_2038).trans <| s_iretb i_L_law_2039 rfl)
theorem bk_L_law_2040 (X : mv_X) (call : mv_G) (h : mv_H) (a0 : Nat) (a1 : Nat) (a2 : Nat) (a3 : Nat) (a4 : Nat) (v5 : Int32) (j6 : Value) (j7 : Value) : mv_run X call m_L_law 2040 [.ref a0, .ref a1, .ref a2, .ref a3, .ref a4, .int v5, j6, j7, .retAddr 0] [] h =
  mv_rcv X h [.ref a1] 12 (mv_clI call 118 [.ref a1] h mv_raise fun x1 h1 =>
  mv_rcv X h1 [.ref a2] 13 (mv_clI call 226 [.ref a2] h1 mv_raise fun x2 h2 =>
  if x1 = x2 then 
  (mv_run X call m_L_law 2752 [.ref a0, .ref a1, .ref a2, .ref a3, .ref a4, .int v5, j6, j7, .retAddr 0] [] h2)
  else ((some (.inl (some (.int (nZ 0))), h2))))) :=
  (s_aload_n i_L_law_2040 rfl).trans <| (s_v1 [.ref a1] [] i_L_law_2041 rfl (fun _ => rfl)).trans <| c_rcv <| c_clI fun x1 h1 => (s_aload_n i_L_law_2044 rfl).trans <| (s_v1 [.ref a2] [.int x1] i_L_law_2045 rfl (fun _ => rfl)).trans <| c_rcv <| c_clI fun x2 h2 => (s_icmp_eq i_L_law_2048).trans <| c_ite (rfl) ((s_iconst i_L_law_2051).trans <| s_iretb i_L_law_2052 rfl)
theorem bk_L_law_2053 (X : mv_X) (call : mv_G) (h : mv_H) (a0 : Nat) (a1 : Nat) (a2 : Nat) (a3 : Nat) (a4 : Nat) (v5 : Int32) (j6 : Value) (j7 : Value) : mv_run X call m_L_law 2053 [.ref a0, .ref a1, .ref a2, .ref a3, .ref a4, .int v5, j6, j7, .retAddr 0] [] h =
  mv_rcv X h [.ref a1] 12 (mv_clI call 119 [.ref a1] h mv_raise fun x1 h1 =>
  mv_rcv X h1 [.ref a2] 13 (mv_clI call 227 [.ref a2] h1 mv_raise fun x2 h2 =>
  if x1 = x2 then 
  (mv_run X call m_L_law 2752 [.ref a0, .ref a1, .ref a2, .ref a3, .ref a4, .int v5, j6, j7, .retAddr 0] [] h2)
  else ((some (.inl (some (.int (nZ 0))), h2))))) :=
  (s_aload_n i_L_law_2053 rfl).trans <| (s_v1 [.ref a1] [] i_L_law_2054 rfl (fun _ => rfl)).trans <| c_rcv <| c_clI fun x1 h1 => (s_aload_n i_L_law_2057 rfl).trans <| (s_v1 [.ref a2] [.int x1] i_L_law_2058 rfl (fun _ => rfl)).trans <| c_rcv <| c_clI fun x2 h2 => (s_icmp_eq i_L_law_2061).trans <| c_ite (rfl) ((s_iconst i_L_law_2064).trans <| s_iretb i_L_law_2065 rfl)
theorem bk_L_law_2066 (X : mv_X) (call : mv_G) (h : mv_H) (a0 : Nat) (a1 : Nat) (a2 : Nat) (a3 : Nat) (a4 : Nat) (v5 : Int32) (j6 : Value) (j7 : Value) : mv_run X call m_L_law 2066 [.ref a0, .ref a1, .ref a2, .ref a3, .ref a4, .int v5, j6, j7, .retAddr 0] [] h =
  mv_rcv X h [.ref a1] 12 (mv_clI call 120 [.ref a1] h mv_raise fun x1 h1 =>
  mv_rcv X h1 [.ref a2] 13 (mv_clI call 228 [.ref a2] h1 mv_raise fun x2 h2 =>
  if x1 = x2 then 
  (mv_run X call m_L_law 2752 [.ref a0, .ref a1, .ref a2, .ref a3, .ref a4, .int v5, j6, j7, .retAddr 0] [] h2)
  else ((some (.inl (some (.int (nZ 0))), h2))))) :=
  (s_aload_n i_L_law_2066 rfl).trans <| (s_v1 [.ref a1] [] i_L_law_2067 rfl (fun _ => rfl)).trans <| c_rcv <| c_clI fun x1 h1 => (s_aload_n i_L_law_2070 rfl).trans <| (s_v1 [.ref a2] [.int x1] i_L_law_2071 rfl (fun _ => rfl)).trans <| c_rcv <| c_clI fun x2 h2 => (s_icmp_eq i_L_law_2074).trans <| c_ite (rfl) ((s_iconst i_L_law_2077).trans <| s_iretb i_L_law_2078 rfl)
theorem bk_L_law_2079 (X : mv_X) (call : mv_G) (h : mv_H) (a0 : Nat) (a1 : Nat) (a2 : Nat) (a3 : Nat) (a4 : Nat) (v5 : Int32) (j6 : Value) (j7 : Value) : mv_run X call m_L_law 2079 [.ref a0, .ref a1, .ref a2, .ref a3, .ref a4, .int v5, j6, j7, .retAddr 0] [] h =
  mv_rcv X h [.ref a1] 12 (mv_clI call 121 [.ref a1] h mv_raise fun x1 h1 =>
  mv_rcv X h1 [.ref a2] 13 (mv_clI call 229 [.ref a2] h1 mv_raise fun x2 h2 =>
  if x1 = x2 then 
  (mv_run X call m_L_law 2752 [.ref a0, .ref a1, .ref a2, .ref a3, .ref a4, .int v5, j6, j7, .retAddr 0] [] h2)
  else ((some (.inl (some (.int (nZ 0))), h2))))) :=
  (s_aload_n i_L_law_2079 rfl).trans <| (s_v1 [.ref a1] [] i_L_law_2080 rfl (fun _ => rfl)).trans <| c_rcv <| c_clI fun x1 h1 => (s_aload_n i_L_law_2083 rfl).trans <| (s_v1 [.ref a2] [.int x1] i_L_law_2084 rfl (fun _ => rfl)).trans <| c_rcv <| c_clI fun x2 h2 => (s_icmp_eq i_L_law_2087).trans <| c_ite (rfl) ((s_iconst i_L_law_2090).trans <| s_iretb i_L_law_2091 rfl)
theorem bk_L_law_2092 (X : mv_X) (call : mv_G) (h : mv_H) (a0 : Nat) (a1 : Nat) (a2 : Nat) (a3 : Nat) (a4 : Nat) (v5 : Int32) (j6 : Value) (j7 : Value) : mv_run X call m_L_law 2092 [.ref a0, .ref a1, .ref a2, .ref a3, .ref a4, .int v5, j6, j7, .retAddr 0] [] h =
  mv_rcv X h [.ref a1] 12 (mv_clI call 122 [.ref a1] h mv_raise fun x1 h1 =>
  mv_rcv X h1 [.ref a2] 13 (mv_clI call 230 [.ref a2] h1 mv_raise fun x2 h2 =>
  if x1 = x2 then 
  (mv_run X call m_L_law 2752 [.ref a0, .ref a1, .ref a2, .ref a3, .ref a4, .int v5, j6, j7, .retAddr 0] [] h2)
  else ((some (.inl (some (.int (nZ 0))), h2))))) :=
  (s_aload_n i_L_law_2092 rfl).trans <| (s_v1 [.ref a1] [] i_L_law_2093 rfl (fun _ => rfl)).trans <| c_rcv <| c_clI fun x1 h1 => (s_aload_n i_L_law_2096 rfl).trans <| (s_v1 [.ref a2] [.int x1] i_L_law_2097 rfl (fun _ => rfl)).trans <| c_rcv <| c_clI fun x2 h2 => (s_icmp_eq i_L_law_2100).trans <| c_ite (rfl) ((s_iconst i_L_law_2103).trans <| s_iretb i_L_law_2104 rfl)
theorem bk_L_law_2105 (X : mv_X) (call : mv_G) (h : mv_H) (a0 : Nat) (a1 : Nat) (a2 : Nat) (a3 : Nat) (a4 : Nat) (v5 : Int32) (j6 : Value) (j7 : Value) : mv_run X call m_L_law 2105 [.ref a0, .ref a1, .ref a2, .ref a3, .ref a4, .int v5, j6, j7, .retAddr 0] [] h =
  mv_clI call 311 [.ref a1, .ref a4] h mv_raise fun x1 h1 =>
  mv_rcv X h1 [.ref a2] 13 (mv_clD call 231 [.ref a2] h1 mv_raise fun d1 h2 =>
  mv_rcv X h2 [.ref a2] 13 (mv_clI call 148 [.ref a2] h2 mv_raise fun x2 h3 =>
  if x2 = x1 then 
  (if x1 = 0 then 
    (mv_aD X h3 a4 (nZ 0) fun d2 =>
      if (Op.cmpValue (FP.dcmp d2 d1) .l) = 0 then 
      (mv_run X call m_L_law 2752 [.ref a0, .ref a1, .ref a2, .ref a3, .ref a4, .int v5, .int x1, .double d1, .retAddr 0] [] h3)
      else (mv_aD X h3 a4 (nZ 0) fun d3 =>
        mv_aD X h3 a4 (nZ 0) fun d4 =>
        if (Op.cmpValue (FP.dcmp d3 d4) .l) = 0 then 
        ((some (.inl (some (.int (nZ 0))), h3)))
        else (if (Op.cmpValue (FP.dcmp d1 d1) .l) = 0 then 
          ((some (.inl (some (.int (nZ 0))), h3)))
          else (mv_run X call m_L_law 2752 [.ref a0, .ref a1, .ref a2, .ref a3, .ref a4, .int v5, .int x1, .double d1, .retAddr 0] [] h3))))
    else (mv_run X call m_L_law 2752 [.ref a0, .ref a1, .ref a2, .ref a3, .ref a4, .int v5, .int x1, .double d1, .retAddr 0] [] h3))
  else ((some (.inl (some (.int (nZ 0))), h3))))) :=
  (s_aload_n i_L_law_2105 rfl).trans <| (s_aload i_L_law_2106 rfl).trans <| (s_s1 [.ref a1, .ref a4] [] i_L_law_2108 rfl (fun _ => rfl)).trans <| c_clI fun x1 h1 => (s_istore (ls2 := [.ref a0, .ref a1, .ref a2, .ref a3, .ref a4, .int v5, .int x1, j7, .retAddr 0]) i_L_law_2111 (fun _ => rfl)).trans <| (s_aload_n i_L_law_2113 rfl).trans <| (s_v5 [.ref a2] [] i_L_law_2114 rfl (fun _ => rfl)).trans <| c_rcv <| c_clD fun d1 h2 => (s_dstore (ls2 := [.ref a0, .ref a1, .ref a2, .ref a3, .ref a4, .int v5, .int x1, .double d1, .retAddr 0]) i_L_law_2117 (fun _ => rfl)).trans <| (s_aload_n i_L_law_2119 rfl).trans <| (s_v1 [.ref a2] [] i_L_law_2120 rfl (fun _ => rfl)).trans <| c_rcv <| c_clI fun x2 h3 => (s_iload i_L_law_2123 rfl).trans <| (s_icmp_eq i_L_law_2125).trans <| c_ite ((s_iload i_L_law_2130 rfl).trans <| (s_if_ne i_L_law_2132).trans <| c_ite ((s_aload i_L_law_2135 rfl).trans <| (s_iconst i_L_law_2137).trans <| (s_daload i_L_law_2138).trans <| c_aD fun d2 => (s_dload i_L_law_2139 rfl).trans <| (s_dcmp i_L_law_2141).trans <| (s_if_eq i_L_law_2142).trans <| c_ite ((s_goto i_L_law_2167).trans <| rfl) ((s_aload i_L_law_2145 rfl).trans <| (s_iconst i_L_law_2147).trans <| (s_daload i_L_law_2148).trans <| c_aD fun d3 => (s_aload i_L_law_2149 rfl).trans <| (s_iconst i_L_law_2151).trans <| (s_daload i_L_law_2152).trans <| c_aD fun d4 => (s_dcmp i_L_law_2153).trans <| (s_if_eq i_L_law_2154).trans <| c_ite ((s_iconst i_L_law_2165).trans <| s_iretb i_L_law_2166 rfl) ((s_dload i_L_law_2157 rfl).trans <| (s_dload i_L_law_2159 rfl).trans <| (s_dcmp i_L_law_2161).trans <| (s_if_ne i_L_law_2162).trans <| c_ite ((s_iconst i_L_law_2165).trans <| s_iretb i_L_law_2166 rfl) ((s_goto i_L_law_2167).trans <| rfl)))) ((s_goto i_L_law_2167).trans <| rfl)) ((s_iconst i_L_law_2128).trans <| s_iretb i_L_law_2129 rfl)
theorem bk_L_law_2170 (X : mv_X) (call : mv_G) (h : mv_H) (a0 : Nat) (a1 : Nat) (a2 : Nat) (a3 : Nat) (a4 : Nat) (v5 : Int32) (j6 : Value) (j7 : Value) : mv_run X call m_L_law 2170 [.ref a0, .ref a1, .ref a2, .ref a3, .ref a4, .int v5, j6, j7, .retAddr 0] [] h =
  mv_aI X h 1 a0 (v5 + (nZ 1)) fun x1 =>
  mv_clI call 312 [.ref a1, .int x1, .ref a4] h mv_raise fun x2 h1 =>
  mv_aI X h1 1 a0 (v5 + (nZ 1)) fun x3 =>
  mv_rcv X h1 [.ref a2, .int x3] 13 (mv_clF call 232 [.ref a2, .int x3] h1 mv_raise fun f1 h2 =>
  mv_rcv X h2 [.ref a2] 13 (mv_clI call 148 [.ref a2] h2 mv_raise fun x4 h3 =>
  if x4 = x2 then 
  (if x2 = 0 then 
    (mv_aD X h3 a4 (nZ 0) fun d1 =>
      mv_chk (decide ((FP.f2d f1) &&& 0x7fffffffffffffff ≤ 0x7ff0000000000000)) (
      if (Op.cmpValue (FP.dcmp d1 (FP.f2d f1)) .l) = 0 then 
      (mv_run X call m_L_law 2752 [.ref a0, .ref a1, .ref a2, .ref a3, .ref a4, .int v5, .int x2, .float f1, .retAddr 0] [] h3)
      else (mv_aD X h3 a4 (nZ 0) fun d2 =>
        mv_aD X h3 a4 (nZ 0) fun d3 =>
        if (Op.cmpValue (FP.dcmp d2 d3) .l) = 0 then 
        ((some (.inl (some (.int (nZ 0))), h3)))
        else (if (Op.cmpValue (FP.fcmp f1 f1) .l) = 0 then 
          ((some (.inl (some (.int (nZ 0))), h3)))
          else (mv_run X call m_L_law 2752 [.ref a0, .ref a1, .ref a2, .ref a3, .ref a4, .int v5, .int x2, .float f1, .retAddr 0] [] h3)))))
    else (mv_run X call m_L_law 2752 [.ref a0, .ref a1, .ref a2, .ref a3, .ref a4, .int v5, .int x2, .float f1, .retAddr 0] [] h3))
  else ((some (.inl (some (.int (nZ 0))), h3))))) :=
  (s_aload_n i_L_law_2170 rfl).trans <| (s_aload_n i_L_law_2171 rfl).trans <| (s_iload i_L_law_2172 rfl).trans <| (s_iconst i_L_law_2174).trans <| (s_iadd i_L_law_2175).trans <| (s_iaload i_L_law_2176).trans <| c_aI fun x1 => (s_aload i_L_law_2177 rfl).trans <| (s_s1 [.ref a1, .int x1, .ref a4] [] i_L_law_2179 rfl (fun _ => rfl)).trans <| c_clI fun x2 h1 => (s_istore (ls2 := [.ref a0, .ref a1, .ref a2, .ref a3, .ref a4, .int v5, .int x2, j7, .retAddr 0]) i_L_law_2182 (fun _ => rfl)).trans <| (s_aload_n i_L_law_2184 rfl).trans <| (s_aload_n i_L_law_2185 rfl).trans <| (s_iload i_L_law_2186 rfl).trans <| (s_iconst i_L_law_2188).trans <| (s_iadd i_L_law_2189).trans <| (s_iaload i_L_law_2190).trans <| c_aI fun x3 => (s_v4 [.ref a2, .int x3] [] i_L_law_2191 rfl (fun _ => rfl)).trans <| c_rcv <| c_clF fun f1 h2 => (s_fstore (ls2 := [.ref a0, .ref a1, .ref a2, .ref a3, .ref a4, .int v5, .int x2, .float f1, .retAddr 0]) i_L_law_2194 (fun _ => rfl)).trans <| (s_aload_n i_L_law_2196 rfl).trans <| (s_v1 [.ref a2] [] i_L_law_2197 rfl (fun _ => rfl)).trans <| c_rcv <| c_clI fun x4 h3 => (s_iload i_L_law_2200 rfl).trans <| (s_icmp_eq i_L_law_2202).trans <| c_ite ((s_iload i_L_law_2207 rfl).trans <| (s_if_ne i_L_law_2209).trans <| c_ite ((s_aload i_L_law_2212 rfl).trans <| (s_iconst i_L_law_2214).trans <| (s_daload i_L_law_2215).trans <| c_aD fun d1 => (s_fload i_L_law_2216 rfl).trans <| (s_f2d i_L_law_2218).trans <| c_chk <| (s_dcmp i_L_law_2219).trans <| (s_if_eq i_L_law_2220).trans <| c_ite ((s_goto i_L_law_2245).trans <| rfl) ((s_aload i_L_law_2223 rfl).trans <| (s_iconst i_L_law_2225).trans <| (s_daload i_L_law_2226).trans <| c_aD fun d2 => (s_aload i_L_law_2227 rfl).trans <| (s_iconst i_L_law_2229).trans <| (s_daload i_L_law_2230).trans <| c_aD fun d3 => (s_dcmp i_L_law_2231).trans <| (s_if_eq i_L_law_2232).trans <| c_ite ((s_iconst i_L_law_2243).trans <| s_iretb i_L_law_2244 rfl) ((s_fload i_L_law_2235 rfl).trans <| (s_fload i_L_law_2237 rfl).trans <| (s_fcmp i_L_law_2239).trans <| (s_if_ne i_L_law_2240).trans <| c_ite ((s_iconst i_L_law_2243).trans <| s_iretb i_L_law_2244 rfl) ((s_goto i_L_law_2245).trans <| rfl)))) ((s_goto i_L_law_2245).trans <| rfl)) ((s_iconst i_L_law_2205).trans <| s_iretb i_L_law_2206 rfl)
theorem bk_L_law_2248 (X : mv_X) (call : mv_G) (h : mv_H) (a0 : Nat) (a1 : Nat) (a2 : Nat) (a3 : Nat) (a4 : Nat) (v5 : Int32) (j6 : Value) (j7 : Value) : mv_run X call m_L_law 2248 [.ref a0, .ref a1, .ref a2, .ref a3, .ref a4, .int v5, j6, j7, .retAddr 0] [] h =
  mv_aI X h 1 a0 (v5 + (nZ 1)) fun x1 =>
  mv_clI call 313 [.ref a1, .int ((x1).toUInt32 % 65536).toInt32, .ref a3] h mv_raise fun x2 h1 =>
  mv_aI X h1 1 a0 (v5 + (nZ 1)) fun x3 =>
  mv_rcv X h1 [.ref a2, .int ((x3).toUInt32 % 65536).toInt32] 13 (mv_clI call 233 [.ref a2, .int ((x3).toUInt32 % 65536).toInt32] h1 mv_raise fun x4 h2 =>
  mv_rcv X h2 [.ref a2] 13 (mv_clI call 148 [.ref a2] h2 mv_raise fun x5 h3 =>
  if x5 = x2 then 
  (if x2 = 0 then 
    (mv_aL X h3 a3 (nZ 0) fun l1 =>
      if (lg_cmp l1 (x4).toInt64) = 0 then 
      (mv_run X call m_L_law 2752 [.ref a0, .ref a1, .ref a2, .ref a3, .ref a4, .int v5, .int x2, .int x4, .retAddr 0] [] h3)
      else ((some (.inl (some (.int (nZ 0))), h3))))
    else (mv_run X call m_L_law 2752 [.ref a0, .ref a1, .ref a2, .ref a3, .ref a4, .int v5, .int x2, .int x4, .retAddr 0] [] h3))
  else ((some (.inl (some (.int (nZ 0))), h3))))) :=
  (s_aload_n i_L_law_2248 rfl).trans <| (s_aload_n i_L_law_2249 rfl).trans <| (s_iload i_L_law_2250 rfl).trans <| (s_iconst i_L_law_2252).trans <| (s_iadd i_L_law_2253).trans <| (s_iaload i_L_law_2254).trans <| c_aI fun x1 => (s_i2c i_L_law_2255).trans <| (s_aload_n i_L_law_2256 rfl).trans <| (s_s1 [.ref a1, .int ((x1).toUInt32 % 65536).toInt32, .ref a3] [] i_L_law_2257 rfl (fun _ => rfl)).trans <| c_clI fun x2 h1 => (s_istore (ls2 := [.ref a0, .ref a1, .ref a2, .ref a3, .ref a4, .int v5, .int x2, j7, .retAddr 0]) i_L_law_2260 (fun _ => rfl)).trans <| (s_aload_n i_L_law_2262 rfl).trans <| (s_aload_n i_L_law_2263 rfl).trans <| (s_iload i_L_law_2264 rfl).trans <| (s_iconst i_L_law_2266).trans <| (s_iadd i_L_law_2267).trans <| (s_iaload i_L_law_2268).trans <| c_aI fun x3 => (s_i2c i_L_law_2269).trans <| (s_v1 [.ref a2, .int ((x3).toUInt32 % 65536).toInt32] [] i_L_law_2270 rfl (fun _ => rfl)).trans <| c_rcv <| c_clI fun x4 h2 => (s_istore (ls2 := [.ref a0, .ref a1, .ref a2, .ref a3, .ref a4, .int v5, .int x2, .int x4, .retAddr 0]) i_L_law_2273 (fun _ => rfl)).trans <| (s_aload_n i_L_law_2275 rfl).trans <| (s_v1 [.ref a2] [] i_L_law_2276 rfl (fun _ => rfl)).trans <| c_rcv <| c_clI fun x5 h3 => (s_iload i_L_law_2279 rfl).trans <| (s_icmp_eq i_L_law_2281).trans <| c_ite ((s_iload i_L_law_2286 rfl).trans <| (s_if_ne i_L_law_2288).trans <| c_ite ((s_aload_n i_L_law_2291 rfl).trans <| (s_iconst i_L_law_2292).trans <| (s_laload i_L_law_2293).trans <| c_aL fun l1 => (s_iload i_L_law_2294 rfl).trans <| (s_i2l i_L_law_2296).trans <| (s_lcmp i_L_law_2297).trans <| (s_if_eq i_L_law_2298).trans <| c_ite ((s_goto i_L_law_2303).trans <| rfl) ((s_iconst i_L_law_2301).trans <| s_iretb i_L_law_2302 rfl)) ((s_goto i_L_law_2303).trans <| rfl)) ((s_iconst i_L_law_2284).trans <| s_iretb i_L_law_2285 rfl)
theorem bk_L_law_2306 (X : mv_X) (call : mv_G) (h : mv_H) (a0 : Nat) (a1 : Nat) (a2 : Nat) (a3 : Nat) (a4 : Nat) (v5 : Int32) (j6 : Value) (j7 : Value) : mv_run X call m_L_law 2306 [.ref a0, .ref a1, .ref a2, .ref a3, .ref a4, .int v5, j6, j7, .retAddr 0] [] h =
  mv_clI call 314 [.ref a1, .ref a3] h mv_raise fun x1 h1 =>
  mv_rcv X h1 [.ref a2] 13 (mv_clI call 240 [.ref a2] h1 mv_raise fun x2 h2 =>
  mv_rcv X h2 [.ref a2] 13 (mv_clI call 148 [.ref a2] h2 mv_raise fun x3 h3 =>
  if x3 = x1 then 
  (if x1 = 0 then 
    (mv_aL X h3 a3 (nZ 0) fun l1 =>
      if (lg_cmp l1 (x2).toInt64) = 0 then 
      (mv_run X call m_L_law 2752 [.ref a0, .ref a1, .ref a2, .ref a3, .ref a4, .int v5, .int x1, .int x2, .retAddr 0] [] h3)
      else ((some (.inl (some (.int (nZ 0))), h3))))
    else (mv_run X call m_L_law 2752 [.ref a0, .ref a1, .ref a2, .ref a3, .ref a4, .int v5, .int x1, .int x2, .retAddr 0] [] h3))
  else ((some (.inl (some (.int (nZ 0))), h3))))) :=
  (s_aload_n i_L_law_2306 rfl).trans <| (s_aload_n i_L_law_2307 rfl).trans <| (s_s1 [.ref a1, .ref a3] [] i_L_law_2308 rfl (fun _ => rfl)).trans <| c_clI fun x1 h1 => (s_istore (ls2 := [.ref a0, .ref a1, .ref a2, .ref a3, .ref a4, .int v5, .int x1, j7, .retAddr 0]) i_L_law_2311 (fun _ => rfl)).trans <| (s_aload_n i_L_law_2313 rfl).trans <| (s_v1 [.ref a2] [] i_L_law_2314 rfl (fun _ => rfl)).trans <| c_rcv <| c_clI fun x2 h2 => (s_istore (ls2 := [.ref a0, .ref a1, .ref a2, .ref a3, .ref a4, .int v5, .int x1, .int x2, .retAddr 0]) i_L_law_2317 (fun _ => rfl)).trans <| (s_aload_n i_L_law_2319 rfl).trans <| (s_v1 [.ref a2] [] i_L_law_2320 rfl (fun _ => rfl)).trans <| c_rcv <| c_clI fun x3 h3 => (s_iload i_L_law_2323 rfl).trans <| (s_icmp_eq i_L_law_2325).trans <| c_ite ((s_iload i_L_law_2330 rfl).trans <| (s_if_ne i_L_law_2332).trans <| c_ite ((s_aload_n i_L_law_2335 rfl).trans <| (s_iconst i_L_law_2336).trans <| (s_laload i_L_law_2337).trans <| c_aL fun l1 => (s_iload i_L_law_2338 rfl).trans <| (s_i2l i_L_law_2340).trans <| (s_lcmp i_L_law_2341).trans <| (s_if_eq i_L_law_2342).trans <| c_ite ((s_goto i_L_law_2347).trans <| rfl) ((s_iconst i_L_law_2345).trans <| s_iretb i_L_law_2346 rfl)) ((s_goto i_L_law_2347).trans <| rfl)) ((s_iconst i_L_law_2328).trans <| s_iretb i_L_law_2329 rfl)
theorem bk_L_law_2350 (X : mv_X) (call : mv_G) (h : mv_H) (a0 : Nat) (a1 : Nat) (a2 : Nat) (a3 : Nat) (a4 : Nat) (v5 : Int32) (j6 : Value) (j7 : Value) : mv_run X call m_L_law 2350 [.ref a0, .ref a1, .ref a2, .ref a3, .ref a4, .int v5, j6, j7, .retAddr 0] [] h =
  mv_clI call 315 [.ref a1, .ref a3] h mv_raise fun x1 h1 =>
  mv_rcv X h1 [.ref a2] 13 (mv_clI call 241 [.ref a2] h1 mv_raise fun x2 h2 =>
  mv_rcv X h2 [.ref a2] 13 (mv_clI call 148 [.ref a2] h2 mv_raise fun x3 h3 =>
  if x3 = x1 then 
  (if x1 = 0 then 
    (mv_aL X h3 a3 (nZ 0) fun l1 =>
      if (lg_cmp l1 (x2).toInt64) = 0 then 
      (mv_run X call m_L_law 2752 [.ref a0, .ref a1, .ref a2, .ref a3, .ref a4, .int v5, .int x1, .int x2, .retAddr 0] [] h3)
      else ((some (.inl (some (.int (nZ 0))), h3))))
    else (mv_run X call m_L_law 2752 [.ref a0, .ref a1, .ref a2, .ref a3, .ref a4, .int v5, .int x1, .int x2, .retAddr 0] [] h3))
  else ((some (.inl (some (.int (nZ 0))), h3))))) :=
  (s_aload_n i_L_law_2350 rfl).trans <| (s_aload_n i_L_law_2351 rfl).trans <| (s_s1 [.ref a1, .ref a3] [] i_L_law_2352 rfl (fun _ => rfl)).trans <| c_clI fun x1 h1 => (s_istore (ls2 := [.ref a0, .ref a1, .ref a2, .ref a3, .ref a4, .int v5, .int x1, j7, .retAddr 0]) i_L_law_2355 (fun _ => rfl)).trans <| (s_aload_n i_L_law_2357 rfl).trans <| (s_v1 [.ref a2] [] i_L_law_2358 rfl (fun _ => rfl)).trans <| c_rcv <| c_clI fun x2 h2 => (s_istore (ls2 := [.ref a0, .ref a1, .ref a2, .ref a3, .ref a4, .int v5, .int x1, .int x2, .retAddr 0]) i_L_law_2361 (fun _ => rfl)).trans <| (s_aload_n i_L_law_2363 rfl).trans <| (s_v1 [.ref a2] [] i_L_law_2364 rfl (fun _ => rfl)).trans <| c_rcv <| c_clI fun x3 h3 => (s_iload i_L_law_2367 rfl).trans <| (s_icmp_eq i_L_law_2369).trans <| c_ite ((s_iload i_L_law_2374 rfl).trans <| (s_if_ne i_L_law_2376).trans <| c_ite ((s_aload_n i_L_law_2379 rfl).trans <| (s_iconst i_L_law_2380).trans <| (s_laload i_L_law_2381).trans <| c_aL fun l1 => (s_iload i_L_law_2382 rfl).trans <| (s_i2l i_L_law_2384).trans <| (s_lcmp i_L_law_2385).trans <| (s_if_eq i_L_law_2386).trans <| c_ite ((s_goto i_L_law_2391).trans <| rfl) ((s_iconst i_L_law_2389).trans <| s_iretb i_L_law_2390 rfl)) ((s_goto i_L_law_2391).trans <| rfl)) ((s_iconst i_L_law_2372).trans <| s_iretb i_L_law_2373 rfl)
theorem bk_L_law_2394 (X : mv_X) (call : mv_G) (h : mv_H) (a0 : Nat) (a1 : Nat) (a2 : Nat) (a3 : Nat) (a4 : Nat) (v5 : Int32) (j6 : Value) (j7 : Value) : mv_run X call m_L_law 2394 [.ref a0, .ref a1, .ref a2, .ref a3, .ref a4, .int v5, j6, j7, .retAddr 0] [] h =
  mv_aI X h 1 a0 (v5 + (nZ 1)) fun x1 =>
  mv_clI call 316 [.ref a1, .int x1, .ref a3] h mv_raise fun x2 h1 =>
  mv_aI X h1 1 a0 (v5 + (nZ 1)) fun x3 =>
  mv_rcv X h1 [.ref a2, .int x3] 13 (mv_clI call 244 [.ref a2, .int x3] h1 mv_raise fun x4 h2 =>
  mv_rcv X h2 [.ref a2] 13 (mv_clI call 148 [.ref a2] h2 mv_raise fun x5 h3 =>
  if x5 = x2 then 
  (if x2 = 0 then 
    (mv_aL X h3 a3 (nZ 0) fun l1 =>
      if (lg_cmp l1 (x4).toInt64) = 0 then 
      (mv_run X call m_L_law 2752 [.ref a0, .ref a1, .ref a2, .ref a3, .ref a4, .int v5, .int x2, .int x4, .retAddr 0] [] h3)
      else ((some (.inl (some (.int (nZ 0))), h3))))
    else (mv_run X call m_L_law 2752 [.ref a0, .ref a1, .ref a2, .ref a3, .ref a4, .int v5, .int x2, .int x4, .retAddr 0] [] h3))
  else ((some (.inl (some (.int (nZ 0))), h3))))) :=
  (s_aload_n i_L_law_2394 rfl).trans <| (s_aload_n i_L_law_2395 rfl).trans <| (s_iload i_L_law_2396 rfl).trans <| (s_iconst i_L_law_2398).trans <| (s_iadd i_L_law_2399).trans <| (s_iaload i_L_law_2400).trans <| c_aI fun x1 => (s_aload_n i_L_law_2401 rfl).trans <| (s_s1 [.ref a1, .int x1, .ref a3] [] i_L_law_2402 rfl (fun _ => rfl)).trans <| c_clI fun x2 h1 => (s_istore (ls2 := [.ref a0, .ref a1, .ref a2, .ref a3, .ref a4, .int v5, .int x2, j7, .retAddr 0]) i_L_law_2405 (fun _ => rfl)).trans <| (s_aload_n i_L_law_2407 rfl).trans <| (s_aload_n i_L_law_2408 rfl).trans <| (s_iload i_L_law_2409 rfl).trans <| (s_iconst i_L_law_2411).trans <| (s_iadd i_L_law_2412).trans <| (s_iaload i_L_law_2413).trans <| c_aI fun x3 => (s_v1 [.ref a2, .int x3] [] i_L_law_2414 rfl (fun _ => rfl)).trans <| c_rcv <| c_clI fun x4 h2 => (s_istore (ls2 := [.ref a0, .ref a1, .ref a2, .ref a3, .ref a4, .int v5, .int x2, .int x4, .retAddr 0]) i_L_law_2417 (fun _ => rfl)).trans <| (s_aload_n i_L_law_2419 rfl).trans <| (s_v1 [.ref a2] [] i_L_law_2420 rfl (fun _ => rfl)).trans <| c_rcv <| c_clI fun x5 h3 => (s_iload i_L_law_2423 rfl).trans <| (s_icmp_eq i_L_law_2425).trans <| c_ite ((s_iload i_L_law_2430 rfl).trans <| (s_if_ne i_L_law_2432).trans <| c_ite ((s_aload_n i_L_law_2435 rfl).trans <| (s_iconst i_L_law_2436).trans <| (s_laload i_L_law_2437).trans <| c_aL fun l1 => (s_iload i_L_law_2438 rfl).trans <| (s_i2l i_L_law_2440).trans <| (s_lcmp i_L_law_2441).trans <| (s_if_eq i_L_law_2442).trans <| c_ite ((s_goto i_L_law_2447).trans <| rfl) ((s_iconst i_L_law_2445).trans <| s_iretb i_L_law_2446 rfl)) ((s_goto i_L_law_2447).trans <| rfl)) ((s_iconst i_L_law_2428).trans <| s_iretb i_L_law_2429 rfl)
theorem bk_L_law_2450 (X : mv_X) (call : mv_G) (h : mv_H) (a0 : Nat) (a1 : Nat) (a2 : Nat) (a3 : Nat) (a4 : Nat) (v5 : Int32) (j6 : Value) (j7 : Value) : mv_run X call m_L_law 2450 [.ref a0, .ref a1, .ref a2, .ref a3, .ref a4, .int v5, j6, j7, .retAddr 0] [] h =
  mv_aI X h 1 a0 (v5 + (nZ 1)) fun x1 =>
  mv_clI call 317 [.ref a1, .int x1, .ref a3] h mv_raise fun x2 h1 =>
  mv_aI X h1 1 a0 (v5 + (nZ 1)) fun x3 =>
  mv_rcv X h1 [.ref a2, .int x3] 13 (mv_clI call 245 [.ref a2, .int x3] h1 mv_raise fun x4 h2 =>
  mv_rcv X h2 [.ref a2] 13 (mv_clI call 148 [.ref a2] h2 mv_raise fun x5 h3 =>
  if x5 = x2 then 
  (if x2 = 0 then 
    (mv_aL X h3 a3 (nZ 0) fun l1 =>
      if (lg_cmp l1 (x4).toInt64) = 0 then 
      (mv_run X call m_L_law 2752 [.ref a0, .ref a1, .ref a2, .ref a3, .ref a4, .int v5, .int x2, .int x4, .retAddr 0] [] h3)
      else ((some (.inl (some (.int (nZ 0))), h3))))
    else (mv_run X call m_L_law 2752 [.ref a0, .ref a1, .ref a2, .ref a3, .ref a4, .int v5, .int x2, .int x4, .retAddr 0] [] h3))
  else ((some (.inl (some (.int (nZ 0))), h3))))) :=
  (s_aload_n i_L_law_2450 rfl).trans <| (s_aload_n i_L_law_2451 rfl).trans <| (s_iload i_L_law_2452 rfl).trans <| (s_iconst i_L_law_2454).trans <| (s_iadd i_L_law_2455).trans <| (s_iaload i_L_law_2456).trans <| c_aI fun x1 => (s_aload_n i_L_law_2457 rfl).trans <| (s_s1 [.ref a1, .int x1, .ref a3] [] i_L_law_2458 rfl (fun _ => rfl)).trans <| c_clI fun x2 h1 => (s_istore (ls2 := [.ref a0, .ref a1, .ref a2, .ref a3, .ref a4, .int v5, .int x2, j7, .retAddr 0]) i_L_law_2461 (fun _ => rfl)).trans <| (s_aload_n i_L_law_2463 rfl).trans <| (s_aload_n i_L_law_2464 rfl).trans <| (s_iload i_L_law_2465 rfl).trans <| (s_iconst i_L_law_2467).trans <| (s_iadd i_L_law_2468).trans <| (s_iaload i_L_law_2469).trans <| c_aI fun x3 => (s_v1 [.ref a2, .int x3] [] i_L_law_2470 rfl (fun _ => rfl)).trans <| c_rcv <| c_clI fun x4 h2 => (s_istore (ls2 := [.ref a0, .ref a1, .ref a2, .ref a3, .ref a4, .int v5, .int x2, .int x4, .retAddr 0]) i_L_law_2473 (fun _ => rfl)).trans <| (s_aload_n i_L_law_2475 rfl).trans <| (s_v1 [.ref a2] [] i_L_law_2476 rfl (fun _ => rfl)).trans <| c_rcv <| c_clI fun x5 h3 => (s_iload i_L_law_2479 rfl).trans <| (s_icmp_eq i_L_law_2481).trans <| c_ite ((s_iload i_L_law_2486 rfl).trans <| (s_if_ne i_L_law_2488).trans <| c_ite ((s_aload_n i_L_law_2491 rfl).trans <| (s_iconst i_L_law_2492).trans <| (s_laload i_L_law_2493).trans <| c_aL fun l1 => (s_iload i_L_law_2494 rfl).trans <| (s_i2l i_L_law_2496).trans <| (s_lcmp i_L_law_2497).trans <| (s_if_eq i_L_law_2498).trans <| c_ite ((s_goto i_L_law_2503).trans <| rfl) ((s_iconst i_L_law_2501).trans <| s_iretb i_L_law_2502 rfl)) ((s_goto i_L_law_2503).trans <| rfl)) ((s_iconst i_L_law_2484).trans <| s_iretb i_L_law_2485 rfl)
theorem bk_L_law_2506 (X : mv_X) (call : mv_G) (h : mv_H) (a0 : Nat) (a1 : Nat) (a2 : Nat) (a3 : Nat) (a4 : Nat) (v5 : Int32) (j6 : Value) (j7 : Value) : mv_run X call m_L_law 2506 [.ref a0, .ref a1, .ref a2, .ref a3, .ref a4, .int v5, j6, j7, .retAddr 0] [] h =
  mv_clI call 318 [.ref a1, .ref a3] h mv_raise fun x1 h1 =>
  mv_rcv X h1 [.ref a2] 13 (mv_clI call 246 [.ref a2] h1 mv_raise fun x2 h2 =>
  mv_rcv X h2 [.ref a2] 13 (mv_clI call 148 [.ref a2] h2 mv_raise fun x3 h3 =>
  if x3 = x1 then 
  (if x1 = 0 then 
    (mv_aL X h3 a3 (nZ 0) fun l1 =>
      if (lg_cmp l1 (x2).toInt64) = 0 then 
      (mv_run X call m_L_law 2752 [.ref a0, .ref a1, .ref a2, .ref a3, .ref a4, .int v5, .int x1, .int x2, .retAddr 0] [] h3)
      else ((some (.inl (some (.int (nZ 0))), h3))))
    else (mv_run X call m_L_law 2752 [.ref a0, .ref a1, .ref a2, .ref a3, .ref a4, .int v5, .int x1, .int x2, .retAddr 0] [] h3))
  else ((some (.inl (some (.int (nZ 0))), h3))))) :=
  (s_aload_n i_L_law_2506 rfl).trans <| (s_aload_n i_L_law_2507 rfl).trans <| (s_s1 [.ref a1, .ref a3] [] i_L_law_2508 rfl (fun _ => rfl)).trans <| c_clI fun x1 h1 => (s_istore (ls2 := [.ref a0, .ref a1, .ref a2, .ref a3, .ref a4, .int v5, .int x1, j7, .retAddr 0]) i_L_law_2511 (fun _ => rfl)).trans <| (s_aload_n i_L_law_2513 rfl).trans <| (s_v1 [.ref a2] [] i_L_law_2514 rfl (fun _ => rfl)).trans <| c_rcv <| c_clI fun x2 h2 => (s_istore (ls2 := [.ref a0, .ref a1, .ref a2, .ref a3, .ref a4, .int v5, .int x1, .int x2, .retAddr 0]) i_L_law_2517 (fun _ => rfl)).trans <| (s_aload_n i_L_law_2519 rfl).trans <| (s_v1 [.ref a2] [] i_L_law_2520 rfl (fun _ => rfl)).trans <| c_rcv <| c_clI fun x3 h3 => (s_iload i_L_law_2523 rfl).trans <| (s_icmp_eq i_L_law_2525).trans <| c_ite ((s_iload i_L_law_2530 rfl).trans <| (s_if_ne i_L_law_2532).trans <| c_ite ((s_aload_n i_L_law_2535 rfl).trans <| (s_iconst i_L_law_2536).trans <| (s_laload i_L_law_2537).trans <| c_aL fun l1 => (s_iload i_L_law_2538 rfl).trans <| (s_i2l i_L_law_2540).trans <| (s_lcmp i_L_law_2541).trans <| (s_if_eq i_L_law_2542).trans <| c_ite ((s_goto i_L_law_2547).trans <| rfl) ((s_iconst i_L_law_2545).trans <| s_iretb i_L_law_2546 rfl)) ((s_goto i_L_law_2547).trans <| rfl)) ((s_iconst i_L_law_2528).trans <| s_iretb i_L_law_2529 rfl)
theorem bk_L_law_2550 (X : mv_X) (call : mv_G) (h : mv_H) (a0 : Nat) (a1 : Nat) (a2 : Nat) (a3 : Nat) (a4 : Nat) (v5 : Int32) (j6 : Value) (j7 : Value) : mv_run X call m_L_law 2550 [.ref a0, .ref a1, .ref a2, .ref a3, .ref a4, .int v5, j6, j7, .retAddr 0] [] h =
  mv_clI call 319 [.ref a1, .ref a3] h mv_raise fun x1 h1 =>
  mv_rcv X h1 [.ref a2] 13 (mv_clI call 247 [.ref a2] h1 mv_raise fun x2 h2 =>
  mv_rcv X h2 [.ref a2] 13 (mv_clI call 148 [.ref a2] h2 mv_raise fun x3 h3 =>
  if x3 = x1 then 
  (if x1 = 0 then 
    (mv_aL X h3 a3 (nZ 0) fun l1 =>
      if (lg_cmp l1 (x2).toInt64) = 0 then 
      (mv_run X call m_L_law 2752 [.ref a0, .ref a1, .ref a2, .ref a3, .ref a4, .int v5, .int x1, .int x2, .retAddr 0] [] h3)
      else ((some (.inl (some (.int (nZ 0))), h3))))
    else (mv_run X call m_L_law 2752 [.ref a0, .ref a1, .ref a2, .ref a3, .ref a4, .int v5, .int x1, .int x2, .retAddr 0] [] h3))
  else ((some (.inl (some (.int (nZ 0))), h3))))) :=
  (s_aload_n i_L_law_2550 rfl).trans <| (s_aload_n i_L_law_2551 rfl).trans <| (s_s1 [.ref a1, .ref a3] [] i_L_law_2552 rfl (fun _ => rfl)).trans <| c_clI fun x1 h1 => (s_istore (ls2 := [.ref a0, .ref a1, .ref a2, .ref a3, .ref a4, .int v5, .int x1, j7, .retAddr 0]) i_L_law_2555 (fun _ => rfl)).trans <| (s_aload_n i_L_law_2557 rfl).trans <| (s_v1 [.ref a2] [] i_L_law_2558 rfl (fun _ => rfl)).trans <| c_rcv <| c_clI fun x2 h2 => (s_istore (ls2 := [.ref a0, .ref a1, .ref a2, .ref a3, .ref a4, .int v5, .int x1, .int x2, .retAddr 0]) i_L_law_2561 (fun _ => rfl)).trans <| (s_aload_n i_L_law_2563 rfl).trans <| (s_v1 [.ref a2] [] i_L_law_2564 rfl (fun _ => rfl)).trans <| c_rcv <| c_clI fun x3 h3 => (s_iload i_L_law_2567 rfl).trans <| (s_icmp_eq i_L_law_2569).trans <| c_ite ((s_iload i_L_law_2574 rfl).trans <| (s_if_ne i_L_law_2576).trans <| c_ite ((s_aload_n i_L_law_2579 rfl).trans <| (s_iconst i_L_law_2580).trans <| (s_laload i_L_law_2581).trans <| c_aL fun l1 => (s_iload i_L_law_2582 rfl).trans <| (s_i2l i_L_law_2584).trans <| (s_lcmp i_L_law_2585).trans <| (s_if_eq i_L_law_2586).trans <| c_ite ((s_goto i_L_law_2591).trans <| rfl) ((s_iconst i_L_law_2589).trans <| s_iretb i_L_law_2590 rfl)) ((s_goto i_L_law_2591).trans <| rfl)) ((s_iconst i_L_law_2572).trans <| s_iretb i_L_law_2573 rfl)
theorem bk_L_law_2594 (X : mv_X) (call : mv_G) (h : mv_H) (a0 : Nat) (a1 : Nat) (a2 : Nat) (a3 : Nat) (a4 : Nat) (v5 : Int32) (j6 : Value) (j7 : Value) : mv_run X call m_L_law 2594 [.ref a0, .ref a1, .ref a2, .ref a3, .ref a4, .int v5, j6, j7, .retAddr 0] [] h =
  mv_clI call 320 [.ref a1, .ref a3] h mv_raise fun x1 h1 =>
  mv_rcv X h1 [.ref a2] 13 (mv_clI call 248 [.ref a2] h1 mv_raise fun x2 h2 =>
  mv_rcv X h2 [.ref a2] 13 (mv_clI call 148 [.ref a2] h2 mv_raise fun x3 h3 =>
  if x3 = x1 then 
  (if x1 = 0 then 
    (mv_aL X h3 a3 (nZ 0) fun l1 =>
      if (lg_cmp l1 (x2).toInt64) = 0 then 
      (mv_run X call m_L_law 2752 [.ref a0, .ref a1, .ref a2, .ref a3, .ref a4, .int v5, .int x1, .int x2, .retAddr 0] [] h3)
      else ((some (.inl (some (.int (nZ 0))), h3))))
    else (mv_run X call m_L_law 2752 [.ref a0, .ref a1, .ref a2, .ref a3, .ref a4, .int v5, .int x1, .int x2, .retAddr 0] [] h3))
  else ((some (.inl (some (.int (nZ 0))), h3))))) :=
  (s_aload_n i_L_law_2594 rfl).trans <| (s_aload_n i_L_law_2595 rfl).trans <| (s_s1 [.ref a1, .ref a3] [] i_L_law_2596 rfl (fun _ => rfl)).trans <| c_clI fun x1 h1 => (s_istore (ls2 := [.ref a0, .ref a1, .ref a2, .ref a3, .ref a4, .int v5, .int x1, j7, .retAddr 0]) i_L_law_2599 (fun _ => rfl)).trans <| (s_aload_n i_L_law_2601 rfl).trans <| (s_v1 [.ref a2] [] i_L_law_2602 rfl (fun _ => rfl)).trans <| c_rcv <| c_clI fun x2 h2 => (s_istore (ls2 := [.ref a0, .ref a1, .ref a2, .ref a3, .ref a4, .int v5, .int x1, .int x2, .retAddr 0]) i_L_law_2605 (fun _ => rfl)).trans <| (s_aload_n i_L_law_2607 rfl).trans <| (s_v1 [.ref a2] [] i_L_law_2608 rfl (fun _ => rfl)).trans <| c_rcv <| c_clI fun x3 h3 => (s_iload i_L_law_2611 rfl).trans <| (s_icmp_eq i_L_law_2613).trans <| c_ite ((s_iload i_L_law_2618 rfl).trans <| (s_if_ne i_L_law_2620).trans <| c_ite ((s_aload_n i_L_law_2623 rfl).trans <| (s_iconst i_L_law_2624).trans <| (s_laload i_L_law_2625).trans <| c_aL fun l1 => (s_iload i_L_law_2626 rfl).trans <| (s_i2l i_L_law_2628).trans <| (s_lcmp i_L_law_2629).trans <| (s_if_eq i_L_law_2630).trans <| c_ite ((s_goto i_L_law_2635).trans <| rfl) ((s_iconst i_L_law_2633).trans <| s_iretb i_L_law_2634 rfl)) ((s_goto i_L_law_2635).trans <| rfl)) ((s_iconst i_L_law_2616).trans <| s_iretb i_L_law_2617 rfl)
theorem bk_L_law_2638 (X : mv_X) (call : mv_G) (h : mv_H) (a0 : Nat) (a1 : Nat) (a2 : Nat) (a3 : Nat) (a4 : Nat) (v5 : Int32) (j6 : Value) (j7 : Value) : mv_run X call m_L_law 2638 [.ref a0, .ref a1, .ref a2, .ref a3, .ref a4, .int v5, j6, j7, .retAddr 0] [] h =
  mv_clI call 321 [.ref a1, .ref a3] h mv_raise fun x1 h1 =>
  mv_rcv X h1 [.ref a2] 13 (mv_clI call 249 [.ref a2] h1 mv_raise fun x2 h2 =>
  mv_rcv X h2 [.ref a2] 13 (mv_clI call 148 [.ref a2] h2 mv_raise fun x3 h3 =>
  if x3 = x1 then 
  (if x1 = 0 then 
    (mv_aL X h3 a3 (nZ 0) fun l1 =>
      if (lg_cmp l1 (x2).toInt64) = 0 then 
      (mv_run X call m_L_law 2752 [.ref a0, .ref a1, .ref a2, .ref a3, .ref a4, .int v5, .int x1, .int x2, .retAddr 0] [] h3)
      else ((some (.inl (some (.int (nZ 0))), h3))))
    else (mv_run X call m_L_law 2752 [.ref a0, .ref a1, .ref a2, .ref a3, .ref a4, .int v5, .int x1, .int x2, .retAddr 0] [] h3))
  else ((some (.inl (some (.int (nZ 0))), h3))))) :=
  (s_aload_n i_L_law_2638 rfl).trans <| (s_aload_n i_L_law_2639 rfl).trans <| (s_s1 [.ref a1, .ref a3] [] i_L_law_2640 rfl (fun _ => rfl)).trans <| c_clI fun x1 h1 => (s_istore (ls2 := [.ref a0, .ref a1, .ref a2, .ref a3, .ref a4, .int v5, .int x1, j7, .retAddr 0]) i_L_law_2643 (fun _ => rfl)).trans <| (s_aload_n i_L_law_2645 rfl).trans <| (s_v1 [.ref a2] [] i_L_law_2646 rfl (fun _ => rfl)).trans <| c_rcv <| c_clI fun x2 h2 => (s_istore (ls2 := [.ref a0, .ref a1, .ref a2, .ref a3, .ref a4, .int v5, .int x1, .int x2, .retAddr 0]) i_L_law_2649 (fun _ => rfl)).trans <| (s_aload_n i_L_law_2651 rfl).trans <| (s_v1 [.ref a2] [] i_L_law_2652 rfl (fun _ => rfl)).trans <| c_rcv <| c_clI fun x3 h3 => (s_iload i_L_law_2655 rfl).trans <| (s_icmp_eq i_L_law_2657).trans <| c_ite ((s_iload i_L_law_2662 rfl).trans <| (s_if_ne i_L_law_2664).trans <| c_ite ((s_aload_n i_L_law_2667 rfl).trans <| (s_iconst i_L_law_2668).trans <| (s_laload i_L_law_2669).trans <| c_aL fun l1 => (s_iload i_L_law_2670 rfl).trans <| (s_i2l i_L_law_2672).trans <| (s_lcmp i_L_law_2673).trans <| (s_if_eq i_L_law_2674).trans <| c_ite ((s_goto i_L_law_2679).trans <| rfl) ((s_iconst i_L_law_2677).trans <| s_iretb i_L_law_2678 rfl)) ((s_goto i_L_law_2679).trans <| rfl)) ((s_iconst i_L_law_2660).trans <| s_iretb i_L_law_2661 rfl)
theorem bk_L_law_2682 (X : mv_X) (call : mv_G) (h : mv_H) (a0 : Nat) (a1 : Nat) (a2 : Nat) (a3 : Nat) (a4 : Nat) (v5 : Int32) (j6 : Value) (j7 : Value) : mv_run X call m_L_law 2682 [.ref a0, .ref a1, .ref a2, .ref a3, .ref a4, .int v5, j6, j7, .retAddr 0] [] h =
  mv_rcv X h [.ref a1] 12 (mv_clI call 134 [.ref a1] h mv_raise fun x1 h1 =>
  mv_rcv X h1 [.ref a2] 13 (mv_clI call 250 [.ref a2] h1 mv_raise fun x2 h2 =>
  if x1 = x2 then 
  (mv_run X call m_L_law 2752 [.ref a0, .ref a1, .ref a2, .ref a3, .ref a4, .int v5, j6, j7, .retAddr 0] [] h2)
  else ((some (.inl (some (.int (nZ 0))), h2))))) :=
  (s_aload_n i_L_law_2682 rfl).trans <| (s_v1 [.ref a1] [] i_L_law_2683 rfl (fun _ => rfl)).trans <| c_rcv <| c_clI fun x1 h1 => (s_aload_n i_L_law_2686 rfl).trans <| (s_v1 [.ref a2] [.int x1] i_L_law_2687 rfl (fun _ => rfl)).trans <| c_rcv <| c_clI fun x2 h2 => (s_icmp_eq i_L_law_2690).trans <| c_ite (rfl) ((s_iconst i_L_law_2693).trans <| s_iretb i_L_law_2694 rfl)
theorem bk_L_law_2695 (X : mv_X) (call : mv_G) (h : mv_H) (a0 : Nat) (a1 : Nat) (a2 : Nat) (a3 : Nat) (a4 : Nat) (v5 : Int32) (j6 : Value) (j7 : Value) : mv_run X call m_L_law 2695 [.ref a0, .ref a1, .ref a2, .ref a3, .ref a4, .int v5, j6, j7, .retAddr 0] [] h =
  mv_rcv X h [.ref a1] 12 (mv_clI call 135 [.ref a1] h mv_raise fun x1 h1 =>
  mv_rcv X h1 [.ref a2] 13 (mv_clI call 251 [.ref a2] h1 mv_raise fun x2 h2 =>
  if x1 = x2 then 
  (mv_run X call m_L_law 2752 [.ref a0, .ref a1, .ref a2, .ref a3, .ref a4, .int v5, j6, j7, .retAddr 0] [] h2)
  else ((some (.inl (some (.int (nZ 0))), h2))))) :=
  (s_aload_n i_L_law_2695 rfl).trans <| (s_v1 [.ref a1] [] i_L_law_2696 rfl (fun _ => rfl)).trans <| c_rcv <| c_clI fun x1 h1 => (s_aload_n i_L_law_2699 rfl).trans <| (s_v1 [.ref a2] [.int x1] i_L_law_2700 rfl (fun _ => rfl)).trans <| c_rcv <| c_clI fun x2 h2 => (s_icmp_eq i_L_law_2703).trans <| c_ite (rfl) ((s_iconst i_L_law_2706).trans <| s_iretb i_L_law_2707 rfl)
theorem bk_L_law_2708 (X : mv_X) (call : mv_G) (h : mv_H) (a0 : Nat) (a1 : Nat) (a2 : Nat) (a3 : Nat) (a4 : Nat) (v5 : Int32) (j6 : Value) (j7 : Value) : mv_run X call m_L_law 2708 [.ref a0, .ref a1, .ref a2, .ref a3, .ref a4, .int v5, j6, j7, .retAddr 0] [] h =
  mv_clI call 322 [.ref a1, .ref a3] h mv_raise fun x1 h1 =>
  mv_rcv X h1 [.ref a2] 13 (mv_clI call 252 [.ref a2] h1 mv_raise fun x2 h2 =>
  mv_rcv X h2 [.ref a2] 13 (mv_clI call 148 [.ref a2] h2 mv_raise fun x3 h3 =>
  if x3 = x1 then 
  (if x1 = 0 then 
    (mv_aL X h3 a3 (nZ 0) fun l1 =>
      if (lg_cmp l1 (x2).toInt64) = 0 then 
      (mv_run X call m_L_law 2752 [.ref a0, .ref a1, .ref a2, .ref a3, .ref a4, .int v5, .int x1, .int x2, .retAddr 0] [] h3)
      else ((some (.inl (some (.int (nZ 0))), h3))))
    else (mv_run X call m_L_law 2752 [.ref a0, .ref a1, .ref a2, .ref a3, .ref a4, .int v5, .int x1, .int x2, .retAddr 0] [] h3))
  else ((some (.inl (some (.int (nZ 0))), h3))))) :=
  (s_aload_n i_L_law_2708 rfl).trans <| (s_aload_n i_L_law_2709 rfl).trans <| (s_s1 [.ref a1, .ref a3] [] i_L_law_2710 rfl (fun _ => rfl)).trans <| c_clI fun x1 h1 => (s_istore (ls2 := [.ref a0, .ref a1, .ref a2, .ref a3, .ref a4, .int v5, .int x1, j7, .retAddr 0]) i_L_law_2713 (fun _ => rfl)).trans <| (s_aload_n i_L_law_2715 rfl).trans <| (s_v1 [.ref a2] [] i_L_law_2716 rfl (fun _ => rfl)).trans <| c_rcv <| c_clI fun x2 h2 => (s_istore (ls2 := [.ref a0, .ref a1, .ref a2, .ref a3, .ref a4, .int v5, .int x1, .int x2, .retAddr 0]) i_L_law_2719 (fun _ => rfl)).trans <| (s_aload_n i_L_law_2721 rfl).trans <| (s_v1 [.ref a2] [] i_L_law_2722 rfl (fun _ => rfl)).trans <| c_rcv <| c_clI fun x3 h3 => (s_iload i_L_law_2725 rfl).trans <| (s_icmp_eq i_L_law_2727).trans <| c_ite ((s_iload i_L_law_2732 rfl).trans <| (s_if_ne i_L_law_2734).trans <| c_ite ((s_aload_n i_L_law_2737 rfl).trans <| (s_iconst i_L_law_2738).trans <| (s_laload i_L_law_2739).trans <| c_aL fun l1 => (s_iload i_L_law_2740 rfl).trans <| (s_i2l i_L_law_2742).trans <| (s_lcmp i_L_law_2743).trans <| (s_if_eq i_L_law_2744).trans <| c_ite ((s_goto i_L_law_2749).trans <| rfl) ((s_iconst i_L_law_2747).trans <| s_iretb i_L_law_2748 rfl)) ((s_goto i_L_law_2749).trans <| rfl)) ((s_iconst i_L_law_2730).trans <| s_iretb i_L_law_2731 rfl)
theorem bk_L_law_2752 (X : mv_X) (call : mv_G) (h : mv_H) (a0 : Nat) (a1 : Nat) (a2 : Nat) (a3 : Nat) (a4 : Nat) (v5 : Int32) (j6 : Value) (j7 : Value) : mv_run X call m_L_law 2752 [.ref a0, .ref a1, .ref a2, .ref a3, .ref a4, .int v5, j6, j7, .retAddr 0] [] h =
  mv_run X call m_L_law 28 [.ref a0, .ref a1, .ref a2, .ref a3, .ref a4, .int (v5 + nZ 5), j6, j7, .retAddr 0] [] h :=
  (s_iinc (ls2 := [.ref a0, .ref a1, .ref a2, .ref a3, .ref a4, .int (v5 + nZ 5), j6, j7, .retAddr 0]) i_L_law_2752 rfl (fun _ => rfl)).trans <| (s_goto i_L_law_2755).trans <| rfl
