def b_n6 : List (Nat × Instr × Nat) := [(0, .aload_n 0, 1), (1, .invokespecial 3, 3), (4, .aload_n 0, 1), (5, .iconst 4, 1), (6, .newarray .int, 2), (8, .putfield 9, 3), (11, .aload_n 0, 1), (12, .bipush 16, 2), (14, .newarray .int, 2), (16, .putfield 15, 3), (19, .aload_n 0, 1), (20, .bipush 16, 2), (22, .newarray .int, 2), (24, .putfield 18, 3), (27, .return_, 1)]
theorem t_n6 : DT cX6_init b_n6 := DT.of (by decide +kernel)
def sub6 (a : Nat) (cs : Nat → ClassId) (f : Nat → Nat) : va_W := [(a, .inr (6, [.ref (f 0), .ref (f 1), .ref (f 2), .int 0, .int 0, .int 0, .int 0])), ((f 0), .inl (cs 0, 4, .inl (fun _ => 0))), ((f 1), .inl (cs 0, 16, .inl (fun _ => 0))), ((f 2), .inl (cs 0, 16, .inl (fun _ => 0)))]
set_option maxRecDepth 100000 in
set_option maxHeartbeats 4000000 in
theorem n_6 (a : Nat) : CI yX6_init cX6_init 1 1 3 36 [] a (fun _ => []) (.inr (6, [.null, .null, .null, .int 0, .int 0, .int 0, .int 0])) (sub6 a) := by
  refine MetC 0 (by decide +kernel) rfl rfl (Nat.le_of_ble_eq_true rfl) ?_
  intro X h hR
  show KW X 1 0 [some (.ref a)] [] ([(a, .inr (6, [.null, .null, .null, .int 0, .int 0, .int 0, .int 0]))]) 0 0
  refine KW_aload_n h rfl (dt t_n6 0 rfl) ?_
  refine KW_objInit h (by decide) kX6_3 (lw_k1 28 rfl rfl) (lw_k1 29 rfl rfl) (Nat.le_of_ble_eq_true rfl) (dt t_n6 1 rfl) ?_
  refine KW_aload_n h rfl (dt t_n6 2 rfl) ?_
  refine KW_iconst h (dt t_n6 3 rfl) ?_
  refine KW_newa h 0 (ty := .int) rfl (fun _ => rfl) (lw_k1 66 rfl rfl) (a0 := (4, .inl (fun _ => 0))) (fun _ => rfl) (by decide) (by decide) (Nat.le_of_ble_eq_true rfl) (Nat.le_of_ble_eq_true rfl) (Nat.le_of_ble_eq_true rfl) (dt t_n6 4 rfl) (fun q1 => ?_)
  refine KW_ws (ws' := [(a, .inr (6, [.null, .null, .null, .int 0, .int 0, .int 0, .int 0])), (q1, .inl ((xcs X) 0, 4, .inl (fun _ => 0)))]) rfl ?_
  refine KW_putF h 0 cf6 rfl (by decide) lX6_9 rfl rfl rfl rfl (Nat.le_of_ble_eq_true rfl) (dt t_n6 5 rfl) ?_
  refine KW_ws (ws' := [(a, .inr (6, [.ref q1, .null, .null, .int 0, .int 0, .int 0, .int 0])), (q1, .inl ((xcs X) 0, 4, .inl (fun _ => 0)))]) rfl ?_
  refine KW_aload_n h rfl (dt t_n6 6 rfl) ?_
  refine KW_bipush h (dt t_n6 7 rfl) (by decide) ?_
  refine KW_newa h 0 (ty := .int) rfl (fun _ => rfl) (lw_k1 66 rfl rfl) (a0 := (16, .inl (fun _ => 0))) (fun _ => rfl) (by decide) (by decide) (Nat.le_of_ble_eq_true rfl) (Nat.le_of_ble_eq_true rfl) (Nat.le_of_ble_eq_true rfl) (dt t_n6 8 rfl) (fun q2 => ?_)
  refine KW_ws (ws' := [(a, .inr (6, [.ref q1, .null, .null, .int 0, .int 0, .int 0, .int 0])), (q1, .inl ((xcs X) 0, 4, .inl (fun _ => 0))), (q2, .inl ((xcs X) 0, 16, .inl (fun _ => 0)))]) rfl ?_
  refine KW_putF h 0 cf6 rfl (by decide) lX6_15 rfl rfl rfl rfl (Nat.le_of_ble_eq_true rfl) (dt t_n6 9 rfl) ?_
  refine KW_ws (ws' := [(a, .inr (6, [.ref q1, .ref q2, .null, .int 0, .int 0, .int 0, .int 0])), (q1, .inl ((xcs X) 0, 4, .inl (fun _ => 0))), (q2, .inl ((xcs X) 0, 16, .inl (fun _ => 0)))]) rfl ?_
  refine KW_aload_n h rfl (dt t_n6 10 rfl) ?_
  refine KW_bipush h (dt t_n6 11 rfl) (by decide) ?_
  refine KW_newa h 0 (ty := .int) rfl (fun _ => rfl) (lw_k1 66 rfl rfl) (a0 := (16, .inl (fun _ => 0))) (fun _ => rfl) (by decide) (by decide) (Nat.le_of_ble_eq_true rfl) (Nat.le_of_ble_eq_true rfl) (Nat.le_of_ble_eq_true rfl) (dt t_n6 12 rfl) (fun q3 => ?_)
  refine KW_ws (ws' := [(a, .inr (6, [.ref q1, .ref q2, .null, .int 0, .int 0, .int 0, .int 0])), (q1, .inl ((xcs X) 0, 4, .inl (fun _ => 0))), (q2, .inl ((xcs X) 0, 16, .inl (fun _ => 0))), (q3, .inl ((xcs X) 0, 16, .inl (fun _ => 0)))]) rfl ?_
  refine KW_putF h 0 cf6 rfl (by decide) lX6_18 rfl rfl rfl rfl (Nat.le_of_ble_eq_true rfl) (dt t_n6 13 rfl) ?_
  refine KW_ws (ws' := [(a, .inr (6, [.ref q1, .ref q2, .ref q3, .int 0, .int 0, .int 0, .int 0])), (q1, .inl ((xcs X) 0, 4, .inl (fun _ => 0))), (q2, .inl ((xcs X) 0, 16, .inl (fun _ => 0))), (q3, .inl ((xcs X) 0, 16, .inl (fun _ => 0)))]) rfl ?_
  exact KW_vret h hR (fun k => [q1, q2, q3].getD k 0) [0, 1, 2, 3] rfl (by decide +kernel) (Nat.le_refl _) (Nat.le_refl _) (dt t_n6 14 rfl)
def b_n9 : List (Nat × Instr × Nat) := [(0, .aload_n 0, 1), (1, .invokespecial 3, 3), (4, .aload_n 0, 1), (5, .sipush 300, 3), (8, .newarray .int, 2), (10, .putfield 9, 3), (13, .aload_n 0, 1), (14, .iconst 3, 1), (15, .newarray .int, 2), (17, .putfield 15, 3), (20, .aload_n 0, 1), (21, .iconst 3, 1), (22, .newarray .int, 2), (24, .putfield 18, 3), (27, .aload_n 0, 1), (28, .sipush 144, 3), (31, .newarray .int, 2), (33, .putfield 21, 3), (36, .return_, 1)]
theorem t_n9 : DT cX9_init b_n9 := DT.of (by decide +kernel)
def sub9 (a : Nat) (cs : Nat → ClassId) (f : Nat → Nat) : va_W := [(a, .inr (9, [.ref (f 0), .ref (f 1), .ref (f 2), .ref (f 3), .int 0, .int 0])), ((f 0), .inl (cs 0, 300, .inl (fun _ => 0))), ((f 1), .inl (cs 0, 3, .inl (fun _ => 0))), ((f 2), .inl (cs 0, 3, .inl (fun _ => 0))), ((f 3), .inl (cs 0, 144, .inl (fun _ => 0)))]
set_option maxRecDepth 100000 in
set_option maxHeartbeats 4000000 in
theorem n_9 (a : Nat) : CI yX9_init cX9_init 1 1 4 450 [] a (fun _ => []) (.inr (9, [.null, .null, .null, .null, .int 0, .int 0])) (sub9 a) := by
  refine MetC 0 (by decide +kernel) rfl rfl (Nat.le_of_ble_eq_true rfl) ?_
  intro X h hR
  show KW X 1 0 [some (.ref a)] [] ([(a, .inr (9, [.null, .null, .null, .null, .int 0, .int 0]))]) 0 0
  refine KW_aload_n h rfl (dt t_n9 0 rfl) ?_
  refine KW_objInit h (by decide) kX9_3 (lw_k1 28 rfl rfl) (lw_k1 29 rfl rfl) (Nat.le_of_ble_eq_true rfl) (dt t_n9 1 rfl) ?_
  refine KW_aload_n h rfl (dt t_n9 2 rfl) ?_
  refine KW_sipush h (dt t_n9 3 rfl) (by decide) ?_
  refine KW_newa h 0 (ty := .int) rfl (fun _ => rfl) (lw_k1 66 rfl rfl) (a0 := (300, .inl (fun _ => 0))) (fun _ => rfl) (by decide) (by decide) (Nat.le_of_ble_eq_true rfl) (Nat.le_of_ble_eq_true rfl) (Nat.le_of_ble_eq_true rfl) (dt t_n9 4 rfl) (fun q1 => ?_)
  refine KW_ws (ws' := [(a, .inr (9, [.null, .null, .null, .null, .int 0, .int 0])), (q1, .inl ((xcs X) 0, 300, .inl (fun _ => 0)))]) rfl ?_
  refine KW_putF h 0 cf9 rfl (by decide) lX9_9 rfl rfl rfl rfl (Nat.le_of_ble_eq_true rfl) (dt t_n9 5 rfl) ?_
  refine KW_ws (ws' := [(a, .inr (9, [.ref q1, .null, .null, .null, .int 0, .int 0])), (q1, .inl ((xcs X) 0, 300, .inl (fun _ => 0)))]) rfl ?_
  refine KW_aload_n h rfl (dt t_n9 6 rfl) ?_
  refine KW_iconst h (dt t_n9 7 rfl) ?_
  refine KW_newa h 0 (ty := .int) rfl (fun _ => rfl) (lw_k1 66 rfl rfl) (a0 := (3, .inl (fun _ => 0))) (fun _ => rfl) (by decide) (by decide) (Nat.le_of_ble_eq_true rfl) (Nat.le_of_ble_eq_true rfl) (Nat.le_of_ble_eq_true rfl) (dt t_n9 8 rfl) (fun q2 => ?_)
  refine KW_ws (ws' := [(a, .inr (9, [.ref q1, .null, .null, .null, .int 0, .int 0])), (q1, .inl ((xcs X) 0, 300, .inl (fun _ => 0))), (q2, .inl ((xcs X) 0, 3, .inl (fun _ => 0)))]) rfl ?_
  refine KW_putF h 0 cf9 rfl (by decide) lX9_15 rfl rfl rfl rfl (Nat.le_of_ble_eq_true rfl) (dt t_n9 9 rfl) ?_
  refine KW_ws (ws' := [(a, .inr (9, [.ref q1, .ref q2, .null, .null, .int 0, .int 0])), (q1, .inl ((xcs X) 0, 300, .inl (fun _ => 0))), (q2, .inl ((xcs X) 0, 3, .inl (fun _ => 0)))]) rfl ?_
  refine KW_aload_n h rfl (dt t_n9 10 rfl) ?_
  refine KW_iconst h (dt t_n9 11 rfl) ?_
  refine KW_newa h 0 (ty := .int) rfl (fun _ => rfl) (lw_k1 66 rfl rfl) (a0 := (3, .inl (fun _ => 0))) (fun _ => rfl) (by decide) (by decide) (Nat.le_of_ble_eq_true rfl) (Nat.le_of_ble_eq_true rfl) (Nat.le_of_ble_eq_true rfl) (dt t_n9 12 rfl) (fun q3 => ?_)
  refine KW_ws (ws' := [(a, .inr (9, [.ref q1, .ref q2, .null, .null, .int 0, .int 0])), (q1, .inl ((xcs X) 0, 300, .inl (fun _ => 0))), (q2, .inl ((xcs X) 0, 3, .inl (fun _ => 0))), (q3, .inl ((xcs X) 0, 3, .inl (fun _ => 0)))]) rfl ?_
  refine KW_putF h 0 cf9 rfl (by decide) lX9_18 rfl rfl rfl rfl (Nat.le_of_ble_eq_true rfl) (dt t_n9 13 rfl) ?_
  refine KW_ws (ws' := [(a, .inr (9, [.ref q1, .ref q2, .ref q3, .null, .int 0, .int 0])), (q1, .inl ((xcs X) 0, 300, .inl (fun _ => 0))), (q2, .inl ((xcs X) 0, 3, .inl (fun _ => 0))), (q3, .inl ((xcs X) 0, 3, .inl (fun _ => 0)))]) rfl ?_
  refine KW_aload_n h rfl (dt t_n9 14 rfl) ?_
  refine KW_sipush h (dt t_n9 15 rfl) (by decide) ?_
  refine KW_newa h 0 (ty := .int) rfl (fun _ => rfl) (lw_k1 66 rfl rfl) (a0 := (144, .inl (fun _ => 0))) (fun _ => rfl) (by decide) (by decide) (Nat.le_of_ble_eq_true rfl) (Nat.le_of_ble_eq_true rfl) (Nat.le_of_ble_eq_true rfl) (dt t_n9 16 rfl) (fun q4 => ?_)
  refine KW_ws (ws' := [(a, .inr (9, [.ref q1, .ref q2, .ref q3, .null, .int 0, .int 0])), (q1, .inl ((xcs X) 0, 300, .inl (fun _ => 0))), (q2, .inl ((xcs X) 0, 3, .inl (fun _ => 0))), (q3, .inl ((xcs X) 0, 3, .inl (fun _ => 0))), (q4, .inl ((xcs X) 0, 144, .inl (fun _ => 0)))]) rfl ?_
  refine KW_putF h 0 cf9 rfl (by decide) lX9_21 rfl rfl rfl rfl (Nat.le_of_ble_eq_true rfl) (dt t_n9 17 rfl) ?_
  refine KW_ws (ws' := [(a, .inr (9, [.ref q1, .ref q2, .ref q3, .ref q4, .int 0, .int 0])), (q1, .inl ((xcs X) 0, 300, .inl (fun _ => 0))), (q2, .inl ((xcs X) 0, 3, .inl (fun _ => 0))), (q3, .inl ((xcs X) 0, 3, .inl (fun _ => 0))), (q4, .inl ((xcs X) 0, 144, .inl (fun _ => 0)))]) rfl ?_
  exact KW_vret h hR (fun k => [q1, q2, q3, q4].getD k 0) [0, 1, 2, 3, 4] rfl (by decide +kernel) (Nat.le_refl _) (Nat.le_refl _) (dt t_n9 18 rfl)
def b_n5 : List (Nat × Instr × Nat) := [(0, .aload_n 0, 1), (1, .invokespecial 3, 3), (4, .aload_n 0, 1), (5, .sipush 300, 3), (8, .newarray .int, 2), (10, .putfield 9, 3), (13, .aload_n 0, 1), (14, .sipush 300, 3), (17, .newarray .int, 2), (19, .putfield 15, 3), (22, .return_, 1)]
theorem t_n5 : DT cX5_init b_n5 := DT.of (by decide +kernel)
def sub5 (a : Nat) (cs : Nat → ClassId) (f : Nat → Nat) : va_W := [(a, .inr (5, [.ref (f 0), .int 0, .int 0, .int 0, .int 0, .int 0, .int 0, .int 0, .int 0, .ref (f 1), .int 0, .int 0, .int 0, .int 0, .int 0, .null])), ((f 0), .inl (cs 0, 300, .inl (fun _ => 0))), ((f 1), .inl (cs 0, 300, .inl (fun _ => 0)))]
set_option maxRecDepth 100000 in
set_option maxHeartbeats 4000000 in
theorem n_5 (a : Nat) : CI yX5_init cX5_init 1 1 2 600 [] a (fun _ => []) (.inr (5, [.null, .int 0, .int 0, .int 0, .int 0, .int 0, .int 0, .int 0, .int 0, .null, .int 0, .int 0, .int 0, .int 0, .int 0, .null])) (sub5 a) := by
  refine MetC 0 (by decide +kernel) rfl rfl (Nat.le_of_ble_eq_true rfl) ?_
  intro X h hR
  show KW X 1 0 [some (.ref a)] [] ([(a, .inr (5, [.null, .int 0, .int 0, .int 0, .int 0, .int 0, .int 0, .int 0, .int 0, .null, .int 0, .int 0, .int 0, .int 0, .int 0, .null]))]) 0 0
  refine KW_aload_n h rfl (dt t_n5 0 rfl) ?_
  refine KW_objInit h (by decide) kX5_3 (lw_k1 28 rfl rfl) (lw_k1 29 rfl rfl) (Nat.le_of_ble_eq_true rfl) (dt t_n5 1 rfl) ?_
  refine KW_aload_n h rfl (dt t_n5 2 rfl) ?_
  refine KW_sipush h (dt t_n5 3 rfl) (by decide) ?_
  refine KW_newa h 0 (ty := .int) rfl (fun _ => rfl) (lw_k1 66 rfl rfl) (a0 := (300, .inl (fun _ => 0))) (fun _ => rfl) (by decide) (by decide) (Nat.le_of_ble_eq_true rfl) (Nat.le_of_ble_eq_true rfl) (Nat.le_of_ble_eq_true rfl) (dt t_n5 4 rfl) (fun q1 => ?_)
  refine KW_ws (ws' := [(a, .inr (5, [.null, .int 0, .int 0, .int 0, .int 0, .int 0, .int 0, .int 0, .int 0, .null, .int 0, .int 0, .int 0, .int 0, .int 0, .null])), (q1, .inl ((xcs X) 0, 300, .inl (fun _ => 0)))]) rfl ?_
  refine KW_putF h 0 cf5 rfl (by decide) lX5_9 rfl rfl rfl rfl (Nat.le_of_ble_eq_true rfl) (dt t_n5 5 rfl) ?_
  refine KW_ws (ws' := [(a, .inr (5, [.ref q1, .int 0, .int 0, .int 0, .int 0, .int 0, .int 0, .int 0, .int 0, .null, .int 0, .int 0, .int 0, .int 0, .int 0, .null])), (q1, .inl ((xcs X) 0, 300, .inl (fun _ => 0)))]) rfl ?_
  refine KW_aload_n h rfl (dt t_n5 6 rfl) ?_
  refine KW_sipush h (dt t_n5 7 rfl) (by decide) ?_
  refine KW_newa h 0 (ty := .int) rfl (fun _ => rfl) (lw_k1 66 rfl rfl) (a0 := (300, .inl (fun _ => 0))) (fun _ => rfl) (by decide) (by decide) (Nat.le_of_ble_eq_true rfl) (Nat.le_of_ble_eq_true rfl) (Nat.le_of_ble_eq_true rfl) (dt t_n5 8 rfl) (fun q2 => ?_)
  refine KW_ws (ws' := [(a, .inr (5, [.ref q1, .int 0, .int 0, .int 0, .int 0, .int 0, .int 0, .int 0, .int 0, .null, .int 0, .int 0, .int 0, .int 0, .int 0, .null])), (q1, .inl ((xcs X) 0, 300, .inl (fun _ => 0))), (q2, .inl ((xcs X) 0, 300, .inl (fun _ => 0)))]) rfl ?_
  refine KW_putF h 0 cf5 rfl (by decide) lX5_15 rfl rfl rfl rfl (Nat.le_of_ble_eq_true rfl) (dt t_n5 9 rfl) ?_
  refine KW_ws (ws' := [(a, .inr (5, [.ref q1, .int 0, .int 0, .int 0, .int 0, .int 0, .int 0, .int 0, .int 0, .ref q2, .int 0, .int 0, .int 0, .int 0, .int 0, .null])), (q1, .inl ((xcs X) 0, 300, .inl (fun _ => 0))), (q2, .inl ((xcs X) 0, 300, .inl (fun _ => 0)))]) rfl ?_
  exact KW_vret h hR (fun k => [q1, q2].getD k 0) [0, 1, 2] rfl (by decide +kernel) (Nat.le_refl _) (Nat.le_refl _) (dt t_n5 10 rfl)
def b_n4 : List (Nat × Instr × Nat) := [(0, .aload_n 0, 1), (1, .invokespecial 3, 3), (4, .aload_n 0, 1), (5, .sipush 165, 3), (8, .newarray .int, 2), (10, .putfield 9, 3), (13, .aload_n 0, 1), (14, .bipush 13, 2), (16, .newarray .int, 2), (18, .putfield 15, 3), (21, .aload_n 0, 1), (22, .bipush 64, 2), (24, .newarray .int, 2), (26, .putfield 18, 3), (29, .aload_n 0, 1), (30, .sipush 400, 3), (33, .newarray .int, 2), (35, .putfield 21, 3), (38, .aload_n 0, 1), (39, .sipush 400, 3), (42, .newarray .int, 2), (44, .putfield 24, 3), (47, .return_, 1)]
theorem t_n4 : DT cX4_init b_n4 := DT.of (by decide +kernel)
def sub4 (a : Nat) (cs : Nat → ClassId) (f : Nat → Nat) : va_W := [(a, .inr (4, [.ref (f 0), .ref (f 1), .ref (f 2), .ref (f 3), .ref (f 4), .int 0, .null])), ((f 0), .inl (cs 0, 165, .inl (fun _ => 0))), ((f 1), .inl (cs 0, 13, .inl (fun _ => 0))), ((f 2), .inl (cs 0, 64, .inl (fun _ => 0))), ((f 3), .inl (cs 0, 400, .inl (fun _ => 0))), ((f 4), .inl (cs 0, 400, .inl (fun _ => 0)))]
set_option maxRecDepth 100000 in
set_option maxHeartbeats 4000000 in
theorem n_4 (a : Nat) : CI yX4_init cX4_init 1 1 5 1042 [] a (fun _ => []) (.inr (4, [.null, .null, .null, .null, .null, .int 0, .null])) (sub4 a) := by
  refine MetC 0 (by decide +kernel) rfl rfl (Nat.le_of_ble_eq_true rfl) ?_
  intro X h hR
  show KW X 1 0 [some (.ref a)] [] ([(a, .inr (4, [.null, .null, .null, .null, .null, .int 0, .null]))]) 0 0
  refine KW_aload_n h rfl (dt t_n4 0 rfl) ?_
  refine KW_objInit h (by decide) kX4_3 (lw_k1 28 rfl rfl) (lw_k1 29 rfl rfl) (Nat.le_of_ble_eq_true rfl) (dt t_n4 1 rfl) ?_
  refine KW_aload_n h rfl (dt t_n4 2 rfl) ?_
  refine KW_sipush h (dt t_n4 3 rfl) (by decide) ?_
  refine KW_newa h 0 (ty := .int) rfl (fun _ => rfl) (lw_k1 66 rfl rfl) (a0 := (165, .inl (fun _ => 0))) (fun _ => rfl) (by decide) (by decide) (Nat.le_of_ble_eq_true rfl) (Nat.le_of_ble_eq_true rfl) (Nat.le_of_ble_eq_true rfl) (dt t_n4 4 rfl) (fun q1 => ?_)
  refine KW_ws (ws' := [(a, .inr (4, [.null, .null, .null, .null, .null, .int 0, .null])), (q1, .inl ((xcs X) 0, 165, .inl (fun _ => 0)))]) rfl ?_
  refine KW_putF h 0 cf4 rfl (by decide) lX4_9 rfl rfl rfl rfl (Nat.le_of_ble_eq_true rfl) (dt t_n4 5 rfl) ?_
  refine KW_ws (ws' := [(a, .inr (4, [.ref q1, .null, .null, .null, .null, .int 0, .null])), (q1, .inl ((xcs X) 0, 165, .inl (fun _ => 0)))]) rfl ?_
  refine KW_aload_n h rfl (dt t_n4 6 rfl) ?_
  refine KW_bipush h (dt t_n4 7 rfl) (by decide) ?_
  refine KW_newa h 0 (ty := .int) rfl (fun _ => rfl) (lw_k1 66 rfl rfl) (a0 := (13, .inl (fun _ => 0))) (fun _ => rfl) (by decide) (by decide) (Nat.le_of_ble_eq_true rfl) (Nat.le_of_ble_eq_true rfl) (Nat.le_of_ble_eq_true rfl) (dt t_n4 8 rfl) (fun q2 => ?_)
  refine KW_ws (ws' := [(a, .inr (4, [.ref q1, .null, .null, .null, .null, .int 0, .null])), (q1, .inl ((xcs X) 0, 165, .inl (fun _ => 0))), (q2, .inl ((xcs X) 0, 13, .inl (fun _ => 0)))]) rfl ?_
  refine KW_putF h 0 cf4 rfl (by decide) lX4_15 rfl rfl rfl rfl (Nat.le_of_ble_eq_true rfl) (dt t_n4 9 rfl) ?_
  refine KW_ws (ws' := [(a, .inr (4, [.ref q1, .ref q2, .null, .null, .null, .int 0, .null])), (q1, .inl ((xcs X) 0, 165, .inl (fun _ => 0))), (q2, .inl ((xcs X) 0, 13, .inl (fun _ => 0)))]) rfl ?_
  refine KW_aload_n h rfl (dt t_n4 10 rfl) ?_
  refine KW_bipush h (dt t_n4 11 rfl) (by decide) ?_
  refine KW_newa h 0 (ty := .int) rfl (fun _ => rfl) (lw_k1 66 rfl rfl) (a0 := (64, .inl (fun _ => 0))) (fun _ => rfl) (by decide) (by decide) (Nat.le_of_ble_eq_true rfl) (Nat.le_of_ble_eq_true rfl) (Nat.le_of_ble_eq_true rfl) (dt t_n4 12 rfl) (fun q3 => ?_)
  refine KW_ws (ws' := [(a, .inr (4, [.ref q1, .ref q2, .null, .null, .null, .int 0, .null])), (q1, .inl ((xcs X) 0, 165, .inl (fun _ => 0))), (q2, .inl ((xcs X) 0, 13, .inl (fun _ => 0))), (q3, .inl ((xcs X) 0, 64, .inl (fun _ => 0)))]) rfl ?_
  refine KW_putF h 0 cf4 rfl (by decide) lX4_18 rfl rfl rfl rfl (Nat.le_of_ble_eq_true rfl) (dt t_n4 13 rfl) ?_
  refine KW_ws (ws' := [(a, .inr (4, [.ref q1, .ref q2, .ref q3, .null, .null, .int 0, .null])), (q1, .inl ((xcs X) 0, 165, .inl (fun _ => 0))), (q2, .inl ((xcs X) 0, 13, .inl (fun _ => 0))), (q3, .inl ((xcs X) 0, 64, .inl (fun _ => 0)))]) rfl ?_
  refine KW_aload_n h rfl (dt t_n4 14 rfl) ?_
  refine KW_sipush h (dt t_n4 15 rfl) (by decide) ?_
  refine KW_newa h 0 (ty := .int) rfl (fun _ => rfl) (lw_k1 66 rfl rfl) (a0 := (400, .inl (fun _ => 0))) (fun _ => rfl) (by decide) (by decide) (Nat.le_of_ble_eq_true rfl) (Nat.le_of_ble_eq_true rfl) (Nat.le_of_ble_eq_true rfl) (dt t_n4 16 rfl) (fun q4 => ?_)
  refine KW_ws (ws' := [(a, .inr (4, [.ref q1, .ref q2, .ref q3, .null, .null, .int 0, .null])), (q1, .inl ((xcs X) 0, 165, .inl (fun _ => 0))), (q2, .inl ((xcs X) 0, 13, .inl (fun _ => 0))), (q3, .inl ((xcs X) 0, 64, .inl (fun _ => 0))), (q4, .inl ((xcs X) 0, 400, .inl (fun _ => 0)))]) rfl ?_
  refine KW_putF h 0 cf4 rfl (by decide) lX4_21 rfl rfl rfl rfl (Nat.le_of_ble_eq_true rfl) (dt t_n4 17 rfl) ?_
  refine KW_ws (ws' := [(a, .inr (4, [.ref q1, .ref q2, .ref q3, .ref q4, .null, .int 0, .null])), (q1, .inl ((xcs X) 0, 165, .inl (fun _ => 0))), (q2, .inl ((xcs X) 0, 13, .inl (fun _ => 0))), (q3, .inl ((xcs X) 0, 64, .inl (fun _ => 0))), (q4, .inl ((xcs X) 0, 400, .inl (fun _ => 0)))]) rfl ?_
  refine KW_aload_n h rfl (dt t_n4 18 rfl) ?_
  refine KW_sipush h (dt t_n4 19 rfl) (by decide) ?_
  refine KW_newa h 0 (ty := .int) rfl (fun _ => rfl) (lw_k1 66 rfl rfl) (a0 := (400, .inl (fun _ => 0))) (fun _ => rfl) (by decide) (by decide) (Nat.le_of_ble_eq_true rfl) (Nat.le_of_ble_eq_true rfl) (Nat.le_of_ble_eq_true rfl) (dt t_n4 20 rfl) (fun q5 => ?_)
  refine KW_ws (ws' := [(a, .inr (4, [.ref q1, .ref q2, .ref q3, .ref q4, .null, .int 0, .null])), (q1, .inl ((xcs X) 0, 165, .inl (fun _ => 0))), (q2, .inl ((xcs X) 0, 13, .inl (fun _ => 0))), (q3, .inl ((xcs X) 0, 64, .inl (fun _ => 0))), (q4, .inl ((xcs X) 0, 400, .inl (fun _ => 0))), (q5, .inl ((xcs X) 0, 400, .inl (fun _ => 0)))]) rfl ?_
  refine KW_putF h 0 cf4 rfl (by decide) lX4_24 rfl rfl rfl rfl (Nat.le_of_ble_eq_true rfl) (dt t_n4 21 rfl) ?_
  refine KW_ws (ws' := [(a, .inr (4, [.ref q1, .ref q2, .ref q3, .ref q4, .ref q5, .int 0, .null])), (q1, .inl ((xcs X) 0, 165, .inl (fun _ => 0))), (q2, .inl ((xcs X) 0, 13, .inl (fun _ => 0))), (q3, .inl ((xcs X) 0, 64, .inl (fun _ => 0))), (q4, .inl ((xcs X) 0, 400, .inl (fun _ => 0))), (q5, .inl ((xcs X) 0, 400, .inl (fun _ => 0)))]) rfl ?_
  exact KW_vret h hR (fun k => [q1, q2, q3, q4, q5].getD k 0) [0, 1, 2, 3, 4, 5] rfl (by decide +kernel) (Nat.le_refl _) (Nat.le_refl _) (dt t_n4 22 rfl)
def b_n8 : List (Nat × Instr × Nat) := [(0, .aload_n 0, 1), (1, .invokespecial 3, 3), (4, .aload_n 0, 1), (5, .bipush 30, 2), (7, .sipush 165, 3), (10, .multianewarray 9 2, 4), (14, .putfield 11, 3), (17, .return_, 1)]
theorem t_n8 : DT cX8_init b_n8 := DT.of (by decide +kernel)
def sub8 (a : Nat) (cs : Nat → ClassId) (f : Nat → Nat) : va_W := [(a, .inr (8, [.ref (f 0), .int 0, .int 0])), ((f 0), .inl (cs 6, 30, .inr (.inr (.inr (.inr (fun k => some ([(f 1), (f 2), (f 3), (f 4), (f 5), (f 6), (f 7), (f 8), (f 9), (f 10), (f 11), (f 12), (f 13), (f 14), (f 15), (f 16), (f 17), (f 18), (f 19), (f 20), (f 21), (f 22), (f 23), (f 24), (f 25), (f 26), (f 27), (f 28), (f 29), (f 30)].getD k 0))))))), ((f 1), .inl (cs 0, 165, .inl (fun _ => 0))), ((f 2), .inl (cs 0, 165, .inl (fun _ => 0))), ((f 3), .inl (cs 0, 165, .inl (fun _ => 0))), ((f 4), .inl (cs 0, 165, .inl (fun _ => 0))), ((f 5), .inl (cs 0, 165, .inl (fun _ => 0))), ((f 6), .inl (cs 0, 165, .inl (fun _ => 0))), ((f 7), .inl (cs 0, 165, .inl (fun _ => 0))), ((f 8), .inl (cs 0, 165, .inl (fun _ => 0))), ((f 9), .inl (cs 0, 165, .inl (fun _ => 0))), ((f 10), .inl (cs 0, 165, .inl (fun _ => 0))), ((f 11), .inl (cs 0, 165, .inl (fun _ => 0))), ((f 12), .inl (cs 0, 165, .inl (fun _ => 0))), ((f 13), .inl (cs 0, 165, .inl (fun _ => 0))), ((f 14), .inl (cs 0, 165, .inl (fun _ => 0))), ((f 15), .inl (cs 0, 165, .inl (fun _ => 0))), ((f 16), .inl (cs 0, 165, .inl (fun _ => 0))), ((f 17), .inl (cs 0, 165, .inl (fun _ => 0))), ((f 18), .inl (cs 0, 165, .inl (fun _ => 0))), ((f 19), .inl (cs 0, 165, .inl (fun _ => 0))), ((f 20), .inl (cs 0, 165, .inl (fun _ => 0))), ((f 21), .inl (cs 0, 165, .inl (fun _ => 0))), ((f 22), .inl (cs 0, 165, .inl (fun _ => 0))), ((f 23), .inl (cs 0, 165, .inl (fun _ => 0))), ((f 24), .inl (cs 0, 165, .inl (fun _ => 0))), ((f 25), .inl (cs 0, 165, .inl (fun _ => 0))), ((f 26), .inl (cs 0, 165, .inl (fun _ => 0))), ((f 27), .inl (cs 0, 165, .inl (fun _ => 0))), ((f 28), .inl (cs 0, 165, .inl (fun _ => 0))), ((f 29), .inl (cs 0, 165, .inl (fun _ => 0))), ((f 30), .inl (cs 0, 165, .inl (fun _ => 0)))]
set_option maxRecDepth 100000 in
set_option maxHeartbeats 4000000 in
theorem n_8 (a : Nat) : CI yX8_init cX8_init 1 1 31 4980 [] a (fun _ => []) (.inr (8, [.null, .int 0, .int 0])) (sub8 a) := by
  refine MetC 0 (by decide +kernel) rfl rfl (Nat.le_of_ble_eq_true rfl) ?_
  intro X h hR
  show KW X 1 0 [some (.ref a)] [] ([(a, .inr (8, [.null, .int 0, .int 0]))]) 0 0
  refine KW_aload_n h rfl (dt t_n8 0 rfl) ?_
  refine KW_objInit h (by decide) kX8_3 (lw_k1 28 rfl rfl) (lw_k1 29 rfl rfl) (Nat.le_of_ble_eq_true rfl) (dt t_n8 1 rfl) ?_
  refine KW_aload_n h rfl (dt t_n8 2 rfl) ?_
  refine KW_bipush h (dt t_n8 3 rfl) (by decide) ?_
  refine KW_sipush h (dt t_n8 4 rfl) (by decide) ?_
  refine KW_multi h (N := 30) (M := 165) (lw_k1 148 rfl rfl) (lw_k1 66 rfl rfl) (by decide) (by decide) (by decide) (by decide) (by decide) (by decide) (Nat.le_of_ble_eq_true rfl) (Nat.le_of_ble_eq_true rfl) (dt t_n8 5 rfl) (fun q1 g2 => ?_)
  refine KW_ws (ws' := [(a, .inr (8, [.null, .int 0, .int 0]))] ++ multiL (xcs X) 30 165 q1 g2) rfl ?_
  refine KW_putF h 0 cf8 rfl (by decide) lX8_11 rfl rfl rfl rfl (Nat.le_of_ble_eq_true rfl) (dt t_n8 6 rfl) ?_
  refine KW_ws (ws' := [(a, .inr (8, [.ref q1, .int 0, .int 0]))] ++ multiL (xcs X) 30 165 q1 g2) rfl ?_
  exact KW_vret h hR (fun k => [q1, (g2 0), (g2 1), (g2 2), (g2 3), (g2 4), (g2 5), (g2 6), (g2 7), (g2 8), (g2 9), (g2 10), (g2 11), (g2 12), (g2 13), (g2 14), (g2 15), (g2 16), (g2 17), (g2 18), (g2 19), (g2 20), (g2 21), (g2 22), (g2 23), (g2 24), (g2 25), (g2 26), (g2 27), (g2 28), (g2 29)].getD k 0) [0, 1, 2, 3, 4, 5, 6, 7, 8, 9, 10, 11, 12, 13, 14, 15, 16, 17, 18, 19, 20, 21, 22, 23, 24, 25, 26, 27, 28, 29, 30, 31] rfl (by decide +kernel) (Nat.le_refl _) (Nat.le_refl _) (dt t_n8 7 rfl)
