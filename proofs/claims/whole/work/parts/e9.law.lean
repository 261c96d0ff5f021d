def b_l25 : List (Nat × Instr × Nat) := [(981, .aload_n 1, 1), (982, .aload_n 0, 1), (983, .iload_n 3, 1), (984, .iconst 1, 1), (985, .iadd, 1), (986, .iaload, 1), (987, .invokevirtual 120, 3), (990, .aload_n 2, 1), (991, .aload_n 0, 1), (992, .iload_n 3, 1), (993, .iconst 1, 1), (994, .iadd, 1), (995, .iaload, 1), (996, .invokevirtual 123, 3), (999, .if_icmp .eq 330, 3), (1002, .iconst 0, 1), (1003, .ireturn, 1)]
theorem t_l25 : DT code b_l25 := DT.of (by decide +kernel)
set_option maxRecDepth 20000 in
theorem lc_25 {X : Cx} {ad2 : Nat → Nat} {b L : Nat} {xs : Nat → Int32} (h : LC X ad2 b L xs) (hL : L ≤ 3072) {i : Nat} (hi : 6 * i + 6 ≤ L) (h5 : i < 512) {σ μ : Mm} (hR : Rc i σ μ) (kk : ∀ σ2 μ2 : Mm, Rc (i + 1) σ2 μ2 → LW X ad2 1329 (lvL X ad2 b i) [] σ2 μ2) : LW X ad2 981 (lvL X ad2 b i) [] σ μ := by
  obtain ⟨v, s2, u2, E1, E2, R2⟩ := q_tells hR h5 (ag xs i 1)
  refine LW_aload h rfl (dt t_l25 0 rfl) ?_
  refine LW_arg h (i := i) 1 hL (by omega) rfl (dt t_l25 1 rfl) (dt t_l25 2 rfl) (dt t_l25 3 rfl) (dt t_l25 4 rfl) (dt t_l25 5 rfl) ?_
  refine LW_callA h v_X10_tells kL_120 (c_A_tells (ag xs i 1) (r32_of _) E1) rfl rfl (Nat.le_of_ble_eq_true rfl) (Nat.le_of_ble_eq_true rfl) rfl (Nat.le_of_ble_eq_true rfl) (dt t_l25 6 rfl) (fun _ => ?_)
  refine LW_aload h rfl (dt t_l25 7 rfl) ?_
  refine LW_arg h (i := i) 1 hL (by omega) rfl (dt t_l25 8 rfl) (dt t_l25 9 rfl) (dt t_l25 10 rfl) (dt t_l25 11 rfl) (dt t_l25 12 rfl) ?_
  refine LW_callM h v_X11_tells kL_123 (c_M_tells (ag xs i 1) (r32_of _) E2) rfl rfl (Nat.le_of_ble_eq_true rfl) (Nat.le_of_ble_eq_true rfl) rfl (Nat.le_of_ble_eq_true rfl) (dt t_l25 13 rfl) (fun _ => ?_)
  refine LW_eq (tgt := 1329) h (dt t_l25 14 rfl) rfl ?_
  exact kk _ _ R2
def b_l26 : List (Nat × Instr × Nat) := [(1004, .aload_n 1, 1), (1005, .aload_n 0, 1), (1006, .iload_n 3, 1), (1007, .iconst 1, 1), (1008, .iadd, 1), (1009, .iaload, 1), (1010, .aload_n 0, 1), (1011, .iload_n 3, 1), (1012, .iconst 2, 1), (1013, .iadd, 1), (1014, .iaload, 1), (1015, .invokevirtual 124, 3), (1018, .aload_n 2, 1), (1019, .aload_n 0, 1), (1020, .iload_n 3, 1), (1021, .iconst 1, 1), (1022, .iadd, 1), (1023, .iaload, 1), (1024, .aload_n 0, 1), (1025, .iload_n 3, 1), (1026, .iconst 2, 1), (1027, .iadd, 1), (1028, .iaload, 1), (1029, .invokevirtual 127, 3), (1032, .if_icmp .eq 297, 3), (1035, .iconst 0, 1), (1036, .ireturn, 1)]
theorem t_l26 : DT code b_l26 := DT.of (by decide +kernel)
set_option maxRecDepth 20000 in
theorem lc_26 {X : Cx} {ad2 : Nat → Nat} {b L : Nat} {xs : Nat → Int32} (h : LC X ad2 b L xs) (hL : L ≤ 3072) {i : Nat} (hi : 6 * i + 6 ≤ L) (h5 : i < 512) {σ μ : Mm} (hR : Rc i σ μ) (kk : ∀ σ2 μ2 : Mm, Rc (i + 1) σ2 μ2 → LW X ad2 1329 (lvL X ad2 b i) [] σ2 μ2) : LW X ad2 1004 (lvL X ad2 b i) [] σ μ := by
  obtain ⟨v, s2, u2, E1, E2, R2⟩ := q_ledger hR h5 (ag xs i 1) (ag xs i 2)
  refine LW_aload h rfl (dt t_l26 0 rfl) ?_
  refine LW_arg h (i := i) 1 hL (by omega) rfl (dt t_l26 1 rfl) (dt t_l26 2 rfl) (dt t_l26 3 rfl) (dt t_l26 4 rfl) (dt t_l26 5 rfl) ?_
  refine LW_arg h (i := i) 2 hL (by omega) rfl (dt t_l26 6 rfl) (dt t_l26 7 rfl) (dt t_l26 8 rfl) (dt t_l26 9 rfl) (dt t_l26 10 rfl) ?_
  refine LW_callA h v_X10_ledger kL_124 (c_A_ledger (ag xs i 1) (r32_of _) (ag xs i 2) (r32_of _) E1) rfl rfl (Nat.le_of_ble_eq_true rfl) (Nat.le_of_ble_eq_true rfl) rfl (Nat.le_of_ble_eq_true rfl) (dt t_l26 11 rfl) (fun _ => ?_)
  refine LW_aload h rfl (dt t_l26 12 rfl) ?_
  refine LW_arg h (i := i) 1 hL (by omega) rfl (dt t_l26 13 rfl) (dt t_l26 14 rfl) (dt t_l26 15 rfl) (dt t_l26 16 rfl) (dt t_l26 17 rfl) ?_
  refine LW_arg h (i := i) 2 hL (by omega) rfl (dt t_l26 18 rfl) (dt t_l26 19 rfl) (dt t_l26 20 rfl) (dt t_l26 21 rfl) (dt t_l26 22 rfl) ?_
  refine LW_callM h v_X11_ledger kL_127 (c_M_ledger (ag xs i 1) (r32_of _) (ag xs i 2) (r32_of _) E2) rfl rfl (Nat.le_of_ble_eq_true rfl) (Nat.le_of_ble_eq_true rfl) rfl (Nat.le_of_ble_eq_true rfl) (dt t_l26 23 rfl) (fun _ => ?_)
  refine LW_eq (tgt := 1329) h (dt t_l26 24 rfl) rfl ?_
  exact kk _ _ R2
def b_l27 : List (Nat × Instr × Nat) := [(1037, .aload_n 1, 1), (1038, .aload_n 0, 1), (1039, .iload_n 3, 1), (1040, .iconst 1, 1), (1041, .iadd, 1), (1042, .iaload, 1), (1043, .invokevirtual 128, 3), (1046, .aload_n 2, 1), (1047, .aload_n 0, 1), (1048, .iload_n 3, 1), (1049, .iconst 1, 1), (1050, .iadd, 1), (1051, .iaload, 1), (1052, .invokevirtual 131, 3), (1055, .if_icmp .eq 274, 3), (1058, .iconst 0, 1), (1059, .ireturn, 1)]
theorem t_l27 : DT code b_l27 := DT.of (by decide +kernel)
set_option maxRecDepth 20000 in
theorem lc_27 {X : Cx} {ad2 : Nat → Nat} {b L : Nat} {xs : Nat → Int32} (h : LC X ad2 b L xs) (hL : L ≤ 3072) {i : Nat} (hi : 6 * i + 6 ≤ L) (h5 : i < 512) {σ μ : Mm} (hR : Rc i σ μ) (kk : ∀ σ2 μ2 : Mm, Rc (i + 1) σ2 μ2 → LW X ad2 1329 (lvL X ad2 b i) [] σ2 μ2) : LW X ad2 1037 (lvL X ad2 b i) [] σ μ := by
  obtain ⟨v, s2, u2, E1, E2, R2⟩ := q_order hR h5 (ag xs i 1)
  refine LW_aload h rfl (dt t_l27 0 rfl) ?_
  refine LW_arg h (i := i) 1 hL (by omega) rfl (dt t_l27 1 rfl) (dt t_l27 2 rfl) (dt t_l27 3 rfl) (dt t_l27 4 rfl) (dt t_l27 5 rfl) ?_
  refine LW_callA h v_X10_order kL_128 (c_A_order (ag xs i 1) (r32_of _) E1) rfl rfl (Nat.le_of_ble_eq_true rfl) (Nat.le_of_ble_eq_true rfl) rfl (Nat.le_of_ble_eq_true rfl) (dt t_l27 6 rfl) (fun _ => ?_)
  refine LW_aload h rfl (dt t_l27 7 rfl) ?_
  refine LW_arg h (i := i) 1 hL (by omega) rfl (dt t_l27 8 rfl) (dt t_l27 9 rfl) (dt t_l27 10 rfl) (dt t_l27 11 rfl) (dt t_l27 12 rfl) ?_
  refine LW_callM h v_X11_order kL_131 (c_M_order (ag xs i 1) (r32_of _) E2) rfl rfl (Nat.le_of_ble_eq_true rfl) (Nat.le_of_ble_eq_true rfl) rfl (Nat.le_of_ble_eq_true rfl) (dt t_l27 13 rfl) (fun _ => ?_)
  refine LW_eq (tgt := 1329) h (dt t_l27 14 rfl) rfl ?_
  exact kk _ _ R2
def b_l28 : List (Nat × Instr × Nat) := [(1060, .aload_n 1, 1), (1061, .aload_n 0, 1), (1062, .iload_n 3, 1), (1063, .iconst 1, 1), (1064, .iadd, 1), (1065, .iaload, 1), (1066, .invokevirtual 132, 3), (1069, .aload_n 2, 1), (1070, .aload_n 0, 1), (1071, .iload_n 3, 1), (1072, .iconst 1, 1), (1073, .iadd, 1), (1074, .iaload, 1), (1075, .invokevirtual 135, 3), (1078, .if_icmp .eq 251, 3), (1081, .iconst 0, 1), (1082, .ireturn, 1)]
theorem t_l28 : DT code b_l28 := DT.of (by decide +kernel)
set_option maxRecDepth 20000 in
theorem lc_28 {X : Cx} {ad2 : Nat → Nat} {b L : Nat} {xs : Nat → Int32} (h : LC X ad2 b L xs) (hL : L ≤ 3072) {i : Nat} (hi : 6 * i + 6 ≤ L) (h5 : i < 512) {σ μ : Mm} (hR : Rc i σ μ) (kk : ∀ σ2 μ2 : Mm, Rc (i + 1) σ2 μ2 → LW X ad2 1329 (lvL X ad2 b i) [] σ2 μ2) : LW X ad2 1060 (lvL X ad2 b i) [] σ μ := by
  obtain ⟨v, s2, u2, E1, E2, R2⟩ := q_grouping hR h5 (ag xs i 1)
  refine LW_aload h rfl (dt t_l28 0 rfl) ?_
  refine LW_arg h (i := i) 1 hL (by omega) rfl (dt t_l28 1 rfl) (dt t_l28 2 rfl) (dt t_l28 3 rfl) (dt t_l28 4 rfl) (dt t_l28 5 rfl) ?_
  refine LW_callA h v_X10_grouping kL_132 (c_A_grouping (ag xs i 1) (r32_of _) E1) rfl rfl (Nat.le_of_ble_eq_true rfl) (Nat.le_of_ble_eq_true rfl) rfl (Nat.le_of_ble_eq_true rfl) (dt t_l28 6 rfl) (fun _ => ?_)
  refine LW_aload h rfl (dt t_l28 7 rfl) ?_
  refine LW_arg h (i := i) 1 hL (by omega) rfl (dt t_l28 8 rfl) (dt t_l28 9 rfl) (dt t_l28 10 rfl) (dt t_l28 11 rfl) (dt t_l28 12 rfl) ?_
  refine LW_callM h v_X11_grouping kL_135 (c_M_grouping (ag xs i 1) (r32_of _) E2) rfl rfl (Nat.le_of_ble_eq_true rfl) (Nat.le_of_ble_eq_true rfl) rfl (Nat.le_of_ble_eq_true rfl) (dt t_l28 13 rfl) (fun _ => ?_)
  refine LW_eq (tgt := 1329) h (dt t_l28 14 rfl) rfl ?_
  exact kk _ _ R2
def b_l29 : List (Nat × Instr × Nat) := [(1083, .aload_n 1, 1), (1084, .aload_n 0, 1), (1085, .iload_n 3, 1), (1086, .iconst 1, 1), (1087, .iadd, 1), (1088, .iaload, 1), (1089, .aload_n 0, 1), (1090, .iload_n 3, 1), (1091, .iconst 2, 1), (1092, .iadd, 1), (1093, .iaload, 1), (1094, .aload_n 0, 1), (1095, .iload_n 3, 1), (1096, .iconst 3, 1), (1097, .iadd, 1), (1098, .iaload, 1), (1099, .ifCond .eq 7, 3), (1102, .iconst 1, 1), (1103, .goto 4, 3), (1106, .iconst 0, 1), (1107, .invokevirtual 136, 3), (1110, .aload_n 2, 1), (1111, .aload_n 0, 1), (1112, .iload_n 3, 1), (1113, .iconst 1, 1), (1114, .iadd, 1), (1115, .iaload, 1), (1116, .aload_n 0, 1), (1117, .iload_n 3, 1), (1118, .iconst 2, 1), (1119, .iadd, 1), (1120, .iaload, 1), (1121, .aload_n 0, 1), (1122, .iload_n 3, 1), (1123, .iconst 3, 1), (1124, .iadd, 1), (1125, .iaload, 1), (1126, .ifCond .eq 7, 3), (1129, .iconst 1, 1), (1130, .goto 4, 3), (1133, .iconst 0, 1), (1134, .invokevirtual 140, 3), (1137, .if_icmp .eq 192, 3), (1140, .iconst 0, 1), (1141, .ireturn, 1)]
theorem t_l29 : DT code b_l29 := DT.of (by decide +kernel)
set_option maxRecDepth 20000 in
theorem lc_29 {X : Cx} {ad2 : Nat → Nat} {b L : Nat} {xs : Nat → Int32} (h : LC X ad2 b L xs) (hL : L ≤ 3072) {i : Nat} (hi : 6 * i + 6 ≤ L) (h5 : i < 512) {σ μ : Mm} (hR : Rc i σ μ) (kk : ∀ σ2 μ2 : Mm, Rc (i + 1) σ2 μ2 → LW X ad2 1329 (lvL X ad2 b i) [] σ2 μ2) : LW X ad2 1083 (lvL X ad2 b i) [] σ μ := by
  obtain ⟨v, s2, u2, E1, E2, R2⟩ := q_carried hR h5 (ag xs i 1) (ag xs i 2) (bz (ag xs i 3))
  refine LW_aload h rfl (dt t_l29 0 rfl) ?_
  refine LW_arg h (i := i) 1 hL (by omega) rfl (dt t_l29 1 rfl) (dt t_l29 2 rfl) (dt t_l29 3 rfl) (dt t_l29 4 rfl) (dt t_l29 5 rfl) ?_
  refine LW_arg h (i := i) 2 hL (by omega) rfl (dt t_l29 6 rfl) (dt t_l29 7 rfl) (dt t_l29 8 rfl) (dt t_l29 9 rfl) (dt t_l29 10 rfl) ?_
  refine LW_arg h (i := i) 3 hL (by omega) rfl (dt t_l29 11 rfl) (dt t_l29 12 rfl) (dt t_l29 13 rfl) (dt t_l29 14 rfl) (dt t_l29 15 rfl) ?_
  refine LW_bool h (r32_of _) (dt t_l29 16 rfl) (dt t_l29 17 rfl) (dt t_l29 18 rfl) (dt t_l29 19 rfl) ?_
  refine LW_callA h v_X10_carried kL_136 (c_A_carried (ag xs i 1) (r32_of _) (ag xs i 2) (r32_of _) (bz (ag xs i 3)) (bz_r _) E1) rfl rfl (Nat.le_of_ble_eq_true rfl) (Nat.le_of_ble_eq_true rfl) rfl (Nat.le_of_ble_eq_true rfl) (dt t_l29 20 rfl) (fun _ => ?_)
  refine LW_aload h rfl (dt t_l29 21 rfl) ?_
  refine LW_arg h (i := i) 1 hL (by omega) rfl (dt t_l29 22 rfl) (dt t_l29 23 rfl) (dt t_l29 24 rfl) (dt t_l29 25 rfl) (dt t_l29 26 rfl) ?_
  refine LW_arg h (i := i) 2 hL (by omega) rfl (dt t_l29 27 rfl) (dt t_l29 28 rfl) (dt t_l29 29 rfl) (dt t_l29 30 rfl) (dt t_l29 31 rfl) ?_
  refine LW_arg h (i := i) 3 hL (by omega) rfl (dt t_l29 32 rfl) (dt t_l29 33 rfl) (dt t_l29 34 rfl) (dt t_l29 35 rfl) (dt t_l29 36 rfl) ?_
  refine LW_bool h (r32_of _) (dt t_l29 37 rfl) (dt t_l29 38 rfl) (dt t_l29 39 rfl) (dt t_l29 40 rfl) ?_
  refine LW_callM h v_X11_carried kL_140 (c_M_carried (ag xs i 1) (r32_of _) (ag xs i 2) (r32_of _) (bz (ag xs i 3)) (bz_r _) E2) rfl rfl (Nat.le_of_ble_eq_true rfl) (Nat.le_of_ble_eq_true rfl) rfl (Nat.le_of_ble_eq_true rfl) (dt t_l29 41 rfl) (fun _ => ?_)
  refine LW_eq (tgt := 1329) h (dt t_l29 42 rfl) rfl ?_
  exact kk _ _ R2
def b_l30 : List (Nat × Instr × Nat) := [(1142, .aload_n 1, 1), (1143, .aload_n 0, 1), (1144, .iload_n 3, 1), (1145, .iconst 1, 1), (1146, .iadd, 1), (1147, .iaload, 1), (1148, .aload_n 0, 1), (1149, .iload_n 3, 1), (1150, .iconst 2, 1), (1151, .iadd, 1), (1152, .iaload, 1), (1153, .ifCond .eq 7, 3), (1156, .iconst 1, 1), (1157, .goto 4, 3), (1160, .iconst 0, 1), (1161, .invokevirtual 141, 3), (1164, .aload_n 2, 1), (1165, .aload_n 0, 1), (1166, .iload_n 3, 1), (1167, .iconst 1, 1), (1168, .iadd, 1), (1169, .iaload, 1), (1170, .aload_n 0, 1), (1171, .iload_n 3, 1), (1172, .iconst 2, 1), (1173, .iadd, 1), (1174, .iaload, 1), (1175, .ifCond .eq 7, 3), (1178, .iconst 1, 1), (1179, .goto 4, 3), (1182, .iconst 0, 1), (1183, .invokevirtual 145, 3), (1186, .if_icmp .eq 143, 3), (1189, .iconst 0, 1), (1190, .ireturn, 1)]
theorem t_l30 : DT code b_l30 := DT.of (by decide +kernel)
set_option maxRecDepth 20000 in
theorem lc_30 {X : Cx} {ad2 : Nat → Nat} {b L : Nat} {xs : Nat → Int32} (h : LC X ad2 b L xs) (hL : L ≤ 3072) {i : Nat} (hi : 6 * i + 6 ≤ L) (h5 : i < 512) {σ μ : Mm} (hR : Rc i σ μ) (kk : ∀ σ2 μ2 : Mm, Rc (i + 1) σ2 μ2 → LW X ad2 1329 (lvL X ad2 b i) [] σ2 μ2) : LW X ad2 1142 (lvL X ad2 b i) [] σ μ := by
  obtain ⟨v, s2, u2, E1, E2, R2⟩ := q_game hR h5 (ag xs i 1) (bz (ag xs i 2))
  refine LW_aload h rfl (dt t_l30 0 rfl) ?_
  refine LW_arg h (i := i) 1 hL (by omega) rfl (dt t_l30 1 rfl) (dt t_l30 2 rfl) (dt t_l30 3 rfl) (dt t_l30 4 rfl) (dt t_l30 5 rfl) ?_
  refine LW_arg h (i := i) 2 hL (by omega) rfl (dt t_l30 6 rfl) (dt t_l30 7 rfl) (dt t_l30 8 rfl) (dt t_l30 9 rfl) (dt t_l30 10 rfl) ?_
  refine LW_bool h (r32_of _) (dt t_l30 11 rfl) (dt t_l30 12 rfl) (dt t_l30 13 rfl) (dt t_l30 14 rfl) ?_
  refine LW_callA h v_X10_game kL_141 (c_A_game (ag xs i 1) (r32_of _) (bz (ag xs i 2)) (bz_r _) E1) rfl rfl (Nat.le_of_ble_eq_true rfl) (Nat.le_of_ble_eq_true rfl) rfl (Nat.le_of_ble_eq_true rfl) (dt t_l30 15 rfl) (fun _ => ?_)
  refine LW_aload h rfl (dt t_l30 16 rfl) ?_
  refine LW_arg h (i := i) 1 hL (by omega) rfl (dt t_l30 17 rfl) (dt t_l30 18 rfl) (dt t_l30 19 rfl) (dt t_l30 20 rfl) (dt t_l30 21 rfl) ?_
  refine LW_arg h (i := i) 2 hL (by omega) rfl (dt t_l30 22 rfl) (dt t_l30 23 rfl) (dt t_l30 24 rfl) (dt t_l30 25 rfl) (dt t_l30 26 rfl) ?_
  refine LW_bool h (r32_of _) (dt t_l30 27 rfl) (dt t_l30 28 rfl) (dt t_l30 29 rfl) (dt t_l30 30 rfl) ?_
  refine LW_callM h v_X11_game kL_145 (c_M_game (ag xs i 1) (r32_of _) (bz (ag xs i 2)) (bz_r _) E2) rfl rfl (Nat.le_of_ble_eq_true rfl) (Nat.le_of_ble_eq_true rfl) rfl (Nat.le_of_ble_eq_true rfl) (dt t_l30 31 rfl) (fun _ => ?_)
  refine LW_eq (tgt := 1329) h (dt t_l30 32 rfl) rfl ?_
  exact kk _ _ R2
def b_l31 : List (Nat × Instr × Nat) := [(1191, .aload_n 1, 1), (1192, .aload_n 0, 1), (1193, .iload_n 3, 1), (1194, .iconst 1, 1), (1195, .iadd, 1), (1196, .iaload, 1), (1197, .aload_n 0, 1), (1198, .iload_n 3, 1), (1199, .iconst 2, 1), (1200, .iadd, 1), (1201, .iaload, 1), (1202, .aload_n 0, 1), (1203, .iload_n 3, 1), (1204, .iconst 3, 1), (1205, .iadd, 1), (1206, .iaload, 1), (1207, .invokevirtual 146, 3), (1210, .aload_n 2, 1), (1211, .aload_n 0, 1), (1212, .iload_n 3, 1), (1213, .iconst 1, 1), (1214, .iadd, 1), (1215, .iaload, 1), (1216, .aload_n 0, 1), (1217, .iload_n 3, 1), (1218, .iconst 2, 1), (1219, .iadd, 1), (1220, .iaload, 1), (1221, .aload_n 0, 1), (1222, .iload_n 3, 1), (1223, .iconst 3, 1), (1224, .iadd, 1), (1225, .iaload, 1), (1226, .invokevirtual 150, 3), (1229, .if_icmp .eq 100, 3), (1232, .iconst 0, 1), (1233, .ireturn, 1)]
theorem t_l31 : DT code b_l31 := DT.of (by decide +kernel)
set_option maxRecDepth 20000 in
theorem lc_31 {X : Cx} {ad2 : Nat → Nat} {b L : Nat} {xs : Nat → Int32} (h : LC X ad2 b L xs) (hL : L ≤ 3072) {i : Nat} (hi : 6 * i + 6 ≤ L) (h5 : i < 512) {σ μ : Mm} (hR : Rc i σ μ) (kk : ∀ σ2 μ2 : Mm, Rc (i + 1) σ2 μ2 → LW X ad2 1329 (lvL X ad2 b i) [] σ2 μ2) : LW X ad2 1191 (lvL X ad2 b i) [] σ μ := by
  obtain ⟨v, s2, u2, E1, E2, R2⟩ := q_debt hR h5 (ag xs i 1) (ag xs i 2) (ag xs i 3)
  refine LW_aload h rfl (dt t_l31 0 rfl) ?_
  refine LW_arg h (i := i) 1 hL (by omega) rfl (dt t_l31 1 rfl) (dt t_l31 2 rfl) (dt t_l31 3 rfl) (dt t_l31 4 rfl) (dt t_l31 5 rfl) ?_
  refine LW_arg h (i := i) 2 hL (by omega) rfl (dt t_l31 6 rfl) (dt t_l31 7 rfl) (dt t_l31 8 rfl) (dt t_l31 9 rfl) (dt t_l31 10 rfl) ?_
  refine LW_arg h (i := i) 3 hL (by omega) rfl (dt t_l31 11 rfl) (dt t_l31 12 rfl) (dt t_l31 13 rfl) (dt t_l31 14 rfl) (dt t_l31 15 rfl) ?_
  refine LW_callA h v_X10_debt kL_146 (c_A_debt (ag xs i 1) (r32_of _) (ag xs i 2) (r32_of _) (ag xs i 3) (r32_of _) E1) rfl rfl (Nat.le_of_ble_eq_true rfl) (Nat.le_of_ble_eq_true rfl) rfl (Nat.le_of_ble_eq_true rfl) (dt t_l31 16 rfl) (fun _ => ?_)
  refine LW_aload h rfl (dt t_l31 17 rfl) ?_
  refine LW_arg h (i := i) 1 hL (by omega) rfl (dt t_l31 18 rfl) (dt t_l31 19 rfl) (dt t_l31 20 rfl) (dt t_l31 21 rfl) (dt t_l31 22 rfl) ?_
  refine LW_arg h (i := i) 2 hL (by omega) rfl (dt t_l31 23 rfl) (dt t_l31 24 rfl) (dt t_l31 25 rfl) (dt t_l31 26 rfl) (dt t_l31 27 rfl) ?_
  refine LW_arg h (i := i) 3 hL (by omega) rfl (dt t_l31 28 rfl) (dt t_l31 29 rfl) (dt t_l31 30 rfl) (dt t_l31 31 rfl) (dt t_l31 32 rfl) ?_
  refine LW_callM h v_X11_debt kL_150 (c_M_debt (ag xs i 1) (r32_of _) (ag xs i 2) (r32_of _) (ag xs i 3) (r32_of _) E2) rfl rfl (Nat.le_of_ble_eq_true rfl) (Nat.le_of_ble_eq_true rfl) rfl (Nat.le_of_ble_eq_true rfl) (dt t_l31 33 rfl) (fun _ => ?_)
  refine LW_eq (tgt := 1329) h (dt t_l31 34 rfl) rfl ?_
  exact kk _ _ R2
def b_l32 : List (Nat × Instr × Nat) := [(1234, .aload_n 1, 1), (1235, .aload_n 0, 1), (1236, .iload_n 3, 1), (1237, .iconst 1, 1), (1238, .iadd, 1), (1239, .iaload, 1), (1240, .invokevirtual 151, 3), (1243, .aload_n 2, 1), (1244, .aload_n 0, 1), (1245, .iload_n 3, 1), (1246, .iconst 1, 1), (1247, .iadd, 1), (1248, .iaload, 1), (1249, .invokevirtual 154, 3), (1252, .if_icmp .eq 77, 3), (1255, .iconst 0, 1), (1256, .ireturn, 1)]
theorem t_l32 : DT code b_l32 := DT.of (by decide +kernel)
set_option maxRecDepth 20000 in
theorem lc_32 {X : Cx} {ad2 : Nat → Nat} {b L : Nat} {xs : Nat → Int32} (h : LC X ad2 b L xs) (hL : L ≤ 3072) {i : Nat} (hi : 6 * i + 6 ≤ L) (h5 : i < 512) {σ μ : Mm} (hR : Rc i σ μ) (kk : ∀ σ2 μ2 : Mm, Rc (i + 1) σ2 μ2 → LW X ad2 1329 (lvL X ad2 b i) [] σ2 μ2) : LW X ad2 1234 (lvL X ad2 b i) [] σ μ := by
  obtain ⟨v, s2, u2, E1, E2, R2⟩ := q_worth hR h5 (ag xs i 1)
  refine LW_aload h rfl (dt t_l32 0 rfl) ?_
  refine LW_arg h (i := i) 1 hL (by omega) rfl (dt t_l32 1 rfl) (dt t_l32 2 rfl) (dt t_l32 3 rfl) (dt t_l32 4 rfl) (dt t_l32 5 rfl) ?_
  refine LW_callA h v_X10_worth kL_151 (c_A_worth (ag xs i 1) (r32_of _) E1) rfl rfl (Nat.le_of_ble_eq_true rfl) (Nat.le_of_ble_eq_true rfl) rfl (Nat.le_of_ble_eq_true rfl) (dt t_l32 6 rfl) (fun _ => ?_)
  refine LW_aload h rfl (dt t_l32 7 rfl) ?_
  refine LW_arg h (i := i) 1 hL (by omega) rfl (dt t_l32 8 rfl) (dt t_l32 9 rfl) (dt t_l32 10 rfl) (dt t_l32 11 rfl) (dt t_l32 12 rfl) ?_
  refine LW_callM h v_X11_worth kL_154 (c_M_worth (ag xs i 1) (r32_of _) E2) rfl rfl (Nat.le_of_ble_eq_true rfl) (Nat.le_of_ble_eq_true rfl) rfl (Nat.le_of_ble_eq_true rfl) (dt t_l32 13 rfl) (fun _ => ?_)
  refine LW_eq (tgt := 1329) h (dt t_l32 14 rfl) rfl ?_
  exact kk _ _ R2
def b_l33 : List (Nat × Instr × Nat) := [(1257, .aload_n 1, 1), (1258, .aload_n 0, 1), (1259, .iload_n 3, 1), (1260, .iconst 1, 1), (1261, .iadd, 1), (1262, .iaload, 1), (1263, .invokevirtual 155, 3), (1266, .aload_n 2, 1), (1267, .aload_n 0, 1), (1268, .iload_n 3, 1), (1269, .iconst 1, 1), (1270, .iadd, 1), (1271, .iaload, 1), (1272, .invokevirtual 158, 3), (1275, .if_icmp .eq 54, 3), (1278, .iconst 0, 1), (1279, .ireturn, 1)]
theorem t_l33 : DT code b_l33 := DT.of (by decide +kernel)
set_option maxRecDepth 20000 in
theorem lc_33 {X : Cx} {ad2 : Nat → Nat} {b L : Nat} {xs : Nat → Int32} (h : LC X ad2 b L xs) (hL : L ≤ 3072) {i : Nat} (hi : 6 * i + 6 ≤ L) (h5 : i < 512) {σ μ : Mm} (hR : Rc i σ μ) (kk : ∀ σ2 μ2 : Mm, Rc (i + 1) σ2 μ2 → LW X ad2 1329 (lvL X ad2 b i) [] σ2 μ2) : LW X ad2 1257 (lvL X ad2 b i) [] σ μ := by
  obtain ⟨v, s2, u2, E1, E2, R2⟩ := q_ring hR h5 (ag xs i 1)
  refine LW_aload h rfl (dt t_l33 0 rfl) ?_
  refine LW_arg h (i := i) 1 hL (by omega) rfl (dt t_l33 1 rfl) (dt t_l33 2 rfl) (dt t_l33 3 rfl) (dt t_l33 4 rfl) (dt t_l33 5 rfl) ?_
  refine LW_callA h v_X10_ring kL_155 (c_A_ring (ag xs i 1) (r32_of _) E1) rfl rfl (Nat.le_of_ble_eq_true rfl) (Nat.le_of_ble_eq_true rfl) rfl (Nat.le_of_ble_eq_true rfl) (dt t_l33 6 rfl) (fun _ => ?_)
  refine LW_aload h rfl (dt t_l33 7 rfl) ?_
  refine LW_arg h (i := i) 1 hL (by omega) rfl (dt t_l33 8 rfl) (dt t_l33 9 rfl) (dt t_l33 10 rfl) (dt t_l33 11 rfl) (dt t_l33 12 rfl) ?_
  refine LW_callM h v_X11_ring kL_158 (c_M_ring (ag xs i 1) (r32_of _) E2) rfl rfl (Nat.le_of_ble_eq_true rfl) (Nat.le_of_ble_eq_true rfl) rfl (Nat.le_of_ble_eq_true rfl) (dt t_l33 13 rfl) (fun _ => ?_)
  refine LW_eq (tgt := 1329) h (dt t_l33 14 rfl) rfl ?_
  exact kk _ _ R2
def b_l34 : List (Nat × Instr × Nat) := [(1280, .aload_n 1, 1), (1281, .invokevirtual 159, 3), (1284, .aload_n 2, 1), (1285, .invokevirtual 162, 3), (1288, .if_icmp .eq 41, 3), (1291, .iconst 0, 1), (1292, .ireturn, 1)]
theorem t_l34 : DT code b_l34 := DT.of (by decide +kernel)
set_option maxRecDepth 20000 in
theorem lc_34 {X : Cx} {ad2 : Nat → Nat} {b L : Nat} {xs : Nat → Int32} (h : LC X ad2 b L xs) (hL : L ≤ 3072) {i : Nat} (hi : 6 * i + 6 ≤ L) (h5 : i < 512) {σ μ : Mm} (hR : Rc i σ μ) (kk : ∀ σ2 μ2 : Mm, Rc (i + 1) σ2 μ2 → LW X ad2 1329 (lvL X ad2 b i) [] σ2 μ2) : LW X ad2 1280 (lvL X ad2 b i) [] σ μ := by
  obtain ⟨v, s2, u2, E1, E2, R2⟩ := q_image hR h5 
  refine LW_aload h rfl (dt t_l34 0 rfl) ?_
  refine LW_callA h v_X10_image kL_159 (c_A_image  E1) rfl rfl (Nat.le_of_ble_eq_true rfl) (Nat.le_of_ble_eq_true rfl) rfl (Nat.le_of_ble_eq_true rfl) (dt t_l34 1 rfl) (fun _ => ?_)
  refine LW_aload h rfl (dt t_l34 2 rfl) ?_
  refine LW_callM h v_X11_image kL_162 (c_M_image  E2) rfl rfl (Nat.le_of_ble_eq_true rfl) (Nat.le_of_ble_eq_true rfl) rfl (Nat.le_of_ble_eq_true rfl) (dt t_l34 3 rfl) (fun _ => ?_)
  refine LW_eq (tgt := 1329) h (dt t_l34 4 rfl) rfl ?_
  exact kk _ _ R2
def b_l35 : List (Nat × Instr × Nat) := [(1293, .aload_n 1, 1), (1294, .invokevirtual 163, 3), (1297, .aload_n 2, 1), (1298, .invokevirtual 166, 3), (1301, .if_icmp .eq 28, 3), (1304, .iconst 0, 1), (1305, .ireturn, 1)]
theorem t_l35 : DT code b_l35 := DT.of (by decide +kernel)
set_option maxRecDepth 20000 in
theorem lc_35 {X : Cx} {ad2 : Nat → Nat} {b L : Nat} {xs : Nat → Int32} (h : LC X ad2 b L xs) (hL : L ≤ 3072) {i : Nat} (hi : 6 * i + 6 ≤ L) (h5 : i < 512) {σ μ : Mm} (hR : Rc i σ μ) (kk : ∀ σ2 μ2 : Mm, Rc (i + 1) σ2 μ2 → LW X ad2 1329 (lvL X ad2 b i) [] σ2 μ2) : LW X ad2 1293 (lvL X ad2 b i) [] σ μ := by
  obtain ⟨v, s2, u2, E1, E2, R2⟩ := q_back hR h5 
  refine LW_aload h rfl (dt t_l35 0 rfl) ?_
  refine LW_callA h v_X10_back kL_163 (c_A_back  E1) rfl rfl (Nat.le_of_ble_eq_true rfl) (Nat.le_of_ble_eq_true rfl) rfl (Nat.le_of_ble_eq_true rfl) (dt t_l35 1 rfl) (fun _ => ?_)
  refine LW_aload h rfl (dt t_l35 2 rfl) ?_
  refine LW_callM h v_X11_back kL_166 (c_M_back  E2) rfl rfl (Nat.le_of_ble_eq_true rfl) (Nat.le_of_ble_eq_true rfl) rfl (Nat.le_of_ble_eq_true rfl) (dt t_l35 3 rfl) (fun _ => ?_)
  refine LW_eq (tgt := 1329) h (dt t_l35 4 rfl) rfl ?_
  exact kk _ _ R2
def b_l36 : List (Nat × Instr × Nat) := [(1306, .aload_n 1, 1), (1307, .aload_n 0, 1), (1308, .iload_n 3, 1), (1309, .iconst 1, 1), (1310, .iadd, 1), (1311, .iaload, 1), (1312, .invokevirtual 167, 3), (1315, .aload_n 2, 1), (1316, .aload_n 0, 1), (1317, .iload_n 3, 1), (1318, .iconst 1, 1), (1319, .iadd, 1), (1320, .iaload, 1), (1321, .invokevirtual 170, 3), (1324, .if_icmp .eq 5, 3), (1327, .iconst 0, 1), (1328, .ireturn, 1)]
theorem t_l36 : DT code b_l36 := DT.of (by decide +kernel)
set_option maxRecDepth 20000 in
theorem lc_36 {X : Cx} {ad2 : Nat → Nat} {b L : Nat} {xs : Nat → Int32} (h : LC X ad2 b L xs) (hL : L ≤ 3072) {i : Nat} (hi : 6 * i + 6 ≤ L) (h5 : i < 512) {σ μ : Mm} (hR : Rc i σ μ) (kk : ∀ σ2 μ2 : Mm, Rc (i + 1) σ2 μ2 → LW X ad2 1329 (lvL X ad2 b i) [] σ2 μ2) : LW X ad2 1306 (lvL X ad2 b i) [] σ μ := by
  obtain ⟨⟨v, E1, E2⟩, R2⟩ := q_about hR (ag xs i 1)
  refine LW_aload h rfl (dt t_l36 0 rfl) ?_
  refine LW_arg h (i := i) 1 hL (by omega) rfl (dt t_l36 1 rfl) (dt t_l36 2 rfl) (dt t_l36 3 rfl) (dt t_l36 4 rfl) (dt t_l36 5 rfl) ?_
  refine LW_callA h v_X10_about kL_167 (c_A_about (ag xs i 1) (r32_of _) E1) rfl rfl (Nat.le_of_ble_eq_true rfl) (Nat.le_of_ble_eq_true rfl) rfl (Nat.le_of_ble_eq_true rfl) (dt t_l36 6 rfl) (fun _ => ?_)
  refine LW_aload h rfl (dt t_l36 7 rfl) ?_
  refine LW_arg h (i := i) 1 hL (by omega) rfl (dt t_l36 8 rfl) (dt t_l36 9 rfl) (dt t_l36 10 rfl) (dt t_l36 11 rfl) (dt t_l36 12 rfl) ?_
  refine LW_callM h v_X11_about kL_170 (c_M_about (ag xs i 1) (r32_of _) E2) rfl rfl (Nat.le_of_ble_eq_true rfl) (Nat.le_of_ble_eq_true rfl) rfl (Nat.le_of_ble_eq_true rfl) (dt t_l36 13 rfl) (fun _ => ?_)
  refine LW_eq (tgt := 1329) h (dt t_l36 14 rfl) rfl ?_
  exact kk _ _ R2
