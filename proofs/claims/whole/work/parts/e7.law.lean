def b_l0 : List (Nat × Instr × Nat) := [(196, .aload_n 1, 1), (197, .aload_n 0, 1), (198, .iload_n 3, 1), (199, .iconst 1, 1), (200, .iadd, 1), (201, .iaload, 1), (202, .aload_n 0, 1), (203, .iload_n 3, 1), (204, .iconst 2, 1), (205, .iadd, 1), (206, .iaload, 1), (207, .aload_n 0, 1), (208, .iload_n 3, 1), (209, .iconst 3, 1), (210, .iadd, 1), (211, .iaload, 1), (212, .aload_n 0, 1), (213, .iload_n 3, 1), (214, .iconst 4, 1), (215, .iadd, 1), (216, .iaload, 1), (217, .aload_n 0, 1), (218, .iload_n 3, 1), (219, .iconst 5, 1), (220, .iadd, 1), (221, .iaload, 1), (222, .invokevirtual 13, 3), (225, .aload_n 2, 1), (226, .aload_n 0, 1), (227, .iload_n 3, 1), (228, .iconst 1, 1), (229, .iadd, 1), (230, .iaload, 1), (231, .aload_n 0, 1), (232, .iload_n 3, 1), (233, .iconst 2, 1), (234, .iadd, 1), (235, .iaload, 1), (236, .aload_n 0, 1), (237, .iload_n 3, 1), (238, .iconst 3, 1), (239, .iadd, 1), (240, .iaload, 1), (241, .aload_n 0, 1), (242, .iload_n 3, 1), (243, .iconst 4, 1), (244, .iadd, 1), (245, .iaload, 1), (246, .aload_n 0, 1), (247, .iload_n 3, 1), (248, .iconst 5, 1), (249, .iadd, 1), (250, .iaload, 1), (251, .invokevirtual 17, 3), (254, .if_icmp .eq 1075, 3), (257, .iconst 0, 1), (258, .ireturn, 1)]
theorem t_l0 : DT code b_l0 := DT.of (by decide +kernel)
set_option maxRecDepth 20000 in
theorem lc_0 {X : Cx} {ad2 : Nat → Nat} {b L : Nat} {xs : Nat → Int32} (h : LC X ad2 b L xs) (hL : L ≤ 3072) {i : Nat} (hi : 6 * i + 6 ≤ L) (h5 : i < 512) {σ μ : Mm} (hR : Rc i σ μ) (kk : ∀ σ2 μ2 : Mm, Rc (i + 1) σ2 μ2 → LW X ad2 1329 (lvL X ad2 b i) [] σ2 μ2) : LW X ad2 196 (lvL X ad2 b i) [] σ μ := by
  obtain ⟨v, s2, u2, E1, E2, R2⟩ := q_row hR h5 (ag xs i 1) (ag xs i 2) (ag xs i 3) (ag xs i 4) (ag xs i 5)
  refine LW_aload h rfl (dt t_l0 0 rfl) ?_
  refine LW_arg h (i := i) 1 hL (by omega) rfl (dt t_l0 1 rfl) (dt t_l0 2 rfl) (dt t_l0 3 rfl) (dt t_l0 4 rfl) (dt t_l0 5 rfl) ?_
  refine LW_arg h (i := i) 2 hL (by omega) rfl (dt t_l0 6 rfl) (dt t_l0 7 rfl) (dt t_l0 8 rfl) (dt t_l0 9 rfl) (dt t_l0 10 rfl) ?_
  refine LW_arg h (i := i) 3 hL (by omega) rfl (dt t_l0 11 rfl) (dt t_l0 12 rfl) (dt t_l0 13 rfl) (dt t_l0 14 rfl) (dt t_l0 15 rfl) ?_
  refine LW_arg h (i := i) 4 hL (by omega) rfl (dt t_l0 16 rfl) (dt t_l0 17 rfl) (dt t_l0 18 rfl) (dt t_l0 19 rfl) (dt t_l0 20 rfl) ?_
  refine LW_arg h (i := i) 5 hL (by omega) rfl (dt t_l0 21 rfl) (dt t_l0 22 rfl) (dt t_l0 23 rfl) (dt t_l0 24 rfl) (dt t_l0 25 rfl) ?_
  refine LW_callA h v_X10_row kL_13 (c_A_row (ag xs i 1) (r32_of _) (ag xs i 2) (r32_of _) (ag xs i 3) (r32_of _) (ag xs i 4) (r32_of _) (ag xs i 5) (r32_of _) E1) rfl rfl (Nat.le_of_ble_eq_true rfl) (Nat.le_of_ble_eq_true rfl) rfl (Nat.le_of_ble_eq_true rfl) (dt t_l0 26 rfl) (fun _ => ?_)
  refine LW_aload h rfl (dt t_l0 27 rfl) ?_
  refine LW_arg h (i := i) 1 hL (by omega) rfl (dt t_l0 28 rfl) (dt t_l0 29 rfl) (dt t_l0 30 rfl) (dt t_l0 31 rfl) (dt t_l0 32 rfl) ?_
  refine LW_arg h (i := i) 2 hL (by omega) rfl (dt t_l0 33 rfl) (dt t_l0 34 rfl) (dt t_l0 35 rfl) (dt t_l0 36 rfl) (dt t_l0 37 rfl) ?_
  refine LW_arg h (i := i) 3 hL (by omega) rfl (dt t_l0 38 rfl) (dt t_l0 39 rfl) (dt t_l0 40 rfl) (dt t_l0 41 rfl) (dt t_l0 42 rfl) ?_
  refine LW_arg h (i := i) 4 hL (by omega) rfl (dt t_l0 43 rfl) (dt t_l0 44 rfl) (dt t_l0 45 rfl) (dt t_l0 46 rfl) (dt t_l0 47 rfl) ?_
  refine LW_arg h (i := i) 5 hL (by omega) rfl (dt t_l0 48 rfl) (dt t_l0 49 rfl) (dt t_l0 50 rfl) (dt t_l0 51 rfl) (dt t_l0 52 rfl) ?_
  refine LW_callM h v_X11_row kL_17 (c_M_row (ag xs i 1) (r32_of _) (ag xs i 2) (r32_of _) (ag xs i 3) (r32_of _) (ag xs i 4) (r32_of _) (ag xs i 5) (r32_of _) E2) rfl rfl (Nat.le_of_ble_eq_true rfl) (Nat.le_of_ble_eq_true rfl) rfl (Nat.le_of_ble_eq_true rfl) (dt t_l0 53 rfl) (fun _ => ?_)
  refine LW_eq (tgt := 1329) h (dt t_l0 54 rfl) rfl ?_
  exact kk _ _ R2
def b_l1 : List (Nat × Instr × Nat) := [(259, .aload_n 1, 1), (260, .aload_n 0, 1), (261, .iload_n 3, 1), (262, .iconst 1, 1), (263, .iadd, 1), (264, .iaload, 1), (265, .invokevirtual 18, 3), (268, .aload_n 2, 1), (269, .aload_n 0, 1), (270, .iload_n 3, 1), (271, .iconst 1, 1), (272, .iadd, 1), (273, .iaload, 1), (274, .invokevirtual 22, 3), (277, .if_icmp .eq 1052, 3), (280, .iconst 0, 1), (281, .ireturn, 1)]
theorem t_l1 : DT code b_l1 := DT.of (by decide +kernel)
set_option maxRecDepth 20000 in
theorem lc_1 {X : Cx} {ad2 : Nat → Nat} {b L : Nat} {xs : Nat → Int32} (h : LC X ad2 b L xs) (hL : L ≤ 3072) {i : Nat} (hi : 6 * i + 6 ≤ L) (h5 : i < 512) {σ μ : Mm} (hR : Rc i σ μ) (kk : ∀ σ2 μ2 : Mm, Rc (i + 1) σ2 μ2 → LW X ad2 1329 (lvL X ad2 b i) [] σ2 μ2) : LW X ad2 259 (lvL X ad2 b i) [] σ μ := by
  obtain ⟨v, s2, u2, E1, E2, R2⟩ := q_reckon hR h5 (ag xs i 1)
  refine LW_aload h rfl (dt t_l1 0 rfl) ?_
  refine LW_arg h (i := i) 1 hL (by omega) rfl (dt t_l1 1 rfl) (dt t_l1 2 rfl) (dt t_l1 3 rfl) (dt t_l1 4 rfl) (dt t_l1 5 rfl) ?_
  refine LW_callA h v_X10_reckon kL_18 (c_A_reckon (ag xs i 1) (r32_of _) E1) rfl rfl (Nat.le_of_ble_eq_true rfl) (Nat.le_of_ble_eq_true rfl) rfl (Nat.le_of_ble_eq_true rfl) (dt t_l1 6 rfl) (fun _ => ?_)
  refine LW_aload h rfl (dt t_l1 7 rfl) ?_
  refine LW_arg h (i := i) 1 hL (by omega) rfl (dt t_l1 8 rfl) (dt t_l1 9 rfl) (dt t_l1 10 rfl) (dt t_l1 11 rfl) (dt t_l1 12 rfl) ?_
  refine LW_callM h v_X11_reckon kL_22 (c_M_reckon (ag xs i 1) (r32_of _) E2) rfl rfl (Nat.le_of_ble_eq_true rfl) (Nat.le_of_ble_eq_true rfl) rfl (Nat.le_of_ble_eq_true rfl) (dt t_l1 13 rfl) (fun _ => ?_)
  refine LW_eq (tgt := 1329) h (dt t_l1 14 rfl) rfl ?_
  exact kk _ _ R2
def b_l2 : List (Nat × Instr × Nat) := [(282, .aload_n 1, 1), (283, .aload_n 0, 1), (284, .iload_n 3, 1), (285, .iconst 1, 1), (286, .iadd, 1), (287, .iaload, 1), (288, .invokevirtual 23, 3), (291, .aload_n 2, 1), (292, .aload_n 0, 1), (293, .iload_n 3, 1), (294, .iconst 1, 1), (295, .iadd, 1), (296, .iaload, 1), (297, .invokevirtual 26, 3), (300, .if_icmp .eq 1029, 3), (303, .iconst 0, 1), (304, .ireturn, 1)]
theorem t_l2 : DT code b_l2 := DT.of (by decide +kernel)
set_option maxRecDepth 20000 in
theorem lc_2 {X : Cx} {ad2 : Nat → Nat} {b L : Nat} {xs : Nat → Int32} (h : LC X ad2 b L xs) (hL : L ≤ 3072) {i : Nat} (hi : 6 * i + 6 ≤ L) (h5 : i < 512) {σ μ : Mm} (hR : Rc i σ μ) (kk : ∀ σ2 μ2 : Mm, Rc (i + 1) σ2 μ2 → LW X ad2 1329 (lvL X ad2 b i) [] σ2 μ2) : LW X ad2 282 (lvL X ad2 b i) [] σ μ := by
  obtain ⟨v, s2, u2, E1, E2, R2⟩ := q_day hR h5 (ag xs i 1) (r32_of _)
  refine LW_aload h rfl (dt t_l2 0 rfl) ?_
  refine LW_arg h (i := i) 1 hL (by omega) rfl (dt t_l2 1 rfl) (dt t_l2 2 rfl) (dt t_l2 3 rfl) (dt t_l2 4 rfl) (dt t_l2 5 rfl) ?_
  refine LW_callA h v_X10_day kL_23 (c_A_day (ag xs i 1) (r32_of _) E1) rfl rfl (Nat.le_of_ble_eq_true rfl) (Nat.le_of_ble_eq_true rfl) rfl (Nat.le_of_ble_eq_true rfl) (dt t_l2 6 rfl) (fun _ => ?_)
  refine LW_aload h rfl (dt t_l2 7 rfl) ?_
  refine LW_arg h (i := i) 1 hL (by omega) rfl (dt t_l2 8 rfl) (dt t_l2 9 rfl) (dt t_l2 10 rfl) (dt t_l2 11 rfl) (dt t_l2 12 rfl) ?_
  refine LW_callM h v_X11_day kL_26 (c_M_day (ag xs i 1) (r32_of _) E2) rfl rfl (Nat.le_of_ble_eq_true rfl) (Nat.le_of_ble_eq_true rfl) rfl (Nat.le_of_ble_eq_true rfl) (dt t_l2 13 rfl) (fun _ => ?_)
  refine LW_eq (tgt := 1329) h (dt t_l2 14 rfl) rfl ?_
  exact kk _ _ R2
def b_l3 : List (Nat × Instr × Nat) := [(305, .aload_n 1, 1), (306, .aload_n 0, 1), (307, .iload_n 3, 1), (308, .iconst 1, 1), (309, .iadd, 1), (310, .iaload, 1), (311, .aload_n 0, 1), (312, .iload_n 3, 1), (313, .iconst 2, 1), (314, .iadd, 1), (315, .iaload, 1), (316, .invokevirtual 27, 3), (319, .aload_n 2, 1), (320, .aload_n 0, 1), (321, .iload_n 3, 1), (322, .iconst 1, 1), (323, .iadd, 1), (324, .iaload, 1), (325, .aload_n 0, 1), (326, .iload_n 3, 1), (327, .iconst 2, 1), (328, .iadd, 1), (329, .iaload, 1), (330, .invokevirtual 31, 3), (333, .if_icmp .eq 996, 3), (336, .iconst 0, 1), (337, .ireturn, 1)]
theorem t_l3 : DT code b_l3 := DT.of (by decide +kernel)
set_option maxRecDepth 20000 in
theorem lc_3 {X : Cx} {ad2 : Nat → Nat} {b L : Nat} {xs : Nat → Int32} (h : LC X ad2 b L xs) (hL : L ≤ 3072) {i : Nat} (hi : 6 * i + 6 ≤ L) (h5 : i < 512) {σ μ : Mm} (hR : Rc i σ μ) (kk : ∀ σ2 μ2 : Mm, Rc (i + 1) σ2 μ2 → LW X ad2 1329 (lvL X ad2 b i) [] σ2 μ2) : LW X ad2 305 (lvL X ad2 b i) [] σ μ := by
  obtain ⟨v, s2, u2, E1, E2, R2⟩ := q_turn hR h5 (ag xs i 1) (ag xs i 2)
  refine LW_aload h rfl (dt t_l3 0 rfl) ?_
  refine LW_arg h (i := i) 1 hL (by omega) rfl (dt t_l3 1 rfl) (dt t_l3 2 rfl) (dt t_l3 3 rfl) (dt t_l3 4 rfl) (dt t_l3 5 rfl) ?_
  refine LW_arg h (i := i) 2 hL (by omega) rfl (dt t_l3 6 rfl) (dt t_l3 7 rfl) (dt t_l3 8 rfl) (dt t_l3 9 rfl) (dt t_l3 10 rfl) ?_
  refine LW_callA h v_X10_turn kL_27 (c_A_turn (ag xs i 1) (r32_of _) (ag xs i 2) (r32_of _) E1) rfl rfl (Nat.le_of_ble_eq_true rfl) (Nat.le_of_ble_eq_true rfl) rfl (Nat.le_of_ble_eq_true rfl) (dt t_l3 11 rfl) (fun _ => ?_)
  refine LW_aload h rfl (dt t_l3 12 rfl) ?_
  refine LW_arg h (i := i) 1 hL (by omega) rfl (dt t_l3 13 rfl) (dt t_l3 14 rfl) (dt t_l3 15 rfl) (dt t_l3 16 rfl) (dt t_l3 17 rfl) ?_
  refine LW_arg h (i := i) 2 hL (by omega) rfl (dt t_l3 18 rfl) (dt t_l3 19 rfl) (dt t_l3 20 rfl) (dt t_l3 21 rfl) (dt t_l3 22 rfl) ?_
  refine LW_callM h v_X11_turn kL_31 (c_M_turn (ag xs i 1) (r32_of _) (ag xs i 2) (r32_of _) E2) rfl rfl (Nat.le_of_ble_eq_true rfl) (Nat.le_of_ble_eq_true rfl) rfl (Nat.le_of_ble_eq_true rfl) (dt t_l3 23 rfl) (fun _ => ?_)
  refine LW_eq (tgt := 1329) h (dt t_l3 24 rfl) rfl ?_
  exact kk _ _ R2
def b_l4 : List (Nat × Instr × Nat) := [(338, .aload_n 1, 1), (339, .aload_n 0, 1), (340, .iload_n 3, 1), (341, .iconst 1, 1), (342, .iadd, 1), (343, .iaload, 1), (344, .aload_n 0, 1), (345, .iload_n 3, 1), (346, .iconst 2, 1), (347, .iadd, 1), (348, .iaload, 1), (349, .invokevirtual 32, 3), (352, .aload_n 2, 1), (353, .aload_n 0, 1), (354, .iload_n 3, 1), (355, .iconst 1, 1), (356, .iadd, 1), (357, .iaload, 1), (358, .aload_n 0, 1), (359, .iload_n 3, 1), (360, .iconst 2, 1), (361, .iadd, 1), (362, .iaload, 1), (363, .invokevirtual 35, 3), (366, .if_icmp .eq 963, 3), (369, .iconst 0, 1), (370, .ireturn, 1)]
theorem t_l4 : DT code b_l4 := DT.of (by decide +kernel)
set_option maxRecDepth 20000 in
theorem lc_4 {X : Cx} {ad2 : Nat → Nat} {b L : Nat} {xs : Nat → Int32} (h : LC X ad2 b L xs) (hL : L ≤ 3072) {i : Nat} (hi : 6 * i + 6 ≤ L) (h5 : i < 512) {σ μ : Mm} (hR : Rc i σ μ) (kk : ∀ σ2 μ2 : Mm, Rc (i + 1) σ2 μ2 → LW X ad2 1329 (lvL X ad2 b i) [] σ2 μ2) : LW X ad2 338 (lvL X ad2 b i) [] σ μ := by
  obtain ⟨v, s2, u2, E1, E2, R2⟩ := q_soothe hR h5 (ag xs i 1) (ag xs i 2)
  refine LW_aload h rfl (dt t_l4 0 rfl) ?_
  refine LW_arg h (i := i) 1 hL (by omega) rfl (dt t_l4 1 rfl) (dt t_l4 2 rfl) (dt t_l4 3 rfl) (dt t_l4 4 rfl) (dt t_l4 5 rfl) ?_
  refine LW_arg h (i := i) 2 hL (by omega) rfl (dt t_l4 6 rfl) (dt t_l4 7 rfl) (dt t_l4 8 rfl) (dt t_l4 9 rfl) (dt t_l4 10 rfl) ?_
  refine LW_callA h v_X10_soothe kL_32 (c_A_soothe (ag xs i 1) (r32_of _) (ag xs i 2) (r32_of _) E1) rfl rfl (Nat.le_of_ble_eq_true rfl) (Nat.le_of_ble_eq_true rfl) rfl (Nat.le_of_ble_eq_true rfl) (dt t_l4 11 rfl) (fun _ => ?_)
  refine LW_aload h rfl (dt t_l4 12 rfl) ?_
  refine LW_arg h (i := i) 1 hL (by omega) rfl (dt t_l4 13 rfl) (dt t_l4 14 rfl) (dt t_l4 15 rfl) (dt t_l4 16 rfl) (dt t_l4 17 rfl) ?_
  refine LW_arg h (i := i) 2 hL (by omega) rfl (dt t_l4 18 rfl) (dt t_l4 19 rfl) (dt t_l4 20 rfl) (dt t_l4 21 rfl) (dt t_l4 22 rfl) ?_
  refine LW_callM h v_X11_soothe kL_35 (c_M_soothe (ag xs i 1) (r32_of _) (ag xs i 2) (r32_of _) E2) rfl rfl (Nat.le_of_ble_eq_true rfl) (Nat.le_of_ble_eq_true rfl) rfl (Nat.le_of_ble_eq_true rfl) (dt t_l4 23 rfl) (fun _ => ?_)
  refine LW_eq (tgt := 1329) h (dt t_l4 24 rfl) rfl ?_
  exact kk _ _ R2
def b_l5 : List (Nat × Instr × Nat) := [(371, .aload_n 1, 1), (372, .aload_n 0, 1), (373, .iload_n 3, 1), (374, .iconst 1, 1), (375, .iadd, 1), (376, .iaload, 1), (377, .aload_n 0, 1), (378, .iload_n 3, 1), (379, .iconst 2, 1), (380, .iadd, 1), (381, .iaload, 1), (382, .invokevirtual 36, 3), (385, .aload_n 2, 1), (386, .aload_n 0, 1), (387, .iload_n 3, 1), (388, .iconst 1, 1), (389, .iadd, 1), (390, .iaload, 1), (391, .aload_n 0, 1), (392, .iload_n 3, 1), (393, .iconst 2, 1), (394, .iadd, 1), (395, .iaload, 1), (396, .invokevirtual 40, 3), (399, .if_icmp .eq 930, 3), (402, .iconst 0, 1), (403, .ireturn, 1)]
theorem t_l5 : DT code b_l5 := DT.of (by decide +kernel)
set_option maxRecDepth 20000 in
theorem lc_5 {X : Cx} {ad2 : Nat → Nat} {b L : Nat} {xs : Nat → Int32} (h : LC X ad2 b L xs) (hL : L ≤ 3072) {i : Nat} (hi : 6 * i + 6 ≤ L) (h5 : i < 512) {σ μ : Mm} (hR : Rc i σ μ) (kk : ∀ σ2 μ2 : Mm, Rc (i + 1) σ2 μ2 → LW X ad2 1329 (lvL X ad2 b i) [] σ2 μ2) : LW X ad2 371 (lvL X ad2 b i) [] σ μ := by
  obtain ⟨v, s2, u2, E1, E2, R2⟩ := q_year hR h5 (ag xs i 1) (ag xs i 2)
  refine LW_aload h rfl (dt t_l5 0 rfl) ?_
  refine LW_arg h (i := i) 1 hL (by omega) rfl (dt t_l5 1 rfl) (dt t_l5 2 rfl) (dt t_l5 3 rfl) (dt t_l5 4 rfl) (dt t_l5 5 rfl) ?_
  refine LW_arg h (i := i) 2 hL (by omega) rfl (dt t_l5 6 rfl) (dt t_l5 7 rfl) (dt t_l5 8 rfl) (dt t_l5 9 rfl) (dt t_l5 10 rfl) ?_
  refine LW_callA h v_X10_year kL_36 (c_A_year (ag xs i 1) (r32_of _) (ag xs i 2) (r32_of _) E1) rfl rfl (Nat.le_of_ble_eq_true rfl) (Nat.le_of_ble_eq_true rfl) rfl (Nat.le_of_ble_eq_true rfl) (dt t_l5 11 rfl) (fun _ => ?_)
  refine LW_aload h rfl (dt t_l5 12 rfl) ?_
  refine LW_arg h (i := i) 1 hL (by omega) rfl (dt t_l5 13 rfl) (dt t_l5 14 rfl) (dt t_l5 15 rfl) (dt t_l5 16 rfl) (dt t_l5 17 rfl) ?_
  refine LW_arg h (i := i) 2 hL (by omega) rfl (dt t_l5 18 rfl) (dt t_l5 19 rfl) (dt t_l5 20 rfl) (dt t_l5 21 rfl) (dt t_l5 22 rfl) ?_
  refine LW_callM h v_X11_year kL_40 (c_M_year (ag xs i 1) (r32_of _) (ag xs i 2) (r32_of _) E2) rfl rfl (Nat.le_of_ble_eq_true rfl) (Nat.le_of_ble_eq_true rfl) rfl (Nat.le_of_ble_eq_true rfl) (dt t_l5 23 rfl) (fun _ => ?_)
  refine LW_eq (tgt := 1329) h (dt t_l5 24 rfl) rfl ?_
  exact kk _ _ R2
def b_l6 : List (Nat × Instr × Nat) := [(404, .aload_n 1, 1), (405, .aload_n 0, 1), (406, .iload_n 3, 1), (407, .iconst 1, 1), (408, .iadd, 1), (409, .iaload, 1), (410, .aload_n 0, 1), (411, .iload_n 3, 1), (412, .iconst 2, 1), (413, .iadd, 1), (414, .iaload, 1), (415, .aload_n 0, 1), (416, .iload_n 3, 1), (417, .iconst 3, 1), (418, .iadd, 1), (419, .iaload, 1), (420, .aload_n 0, 1), (421, .iload_n 3, 1), (422, .iconst 4, 1), (423, .iadd, 1), (424, .iaload, 1), (425, .aload_n 0, 1), (426, .iload_n 3, 1), (427, .iconst 5, 1), (428, .iadd, 1), (429, .iaload, 1), (430, .invokevirtual 41, 3), (433, .aload_n 2, 1), (434, .aload_n 0, 1), (435, .iload_n 3, 1), (436, .iconst 1, 1), (437, .iadd, 1), (438, .iaload, 1), (439, .aload_n 0, 1), (440, .iload_n 3, 1), (441, .iconst 2, 1), (442, .iadd, 1), (443, .iaload, 1), (444, .aload_n 0, 1), (445, .iload_n 3, 1), (446, .iconst 3, 1), (447, .iadd, 1), (448, .iaload, 1), (449, .aload_n 0, 1), (450, .iload_n 3, 1), (451, .iconst 4, 1), (452, .iadd, 1), (453, .iaload, 1), (454, .aload_n 0, 1), (455, .iload_n 3, 1), (456, .iconst 5, 1), (457, .iadd, 1), (458, .iaload, 1), (459, .invokevirtual 44, 3), (462, .if_icmp .eq 867, 3), (465, .iconst 0, 1), (466, .ireturn, 1)]
theorem t_l6 : DT code b_l6 := DT.of (by decide +kernel)
set_option maxRecDepth 20000 in
theorem lc_6 {X : Cx} {ad2 : Nat → Nat} {b L : Nat} {xs : Nat → Int32} (h : LC X ad2 b L xs) (hL : L ≤ 3072) {i : Nat} (hi : 6 * i + 6 ≤ L) (h5 : i < 512) {σ μ : Mm} (hR : Rc i σ μ) (kk : ∀ σ2 μ2 : Mm, Rc (i + 1) σ2 μ2 → LW X ad2 1329 (lvL X ad2 b i) [] σ2 μ2) : LW X ad2 404 (lvL X ad2 b i) [] σ μ := by
  obtain ⟨v, s2, u2, E1, E2, R2⟩ := q_feed hR h5 (ag xs i 1) (ag xs i 2) (ag xs i 3) (ag xs i 4) (ag xs i 5)
  refine LW_aload h rfl (dt t_l6 0 rfl) ?_
  refine LW_arg h (i := i) 1 hL (by omega) rfl (dt t_l6 1 rfl) (dt t_l6 2 rfl) (dt t_l6 3 rfl) (dt t_l6 4 rfl) (dt t_l6 5 rfl) ?_
  refine LW_arg h (i := i) 2 hL (by omega) rfl (dt t_l6 6 rfl) (dt t_l6 7 rfl) (dt t_l6 8 rfl) (dt t_l6 9 rfl) (dt t_l6 10 rfl) ?_
  refine LW_arg h (i := i) 3 hL (by omega) rfl (dt t_l6 11 rfl) (dt t_l6 12 rfl) (dt t_l6 13 rfl) (dt t_l6 14 rfl) (dt t_l6 15 rfl) ?_
  refine LW_arg h (i := i) 4 hL (by omega) rfl (dt t_l6 16 rfl) (dt t_l6 17 rfl) (dt t_l6 18 rfl) (dt t_l6 19 rfl) (dt t_l6 20 rfl) ?_
  refine LW_arg h (i := i) 5 hL (by omega) rfl (dt t_l6 21 rfl) (dt t_l6 22 rfl) (dt t_l6 23 rfl) (dt t_l6 24 rfl) (dt t_l6 25 rfl) ?_
  refine LW_callA h v_X10_feed kL_41 (c_A_feed (ag xs i 1) (r32_of _) (ag xs i 2) (r32_of _) (ag xs i 3) (r32_of _) (ag xs i 4) (r32_of _) (ag xs i 5) (r32_of _) E1) rfl rfl (Nat.le_of_ble_eq_true rfl) (Nat.le_of_ble_eq_true rfl) rfl (Nat.le_of_ble_eq_true rfl) (dt t_l6 26 rfl) (fun _ => ?_)
  refine LW_aload h rfl (dt t_l6 27 rfl) ?_
  refine LW_arg h (i := i) 1 hL (by omega) rfl (dt t_l6 28 rfl) (dt t_l6 29 rfl) (dt t_l6 30 rfl) (dt t_l6 31 rfl) (dt t_l6 32 rfl) ?_
  refine LW_arg h (i := i) 2 hL (by omega) rfl (dt t_l6 33 rfl) (dt t_l6 34 rfl) (dt t_l6 35 rfl) (dt t_l6 36 rfl) (dt t_l6 37 rfl) ?_
  refine LW_arg h (i := i) 3 hL (by omega) rfl (dt t_l6 38 rfl) (dt t_l6 39 rfl) (dt t_l6 40 rfl) (dt t_l6 41 rfl) (dt t_l6 42 rfl) ?_
  refine LW_arg h (i := i) 4 hL (by omega) rfl (dt t_l6 43 rfl) (dt t_l6 44 rfl) (dt t_l6 45 rfl) (dt t_l6 46 rfl) (dt t_l6 47 rfl) ?_
  refine LW_arg h (i := i) 5 hL (by omega) rfl (dt t_l6 48 rfl) (dt t_l6 49 rfl) (dt t_l6 50 rfl) (dt t_l6 51 rfl) (dt t_l6 52 rfl) ?_
  refine LW_callM h v_X11_feed kL_44 (c_M_feed (ag xs i 1) (r32_of _) (ag xs i 2) (r32_of _) (ag xs i 3) (r32_of _) (ag xs i 4) (r32_of _) (ag xs i 5) (r32_of _) E2) rfl rfl (Nat.le_of_ble_eq_true rfl) (Nat.le_of_ble_eq_true rfl) rfl (Nat.le_of_ble_eq_true rfl) (dt t_l6 53 rfl) (fun _ => ?_)
  refine LW_eq (tgt := 1329) h (dt t_l6 54 rfl) rfl ?_
  exact kk _ _ R2
def b_l7 : List (Nat × Instr × Nat) := [(467, .aload_n 1, 1), (468, .aload_n 0, 1), (469, .iload_n 3, 1), (470, .iconst 1, 1), (471, .iadd, 1), (472, .iaload, 1), (473, .invokevirtual 45, 3), (476, .aload_n 2, 1), (477, .aload_n 0, 1), (478, .iload_n 3, 1), (479, .iconst 1, 1), (480, .iadd, 1), (481, .iaload, 1), (482, .invokevirtual 48, 3), (485, .if_icmp .eq 844, 3), (488, .iconst 0, 1), (489, .ireturn, 1)]
theorem t_l7 : DT code b_l7 := DT.of (by decide +kernel)
set_option maxRecDepth 20000 in
theorem lc_7 {X : Cx} {ad2 : Nat → Nat} {b L : Nat} {xs : Nat → Int32} (h : LC X ad2 b L xs) (hL : L ≤ 3072) {i : Nat} (hi : 6 * i + 6 ≤ L) (h5 : i < 512) {σ μ : Mm} (hR : Rc i σ μ) (kk : ∀ σ2 μ2 : Mm, Rc (i + 1) σ2 μ2 → LW X ad2 1329 (lvL X ad2 b i) [] σ2 μ2) : LW X ad2 467 (lvL X ad2 b i) [] σ μ := by
  obtain ⟨v, s2, u2, E1, E2, R2⟩ := q_end hR h5 (ag xs i 1)
  refine LW_aload h rfl (dt t_l7 0 rfl) ?_
  refine LW_arg h (i := i) 1 hL (by omega) rfl (dt t_l7 1 rfl) (dt t_l7 2 rfl) (dt t_l7 3 rfl) (dt t_l7 4 rfl) (dt t_l7 5 rfl) ?_
  refine LW_callA h v_X10_end kL_45 (c_A_end (ag xs i 1) (r32_of _) E1) rfl rfl (Nat.le_of_ble_eq_true rfl) (Nat.le_of_ble_eq_true rfl) rfl (Nat.le_of_ble_eq_true rfl) (dt t_l7 6 rfl) (fun _ => ?_)
  refine LW_aload h rfl (dt t_l7 7 rfl) ?_
  refine LW_arg h (i := i) 1 hL (by omega) rfl (dt t_l7 8 rfl) (dt t_l7 9 rfl) (dt t_l7 10 rfl) (dt t_l7 11 rfl) (dt t_l7 12 rfl) ?_
  refine LW_callM h v_X11_end kL_48 (c_M_end (ag xs i 1) (r32_of _) E2) rfl rfl (Nat.le_of_ble_eq_true rfl) (Nat.le_of_ble_eq_true rfl) rfl (Nat.le_of_ble_eq_true rfl) (dt t_l7 13 rfl) (fun _ => ?_)
  refine LW_eq (tgt := 1329) h (dt t_l7 14 rfl) rfl ?_
  exact kk _ _ R2
def b_l8 : List (Nat × Instr × Nat) := [(490, .aload_n 1, 1), (491, .invokevirtual 49, 3), (494, .aload_n 2, 1), (495, .invokevirtual 53, 3), (498, .if_icmp .eq 831, 3), (501, .iconst 0, 1), (502, .ireturn, 1)]
theorem t_l8 : DT code b_l8 := DT.of (by decide +kernel)
set_option maxRecDepth 20000 in
theorem lc_8 {X : Cx} {ad2 : Nat → Nat} {b L : Nat} {xs : Nat → Int32} (h : LC X ad2 b L xs) (hL : L ≤ 3072) {i : Nat} (hi : 6 * i + 6 ≤ L) (h5 : i < 512) {σ μ : Mm} (hR : Rc i σ μ) (kk : ∀ σ2 μ2 : Mm, Rc (i + 1) σ2 μ2 → LW X ad2 1329 (lvL X ad2 b i) [] σ2 μ2) : LW X ad2 490 (lvL X ad2 b i) [] σ μ := by
  obtain ⟨v, s2, u2, E1, E2, R2⟩ := q_text hR h5 
  refine LW_aload h rfl (dt t_l8 0 rfl) ?_
  refine LW_callA h v_X10_text kL_49 (c_A_text  E1) rfl rfl (Nat.le_of_ble_eq_true rfl) (Nat.le_of_ble_eq_true rfl) rfl (Nat.le_of_ble_eq_true rfl) (dt t_l8 1 rfl) (fun _ => ?_)
  refine LW_aload h rfl (dt t_l8 2 rfl) ?_
  refine LW_callM h v_X11_text kL_53 (c_M_text  E2) rfl rfl (Nat.le_of_ble_eq_true rfl) (Nat.le_of_ble_eq_true rfl) rfl (Nat.le_of_ble_eq_true rfl) (dt t_l8 3 rfl) (fun _ => ?_)
  refine LW_eq (tgt := 1329) h (dt t_l8 4 rfl) rfl ?_
  exact kk _ _ R2
def b_l9 : List (Nat × Instr × Nat) := [(503, .aload_n 1, 1), (504, .aload_n 0, 1), (505, .iload_n 3, 1), (506, .iconst 1, 1), (507, .iadd, 1), (508, .iaload, 1), (509, .invokevirtual 54, 3), (512, .aload_n 2, 1), (513, .aload_n 0, 1), (514, .iload_n 3, 1), (515, .iconst 1, 1), (516, .iadd, 1), (517, .iaload, 1), (518, .invokevirtual 57, 3), (521, .if_icmp .eq 808, 3), (524, .iconst 0, 1), (525, .ireturn, 1)]
theorem t_l9 : DT code b_l9 := DT.of (by decide +kernel)
set_option maxRecDepth 20000 in
theorem lc_9 {X : Cx} {ad2 : Nat → Nat} {b L : Nat} {xs : Nat → Int32} (h : LC X ad2 b L xs) (hL : L ≤ 3072) {i : Nat} (hi : 6 * i + 6 ≤ L) (h5 : i < 512) {σ μ : Mm} (hR : Rc i σ μ) (kk : ∀ σ2 μ2 : Mm, Rc (i + 1) σ2 μ2 → LW X ad2 1329 (lvL X ad2 b i) [] σ2 μ2) : LW X ad2 503 (lvL X ad2 b i) [] σ μ := by
  obtain ⟨⟨v, E1, E2⟩, R2⟩ := q_fault hR (ag xs i 1)
  refine LW_aload h rfl (dt t_l9 0 rfl) ?_
  refine LW_arg h (i := i) 1 hL (by omega) rfl (dt t_l9 1 rfl) (dt t_l9 2 rfl) (dt t_l9 3 rfl) (dt t_l9 4 rfl) (dt t_l9 5 rfl) ?_
  refine LW_callA h v_X10_fault kL_54 (c_A_fault (ag xs i 1) (r32_of _) E1) rfl rfl (Nat.le_of_ble_eq_true rfl) (Nat.le_of_ble_eq_true rfl) rfl (Nat.le_of_ble_eq_true rfl) (dt t_l9 6 rfl) (fun _ => ?_)
  refine LW_aload h rfl (dt t_l9 7 rfl) ?_
  refine LW_arg h (i := i) 1 hL (by omega) rfl (dt t_l9 8 rfl) (dt t_l9 9 rfl) (dt t_l9 10 rfl) (dt t_l9 11 rfl) (dt t_l9 12 rfl) ?_
  refine LW_callM h v_X11_fault kL_57 (c_M_fault (ag xs i 1) (r32_of _) E2) rfl rfl (Nat.le_of_ble_eq_true rfl) (Nat.le_of_ble_eq_true rfl) rfl (Nat.le_of_ble_eq_true rfl) (dt t_l9 13 rfl) (fun _ => ?_)
  refine LW_eq (tgt := 1329) h (dt t_l9 14 rfl) rfl ?_
  exact kk _ _ R2
def b_l10 : List (Nat × Instr × Nat) := [(526, .aload_n 1, 1), (527, .aload_n 0, 1), (528, .iload_n 3, 1), (529, .iconst 1, 1), (530, .iadd, 1), (531, .iaload, 1), (532, .invokevirtual 58, 3), (535, .aload_n 2, 1), (536, .aload_n 0, 1), (537, .iload_n 3, 1), (538, .iconst 1, 1), (539, .iadd, 1), (540, .iaload, 1), (541, .invokevirtual 62, 3), (544, .if_icmp .eq 785, 3), (547, .iconst 0, 1), (548, .ireturn, 1)]
theorem t_l10 : DT code b_l10 := DT.of (by decide +kernel)
set_option maxRecDepth 20000 in
theorem lc_10 {X : Cx} {ad2 : Nat → Nat} {b L : Nat} {xs : Nat → Int32} (h : LC X ad2 b L xs) (hL : L ≤ 3072) {i : Nat} (hi : 6 * i + 6 ≤ L) (h5 : i < 512) {σ μ : Mm} (hR : Rc i σ μ) (kk : ∀ σ2 μ2 : Mm, Rc (i + 1) σ2 μ2 → LW X ad2 1329 (lvL X ad2 b i) [] σ2 μ2) : LW X ad2 526 (lvL X ad2 b i) [] σ μ := by
  obtain ⟨v, s2, u2, E1, E2, R2⟩ := q_by hR h5 (ag xs i 1)
  refine LW_aload h rfl (dt t_l10 0 rfl) ?_
  refine LW_arg h (i := i) 1 hL (by omega) rfl (dt t_l10 1 rfl) (dt t_l10 2 rfl) (dt t_l10 3 rfl) (dt t_l10 4 rfl) (dt t_l10 5 rfl) ?_
  refine LW_callA h v_X10_by kL_58 (c_A_by (ag xs i 1) (r32_of _) E1) rfl rfl (Nat.le_of_ble_eq_true rfl) (Nat.le_of_ble_eq_true rfl) rfl (Nat.le_of_ble_eq_true rfl) (dt t_l10 6 rfl) (fun _ => ?_)
  refine LW_aload h rfl (dt t_l10 7 rfl) ?_
  refine LW_arg h (i := i) 1 hL (by omega) rfl (dt t_l10 8 rfl) (dt t_l10 9 rfl) (dt t_l10 10 rfl) (dt t_l10 11 rfl) (dt t_l10 12 rfl) ?_
  refine LW_callM h v_X11_by kL_62 (c_M_by (ag xs i 1) (r32_of _) E2) rfl rfl (Nat.le_of_ble_eq_true rfl) (Nat.le_of_ble_eq_true rfl) rfl (Nat.le_of_ble_eq_true rfl) (dt t_l10 13 rfl) (fun _ => ?_)
  refine LW_eq (tgt := 1329) h (dt t_l10 14 rfl) rfl ?_
  exact kk _ _ R2
def b_l11 : List (Nat × Instr × Nat) := [(549, .aload_n 1, 1), (550, .aload_n 0, 1), (551, .iload_n 3, 1), (552, .iconst 1, 1), (553, .iadd, 1), (554, .iaload, 1), (555, .invokevirtual 63, 3), (558, .aload_n 2, 1), (559, .aload_n 0, 1), (560, .iload_n 3, 1), (561, .iconst 1, 1), (562, .iadd, 1), (563, .iaload, 1), (564, .invokevirtual 66, 3), (567, .if_icmp .eq 762, 3), (570, .iconst 0, 1), (571, .ireturn, 1)]
theorem t_l11 : DT code b_l11 := DT.of (by decide +kernel)
set_option maxRecDepth 20000 in
theorem lc_11 {X : Cx} {ad2 : Nat → Nat} {b L : Nat} {xs : Nat → Int32} (h : LC X ad2 b L xs) (hL : L ≤ 3072) {i : Nat} (hi : 6 * i + 6 ≤ L) (h5 : i < 512) {σ μ : Mm} (hR : Rc i σ μ) (kk : ∀ σ2 μ2 : Mm, Rc (i + 1) σ2 μ2 → LW X ad2 1329 (lvL X ad2 b i) [] σ2 μ2) : LW X ad2 549 (lvL X ad2 b i) [] σ μ := by
  obtain ⟨v, s2, u2, E1, E2, R2⟩ := q_played hR h5 (ag xs i 1)
  refine LW_aload h rfl (dt t_l11 0 rfl) ?_
  refine LW_arg h (i := i) 1 hL (by omega) rfl (dt t_l11 1 rfl) (dt t_l11 2 rfl) (dt t_l11 3 rfl) (dt t_l11 4 rfl) (dt t_l11 5 rfl) ?_
  refine LW_callA h v_X10_played kL_63 (c_A_played (ag xs i 1) (r32_of _) E1) rfl rfl (Nat.le_of_ble_eq_true rfl) (Nat.le_of_ble_eq_true rfl) rfl (Nat.le_of_ble_eq_true rfl) (dt t_l11 6 rfl) (fun _ => ?_)
  refine LW_aload h rfl (dt t_l11 7 rfl) ?_
  refine LW_arg h (i := i) 1 hL (by omega) rfl (dt t_l11 8 rfl) (dt t_l11 9 rfl) (dt t_l11 10 rfl) (dt t_l11 11 rfl) (dt t_l11 12 rfl) ?_
  refine LW_callM h v_X11_played kL_66 (c_M_played (ag xs i 1) (r32_of _) E2) rfl rfl (Nat.le_of_ble_eq_true rfl) (Nat.le_of_ble_eq_true rfl) rfl (Nat.le_of_ble_eq_true rfl) (dt t_l11 13 rfl) (fun _ => ?_)
  refine LW_eq (tgt := 1329) h (dt t_l11 14 rfl) rfl ?_
  exact kk _ _ R2
def b_l12 : List (Nat × Instr × Nat) := [(572, .aload_n 1, 1), (573, .invokevirtual 67, 3), (576, .aload_n 2, 1), (577, .invokevirtual 70, 3), (580, .if_icmp .eq 749, 3), (583, .iconst 0, 1), (584, .ireturn, 1)]
theorem t_l12 : DT code b_l12 := DT.of (by decide +kernel)
set_option maxRecDepth 20000 in
theorem lc_12 {X : Cx} {ad2 : Nat → Nat} {b L : Nat} {xs : Nat → Int32} (h : LC X ad2 b L xs) (hL : L ≤ 3072) {i : Nat} (hi : 6 * i + 6 ≤ L) (h5 : i < 512) {σ μ : Mm} (hR : Rc i σ μ) (kk : ∀ σ2 μ2 : Mm, Rc (i + 1) σ2 μ2 → LW X ad2 1329 (lvL X ad2 b i) [] σ2 μ2) : LW X ad2 572 (lvL X ad2 b i) [] σ μ := by
  obtain ⟨v, s2, u2, E1, E2, R2⟩ := q_undo hR h5 
  refine LW_aload h rfl (dt t_l12 0 rfl) ?_
  refine LW_callA h v_X10_undo kL_67 (c_A_undo  E1) rfl rfl (Nat.le_of_ble_eq_true rfl) (Nat.le_of_ble_eq_true rfl) rfl (Nat.le_of_ble_eq_true rfl) (dt t_l12 1 rfl) (fun _ => ?_)
  refine LW_aload h rfl (dt t_l12 2 rfl) ?_
  refine LW_callM h v_X11_undo kL_70 (c_M_undo  E2) rfl rfl (Nat.le_of_ble_eq_true rfl) (Nat.le_of_ble_eq_true rfl) rfl (Nat.le_of_ble_eq_true rfl) (dt t_l12 3 rfl) (fun _ => ?_)
  refine LW_eq (tgt := 1329) h (dt t_l12 4 rfl) rfl ?_
  exact kk _ _ R2
