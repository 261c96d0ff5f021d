def b_l13 : List (Nat × Instr × Nat) := [(585, .aload_n 1, 1), (586, .aload_n 0, 1), (587, .iload_n 3, 1), (588, .iconst 1, 1), (589, .iadd, 1), (590, .iaload, 1), (591, .aload_n 0, 1), (592, .iload_n 3, 1), (593, .iconst 2, 1), (594, .iadd, 1), (595, .iaload, 1), (596, .invokevirtual 71, 3), (599, .aload_n 2, 1), (600, .aload_n 0, 1), (601, .iload_n 3, 1), (602, .iconst 1, 1), (603, .iadd, 1), (604, .iaload, 1), (605, .aload_n 0, 1), (606, .iload_n 3, 1), (607, .iconst 2, 1), (608, .iadd, 1), (609, .iaload, 1), (610, .invokevirtual 74, 3), (613, .if_icmp .eq 716, 3), (616, .iconst 0, 1), (617, .ireturn, 1)]
theorem t_l13 : DT code b_l13 := DT.of (by decide +kernel)
set_option maxRecDepth 20000 in
theorem lc_13 {X : Cx} {ad2 : Nat → Nat} {b L : Nat} {xs : Nat → Int32} (h : LC X ad2 b L xs) (hL : L ≤ 3072) {i : Nat} (hi : 6 * i + 6 ≤ L) (h5 : i < 512) {σ μ : Mm} (hR : Rc i σ μ) (kk : ∀ σ2 μ2 : Mm, Rc (i + 1) σ2 μ2 → LW X ad2 1329 (lvL X ad2 b i) [] σ2 μ2) : LW X ad2 585 (lvL X ad2 b i) [] σ μ := by
  obtain ⟨⟨v, E1, E2⟩, R2⟩ := q_of hR (ag xs i 1) (ag xs i 2)
  refine LW_aload h rfl (dt t_l13 0 rfl) ?_
  refine LW_arg h (i := i) 1 hL (by omega) rfl (dt t_l13 1 rfl) (dt t_l13 2 rfl) (dt t_l13 3 rfl) (dt t_l13 4 rfl) (dt t_l13 5 rfl) ?_
  refine LW_arg h (i := i) 2 hL (by omega) rfl (dt t_l13 6 rfl) (dt t_l13 7 rfl) (dt t_l13 8 rfl) (dt t_l13 9 rfl) (dt t_l13 10 rfl) ?_
  refine LW_callA h v_X10_of kL_71 (c_A_of (ag xs i 1) (r32_of _) (ag xs i 2) (r32_of _) E1) rfl rfl (Nat.le_of_ble_eq_true rfl) (Nat.le_of_ble_eq_true rfl) rfl (Nat.le_of_ble_eq_true rfl) (dt t_l13 11 rfl) (fun _ => ?_)
  refine LW_aload h rfl (dt t_l13 12 rfl) ?_
  refine LW_arg h (i := i) 1 hL (by omega) rfl (dt t_l13 13 rfl) (dt t_l13 14 rfl) (dt t_l13 15 rfl) (dt t_l13 16 rfl) (dt t_l13 17 rfl) ?_
  refine LW_arg h (i := i) 2 hL (by omega) rfl (dt t_l13 18 rfl) (dt t_l13 19 rfl) (dt t_l13 20 rfl) (dt t_l13 21 rfl) (dt t_l13 22 rfl) ?_
  refine LW_callM h v_X11_of kL_74 (c_M_of (ag xs i 1) (r32_of _) (ag xs i 2) (r32_of _) E2) rfl rfl (Nat.le_of_ble_eq_true rfl) (Nat.le_of_ble_eq_true rfl) rfl (Nat.le_of_ble_eq_true rfl) (dt t_l13 23 rfl) (fun _ => ?_)
  refine LW_eq (tgt := 1329) h (dt t_l13 24 rfl) rfl ?_
  exact kk _ _ R2
def b_l14 : List (Nat × Instr × Nat) := [(618, .aload_n 1, 1), (619, .aload_n 0, 1), (620, .iload_n 3, 1), (621, .iconst 1, 1), (622, .iadd, 1), (623, .iaload, 1), (624, .aload_n 0, 1), (625, .iload_n 3, 1), (626, .iconst 2, 1), (627, .iadd, 1), (628, .iaload, 1), (629, .invokevirtual 75, 3), (632, .aload_n 2, 1), (633, .aload_n 0, 1), (634, .iload_n 3, 1), (635, .iconst 1, 1), (636, .iadd, 1), (637, .iaload, 1), (638, .aload_n 0, 1), (639, .iload_n 3, 1), (640, .iconst 2, 1), (641, .iadd, 1), (642, .iaload, 1), (643, .invokevirtual 78, 3), (646, .if_icmp .eq 683, 3), (649, .iconst 0, 1), (650, .ireturn, 1)]
theorem t_l14 : DT code b_l14 := DT.of (by decide +kernel)
set_option maxRecDepth 20000 in
theorem lc_14 {X : Cx} {ad2 : Nat → Nat} {b L : Nat} {xs : Nat → Int32} (h : LC X ad2 b L xs) (hL : L ≤ 3072) {i : Nat} (hi : 6 * i + 6 ≤ L) (h5 : i < 512) {σ μ : Mm} (hR : Rc i σ μ) (kk : ∀ σ2 μ2 : Mm, Rc (i + 1) σ2 μ2 → LW X ad2 1329 (lvL X ad2 b i) [] σ2 μ2) : LW X ad2 618 (lvL X ad2 b i) [] σ μ := by
  obtain ⟨v, s2, u2, E1, E2, R2⟩ := q_ofRow hR h5 (ag xs i 1) (ag xs i 2)
  refine LW_aload h rfl (dt t_l14 0 rfl) ?_
  refine LW_arg h (i := i) 1 hL (by omega) rfl (dt t_l14 1 rfl) (dt t_l14 2 rfl) (dt t_l14 3 rfl) (dt t_l14 4 rfl) (dt t_l14 5 rfl) ?_
  refine LW_arg h (i := i) 2 hL (by omega) rfl (dt t_l14 6 rfl) (dt t_l14 7 rfl) (dt t_l14 8 rfl) (dt t_l14 9 rfl) (dt t_l14 10 rfl) ?_
  refine LW_callA h v_X10_ofRow kL_75 (c_A_ofRow (ag xs i 1) (r32_of _) (ag xs i 2) (r32_of _) E1) rfl rfl (Nat.le_of_ble_eq_true rfl) (Nat.le_of_ble_eq_true rfl) rfl (Nat.le_of_ble_eq_true rfl) (dt t_l14 11 rfl) (fun _ => ?_)
  refine LW_aload h rfl (dt t_l14 12 rfl) ?_
  refine LW_arg h (i := i) 1 hL (by omega) rfl (dt t_l14 13 rfl) (dt t_l14 14 rfl) (dt t_l14 15 rfl) (dt t_l14 16 rfl) (dt t_l14 17 rfl) ?_
  refine LW_arg h (i := i) 2 hL (by omega) rfl (dt t_l14 18 rfl) (dt t_l14 19 rfl) (dt t_l14 20 rfl) (dt t_l14 21 rfl) (dt t_l14 22 rfl) ?_
  refine LW_callM h v_X11_ofRow kL_78 (c_M_ofRow (ag xs i 1) (r32_of _) (ag xs i 2) (r32_of _) E2) rfl rfl (Nat.le_of_ble_eq_true rfl) (Nat.le_of_ble_eq_true rfl) rfl (Nat.le_of_ble_eq_true rfl) (dt t_l14 23 rfl) (fun _ => ?_)
  refine LW_eq (tgt := 1329) h (dt t_l14 24 rfl) rfl ?_
  exact kk _ _ R2
def b_l15 : List (Nat × Instr × Nat) := [(651, .aload_n 1, 1), (652, .aload_n 0, 1), (653, .iload_n 3, 1), (654, .iconst 1, 1), (655, .iadd, 1), (656, .iaload, 1), (657, .aload_n 0, 1), (658, .iload_n 3, 1), (659, .iconst 2, 1), (660, .iadd, 1), (661, .iaload, 1), (662, .invokevirtual 79, 3), (665, .aload_n 2, 1), (666, .aload_n 0, 1), (667, .iload_n 3, 1), (668, .iconst 1, 1), (669, .iadd, 1), (670, .iaload, 1), (671, .aload_n 0, 1), (672, .iload_n 3, 1), (673, .iconst 2, 1), (674, .iadd, 1), (675, .iaload, 1), (676, .invokevirtual 82, 3), (679, .if_icmp .eq 650, 3), (682, .iconst 0, 1), (683, .ireturn, 1)]
theorem t_l15 : DT code b_l15 := DT.of (by decide +kernel)
set_option maxRecDepth 20000 in
theorem lc_15 {X : Cx} {ad2 : Nat → Nat} {b L : Nat} {xs : Nat → Int32} (h : LC X ad2 b L xs) (hL : L ≤ 3072) {i : Nat} (hi : 6 * i + 6 ≤ L) (h5 : i < 512) {σ μ : Mm} (hR : Rc i σ μ) (kk : ∀ σ2 μ2 : Mm, Rc (i + 1) σ2 μ2 → LW X ad2 1329 (lvL X ad2 b i) [] σ2 μ2) : LW X ad2 651 (lvL X ad2 b i) [] σ μ := by
  obtain ⟨v, s2, u2, E1, E2, R2⟩ := q_beside hR h5 (ag xs i 1) (ag xs i 2)
  refine LW_aload h rfl (dt t_l15 0 rfl) ?_
  refine LW_arg h (i := i) 1 hL (by omega) rfl (dt t_l15 1 rfl) (dt t_l15 2 rfl) (dt t_l15 3 rfl) (dt t_l15 4 rfl) (dt t_l15 5 rfl) ?_
  refine LW_arg h (i := i) 2 hL (by omega) rfl (dt t_l15 6 rfl) (dt t_l15 7 rfl) (dt t_l15 8 rfl) (dt t_l15 9 rfl) (dt t_l15 10 rfl) ?_
  refine LW_callA h v_X10_beside kL_79 (c_A_beside (ag xs i 1) (r32_of _) (ag xs i 2) (r32_of _) E1) rfl rfl (Nat.le_of_ble_eq_true rfl) (Nat.le_of_ble_eq_true rfl) rfl (Nat.le_of_ble_eq_true rfl) (dt t_l15 11 rfl) (fun _ => ?_)
  refine LW_aload h rfl (dt t_l15 12 rfl) ?_
  refine LW_arg h (i := i) 1 hL (by omega) rfl (dt t_l15 13 rfl) (dt t_l15 14 rfl) (dt t_l15 15 rfl) (dt t_l15 16 rfl) (dt t_l15 17 rfl) ?_
  refine LW_arg h (i := i) 2 hL (by omega) rfl (dt t_l15 18 rfl) (dt t_l15 19 rfl) (dt t_l15 20 rfl) (dt t_l15 21 rfl) (dt t_l15 22 rfl) ?_
  refine LW_callM h v_X11_beside kL_82 (c_M_beside (ag xs i 1) (r32_of _) (ag xs i 2) (r32_of _) E2) rfl rfl (Nat.le_of_ble_eq_true rfl) (Nat.le_of_ble_eq_true rfl) rfl (Nat.le_of_ble_eq_true rfl) (dt t_l15 23 rfl) (fun _ => ?_)
  refine LW_eq (tgt := 1329) h (dt t_l15 24 rfl) rfl ?_
  exact kk _ _ R2
def b_l16 : List (Nat × Instr × Nat) := [(684, .aload_n 1, 1), (685, .aload_n 0, 1), (686, .iload_n 3, 1), (687, .iconst 1, 1), (688, .iadd, 1), (689, .iaload, 1), (690, .aload_n 0, 1), (691, .iload_n 3, 1), (692, .iconst 2, 1), (693, .iadd, 1), (694, .iaload, 1), (695, .invokevirtual 83, 3), (698, .aload_n 2, 1), (699, .aload_n 0, 1), (700, .iload_n 3, 1), (701, .iconst 1, 1), (702, .iadd, 1), (703, .iaload, 1), (704, .aload_n 0, 1), (705, .iload_n 3, 1), (706, .iconst 2, 1), (707, .iadd, 1), (708, .iaload, 1), (709, .invokevirtual 86, 3), (712, .if_icmp .eq 617, 3), (715, .iconst 0, 1), (716, .ireturn, 1)]
theorem t_l16 : DT code b_l16 := DT.of (by decide +kernel)
set_option maxRecDepth 20000 in
theorem lc_16 {X : Cx} {ad2 : Nat → Nat} {b L : Nat} {xs : Nat → Int32} (h : LC X ad2 b L xs) (hL : L ≤ 3072) {i : Nat} (hi : 6 * i + 6 ≤ L) (h5 : i < 512) {σ μ : Mm} (hR : Rc i σ μ) (kk : ∀ σ2 μ2 : Mm, Rc (i + 1) σ2 μ2 → LW X ad2 1329 (lvL X ad2 b i) [] σ2 μ2) : LW X ad2 684 (lvL X ad2 b i) [] σ μ := by
  obtain ⟨⟨v, E1, E2⟩, R2⟩ := q_book hR (ag xs i 1) (ag xs i 2)
  refine LW_aload h rfl (dt t_l16 0 rfl) ?_
  refine LW_arg h (i := i) 1 hL (by omega) rfl (dt t_l16 1 rfl) (dt t_l16 2 rfl) (dt t_l16 3 rfl) (dt t_l16 4 rfl) (dt t_l16 5 rfl) ?_
  refine LW_arg h (i := i) 2 hL (by omega) rfl (dt t_l16 6 rfl) (dt t_l16 7 rfl) (dt t_l16 8 rfl) (dt t_l16 9 rfl) (dt t_l16 10 rfl) ?_
  refine LW_callA h v_X10_book kL_83 (c_A_book (ag xs i 1) (r32_of _) (ag xs i 2) (r32_of _) E1) rfl rfl (Nat.le_of_ble_eq_true rfl) (Nat.le_of_ble_eq_true rfl) rfl (Nat.le_of_ble_eq_true rfl) (dt t_l16 11 rfl) (fun _ => ?_)
  refine LW_aload h rfl (dt t_l16 12 rfl) ?_
  refine LW_arg h (i := i) 1 hL (by omega) rfl (dt t_l16 13 rfl) (dt t_l16 14 rfl) (dt t_l16 15 rfl) (dt t_l16 16 rfl) (dt t_l16 17 rfl) ?_
  refine LW_arg h (i := i) 2 hL (by omega) rfl (dt t_l16 18 rfl) (dt t_l16 19 rfl) (dt t_l16 20 rfl) (dt t_l16 21 rfl) (dt t_l16 22 rfl) ?_
  refine LW_callM h v_X11_book kL_86 (c_M_book (ag xs i 1) (r32_of _) (ag xs i 2) (r32_of _) E2) rfl rfl (Nat.le_of_ble_eq_true rfl) (Nat.le_of_ble_eq_true rfl) rfl (Nat.le_of_ble_eq_true rfl) (dt t_l16 23 rfl) (fun _ => ?_)
  refine LW_eq (tgt := 1329) h (dt t_l16 24 rfl) rfl ?_
  exact kk _ _ R2
def b_l17 : List (Nat × Instr × Nat) := [(717, .aload_n 1, 1), (718, .aload_n 0, 1), (719, .iload_n 3, 1), (720, .iconst 1, 1), (721, .iadd, 1), (722, .iaload, 1), (723, .aload_n 0, 1), (724, .iload_n 3, 1), (725, .iconst 2, 1), (726, .iadd, 1), (727, .iaload, 1), (728, .invokevirtual 87, 3), (731, .aload_n 2, 1), (732, .aload_n 0, 1), (733, .iload_n 3, 1), (734, .iconst 1, 1), (735, .iadd, 1), (736, .iaload, 1), (737, .aload_n 0, 1), (738, .iload_n 3, 1), (739, .iconst 2, 1), (740, .iadd, 1), (741, .iaload, 1), (742, .invokevirtual 90, 3), (745, .if_icmp .eq 584, 3), (748, .iconst 0, 1), (749, .ireturn, 1)]
theorem t_l17 : DT code b_l17 := DT.of (by decide +kernel)
set_option maxRecDepth 20000 in
theorem lc_17 {X : Cx} {ad2 : Nat → Nat} {b L : Nat} {xs : Nat → Int32} (h : LC X ad2 b L xs) (hL : L ≤ 3072) {i : Nat} (hi : 6 * i + 6 ≤ L) (h5 : i < 512) {σ μ : Mm} (hR : Rc i σ μ) (kk : ∀ σ2 μ2 : Mm, Rc (i + 1) σ2 μ2 → LW X ad2 1329 (lvL X ad2 b i) [] σ2 μ2) : LW X ad2 717 (lvL X ad2 b i) [] σ μ := by
  obtain ⟨v, s2, u2, E1, E2, R2⟩ := q_foretold hR h5 (ag xs i 1) (ag xs i 2)
  refine LW_aload h rfl (dt t_l17 0 rfl) ?_
  refine LW_arg h (i := i) 1 hL (by omega) rfl (dt t_l17 1 rfl) (dt t_l17 2 rfl) (dt t_l17 3 rfl) (dt t_l17 4 rfl) (dt t_l17 5 rfl) ?_
  refine LW_arg h (i := i) 2 hL (by omega) rfl (dt t_l17 6 rfl) (dt t_l17 7 rfl) (dt t_l17 8 rfl) (dt t_l17 9 rfl) (dt t_l17 10 rfl) ?_
  refine LW_callA h v_X10_foretold kL_87 (c_A_foretold (ag xs i 1) (r32_of _) (ag xs i 2) (r32_of _) E1) rfl rfl (Nat.le_of_ble_eq_true rfl) (Nat.le_of_ble_eq_true rfl) rfl (Nat.le_of_ble_eq_true rfl) (dt t_l17 11 rfl) (fun _ => ?_)
  refine LW_aload h rfl (dt t_l17 12 rfl) ?_
  refine LW_arg h (i := i) 1 hL (by omega) rfl (dt t_l17 13 rfl) (dt t_l17 14 rfl) (dt t_l17 15 rfl) (dt t_l17 16 rfl) (dt t_l17 17 rfl) ?_
  refine LW_arg h (i := i) 2 hL (by omega) rfl (dt t_l17 18 rfl) (dt t_l17 19 rfl) (dt t_l17 20 rfl) (dt t_l17 21 rfl) (dt t_l17 22 rfl) ?_
  refine LW_callM h v_X11_foretold kL_90 (c_M_foretold (ag xs i 1) (r32_of _) (ag xs i 2) (r32_of _) E2) rfl rfl (Nat.le_of_ble_eq_true rfl) (Nat.le_of_ble_eq_true rfl) rfl (Nat.le_of_ble_eq_true rfl) (dt t_l17 23 rfl) (fun _ => ?_)
  refine LW_eq (tgt := 1329) h (dt t_l17 24 rfl) rfl ?_
  exact kk _ _ R2
def b_l18 : List (Nat × Instr × Nat) := [(750, .aload_n 1, 1), (751, .aload_n 0, 1), (752, .iload_n 3, 1), (753, .iconst 1, 1), (754, .iadd, 1), (755, .iaload, 1), (756, .aload_n 0, 1), (757, .iload_n 3, 1), (758, .iconst 2, 1), (759, .iadd, 1), (760, .iaload, 1), (761, .invokevirtual 91, 3), (764, .aload_n 2, 1), (765, .aload_n 0, 1), (766, .iload_n 3, 1), (767, .iconst 1, 1), (768, .iadd, 1), (769, .iaload, 1), (770, .aload_n 0, 1), (771, .iload_n 3, 1), (772, .iconst 2, 1), (773, .iadd, 1), (774, .iaload, 1), (775, .invokevirtual 94, 3), (778, .if_icmp .eq 551, 3), (781, .iconst 0, 1), (782, .ireturn, 1)]
theorem t_l18 : DT code b_l18 := DT.of (by decide +kernel)
set_option maxRecDepth 20000 in
theorem lc_18 {X : Cx} {ad2 : Nat → Nat} {b L : Nat} {xs : Nat → Int32} (h : LC X ad2 b L xs) (hL : L ≤ 3072) {i : Nat} (hi : 6 * i + 6 ≤ L) (h5 : i < 512) {σ μ : Mm} (hR : Rc i σ μ) (kk : ∀ σ2 μ2 : Mm, Rc (i + 1) σ2 μ2 → LW X ad2 1329 (lvL X ad2 b i) [] σ2 μ2) : LW X ad2 750 (lvL X ad2 b i) [] σ μ := by
  obtain ⟨v, s2, u2, E1, E2, R2⟩ := q_firstOff hR h5 (ag xs i 1) (ag xs i 2)
  refine LW_aload h rfl (dt t_l18 0 rfl) ?_
  refine LW_arg h (i := i) 1 hL (by omega) rfl (dt t_l18 1 rfl) (dt t_l18 2 rfl) (dt t_l18 3 rfl) (dt t_l18 4 rfl) (dt t_l18 5 rfl) ?_
  refine LW_arg h (i := i) 2 hL (by omega) rfl (dt t_l18 6 rfl) (dt t_l18 7 rfl) (dt t_l18 8 rfl) (dt t_l18 9 rfl) (dt t_l18 10 rfl) ?_
  refine LW_callA h v_X10_firstOff kL_91 (c_A_firstOff (ag xs i 1) (r32_of _) (ag xs i 2) (r32_of _) E1) rfl rfl (Nat.le_of_ble_eq_true rfl) (Nat.le_of_ble_eq_true rfl) rfl (Nat.le_of_ble_eq_true rfl) (dt t_l18 11 rfl) (fun _ => ?_)
  refine LW_aload h rfl (dt t_l18 12 rfl) ?_
  refine LW_arg h (i := i) 1 hL (by omega) rfl (dt t_l18 13 rfl) (dt t_l18 14 rfl) (dt t_l18 15 rfl) (dt t_l18 16 rfl) (dt t_l18 17 rfl) ?_
  refine LW_arg h (i := i) 2 hL (by omega) rfl (dt t_l18 18 rfl) (dt t_l18 19 rfl) (dt t_l18 20 rfl) (dt t_l18 21 rfl) (dt t_l18 22 rfl) ?_
  refine LW_callM h v_X11_firstOff kL_94 (c_M_firstOff (ag xs i 1) (r32_of _) (ag xs i 2) (r32_of _) E2) rfl rfl (Nat.le_of_ble_eq_true rfl) (Nat.le_of_ble_eq_true rfl) rfl (Nat.le_of_ble_eq_true rfl) (dt t_l18 23 rfl) (fun _ => ?_)
  refine LW_eq (tgt := 1329) h (dt t_l18 24 rfl) rfl ?_
  exact kk _ _ R2
def b_l19 : List (Nat × Instr × Nat) := [(783, .aload_n 1, 1), (784, .aload_n 0, 1), (785, .iload_n 3, 1), (786, .iconst 1, 1), (787, .iadd, 1), (788, .iaload, 1), (789, .aload_n 0, 1), (790, .iload_n 3, 1), (791, .iconst 2, 1), (792, .iadd, 1), (793, .iaload, 1), (794, .invokevirtual 95, 3), (797, .aload_n 2, 1), (798, .aload_n 0, 1), (799, .iload_n 3, 1), (800, .iconst 1, 1), (801, .iadd, 1), (802, .iaload, 1), (803, .aload_n 0, 1), (804, .iload_n 3, 1), (805, .iconst 2, 1), (806, .iadd, 1), (807, .iaload, 1), (808, .invokevirtual 98, 3), (811, .if_icmp .eq 518, 3), (814, .iconst 0, 1), (815, .ireturn, 1)]
theorem t_l19 : DT code b_l19 := DT.of (by decide +kernel)
set_option maxRecDepth 20000 in
theorem lc_19 {X : Cx} {ad2 : Nat → Nat} {b L : Nat} {xs : Nat → Int32} (h : LC X ad2 b L xs) (hL : L ≤ 3072) {i : Nat} (hi : 6 * i + 6 ≤ L) (h5 : i < 512) {σ μ : Mm} (hR : Rc i σ μ) (kk : ∀ σ2 μ2 : Mm, Rc (i + 1) σ2 μ2 → LW X ad2 1329 (lvL X ad2 b i) [] σ2 μ2) : LW X ad2 783 (lvL X ad2 b i) [] σ μ := by
  obtain ⟨v, s2, u2, E1, E2, R2⟩ := q_ordered hR h5 (ag xs i 1) (ag xs i 2)
  refine LW_aload h rfl (dt t_l19 0 rfl) ?_
  refine LW_arg h (i := i) 1 hL (by omega) rfl (dt t_l19 1 rfl) (dt t_l19 2 rfl) (dt t_l19 3 rfl) (dt t_l19 4 rfl) (dt t_l19 5 rfl) ?_
  refine LW_arg h (i := i) 2 hL (by omega) rfl (dt t_l19 6 rfl) (dt t_l19 7 rfl) (dt t_l19 8 rfl) (dt t_l19 9 rfl) (dt t_l19 10 rfl) ?_
  refine LW_callA h v_X10_ordered kL_95 (c_A_ordered (ag xs i 1) (r32_of _) (ag xs i 2) (r32_of _) E1) rfl rfl (Nat.le_of_ble_eq_true rfl) (Nat.le_of_ble_eq_true rfl) rfl (Nat.le_of_ble_eq_true rfl) (dt t_l19 11 rfl) (fun _ => ?_)
  refine LW_aload h rfl (dt t_l19 12 rfl) ?_
  refine LW_arg h (i := i) 1 hL (by omega) rfl (dt t_l19 13 rfl) (dt t_l19 14 rfl) (dt t_l19 15 rfl) (dt t_l19 16 rfl) (dt t_l19 17 rfl) ?_
  refine LW_arg h (i := i) 2 hL (by omega) rfl (dt t_l19 18 rfl) (dt t_l19 19 rfl) (dt t_l19 20 rfl) (dt t_l19 21 rfl) (dt t_l19 22 rfl) ?_
  refine LW_callM h v_X11_ordered kL_98 (c_M_ordered (ag xs i 1) (r32_of _) (ag xs i 2) (r32_of _) E2) rfl rfl (Nat.le_of_ble_eq_true rfl) (Nat.le_of_ble_eq_true rfl) rfl (Nat.le_of_ble_eq_true rfl) (dt t_l19 23 rfl) (fun _ => ?_)
  refine LW_eq (tgt := 1329) h (dt t_l19 24 rfl) rfl ?_
  exact kk _ _ R2
def b_l20 : List (Nat × Instr × Nat) := [(816, .aload_n 1, 1), (817, .aload_n 0, 1), (818, .iload_n 3, 1), (819, .iconst 1, 1), (820, .iadd, 1), (821, .iaload, 1), (822, .aload_n 0, 1), (823, .iload_n 3, 1), (824, .iconst 2, 1), (825, .iadd, 1), (826, .iaload, 1), (827, .invokevirtual 99, 3), (830, .aload_n 2, 1), (831, .aload_n 0, 1), (832, .iload_n 3, 1), (833, .iconst 1, 1), (834, .iadd, 1), (835, .iaload, 1), (836, .aload_n 0, 1), (837, .iload_n 3, 1), (838, .iconst 2, 1), (839, .iadd, 1), (840, .iaload, 1), (841, .invokevirtual 102, 3), (844, .if_icmp .eq 485, 3), (847, .iconst 0, 1), (848, .ireturn, 1)]
theorem t_l20 : DT code b_l20 := DT.of (by decide +kernel)
set_option maxRecDepth 20000 in
theorem lc_20 {X : Cx} {ad2 : Nat → Nat} {b L : Nat} {xs : Nat → Int32} (h : LC X ad2 b L xs) (hL : L ≤ 3072) {i : Nat} (hi : 6 * i + 6 ≤ L) (h5 : i < 512) {σ μ : Mm} (hR : Rc i σ μ) (kk : ∀ σ2 μ2 : Mm, Rc (i + 1) σ2 μ2 → LW X ad2 1329 (lvL X ad2 b i) [] σ2 μ2) : LW X ad2 816 (lvL X ad2 b i) [] σ μ := by
  obtain ⟨v, s2, u2, E1, E2, R2⟩ := q_split hR h5 (ag xs i 1) (ag xs i 2)
  refine LW_aload h rfl (dt t_l20 0 rfl) ?_
  refine LW_arg h (i := i) 1 hL (by omega) rfl (dt t_l20 1 rfl) (dt t_l20 2 rfl) (dt t_l20 3 rfl) (dt t_l20 4 rfl) (dt t_l20 5 rfl) ?_
  refine LW_arg h (i := i) 2 hL (by omega) rfl (dt t_l20 6 rfl) (dt t_l20 7 rfl) (dt t_l20 8 rfl) (dt t_l20 9 rfl) (dt t_l20 10 rfl) ?_
  refine LW_callA h v_X10_split kL_99 (c_A_split (ag xs i 1) (r32_of _) (ag xs i 2) (r32_of _) E1) rfl rfl (Nat.le_of_ble_eq_true rfl) (Nat.le_of_ble_eq_true rfl) rfl (Nat.le_of_ble_eq_true rfl) (dt t_l20 11 rfl) (fun _ => ?_)
  refine LW_aload h rfl (dt t_l20 12 rfl) ?_
  refine LW_arg h (i := i) 1 hL (by omega) rfl (dt t_l20 13 rfl) (dt t_l20 14 rfl) (dt t_l20 15 rfl) (dt t_l20 16 rfl) (dt t_l20 17 rfl) ?_
  refine LW_arg h (i := i) 2 hL (by omega) rfl (dt t_l20 18 rfl) (dt t_l20 19 rfl) (dt t_l20 20 rfl) (dt t_l20 21 rfl) (dt t_l20 22 rfl) ?_
  refine LW_callM h v_X11_split kL_102 (c_M_split (ag xs i 1) (r32_of _) (ag xs i 2) (r32_of _) E2) rfl rfl (Nat.le_of_ble_eq_true rfl) (Nat.le_of_ble_eq_true rfl) rfl (Nat.le_of_ble_eq_true rfl) (dt t_l20 23 rfl) (fun _ => ?_)
  refine LW_eq (tgt := 1329) h (dt t_l20 24 rfl) rfl ?_
  exact kk _ _ R2
def b_l21 : List (Nat × Instr × Nat) := [(849, .aload_n 1, 1), (850, .aload_n 0, 1), (851, .iload_n 3, 1), (852, .iconst 1, 1), (853, .iadd, 1), (854, .iaload, 1), (855, .invokevirtual 103, 3), (858, .aload_n 2, 1), (859, .aload_n 0, 1), (860, .iload_n 3, 1), (861, .iconst 1, 1), (862, .iadd, 1), (863, .iaload, 1), (864, .invokevirtual 106, 3), (867, .if_icmp .eq 462, 3), (870, .iconst 0, 1), (871, .ireturn, 1)]
theorem t_l21 : DT code b_l21 := DT.of (by decide +kernel)
set_option maxRecDepth 20000 in
theorem lc_21 {X : Cx} {ad2 : Nat → Nat} {b L : Nat} {xs : Nat → Int32} (h : LC X ad2 b L xs) (hL : L ≤ 3072) {i : Nat} (hi : 6 * i + 6 ≤ L) (h5 : i < 512) {σ μ : Mm} (hR : Rc i σ μ) (kk : ∀ σ2 μ2 : Mm, Rc (i + 1) σ2 μ2 → LW X ad2 1329 (lvL X ad2 b i) [] σ2 μ2) : LW X ad2 849 (lvL X ad2 b i) [] σ μ := by
  obtain ⟨v, s2, u2, E1, E2, R2⟩ := q_nearest hR h5 (ag xs i 1)
  refine LW_aload h rfl (dt t_l21 0 rfl) ?_
  refine LW_arg h (i := i) 1 hL (by omega) rfl (dt t_l21 1 rfl) (dt t_l21 2 rfl) (dt t_l21 3 rfl) (dt t_l21 4 rfl) (dt t_l21 5 rfl) ?_
  refine LW_callA h v_X10_nearest kL_103 (c_A_nearest (ag xs i 1) (r32_of _) E1) rfl rfl (Nat.le_of_ble_eq_true rfl) (Nat.le_of_ble_eq_true rfl) rfl (Nat.le_of_ble_eq_true rfl) (dt t_l21 6 rfl) (fun _ => ?_)
  refine LW_aload h rfl (dt t_l21 7 rfl) ?_
  refine LW_arg h (i := i) 1 hL (by omega) rfl (dt t_l21 8 rfl) (dt t_l21 9 rfl) (dt t_l21 10 rfl) (dt t_l21 11 rfl) (dt t_l21 12 rfl) ?_
  refine LW_callM h v_X11_nearest kL_106 (c_M_nearest (ag xs i 1) (r32_of _) E2) rfl rfl (Nat.le_of_ble_eq_true rfl) (Nat.le_of_ble_eq_true rfl) rfl (Nat.le_of_ble_eq_true rfl) (dt t_l21 13 rfl) (fun _ => ?_)
  refine LW_eq (tgt := 1329) h (dt t_l21 14 rfl) rfl ?_
  exact kk _ _ R2
def b_l22 : List (Nat × Instr × Nat) := [(872, .aload_n 1, 1), (873, .aload_n 0, 1), (874, .iload_n 3, 1), (875, .iconst 1, 1), (876, .iadd, 1), (877, .iaload, 1), (878, .aload_n 0, 1), (879, .iload_n 3, 1), (880, .iconst 2, 1), (881, .iadd, 1), (882, .iaload, 1), (883, .invokevirtual 107, 3), (886, .aload_n 2, 1), (887, .aload_n 0, 1), (888, .iload_n 3, 1), (889, .iconst 1, 1), (890, .iadd, 1), (891, .iaload, 1), (892, .aload_n 0, 1), (893, .iload_n 3, 1), (894, .iconst 2, 1), (895, .iadd, 1), (896, .iaload, 1), (897, .invokevirtual 110, 3), (900, .if_icmp .eq 429, 3), (903, .iconst 0, 1), (904, .ireturn, 1)]
theorem t_l22 : DT code b_l22 := DT.of (by decide +kernel)
set_option maxRecDepth 20000 in
theorem lc_22 {X : Cx} {ad2 : Nat → Nat} {b L : Nat} {xs : Nat → Int32} (h : LC X ad2 b L xs) (hL : L ≤ 3072) {i : Nat} (hi : 6 * i + 6 ≤ L) (h5 : i < 512) {σ μ : Mm} (hR : Rc i σ μ) (kk : ∀ σ2 μ2 : Mm, Rc (i + 1) σ2 μ2 → LW X ad2 1329 (lvL X ad2 b i) [] σ2 μ2) : LW X ad2 872 (lvL X ad2 b i) [] σ μ := by
  obtain ⟨v, s2, u2, E1, E2, R2⟩ := q_changed hR h5 (ag xs i 1) (ag xs i 2)
  refine LW_aload h rfl (dt t_l22 0 rfl) ?_
  refine LW_arg h (i := i) 1 hL (by omega) rfl (dt t_l22 1 rfl) (dt t_l22 2 rfl) (dt t_l22 3 rfl) (dt t_l22 4 rfl) (dt t_l22 5 rfl) ?_
  refine LW_arg h (i := i) 2 hL (by omega) rfl (dt t_l22 6 rfl) (dt t_l22 7 rfl) (dt t_l22 8 rfl) (dt t_l22 9 rfl) (dt t_l22 10 rfl) ?_
  refine LW_callA h v_X10_changed kL_107 (c_A_changed (ag xs i 1) (r32_of _) (ag xs i 2) (r32_of _) E1) rfl rfl (Nat.le_of_ble_eq_true rfl) (Nat.le_of_ble_eq_true rfl) rfl (Nat.le_of_ble_eq_true rfl) (dt t_l22 11 rfl) (fun _ => ?_)
  refine LW_aload h rfl (dt t_l22 12 rfl) ?_
  refine LW_arg h (i := i) 1 hL (by omega) rfl (dt t_l22 13 rfl) (dt t_l22 14 rfl) (dt t_l22 15 rfl) (dt t_l22 16 rfl) (dt t_l22 17 rfl) ?_
  refine LW_arg h (i := i) 2 hL (by omega) rfl (dt t_l22 18 rfl) (dt t_l22 19 rfl) (dt t_l22 20 rfl) (dt t_l22 21 rfl) (dt t_l22 22 rfl) ?_
  refine LW_callM h v_X11_changed kL_110 (c_M_changed (ag xs i 1) (r32_of _) (ag xs i 2) (r32_of _) E2) rfl rfl (Nat.le_of_ble_eq_true rfl) (Nat.le_of_ble_eq_true rfl) rfl (Nat.le_of_ble_eq_true rfl) (dt t_l22 23 rfl) (fun _ => ?_)
  refine LW_eq (tgt := 1329) h (dt t_l22 24 rfl) rfl ?_
  exact kk _ _ R2
def b_l23 : List (Nat × Instr × Nat) := [(905, .aload_n 1, 1), (906, .aload_n 0, 1), (907, .iload_n 3, 1), (908, .iconst 1, 1), (909, .iadd, 1), (910, .iaload, 1), (911, .aload_n 0, 1), (912, .iload_n 3, 1), (913, .iconst 2, 1), (914, .iadd, 1), (915, .iaload, 1), (916, .invokevirtual 111, 3), (919, .aload_n 2, 1), (920, .aload_n 0, 1), (921, .iload_n 3, 1), (922, .iconst 1, 1), (923, .iadd, 1), (924, .iaload, 1), (925, .aload_n 0, 1), (926, .iload_n 3, 1), (927, .iconst 2, 1), (928, .iadd, 1), (929, .iaload, 1), (930, .invokevirtual 114, 3), (933, .if_icmp .eq 396, 3), (936, .iconst 0, 1), (937, .ireturn, 1)]
theorem t_l23 : DT code b_l23 := DT.of (by decide +kernel)
set_option maxRecDepth 20000 in
theorem lc_23 {X : Cx} {ad2 : Nat → Nat} {b L : Nat} {xs : Nat → Int32} (h : LC X ad2 b L xs) (hL : L ≤ 3072) {i : Nat} (hi : 6 * i + 6 ≤ L) (h5 : i < 512) {σ μ : Mm} (hR : Rc i σ μ) (kk : ∀ σ2 μ2 : Mm, Rc (i + 1) σ2 μ2 → LW X ad2 1329 (lvL X ad2 b i) [] σ2 μ2) : LW X ad2 905 (lvL X ad2 b i) [] σ μ := by
  obtain ⟨v, s2, u2, E1, E2, R2⟩ := q_seen hR h5 (ag xs i 1) (ag xs i 2)
  refine LW_aload h rfl (dt t_l23 0 rfl) ?_
  refine LW_arg h (i := i) 1 hL (by omega) rfl (dt t_l23 1 rfl) (dt t_l23 2 rfl) (dt t_l23 3 rfl) (dt t_l23 4 rfl) (dt t_l23 5 rfl) ?_
  refine LW_arg h (i := i) 2 hL (by omega) rfl (dt t_l23 6 rfl) (dt t_l23 7 rfl) (dt t_l23 8 rfl) (dt t_l23 9 rfl) (dt t_l23 10 rfl) ?_
  refine LW_callA h v_X10_seen kL_111 (c_A_seen (ag xs i 1) (r32_of _) (ag xs i 2) (r32_of _) E1) rfl rfl (Nat.le_of_ble_eq_true rfl) (Nat.le_of_ble_eq_true rfl) rfl (Nat.le_of_ble_eq_true rfl) (dt t_l23 11 rfl) (fun _ => ?_)
  refine LW_aload h rfl (dt t_l23 12 rfl) ?_
  refine LW_arg h (i := i) 1 hL (by omega) rfl (dt t_l23 13 rfl) (dt t_l23 14 rfl) (dt t_l23 15 rfl) (dt t_l23 16 rfl) (dt t_l23 17 rfl) ?_
  refine LW_arg h (i := i) 2 hL (by omega) rfl (dt t_l23 18 rfl) (dt t_l23 19 rfl) (dt t_l23 20 rfl) (dt t_l23 21 rfl) (dt t_l23 22 rfl) ?_
  refine LW_callM h v_X11_seen kL_114 (c_M_seen (ag xs i 1) (r32_of _) (ag xs i 2) (r32_of _) E2) rfl rfl (Nat.le_of_ble_eq_true rfl) (Nat.le_of_ble_eq_true rfl) rfl (Nat.le_of_ble_eq_true rfl) (dt t_l23 23 rfl) (fun _ => ?_)
  refine LW_eq (tgt := 1329) h (dt t_l23 24 rfl) rfl ?_
  exact kk _ _ R2
def b_l24 : List (Nat × Instr × Nat) := [(938, .aload_n 1, 1), (939, .aload_n 0, 1), (940, .iload_n 3, 1), (941, .iconst 1, 1), (942, .iadd, 1), (943, .iaload, 1), (944, .aload_n 0, 1), (945, .iload_n 3, 1), (946, .iconst 2, 1), (947, .iadd, 1), (948, .iaload, 1), (949, .aload_n 0, 1), (950, .iload_n 3, 1), (951, .iconst 3, 1), (952, .iadd, 1), (953, .iaload, 1), (954, .invokevirtual 115, 3), (957, .aload_n 2, 1), (958, .aload_n 0, 1), (959, .iload_n 3, 1), (960, .iconst 1, 1), (961, .iadd, 1), (962, .iaload, 1), (963, .aload_n 0, 1), (964, .iload_n 3, 1), (965, .iconst 2, 1), (966, .iadd, 1), (967, .iaload, 1), (968, .aload_n 0, 1), (969, .iload_n 3, 1), (970, .iconst 3, 1), (971, .iadd, 1), (972, .iaload, 1), (973, .invokevirtual 119, 3), (976, .if_icmp .eq 353, 3), (979, .iconst 0, 1), (980, .ireturn, 1)]
theorem t_l24 : DT code b_l24 := DT.of (by decide +kernel)
set_option maxRecDepth 20000 in
theorem lc_24 {X : Cx} {ad2 : Nat → Nat} {b L : Nat} {xs : Nat → Int32} (h : LC X ad2 b L xs) (hL : L ≤ 3072) {i : Nat} (hi : 6 * i + 6 ≤ L) (h5 : i < 512) {σ μ : Mm} (hR : Rc i σ μ) (kk : ∀ σ2 μ2 : Mm, Rc (i + 1) σ2 μ2 → LW X ad2 1329 (lvL X ad2 b i) [] σ2 μ2) : LW X ad2 938 (lvL X ad2 b i) [] σ μ := by
  obtain ⟨v, s2, u2, E1, E2, R2⟩ := q_fits hR h5 (ag xs i 1) (ag xs i 2) (ag xs i 3)
  refine LW_aload h rfl (dt t_l24 0 rfl) ?_
  refine LW_arg h (i := i) 1 hL (by omega) rfl (dt t_l24 1 rfl) (dt t_l24 2 rfl) (dt t_l24 3 rfl) (dt t_l24 4 rfl) (dt t_l24 5 rfl) ?_
  refine LW_arg h (i := i) 2 hL (by omega) rfl (dt t_l24 6 rfl) (dt t_l24 7 rfl) (dt t_l24 8 rfl) (dt t_l24 9 rfl) (dt t_l24 10 rfl) ?_
  refine LW_arg h (i := i) 3 hL (by omega) rfl (dt t_l24 11 rfl) (dt t_l24 12 rfl) (dt t_l24 13 rfl) (dt t_l24 14 rfl) (dt t_l24 15 rfl) ?_
  refine LW_callA h v_X10_fits kL_115 (c_A_fits (ag xs i 1) (r32_of _) (ag xs i 2) (r32_of _) (ag xs i 3) (r32_of _) E1) rfl rfl (Nat.le_of_ble_eq_true rfl) (Nat.le_of_ble_eq_true rfl) rfl (Nat.le_of_ble_eq_true rfl) (dt t_l24 16 rfl) (fun _ => ?_)
  refine LW_aload h rfl (dt t_l24 17 rfl) ?_
  refine LW_arg h (i := i) 1 hL (by omega) rfl (dt t_l24 18 rfl) (dt t_l24 19 rfl) (dt t_l24 20 rfl) (dt t_l24 21 rfl) (dt t_l24 22 rfl) ?_
  refine LW_arg h (i := i) 2 hL (by omega) rfl (dt t_l24 23 rfl) (dt t_l24 24 rfl) (dt t_l24 25 rfl) (dt t_l24 26 rfl) (dt t_l24 27 rfl) ?_
  refine LW_arg h (i := i) 3 hL (by omega) rfl (dt t_l24 28 rfl) (dt t_l24 29 rfl) (dt t_l24 30 rfl) (dt t_l24 31 rfl) (dt t_l24 32 rfl) ?_
  refine LW_callM h v_X11_fits kL_119 (c_M_fits (ag xs i 1) (r32_of _) (ag xs i 2) (r32_of _) (ag xs i 3) (r32_of _) E2) rfl rfl (Nat.le_of_ble_eq_true rfl) (Nat.le_of_ble_eq_true rfl) rfl (Nat.le_of_ble_eq_true rfl) (dt t_l24 33 rfl) (fun _ => ?_)
  refine LW_eq (tgt := 1329) h (dt t_l24 34 rfl) rfl ?_
  exact kk _ _ R2
