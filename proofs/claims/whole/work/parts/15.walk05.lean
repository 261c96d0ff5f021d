def b_A_image : List (Nat × Instr × Nat) := [(0, .aload_n 0, 1), (1, .getfield 10, 3), (4, .getfield 106, 3), (7, .iconst 0, 1), (8, .aload_n 0, 1), (9, .getfield 69, 3), (12, .getfield 317, 3), (15, .iconst 0, 1), (16, .sipush 165, 3), (19, .invokestatic 318, 3), (22, .aload_n 0, 1), (23, .getfield 69, 3), (26, .getfield 324, 3), (29, .aload_n 0, 1), (30, .getfield 19, 3), (33, .invokevirtual 325, 3), (36, .aload_n 0, 1), (37, .getfield 49, 3), (40, .getfield 260, 3), (43, .iconst 0, 1), (44, .aload_n 0, 1), (45, .getfield 69, 3), (48, .getfield 329, 3), (51, .iconst 0, 1), (52, .bipush 6, 2), (54, .invokestatic 318, 3), (57, .aload_n 0, 1), (58, .getfield 49, 3), (61, .getfield 263, 3), (64, .iconst 0, 1), (65, .aload_n 0, 1), (66, .getfield 69, 3), (69, .getfield 330, 3), (72, .iconst 0, 1), (73, .bipush 6, 2), (75, .invokestatic 318, 3), (78, .aload_n 0, 1), (79, .getfield 62, 3), (82, .getfield 302, 3), (85, .iconst 0, 1), (86, .aload_n 0, 1), (87, .getfield 69, 3), (90, .getfield 331, 3), (93, .iconst 0, 1), (94, .bipush 36, 2), (96, .invokestatic 318, 3), (99, .aload_n 0, 1), (100, .getfield 69, 3), (103, .aload_n 0, 1), (104, .getfield 49, 3), (107, .getfield 255, 3), (110, .putfield 332, 3), (113, .aload_n 0, 1), (114, .getfield 69, 3), (117, .aload_n 0, 1), (118, .getfield 10, 3), (121, .getfield 81, 3), (124, .putfield 333, 3), (127, .aload_n 0, 1), (128, .getfield 69, 3), (131, .aload_n 0, 1), (132, .getfield 142, 3), (135, .putfield 335, 3), (138, .aload_n 0, 1), (139, .getfield 69, 3), (142, .aload_n 0, 1), (143, .getfield 73, 3), (146, .putfield 337, 3), (149, .aload_n 0, 1), (150, .getfield 10, 3), (153, .getfield 106, 3), (156, .bipush 40, 2), (158, .iaload, 1), (159, .ireturn, 1)]
theorem t_A_image : DT cX10_image b_A_image := DT.of (by decide +kernel)
def F_A_image  (σ : Mm) : Option (Int × Mm) :=
  bindM (stR σ 134 (cpyI (σ 3) (σ 134) 0 0 165)) fun s1 =>
  b0M (F_S_copy 135 58 s1) fun s2 =>
  bindM (stR s2 167 (cpyI (s2 122) (s2 167) 0 0 6)) fun s3 =>
  bindM (stR s3 168 (cpyI (s3 123) (s3 168) 0 0 6)) fun s4 =>
  bindM (stR s4 169 (cpyI (s4 130) (s4 169) 0 0 36)) fun s5 =>
  bindM (st2 s5 133 5 (s5 121 2)) fun s7 =>
  bindM (st2 s7 133 6 (s7 1 4)) fun s9 =>
  bindM (st2 s9 133 7 (s9 0 8)) fun s11 =>
  bindM (st2 s11 133 8 (s11 0 9)) fun s13 =>
  some (s13 3 40, s13)
set_option maxRecDepth 100000 in
set_option maxHeartbeats 4000000 in
theorem c_A_image  {σ : Mm} {a : Int} {σ2 : Mm} (hf : F_A_image  σ = some (a, σ2)) : CT yX10_image cX10_image 1 (some .int) 4 0 (fun ad => [.ref (ad 0)]) σ (r32 a) (some (.int (i32 a))) σ2 := by
  refine MetJ 0 (by decide +kernel) rfl (fun _ => Nat.le_of_ble_eq_true rfl) ?_
  intro X h hR ok
  obtain ⟨res, er⟩ : ∃ z, z = (a, σ2) := ⟨_, rfl⟩
  have hret : ∀ y : Int × Mm, some y = some res → RX X 0 (r32 (y.1)) (some (.int (i32 (y.1)))) y.2 := fun y e => by cases e; cases er; exact hR
  rw [← er] at hf
  clear er hR
  unfold F_A_image at hf
  show SW X 0 1 0 [some (.ref (xad X 0))] [] σ
  refine SW_aload_n h rfl (dt t_A_image 0 rfl) ?_
  refine gR h cf10 o0 f10_0 j0_0 lX10_10 (dt t_A_image 1 rfl) ?_
  refine gR h cf2 o1 f2_1 j1_1 lX10_106 (dt t_A_image 2 rfl) ?_
  refine SW_iconst h (dt t_A_image 3 rfl) ?_
  refine SW_aload_n h rfl (dt t_A_image 4 rfl) ?_
  refine gR h cf10 o0 f10_7 j0_7 lX10_69 (dt t_A_image 5 rfl) ?_
  refine gR h cf3 o133 f3_0 j133_0 lX10_317 (dt t_A_image 6 rfl) ?_
  refine SW_iconst h (dt t_A_image 7 rfl) ?_
  refine SW_sipush h (dt t_A_image 8 rfl) (by decide) ?_
  refine SW_copy h kX10_318 a3 a134 (by decide) (by decide) (by decide) (by decide) (by decide) (Nat.le_of_ble_eq_true rfl) (dt t_A_image 9 rfl) (SW_bm hf (fun s1 ok1 hf => ?_))
  refine SW_aload_n h rfl (dt t_A_image 10 rfl) ?_
  refine gR h cf10 o0 f10_7 j0_7 lX10_69 (dt t_A_image 11 rfl) ?_
  refine gR h cf3 o133 f3_1 j133_1 lX10_324 (dt t_A_image 12 rfl) ?_
  refine SW_aload_n h rfl (dt t_A_image 13 rfl) ?_
  refine gR h cf10 o0 f10_1 j0_1 lX10_19 (dt t_A_image 14 rfl) ?_
  obtain ⟨s2, e2, hf⟩ := b0M_of hf
  refine cVv h [.ref (xad X 58)] [] v_X8_copy kX10_325 o135 (c_S_copy 135 o135 58 o58 e2) rfl rfl (by decide) (by decide) rfl (Nat.le_of_ble_eq_true rfl) (dt t_A_image 15 rfl) (fun h2 => ?_)
  refine SW_ok (fun ok2 => ?_)
  refine SW_aload_n h rfl (dt t_A_image 16 rfl) ?_
  refine gR h cf10 o0 f10_5 j0_5 lX10_49 (dt t_A_image 17 rfl) ?_
  refine gR h cf1 o121 f1_0 j121_0 lX10_260 (dt t_A_image 18 rfl) ?_
  refine SW_iconst h (dt t_A_image 19 rfl) ?_
  refine SW_aload_n h rfl (dt t_A_image 20 rfl) ?_
  refine gR h cf10 o0 f10_7 j0_7 lX10_69 (dt t_A_image 21 rfl) ?_
  refine gR h cf3 o133 f3_2 j133_2 lX10_329 (dt t_A_image 22 rfl) ?_
  refine SW_iconst h (dt t_A_image 23 rfl) ?_
  refine SW_bipush h (dt t_A_image 24 rfl) (by decide) ?_
  refine SW_copy h kX10_318 a122 a167 (by decide) (by decide) (by decide) (by decide) (by decide) (Nat.le_of_ble_eq_true rfl) (dt t_A_image 25 rfl) (SW_bm hf (fun s3 ok3 hf => ?_))
  refine SW_aload_n h rfl (dt t_A_image 26 rfl) ?_
  refine gR h cf10 o0 f10_5 j0_5 lX10_49 (dt t_A_image 27 rfl) ?_
  refine gR h cf1 o121 f1_1 j121_1 lX10_263 (dt t_A_image 28 rfl) ?_
  refine SW_iconst h (dt t_A_image 29 rfl) ?_
  refine SW_aload_n h rfl (dt t_A_image 30 rfl) ?_
  refine gR h cf10 o0 f10_7 j0_7 lX10_69 (dt t_A_image 31 rfl) ?_
  refine gR h cf3 o133 f3_3 j133_3 lX10_330 (dt t_A_image 32 rfl) ?_
  refine SW_iconst h (dt t_A_image 33 rfl) ?_
  refine SW_bipush h (dt t_A_image 34 rfl) (by decide) ?_
  refine SW_copy h kX10_318 a123 a168 (by decide) (by decide) (by decide) (by decide) (by decide) (Nat.le_of_ble_eq_true rfl) (dt t_A_image 35 rfl) (SW_bm hf (fun s4 ok4 hf => ?_))
  refine SW_aload_n h rfl (dt t_A_image 36 rfl) ?_
  refine gR h cf10 o0 f10_6 j0_6 lX10_62 (dt t_A_image 37 rfl) ?_
  refine gR h cf0 o129 f0_0 j129_0 lX10_302 (dt t_A_image 38 rfl) ?_
  refine SW_iconst h (dt t_A_image 39 rfl) ?_
  refine SW_aload_n h rfl (dt t_A_image 40 rfl) ?_
  refine gR h cf10 o0 f10_7 j0_7 lX10_69 (dt t_A_image 41 rfl) ?_
  refine gR h cf3 o133 f3_4 j133_4 lX10_331 (dt t_A_image 42 rfl) ?_
  refine SW_iconst h (dt t_A_image 43 rfl) ?_
  refine SW_bipush h (dt t_A_image 44 rfl) (by decide) ?_
  refine SW_copy h kX10_318 a130 a169 (by decide) (by decide) (by decide) (by decide) (by decide) (Nat.le_of_ble_eq_true rfl) (dt t_A_image 45 rfl) (SW_bm hf (fun s5 ok5 hf => ?_))
  refine SW_aload_n h rfl (dt t_A_image 46 rfl) ?_
  refine gR h cf10 o0 f10_7 j0_7 lX10_69 (dt t_A_image 47 rfl) ?_
  refine SW_aload_n h rfl (dt t_A_image 48 rfl) ?_
  refine gR h cf10 o0 f10_5 j0_5 lX10_49 (dt t_A_image 49 rfl) ?_
  refine gI h cf1 o121 f1_2 lX10_255 (dt t_A_image 50 rfl) ?_
  refine pI h cf3 o133 f3_5 (okI ok5 121 2 (IsO.n3 o121)) lX10_332 (dt t_A_image 51 rfl) (SW_bm hf (fun s7 ok7 hf => ?_))
  refine SW_aload_n h rfl (dt t_A_image 52 rfl) ?_
  refine gR h cf10 o0 f10_7 j0_7 lX10_69 (dt t_A_image 53 rfl) ?_
  refine SW_aload_n h rfl (dt t_A_image 54 rfl) ?_
  refine gR h cf10 o0 f10_0 j0_0 lX10_10 (dt t_A_image 55 rfl) ?_
  refine gI h cf2 o1 f2_4 lX10_81 (dt t_A_image 56 rfl) ?_
  refine pI h cf3 o133 f3_6 (okI ok7 1 4 (IsO.n3 o1)) lX10_333 (dt t_A_image 57 rfl) (SW_bm hf (fun s9 ok9 hf => ?_))
  refine SW_aload_n h rfl (dt t_A_image 58 rfl) ?_
  refine gR h cf10 o0 f10_7 j0_7 lX10_69 (dt t_A_image 59 rfl) ?_
  refine SW_aload_n h rfl (dt t_A_image 60 rfl) ?_
  refine gI h cf10 o0 f10_8 lX10_142 (dt t_A_image 61 rfl) ?_
  refine pI h cf3 o133 f3_7 (okI ok9 0 8 (IsO.n3 o0)) lX10_335 (dt t_A_image 62 rfl) (SW_bm hf (fun s11 ok11 hf => ?_))
  refine SW_aload_n h rfl (dt t_A_image 63 rfl) ?_
  refine gR h cf10 o0 f10_7 j0_7 lX10_69 (dt t_A_image 64 rfl) ?_
  refine SW_aload_n h rfl (dt t_A_image 65 rfl) ?_
  refine gI h cf10 o0 f10_9 lX10_73 (dt t_A_image 66 rfl) ?_
  refine pI h cf3 o133 f3_8 (okI ok11 0 9 (IsO.n3 o0)) lX10_337 (dt t_A_image 67 rfl) (SW_bm hf (fun s13 ok13 hf => ?_))
  refine SW_aload_n h rfl (dt t_A_image 68 rfl) ?_
  refine gR h cf10 o0 f10_0 j0_0 lX10_10 (dt t_A_image 69 rfl) ?_
  refine gR h cf2 o1 f2_1 j1_1 lX10_106 (dt t_A_image 70 rfl) ?_
  refine SW_bipush h (dt t_A_image 71 rfl) (by decide) ?_
  refine aIk h a3 (by decide) (dt t_A_image 72 rfl) ?_
  exact SW_iret h (hret _ hf) (fun _ => (okI ok13 3 40 (IsA.n3 a3 (by decide)))) rfl (dt t_A_image 73 rfl)
def b_E_askBehind : List (Nat × Instr × Nat) := [(0, .aload_n 0, 1), (1, .getfield 31, 3), (4, .invokevirtual 117, 3), (7, .iconst 0, 1), (8, .istore_n 3, 1), (9, .iload_n 3, 1), (10, .iload_n 2, 1), (11, .if_icmp .ge 39, 3), (14, .iload_n 1, 1), (15, .iload_n 3, 1), (16, .ishr, 1), (17, .iconst 1, 1), (18, .iand, 1), (19, .iconst 1, 1), (20, .if_icmp .ne 24, 3), (23, .aload_n 0, 1), (24, .getfield 31, 3), (27, .aload_n 0, 1), (28, .getfield 31, 3), (31, .getfield 120, 3), (34, .aload_n 0, 1), (35, .getfield 18, 3), (38, .iload_n 3, 1), (39, .iaload, 1), (40, .aaload, 1), (41, .invokevirtual 124, 3), (44, .iinc 3 1, 3), (47, .goto (-38), 3), (50, .aload_n 0, 1), (51, .getfield 41, 3), (54, .invokevirtual 42, 3), (57, .iconst 0, 1), (58, .istore_n 3, 1), (59, .iload_n 3, 1), (60, .iload_n 2, 1), (61, .if_icmp .ge 51, 3), (64, .iload_n 1, 1), (65, .iload_n 3, 1), (66, .ishr, 1), (67, .iconst 1, 1), (68, .iand, 1), (69, .ifCond .ne 37, 3), (72, .aload_n 0, 1), (73, .getfield 28, 3), (76, .iload_n 1, 1), (77, .iconst 5, 1), (78, .imul, 1), (79, .iload_n 3, 1), (80, .iadd, 1), (81, .aload_n 0, 1), (82, .getfield 41, 3), (85, .aload_n 0, 1), (86, .getfield 31, 3), (89, .getfield 120, 3), (92, .aload_n 0, 1), (93, .getfield 18, 3), (96, .iload_n 3, 1), (97, .iaload, 1), (98, .aaload, 1), (99, .invokevirtual 79, 3), (102, .invokestatic 90, 3), (105, .iastore, 1), (106, .iinc 3 1, 3), (109, .goto (-50), 3), (112, .aload_n 0, 1), (113, .getfield 31, 3), (116, .invokevirtual 128, 3), (119, .return_, 1)]
theorem t_E_askBehind : DT cX7_askBehind b_E_askBehind := DT.of (by decide +kernel)
def L_E_askBehind_9 : Nat → Int → Int → Int → Mm → Option (Mm)
  | 0, _, _, _, _ => none
  | n + 1, x1, x2, x3, σ =>
    if x2 ≤ x3 then
      some σ
    else
      bindM (fun  (t2 : Mm) =>
        if r32 (x3 + 1) then
          L_E_askBehind_9 n x1 x2 (x3 + 1) t2
        else none) fun J2 =>
      if iand (ishr x1 x3) 1 = 1 then
        if 0 ≤ x3 ∧ x3 < 6 then
          if 0 ≤ σ 117 x3.toNat ∧ σ 117 x3.toNat < 12 then
            b0M (F_H_use (10 + (σ 117 x3.toNat).toNat) σ) fun s5 =>
            J2 s5
          else none
        else none
      else
        J2 σ
set_option maxRecDepth 100000 in
set_option maxHeartbeats 4000000 in
theorem l_E_askBehind_9 {X : Cx} (h : CX X 0 cX7_askBehind 4 7 none RX7) (x1 : Int) (x2 : Int) (hx1 : r32 x1) (hx2 : r32 x2) {res : Mm} (hex : ∀  (σ : Mm) (hz : some σ = some res)  (ok : okM σ), SW X 0 4 50 [some (.ref (xad X 114)), some (.int (i32 x1)), some (.int (i32 x2)), none] [] σ) : ∀ (n : Nat) (x3 : Int) (σ : Mm) (hx3 : r32 x3) (ok : okM σ) (hf : L_E_askBehind_9 n x1 x2 x3 σ = some res), SW X 0 4 9 [some (.ref (xad X 114)), some (.int (i32 x1)), some (.int (i32 x2)), some (.int (i32 x3))] [] σ := by
  intro n
  induction n with
  | zero => intro x3 σ hx3 ok hf; exact absurd hf (by simp [L_E_askBehind_9])
  | succ n ih =>
    intro x3 σ hx3 ok hf
    rw [L_E_askBehind_9] at hf
    refine SW_iload_n h rfl (dt t_E_askBehind 5 rfl) ?_
    refine SW_iload_n h rfl (dt t_E_askBehind 6 rfl) ?_
    refine SW_icmp_ge (tgt := 50) h (fun _ => hx3) (fun _ => hx2) (dt t_E_askBehind 7 rfl) rfl hf (fun hf => ?_) (fun hf => ?_)
    · exact SW_fgt [true, true, true, false] rfl (hex σ hf ok)
    · refine SW_iload_n h rfl (dt t_E_askBehind 8 rfl) ?_
      refine SW_iload_n h rfl (dt t_E_askBehind 9 rfl) ?_
      refine SW_ishr h (dt t_E_askBehind 10 rfl) ?_
      refine SW_iconst h (dt t_E_askBehind 11 rfl) ?_
      refine SW_iand h (dt t_E_askBehind 12 rfl) ?_
      refine SW_iconst h (dt t_E_askBehind 13 rfl) ?_
      refine bJ hf (fun J2 e2 hf => ?_)
      have k2 : ∀  (t2 : Mm)  (ot2 : okM t2) (hf : J2 t2 = some res), SW X 0 4 44 [some (.ref (xad X 114)), some (.int (i32 x1)), some (.int (i32 x2)), some (.int (i32 x3))] [] t2 := by
        intro t2 ot2 hf
        rw [e2] at hf
        refine SW_iinc (lv2 := [some (.ref (xad X 114)), some (.int (i32 x1)), some (.int (i32 x2)), some (.int (i32 (x3 + 1)))]) h (dt t_E_askBehind 26 rfl) rfl (by decide) rfl ?_
        refine SW_goto (tgt := 9) h (dt t_E_askBehind 27 rfl) rfl ?_
        refine SW_chk hf (fun h3 hf => ?_)
        exact SW_fgt [true, true, true, true] rfl (ih (x3 + 1) t2 h3 ot2 hf)
      refine SW_icmp_ne (tgt := 44) h (fun _ => (r_iand _ _)) (fun _ => (by decide)) (dt t_E_askBehind 14 rfl) rfl hf (fun hf => ?_) (fun hf => ?_)
      · refine SW_aload_n h rfl (dt t_E_askBehind 15 rfl) ?_
        refine gR h cf7 o114 f7_0 j114_0 lX7_31 (dt t_E_askBehind 16 rfl) ?_
        refine SW_aload_n h rfl (dt t_E_askBehind 17 rfl) ?_
        refine gR h cf7 o114 f7_0 j114_0 lX7_31 (dt t_E_askBehind 18 rfl) ?_
        refine gR h cf2 o1 f2_2 j1_2 lX7_120 (dt t_E_askBehind 19 rfl) ?_
        refine SW_aload_n h rfl (dt t_E_askBehind 20 rfl) ?_
        refine gR h cf7 o114 f7_4 j114_4 lX7_18 (dt t_E_askBehind 21 rfl) ?_
        refine SW_iload_n h rfl (dt t_E_askBehind 22 rfl) ?_
        refine aI h a117 (dt t_E_askBehind 23 rfl) hf (fun hf => ?_)
        refine aR h (by decide) a8 rfl (dt t_E_askBehind 24 rfl) hf (fun h4 hf => ?_)
        obtain ⟨s5, e5, hf⟩ := b0M_of hf
        refine cVv h [.ref (xad X (10 + (σ 117 x3.toNat).toNat))] [] v_X2_use kX7_124 o1 (c_H_use (10 + (σ 117 x3.toNat).toNat) (mk_row h4) e5) rfl rfl (by decide) (by decide) rfl (Nat.le_of_ble_eq_true rfl) (dt t_E_askBehind 25 rfl) (fun h5 => ?_)
        refine SW_ok (fun ok5 => ?_)
        exact SW_fgt [true, true, true, true] rfl (k2 s5 ok5 hf)
      · exact SW_fgt [true, true, true, true] rfl (k2 σ ok hf)
def L_E_askBehind_59 : Nat → Int → Int → Int → Mm → Option (Mm)
  | 0, _, _, _, _ => none
  | n + 1, x1, x2, x3, σ =>
    if x2 ≤ x3 then
      some σ
    else
      bindM (fun  (t8 : Mm) =>
        if r32 (x3 + 1) then
          L_E_askBehind_59 n x1 x2 (x3 + 1) t8
        else none) fun J8 =>
      if iand (ishr x1 x3) 1 = 0 then
        if 0 ≤ x3 ∧ x3 < 6 then
          if 0 ≤ σ 117 x3.toNat ∧ σ 117 x3.toNat < 12 then
            b1M (F_J_offOf (10 + (σ 117 x3.toNat).toNat) σ) fun v11 s11 =>
            if ¬ v11 = -2147483648 then
              if 0 ≤ (x1 * 5) + x3 ∧ (x1 * 5) + x3 < 160 then
                bindM (st2 s11 120 (((x1 * 5) + x3).toNat) (((v11).natAbs : Int))) fun s13 =>
                J8 s13
              else none
            else none
          else none
        else none
      else
        J8 σ
set_option maxRecDepth 100000 in
set_option maxHeartbeats 4000000 in
theorem l_E_askBehind_59 {X : Cx} (h : CX X 0 cX7_askBehind 4 7 none RX7) (x1 : Int) (x2 : Int) (hx1 : r32 x1) (hx2 : r32 x2) {res : Mm} (hex : ∀  (σ : Mm) (hz : some σ = some res)  (ok : okM σ), SW X 0 4 112 [some (.ref (xad X 114)), none, none, none] [] σ) : ∀ (n : Nat) (x3 : Int) (σ : Mm) (hx3 : r32 x3) (ok : okM σ) (hf : L_E_askBehind_59 n x1 x2 x3 σ = some res), SW X 0 4 59 [some (.ref (xad X 114)), some (.int (i32 x1)), some (.int (i32 x2)), some (.int (i32 x3))] [] σ := by
  intro n
  induction n with
  | zero => intro x3 σ hx3 ok hf; exact absurd hf (by simp [L_E_askBehind_59])
  | succ n ih =>
    intro x3 σ hx3 ok hf
    rw [L_E_askBehind_59] at hf
    refine SW_iload_n h rfl (dt t_E_askBehind 33 rfl) ?_
    refine SW_iload_n h rfl (dt t_E_askBehind 34 rfl) ?_
    refine SW_icmp_ge (tgt := 112) h (fun _ => hx3) (fun _ => hx2) (dt t_E_askBehind 35 rfl) rfl hf (fun hf => ?_) (fun hf => ?_)
    · exact SW_fgt [true, false, false, false] rfl (hex σ hf ok)
    · refine SW_iload_n h rfl (dt t_E_askBehind 36 rfl) ?_
      refine SW_iload_n h rfl (dt t_E_askBehind 37 rfl) ?_
      refine SW_ishr h (dt t_E_askBehind 38 rfl) ?_
      refine SW_iconst h (dt t_E_askBehind 39 rfl) ?_
      refine SW_iand h (dt t_E_askBehind 40 rfl) ?_
      refine bJ hf (fun J8 e8 hf => ?_)
      have k8 : ∀  (t8 : Mm)  (ot8 : okM t8) (hf : J8 t8 = some res), SW X 0 4 106 [some (.ref (xad X 114)), some (.int (i32 x1)), some (.int (i32 x2)), some (.int (i32 x3))] [] t8 := by
        intro t8 ot8 hf
        rw [e8] at hf
        refine SW_iinc (lv2 := [some (.ref (xad X 114)), some (.int (i32 x1)), some (.int (i32 x2)), some (.int (i32 (x3 + 1)))]) h (dt t_E_askBehind 62 rfl) rfl (by decide) rfl ?_
        refine SW_goto (tgt := 59) h (dt t_E_askBehind 63 rfl) rfl ?_
        refine SW_chk hf (fun h9 hf => ?_)
        exact SW_fgt [true, true, true, true] rfl (ih (x3 + 1) t8 h9 ot8 hf)
      refine SW_if_ne (tgt := 106) h (fun _ => (r_iand _ _)) (dt t_E_askBehind 41 rfl) rfl hf (fun hf => ?_) (fun hf => ?_)
      · refine SW_aload_n h rfl (dt t_E_askBehind 42 rfl) ?_
        refine gR h cf7 o114 f7_7 j114_7 lX7_28 (dt t_E_askBehind 43 rfl) ?_
        refine SW_iload_n h rfl (dt t_E_askBehind 44 rfl) ?_
        refine SW_iconst h (dt t_E_askBehind 45 rfl) ?_
        refine SW_imul h (dt t_E_askBehind 46 rfl) ?_
        refine SW_iload_n h rfl (dt t_E_askBehind 47 rfl) ?_
        refine SW_iadd h (dt t_E_askBehind 48 rfl) ?_
        refine SW_aload_n h rfl (dt t_E_askBehind 49 rfl) ?_
        refine gR h cf7 o114 f7_1 j114_1 lX7_41 (dt t_E_askBehind 50 rfl) ?_
        refine SW_aload_n h rfl (dt t_E_askBehind 51 rfl) ?_
        refine gR h cf7 o114 f7_0 j114_0 lX7_31 (dt t_E_askBehind 52 rfl) ?_
        refine gR h cf2 o1 f2_2 j1_2 lX7_120 (dt t_E_askBehind 53 rfl) ?_
        refine SW_aload_n h rfl (dt t_E_askBehind 54 rfl) ?_
        refine gR h cf7 o114 f7_4 j114_4 lX7_18 (dt t_E_askBehind 55 rfl) ?_
        refine SW_iload_n h rfl (dt t_E_askBehind 56 rfl) ?_
        refine aI h a117 (dt t_E_askBehind 57 rfl) hf (fun hf => ?_)
        refine aR h (by decide) a8 rfl (dt t_E_askBehind 58 rfl) hf (fun h10 hf => ?_)
        obtain ⟨v11, s11, e11, hf⟩ := b1M_of hf
        refine cV h [.ref (xad X (10 + (σ 117 x3.toNat).toNat))] [.int (i32 ((x1 * 5) + x3)), .ref (xad X 120)] v_X4_offOf kX7_79 o2 (c_J_offOf (10 + (σ 117 x3.toNat).toNat) (mk_row h10) e11) rfl rfl (by decide) (by decide) rfl (Nat.le_of_ble_eq_true rfl) (dt t_E_askBehind 59 rfl) (fun h11 => ?_)
        refine SW_ok (fun ok11 => ?_)
        refine SW_chk hf (fun h12 hf => ?_)
        refine SW_abs h kX7_90 h11 h12 (Nat.le_of_ble_eq_true rfl) (dt t_E_askBehind 60 rfl) ?_
        refine sI h a120 (r_abs h11 h12) (dt t_E_askBehind 61 rfl) hf (fun hf => SW_bm hf (fun s13 ok13 hf => ?_))
        exact SW_fgt [true, true, true, true] rfl (k8 s13 ok13 hf)
      · exact SW_fgt [true, true, true, true] rfl (k8 σ ok hf)
def F_E_askBehind (x1 : Int) (x2 : Int) (σ : Mm) : Option (Mm) :=
  b0M (F_H_save  σ) fun s1 =>
  b0M (L_E_askBehind_9 LF x1 x2 0 s1) fun s6 =>
  b0M (F_J_fresh  s6) fun s7 =>
  b0M (L_E_askBehind_59 LF x1 x2 0 s7) fun s14 =>
  b0M (F_H_restore  s14) fun s15 =>
  some s15
set_option maxRecDepth 100000 in
set_option maxHeartbeats 4000000 in
theorem c_E_askBehind (x1 : Int) (hx1 : r32 x1) (x2 : Int) (hx2 : r32 x2) {σ : Mm} {σ2 : Mm} (hf : F_E_askBehind x1 x2 σ = some σ2) : CT yX7_askBehind cX7_askBehind 4 none 7 0 (fun ad => [.ref (ad 114), .int (i32 x1), .int (i32 x2)]) σ True none σ2 := by
  refine MetJ 1 (by decide +kernel) rfl (fun _ => Nat.le_of_ble_eq_true rfl) ?_
  intro X h hR ok
  obtain ⟨res, er⟩ : ∃ z, z = σ2 := ⟨_, rfl⟩
  have hret : ∀ y : Mm, some y = some res → RX X 0 True none y := fun y e => by cases e; cases er; exact hR
  rw [← er] at hf
  clear er hR
  unfold F_E_askBehind at hf
  show SW X 0 4 0 [some (.ref (xad X 114)), some (.int (i32 x1)), some (.int (i32 x2)), none] [] σ
  refine SW_aload_n h rfl (dt t_E_askBehind 0 rfl) ?_
  refine gR h cf7 o114 f7_0 j114_0 lX7_31 (dt t_E_askBehind 1 rfl) ?_
  obtain ⟨s1, e1, hf⟩ := b0M_of hf
  refine cVv h [] [] v_X2_save kX7_117 o1 (c_H_save  e1) rfl rfl (by decide) (by decide) rfl (Nat.le_of_ble_eq_true rfl) (dt t_E_askBehind 2 rfl) (fun h1 => ?_)
  refine SW_ok (fun ok1 => ?_)
  refine SW_iconst h (dt t_E_askBehind 3 rfl) ?_
  refine SW_istore_n (lv2 := [some (.ref (xad X 114)), some (.int (i32 x1)), some (.int (i32 x2)), some (.int (i32 0))]) h (dt t_E_askBehind 4 rfl) (by decide) rfl ?_
  obtain ⟨z6, e6, hk6⟩ := b0M_ex hf
  refine SW_fgt [true, true, true, true] rfl (l_E_askBehind_9 h x1 x2 hx1 hx2 (fun s6 hz6 ok6 => ?_) LF 0 s1 (by decide) ok1 e6)
  have hf := hk6 s6 hz6
  refine SW_aload_n h rfl (dt t_E_askBehind 28 rfl) ?_
  refine gR h cf7 o114 f7_1 j114_1 lX7_41 (dt t_E_askBehind 29 rfl) ?_
  obtain ⟨s7, e7, hf⟩ := b0M_of hf
  refine cVv h [] [] v_X4_fresh kX7_42 o2 (c_J_fresh  e7) rfl rfl (by decide) (by decide) rfl (Nat.le_of_ble_eq_true rfl) (dt t_E_askBehind 30 rfl) (fun h7 => ?_)
  refine SW_ok (fun ok7 => ?_)
  refine SW_iconst h (dt t_E_askBehind 31 rfl) ?_
  refine SW_istore_n (lv2 := [some (.ref (xad X 114)), some (.int (i32 x1)), some (.int (i32 x2)), some (.int (i32 0))]) h (dt t_E_askBehind 32 rfl) (by decide) rfl ?_
  obtain ⟨z14, e14, hk14⟩ := b0M_ex hf
  refine SW_fgt [true, true, true, true] rfl (l_E_askBehind_59 h x1 x2 hx1 hx2 (fun s14 hz14 ok14 => ?_) LF 0 s7 (by decide) ok7 e14)
  have hf := hk14 s14 hz14
  refine SW_aload_n h rfl (dt t_E_askBehind 64 rfl) ?_
  refine gR h cf7 o114 f7_0 j114_0 lX7_31 (dt t_E_askBehind 65 rfl) ?_
  obtain ⟨s15, e15, hf⟩ := b0M_of hf
  refine cVv h [] [] v_X2_restore kX7_128 o1 (c_H_restore  e15) rfl rfl (by decide) (by decide) rfl (Nat.le_of_ble_eq_true rfl) (dt t_E_askBehind 66 rfl) (fun h15 => ?_)
  refine SW_ok (fun ok15 => ?_)
  exact SW_vret h (hret _ hf) rfl (dt t_E_askBehind 67 rfl)
def b_E_rowAt : List (Nat × Instr × Nat) := [(0, .iconst 0, 1), (1, .istore_n 3, 1), (2, .iconst (-1), 1), (3, .istore 4, 2), (5, .iconst 0, 1), (6, .istore 5, 2), (8, .iload 5, 2), (10, .iload_n 1, 1), (11, .if_icmp .gt 102, 3), (14, .iconst (-1), 1), (15, .istore 6, 2), (17, .iconst 0, 1), (18, .istore 7, 2), (20, .iload 7, 2), (22, .iload_n 2, 1), (23, .if_icmp .ge 60, 3), (26, .iload 6, 2), (28, .iconst (-1), 1), (29, .if_icmp .ne 54, 3), (32, .iload_n 3, 1), (33, .iload 7, 2), (35, .ishr, 1), (36, .iconst 1, 1), (37, .iand, 1), (38, .ifCond .ne 39, 3), (41, .aload_n 0, 1), (42, .getfield 28, 3), (45, .iload_n 3, 1), (46, .iconst 5, 1), (47, .imul, 1), (48, .iload 7, 2), (50, .iadd, 1), (51, .iaload, 1), (52, .aload_n 0, 1), (53, .getfield 25, 3), (56, .iload_n 3, 1), (57, .iconst 1, 1), (58, .iload 7, 2), (60, .ishl, 1), (61, .ior, 1), (62, .iaload, 1), (63, .iadd, 1), (64, .aload_n 0, 1), (65, .getfield 25, 3), (68, .iload_n 3, 1), (69, .iaload, 1), (70, .if_icmp .ne 7, 3), (73, .iload 7, 2), (75, .istore 6, 2), (77, .iinc 7 1, 3), (80, .goto (-60), 3), (83, .iload 6, 2), (85, .iconst (-1), 1), (86, .if_icmp .ne 5, 3), (89, .iconst (-1), 1), (90, .ireturn, 1), (91, .aload_n 0, 1), (92, .getfield 18, 3), (95, .iload 6, 2), (97, .iaload, 1), (98, .istore 4, 2), (100, .iload_n 3, 1), (101, .iconst 1, 1), (102, .iload 6, 2), (104, .ishl, 1), (105, .ior, 1), (106, .istore_n 3, 1), (107, .iinc 5 1, 3), (110, .goto (-102), 3), (113, .iload 4, 2), (115, .ireturn, 1)]
theorem t_E_rowAt : DT cX7_rowAt b_E_rowAt := DT.of (by decide +kernel)
def L_E_rowAt_20 : Nat → Int → Int → Int → Int → Mm → Option (Int)
  | 0, _, _, _, _, _ => none
  | n + 1, x2, x3, x6, x7, σ =>
    if x2 ≤ x7 then
      some x6
    else
      if x6 = (-1) then
        bindM (fun (x6_1 : Int) =>
          if r32 (x7 + 1) then
            L_E_rowAt_20 n x2 x3 x6_1 (x7 + 1) σ
          else none) fun J1 =>
        if iand (ishr x3 x7) 1 = 0 then
          if 0 ≤ (x3 * 5) + x7 ∧ (x3 * 5) + x7 < 160 then
            if 0 ≤ ior x3 (ishl 1 x7) ∧ ior x3 (ishl 1 x7) < 32 then
              if 0 ≤ x3 ∧ x3 < 32 then
                if r32 ((σ 120 (((x3 * 5) + x7).toNat)) + (σ 119 ((ior x3 (ishl 1 x7)).toNat))) then
                  if (σ 120 (((x3 * 5) + x7).toNat)) + (σ 119 ((ior x3 (ishl 1 x7)).toNat)) = σ 119 x3.toNat then
                    J1 x7
                  else
                    J1 x6
                else none
              else none
            else none
          else none
        else
          J1 x6
      else
        some x6
set_option maxRecDepth 100000 in
set_option maxHeartbeats 4000000 in
theorem l_E_rowAt_20 {X : Cx} (h : CX X 0 cX7_rowAt 8 0 (some .int) RX7) (x1 : Int) (x2 : Int) (x3 : Int) (x5 : Int) (σ : Mm) (hx1 : r32 x1) (hx2 : r32 x2) (hx3 : r32 x3) (hx5 : r32 x5) (ok : okM σ) {res : Int} (hex : ∀ (x6 : Int) (hz : some x6 = some res) (hx6 : r32 x6), SW X 0 8 83 [some (.ref (xad X 114)), some (.int (i32 x1)), some (.int (i32 x2)), some (.int (i32 x3)), none, some (.int (i32 x5)), some (.int (i32 x6)), none] [] σ) : ∀ (n : Nat) (x6 : Int) (x7 : Int) (hx6 : r32 x6) (hx7 : r32 x7) (hf : L_E_rowAt_20 n x2 x3 x6 x7 σ = some res), SW X 0 8 20 [some (.ref (xad X 114)), some (.int (i32 x1)), some (.int (i32 x2)), some (.int (i32 x3)), none, some (.int (i32 x5)), some (.int (i32 x6)), some (.int (i32 x7))] [] σ := by
  intro n
  induction n with
  | zero => intro x6 x7 hx6 hx7 hf; exact absurd hf (by simp [L_E_rowAt_20])
  | succ n ih =>
    intro x6 x7 hx6 hx7 hf
    rw [L_E_rowAt_20] at hf
    refine SW_iload h rfl (dt t_E_rowAt 13 rfl) ?_
    refine SW_iload_n h rfl (dt t_E_rowAt 14 rfl) ?_
    refine SW_icmp_ge (tgt := 83) h (fun _ => hx7) (fun _ => hx2) (dt t_E_rowAt 15 rfl) rfl hf (fun hf => ?_) (fun hf => ?_)
    · exact SW_fgt [true, true, true, true, false, true, true, false] rfl (hex x6 hf hx6)
    · refine SW_iload h rfl (dt t_E_rowAt 16 rfl) ?_
      refine SW_iconst h (dt t_E_rowAt 17 rfl) ?_
      refine SW_icmp_ne (tgt := 83) h (fun _ => hx6) (fun _ => (by decide)) (dt t_E_rowAt 18 rfl) rfl hf (fun hf => ?_) (fun hf => ?_)
      · refine SW_iload_n h rfl (dt t_E_rowAt 19 rfl) ?_
        refine SW_iload h rfl (dt t_E_rowAt 20 rfl) ?_
        refine SW_ishr h (dt t_E_rowAt 21 rfl) ?_
        refine SW_iconst h (dt t_E_rowAt 22 rfl) ?_
        refine SW_iand h (dt t_E_rowAt 23 rfl) ?_
        refine bJ hf (fun J1 e1 hf => ?_)
        have k1 : ∀ (x6_1 : Int) (hx6_1 : r32 x6_1) (hf : J1 x6_1 = some res), SW X 0 8 77 [some (.ref (xad X 114)), some (.int (i32 x1)), some (.int (i32 x2)), some (.int (i32 x3)), none, some (.int (i32 x5)), some (.int (i32 x6_1)), some (.int (i32 x7))] [] σ := by
          intro x6_1 hx6_1 hf
          rw [e1] at hf
          refine SW_iinc (lv2 := [some (.ref (xad X 114)), some (.int (i32 x1)), some (.int (i32 x2)), some (.int (i32 x3)), none, some (.int (i32 x5)), some (.int (i32 x6_1)), some (.int (i32 (x7 + 1)))]) h (dt t_E_rowAt 49 rfl) rfl (by decide) rfl ?_
          refine SW_goto (tgt := 20) h (dt t_E_rowAt 50 rfl) rfl ?_
          refine SW_chk hf (fun h2 hf => ?_)
          exact SW_fgt [true, true, true, true, false, true, true, true] rfl (ih x6_1 (x7 + 1) hx6_1 h2 hf)
        refine SW_if_ne (tgt := 77) h (fun _ => (r_iand _ _)) (dt t_E_rowAt 24 rfl) rfl hf (fun hf => ?_) (fun hf => ?_)
        · refine SW_aload_n h rfl (dt t_E_rowAt 25 rfl) ?_
          refine gR h cf7 o114 f7_7 j114_7 lX7_28 (dt t_E_rowAt 26 rfl) ?_
          refine SW_iload_n h rfl (dt t_E_rowAt 27 rfl) ?_
          refine SW_iconst h (dt t_E_rowAt 28 rfl) ?_
          refine SW_imul h (dt t_E_rowAt 29 rfl) ?_
          refine SW_iload h rfl (dt t_E_rowAt 30 rfl) ?_
          refine SW_iadd h (dt t_E_rowAt 31 rfl) ?_
          refine aI h a120 (dt t_E_rowAt 32 rfl) hf (fun hf => ?_)
          refine SW_aload_n h rfl (dt t_E_rowAt 33 rfl) ?_
          refine gR h cf7 o114 f7_6 j114_6 lX7_25 (dt t_E_rowAt 34 rfl) ?_
          refine SW_iload_n h rfl (dt t_E_rowAt 35 rfl) ?_
          refine SW_iconst h (dt t_E_rowAt 36 rfl) ?_
          refine SW_iload h rfl (dt t_E_rowAt 37 rfl) ?_
          refine SW_ishl h (dt t_E_rowAt 38 rfl) ?_
          refine SW_ior h (dt t_E_rowAt 39 rfl) ?_
          refine aI h a119 (dt t_E_rowAt 40 rfl) hf (fun hf => ?_)
          refine SW_iadd h (dt t_E_rowAt 41 rfl) ?_
          refine SW_aload_n h rfl (dt t_E_rowAt 42 rfl) ?_
          refine gR h cf7 o114 f7_6 j114_6 lX7_25 (dt t_E_rowAt 43 rfl) ?_
          refine SW_iload_n h rfl (dt t_E_rowAt 44 rfl) ?_
          refine aI h a119 (dt t_E_rowAt 45 rfl) hf (fun hf => ?_)
          refine SW_chk hf (fun h3 hf => ?_)
          refine SW_icmp_ne (tgt := 77) h (fun _ => h3) (fun _ => (okI ok 119 x3.toNat (IsA.n3 a119 (by decide)))) (dt t_E_rowAt 46 rfl) rfl hf (fun hf => ?_) (fun hf => ?_)
          · refine SW_iload h rfl (dt t_E_rowAt 47 rfl) ?_
            refine SW_istore (lv2 := [some (.ref (xad X 114)), some (.int (i32 x1)), some (.int (i32 x2)), some (.int (i32 x3)), none, some (.int (i32 x5)), some (.int (i32 x7)), some (.int (i32 x7))]) h (dt t_E_rowAt 48 rfl) (by decide) rfl ?_
            exact SW_fgt [true, true, true, true, false, true, true, true] rfl (k1 x7 hx7 hf)
          · exact SW_fgt [true, true, true, true, false, true, true, true] rfl (k1 x6 hx6 hf)
        · exact SW_fgt [true, true, true, true, false, true, true, true] rfl (k1 x6 hx6 hf)
      · exact SW_fgt [true, true, true, true, false, true, true, false] rfl (hex x6 hf hx6)
def L_E_rowAt_8 : Nat → Int → Int → Int → Int → Int → Mm → Option ((Int) ⊕ (Int))
  | 0, _, _, _, _, _, _ => none
  | n + 1, x1, x2, x3, x4, x5, σ =>
    if x1 < x5 then
      some (.inr x4)
    else
      b1 (L_E_rowAt_20 LF x2 x3 ((-1)) 0 σ) fun x6_4 =>
      if x6_4 = (-1) then
        some (.inl ((-1)))
      else
        if 0 ≤ x6_4 ∧ x6_4 < 6 then
          bindM (σ 117 x6_4.toNat) fun v5 =>
          bindM (ior x3 (ishl 1 x6_4)) fun v6 =>
          if r32 (x5 + 1) then
            L_E_rowAt_8 n x1 x2 v6 v5 (x5 + 1) σ
          else none
        else none
set_option maxRecDepth 100000 in
set_option maxHeartbeats 4000000 in
theorem l_E_rowAt_8 {X : Cx} (h : CX X 0 cX7_rowAt 8 0 (some .int) RX7) (x1 : Int) (x2 : Int) (σ : Mm) (hx1 : r32 x1) (hx2 : r32 x2) (ok : okM σ) {res : (Int) ⊕ (Int)} (hret : ∀ y : Int, some (.inl y) = some res → RX X 0 (r32 (y)) (some (.int (i32 (y)))) σ) (hex : ∀ (x4 : Int) (hz : some (.inr x4) = some res) (hx4 : r32 x4), SW X 0 8 113 [none, none, none, none, some (.int (i32 x4)), none, none, none] [] σ) : ∀ (n : Nat) (x3 : Int) (x4 : Int) (x5 : Int) (hx3 : r32 x3) (hx4 : r32 x4) (hx5 : r32 x5) (hf : L_E_rowAt_8 n x1 x2 x3 x4 x5 σ = some res), SW X 0 8 8 [some (.ref (xad X 114)), some (.int (i32 x1)), some (.int (i32 x2)), some (.int (i32 x3)), some (.int (i32 x4)), some (.int (i32 x5)), none, none] [] σ := by
  intro n
  induction n with
  | zero => intro x3 x4 x5 hx3 hx4 hx5 hf; exact absurd hf (by simp [L_E_rowAt_8])
  | succ n ih =>
    intro x3 x4 x5 hx3 hx4 hx5 hf
    rw [L_E_rowAt_8] at hf
    refine SW_iload h rfl (dt t_E_rowAt 6 rfl) ?_
    refine SW_iload_n h rfl (dt t_E_rowAt 7 rfl) ?_
    refine SW_icmp_gt (tgt := 113) h (fun _ => hx5) (fun _ => hx1) (dt t_E_rowAt 8 rfl) rfl hf (fun hf => ?_) (fun hf => ?_)
    · exact SW_fgt [false, false, false, false, true, false, false, false] rfl (hex x4 hf hx4)
    · refine SW_iconst h (dt t_E_rowAt 9 rfl) ?_
      refine SW_istore (lv2 := [some (.ref (xad X 114)), some (.int (i32 x1)), some (.int (i32 x2)), some (.int (i32 x3)), some (.int (i32 x4)), some (.int (i32 x5)), some (.int (i32 ((-1)))), none]) h (dt t_E_rowAt 10 rfl) (by decide) rfl ?_
      refine SW_iconst h (dt t_E_rowAt 11 rfl) ?_
      refine SW_istore (lv2 := [some (.ref (xad X 114)), some (.int (i32 x1)), some (.int (i32 x2)), some (.int (i32 x3)), some (.int (i32 x4)), some (.int (i32 x5)), some (.int (i32 ((-1)))), some (.int (i32 0))]) h (dt t_E_rowAt 12 rfl) (by decide) rfl ?_
      obtain ⟨z4, e4, hk4⟩ := b1_ex hf
      refine SW_fgt [true, true, true, true, false, true, true, true] rfl (l_E_rowAt_20 h x1 x2 x3 x5 σ hx1 hx2 hx3 hx5 ok (fun x6_4 hz4 hx6_4 => ?_) LF ((-1)) 0 (by decide) (by decide) e4)
      have hf := hk4 x6_4 hz4
      refine SW_iload h rfl (dt t_E_rowAt 51 rfl) ?_
      refine SW_iconst h (dt t_E_rowAt 52 rfl) ?_
      refine SW_icmp_ne (tgt := 91) h (fun _ => hx6_4) (fun _ => (by decide)) (dt t_E_rowAt 53 rfl) rfl hf (fun hf => ?_) (fun hf => ?_)
      · refine SW_iconst h (dt t_E_rowAt 54 rfl) ?_
        exact SW_iret h (hret _ hf) (fun _ => (by decide)) rfl (dt t_E_rowAt 55 rfl)
      · refine SW_aload_n h rfl (dt t_E_rowAt 56 rfl) ?_
        refine gR h cf7 o114 f7_4 j114_4 lX7_18 (dt t_E_rowAt 57 rfl) ?_
        refine SW_iload h rfl (dt t_E_rowAt 58 rfl) ?_
        refine aI h a117 (dt t_E_rowAt 59 rfl) hf (fun hf => ?_)
        refine SW_vi hf (okI ok 117 x6_4.toNat (IsA.n3 a117 (by decide))) (fun v5 h5 hf => ?_)
        refine SW_istore (lv2 := [some (.ref (xad X 114)), some (.int (i32 x1)), some (.int (i32 x2)), some (.int (i32 x3)), some (.int (i32 v5)), some (.int (i32 x5)), some (.int (i32 x6_4)), none]) h (dt t_E_rowAt 60 rfl) (by decide) rfl ?_
        refine SW_iload_n h rfl (dt t_E_rowAt 61 rfl) ?_
        refine SW_iconst h (dt t_E_rowAt 62 rfl) ?_
        refine SW_iload h rfl (dt t_E_rowAt 63 rfl) ?_
        refine SW_ishl h (dt t_E_rowAt 64 rfl) ?_
        refine SW_ior h (dt t_E_rowAt 65 rfl) ?_
        refine SW_vi hf (r_ior _ _) (fun v6 h6 hf => ?_)
        refine SW_istore_n (lv2 := [some (.ref (xad X 114)), some (.int (i32 x1)), some (.int (i32 x2)), some (.int (i32 v6)), some (.int (i32 v5)), some (.int (i32 x5)), some (.int (i32 x6_4)), none]) h (dt t_E_rowAt 66 rfl) (by decide) rfl ?_
        refine SW_iinc (lv2 := [some (.ref (xad X 114)), some (.int (i32 x1)), some (.int (i32 x2)), some (.int (i32 v6)), some (.int (i32 v5)), some (.int (i32 (x5 + 1))), some (.int (i32 x6_4)), none]) h (dt t_E_rowAt 67 rfl) rfl (by decide) rfl ?_
        refine SW_goto (tgt := 8) h (dt t_E_rowAt 68 rfl) rfl ?_
        refine SW_chk hf (fun h7 hf => ?_)
        exact SW_fgt [true, true, true, true, true, true, false, false] rfl (ih v6 v5 (x5 + 1) h6 h5 h7 hf)
def F_E_rowAt (x1 : Int) (x2 : Int) (σ : Mm) : Option (Int) :=
  b1S (L_E_rowAt_8 LF x1 x2 0 ((-1)) 0 σ) (fun y => some y) fun x4_8 =>
  some x4_8
set_option maxRecDepth 100000 in
set_option maxHeartbeats 4000000 in
theorem c_E_rowAt (x1 : Int) (hx1 : r32 x1) (x2 : Int) (hx2 : r32 x2) {σ : Mm} {a : Int} (hf : F_E_rowAt x1 x2 σ = some a) : CT yX7_rowAt cX7_rowAt 8 (some .int) 0 0 (fun ad => [.ref (ad 114), .int (i32 x1), .int (i32 x2)]) σ (r32 a) (some (.int (i32 a))) σ := by
  refine MetJ 5 (by decide +kernel) rfl (fun _ => Nat.le_of_ble_eq_true rfl) ?_
  intro X h hR ok
  obtain ⟨res, er⟩ : ∃ z, z = a := ⟨_, rfl⟩
  have hret : ∀ y : Int, some y = some res → RX X 0 (r32 (y)) (some (.int (i32 (y)))) σ := fun y e => by cases e; cases er; exact hR
  rw [← er] at hf
  clear er hR
  unfold F_E_rowAt at hf
  show SW X 0 8 0 [some (.ref (xad X 114)), some (.int (i32 x1)), some (.int (i32 x2)), none, none, none, none, none] [] σ
  refine SW_iconst h (dt t_E_rowAt 0 rfl) ?_
  refine SW_istore_n (lv2 := [some (.ref (xad X 114)), some (.int (i32 x1)), some (.int (i32 x2)), some (.int (i32 0)), none, none, none, none]) h (dt t_E_rowAt 1 rfl) (by decide) rfl ?_
  refine SW_iconst h (dt t_E_rowAt 2 rfl) ?_
  refine SW_istore (lv2 := [some (.ref (xad X 114)), some (.int (i32 x1)), some (.int (i32 x2)), some (.int (i32 0)), some (.int (i32 ((-1)))), none, none, none]) h (dt t_E_rowAt 3 rfl) (by decide) rfl ?_
  refine SW_iconst h (dt t_E_rowAt 4 rfl) ?_
  refine SW_istore (lv2 := [some (.ref (xad X 114)), some (.int (i32 x1)), some (.int (i32 x2)), some (.int (i32 0)), some (.int (i32 ((-1)))), some (.int (i32 0)), none, none]) h (dt t_E_rowAt 5 rfl) (by decide) rfl ?_
  obtain ⟨z8, e8, g8, hk8⟩ := b1S_of hf
  refine SW_fgt [true, true, true, true, true, true, false, false] rfl (l_E_rowAt_8 h x1 x2 σ hx1 hx2 ok (fun y e => hret y (g8 y (Option.some.inj e).symm)) (fun x4_8 hz8 hx4_8 => ?_) LF 0 ((-1)) 0 (by decide) (by decide) (by decide) e8)
  have hf := hk8 x4_8 (Option.some.inj hz8).symm
  refine SW_iload h rfl (dt t_E_rowAt 69 rfl) ?_
  exact SW_iret h (hret _ hf) (fun _ => hx4_8) rfl (dt t_E_rowAt 70 rfl)
def b_E_bestLedger : List (Nat × Instr × Nat) := [(0, .aload_n 0, 1), (1, .iload_n 1, 1), (2, .bipush 12, 2), (4, .invokevirtual 99, 3), (7, .istore_n 3, 1), (8, .iload_n 3, 1), (9, .iconst 5, 1), (10, .if_icmp .le 5, 3), (13, .iconst (-1), 1), (14, .ireturn, 1), (15, .iconst 1, 1), (16, .iload_n 3, 1), (17, .ishl, 1), (18, .iconst 1, 1), (19, .isub, 1), (20, .istore 4, 2), (22, .aload_n 0, 1), (23, .getfield 25, 3), (26, .iload 4, 2), (28, .iconst 0, 1), (29, .iastore, 1), (30, .iload 4, 2), (32, .iconst 1, 1), (33, .isub, 1), (34, .istore 5, 2), (36, .iload 5, 2), (38, .ifCond .lt 92, 3), (41, .aload_n 0, 1), (42, .iload 5, 2), (44, .iload_n 3, 1), (45, .invokevirtual 106, 3), (48, .aload_n 0, 1), (49, .getfield 25, 3), (52, .iload 5, 2), (54, .ldc 110, 2), (56, .iastore, 1), (57, .iconst 0, 1), (58, .istore 6, 2), (60, .iload 6, 2), (62, .iload_n 3, 1), (63, .if_icmp .ge 61, 3), (66, .iload 5, 2), (68, .iload 6, 2), (70, .ishr, 1), (71, .iconst 1, 1), (72, .iand, 1), (73, .ifCond .ne 45, 3), (76, .aload_n 0, 1), (77, .getfield 25, 3), (80, .iload 5, 2), (82, .aload_n 0, 1), (83, .getfield 25, 3), (86, .iload 5, 2), (88, .iaload, 1), (89, .aload_n 0, 1), (90, .getfield 28, 3), (93, .iload 5, 2), (95, .iconst 5, 1), (96, .imul, 1), (97, .iload 6, 2), (99, .iadd, 1), (100, .iaload, 1), (101, .aload_n 0, 1), (102, .getfield 25, 3), (105, .iload 5, 2), (107, .iconst 1, 1), (108, .iload 6, 2), (110, .ishl, 1), (111, .ior, 1), (112, .iaload, 1), (113, .iadd, 1), (114, .invokestatic 111, 3), (117, .iastore, 1), (118, .iinc 6 1, 3), (121, .goto (-61), 3), (124, .iinc 5 (-1), 3), (127, .goto (-91), 3), (130, .iload_n 2, 1), (131, .iconst (-1), 1), (132, .if_icmp .ne 12, 3), (135, .aload_n 0, 1), (136, .getfield 25, 3), (139, .iconst 0, 1), (140, .iaload, 1), (141, .goto 9, 3), (144, .aload_n 0, 1), (145, .iload_n 2, 1), (146, .iload_n 3, 1), (147, .invokevirtual 114, 3), (150, .ireturn, 1)]
theorem t_E_bestLedger : DT cX7_bestLedger b_E_bestLedger := DT.of (by decide +kernel)
def L_E_bestLedger_60 : Nat → Int → Int → Int → Mm → Option (Mm)
  | 0, _, _, _, _ => none
  | n + 1, x3, x5, x6, σ =>
    if x3 ≤ x6 then
      some σ
    else
      bindM (fun  (t6 : Mm) =>
        if r32 (x6 + 1) then
          L_E_bestLedger_60 n x3 x5 (x6 + 1) t6
        else none) fun J6 =>
      if iand (ishr x5 x6) 1 = 0 then
        if 0 ≤ x5 ∧ x5 < 32 then
          if 0 ≤ (x5 * 5) + x6 ∧ (x5 * 5) + x6 < 160 then
            if 0 ≤ ior x5 (ishl 1 x6) ∧ ior x5 (ishl 1 x6) < 32 then
              if r32 ((σ 120 (((x5 * 5) + x6).toNat)) + (σ 119 ((ior x5 (ishl 1 x6)).toNat))) then
                if 0 ≤ x5 ∧ x5 < 32 then
                  bindM (st2 σ 119 x5.toNat (min (σ 119 x5.toNat) ((σ 120 (((x5 * 5) + x6).toNat)) + (σ 119 ((ior x5 (ishl 1 x6)).toNat))))) fun s10 =>
                  J6 s10
                else none
              else none
            else none
          else none
        else none
      else
        J6 σ
set_option maxRecDepth 100000 in
set_option maxHeartbeats 4000000 in
theorem l_E_bestLedger_60 {X : Cx} (h : CX X 0 cX7_bestLedger 7 8 (some .int) RX7) (x2 : Int) (x3 : Int) (x5 : Int) (hx2 : r32 x2) (hx3 : r32 x3) (hx5 : r32 x5) {res : Mm} (hex : ∀  (σ : Mm) (hz : some σ = some res)  (ok : okM σ), SW X 0 7 124 [some (.ref (xad X 114)), none, some (.int (i32 x2)), some (.int (i32 x3)), none, some (.int (i32 x5)), none] [] σ) : ∀ (n : Nat) (x6 : Int) (σ : Mm) (hx6 : r32 x6) (ok : okM σ) (hf : L_E_bestLedger_60 n x3 x5 x6 σ = some res), SW X 0 7 60 [some (.ref (xad X 114)), none, some (.int (i32 x2)), some (.int (i32 x3)), none, some (.int (i32 x5)), some (.int (i32 x6))] [] σ := by
  intro n
  induction n with
  | zero => intro x6 σ hx6 ok hf; exact absurd hf (by simp [L_E_bestLedger_60])
  | succ n ih =>
    intro x6 σ hx6 ok hf
    rw [L_E_bestLedger_60] at hf
    refine SW_iload h rfl (dt t_E_bestLedger 38 rfl) ?_
    refine SW_iload_n h rfl (dt t_E_bestLedger 39 rfl) ?_
    refine SW_icmp_ge (tgt := 124) h (fun _ => hx6) (fun _ => hx3) (dt t_E_bestLedger 40 rfl) rfl hf (fun hf => ?_) (fun hf => ?_)
    · exact SW_fgt [true, false, true, true, false, true, false] rfl (hex σ hf ok)
    · refine SW_iload h rfl (dt t_E_bestLedger 41 rfl) ?_
      refine SW_iload h rfl (dt t_E_bestLedger 42 rfl) ?_
      refine SW_ishr h (dt t_E_bestLedger 43 rfl) ?_
      refine SW_iconst h (dt t_E_bestLedger 44 rfl) ?_
      refine SW_iand h (dt t_E_bestLedger 45 rfl) ?_
      refine bJ hf (fun J6 e6 hf => ?_)
      have k6 : ∀  (t6 : Mm)  (ot6 : okM t6) (hf : J6 t6 = some res), SW X 0 7 118 [some (.ref (xad X 114)), none, some (.int (i32 x2)), some (.int (i32 x3)), none, some (.int (i32 x5)), some (.int (i32 x6))] [] t6 := by
        intro t6 ot6 hf
        rw [e6] at hf
        refine SW_iinc (lv2 := [some (.ref (xad X 114)), none, some (.int (i32 x2)), some (.int (i32 x3)), none, some (.int (i32 x5)), some (.int (i32 (x6 + 1)))]) h (dt t_E_bestLedger 73 rfl) rfl (by decide) rfl ?_
        refine SW_goto (tgt := 60) h (dt t_E_bestLedger 74 rfl) rfl ?_
        refine SW_chk hf (fun h7 hf => ?_)
        exact SW_fgt [true, false, true, true, false, true, true] rfl (ih (x6 + 1) t6 h7 ot6 hf)
      refine SW_if_ne (tgt := 118) h (fun _ => (r_iand _ _)) (dt t_E_bestLedger 46 rfl) rfl hf (fun hf => ?_) (fun hf => ?_)
      · refine SW_aload_n h rfl (dt t_E_bestLedger 47 rfl) ?_
        refine gR h cf7 o114 f7_6 j114_6 lX7_25 (dt t_E_bestLedger 48 rfl) ?_
        refine SW_iload h rfl (dt t_E_bestLedger 49 rfl) ?_
        refine SW_aload_n h rfl (dt t_E_bestLedger 50 rfl) ?_
        refine gR h cf7 o114 f7_6 j114_6 lX7_25 (dt t_E_bestLedger 51 rfl) ?_
        refine SW_iload h rfl (dt t_E_bestLedger 52 rfl) ?_
        refine aI h a119 (dt t_E_bestLedger 53 rfl) hf (fun hf => ?_)
        refine SW_aload_n h rfl (dt t_E_bestLedger 54 rfl) ?_
        refine gR h cf7 o114 f7_7 j114_7 lX7_28 (dt t_E_bestLedger 55 rfl) ?_
        refine SW_iload h rfl (dt t_E_bestLedger 56 rfl) ?_
        refine SW_iconst h (dt t_E_bestLedger 57 rfl) ?_
        refine SW_imul h (dt t_E_bestLedger 58 rfl) ?_
        refine SW_iload h rfl (dt t_E_bestLedger 59 rfl) ?_
        refine SW_iadd h (dt t_E_bestLedger 60 rfl) ?_
        refine aI h a120 (dt t_E_bestLedger 61 rfl) hf (fun hf => ?_)
        refine SW_aload_n h rfl (dt t_E_bestLedger 62 rfl) ?_
        refine gR h cf7 o114 f7_6 j114_6 lX7_25 (dt t_E_bestLedger 63 rfl) ?_
        refine SW_iload h rfl (dt t_E_bestLedger 64 rfl) ?_
        refine SW_iconst h (dt t_E_bestLedger 65 rfl) ?_
        refine SW_iload h rfl (dt t_E_bestLedger 66 rfl) ?_
        refine SW_ishl h (dt t_E_bestLedger 67 rfl) ?_
        refine SW_ior h (dt t_E_bestLedger 68 rfl) ?_
        refine aI h a119 (dt t_E_bestLedger 69 rfl) hf (fun hf => ?_)
        refine SW_iadd h (dt t_E_bestLedger 70 rfl) ?_
        refine SW_chk hf (fun h9 hf => ?_)
        refine SW_min h kX7_111 (okI ok 119 x5.toNat (IsA.n3 a119 (by decide))) h9 (Nat.le_of_ble_eq_true rfl) (dt t_E_bestLedger 71 rfl) ?_
        refine sI h a119 (r_min (okI ok 119 x5.toNat (IsA.n3 a119 (by decide))) h9) (dt t_E_bestLedger 72 rfl) hf (fun hf => SW_bm hf (fun s10 ok10 hf => ?_))
        exact SW_fgt [true, false, true, true, false, true, true] rfl (k6 s10 ok10 hf)
      · exact SW_fgt [true, false, true, true, false, true, true] rfl (k6 σ ok hf)
def L_E_bestLedger_36 : Nat → Int → Int → Mm → Option (Mm)
  | 0, _, _, _ => none
  | n + 1, x3, x5, σ =>
    if x5 < 0 then
      some σ
    else
      b0M (F_E_askBehind x5 x3 σ) fun s4 =>
      if 0 ≤ x5 ∧ x5 < 32 then
        bindM (st2 s4 119 x5.toNat 10000000) fun s5 =>
        b0M (L_E_bestLedger_60 LF x3 x5 0 s5) fun s11 =>
        if r32 (x5 + (-1)) then
          L_E_bestLedger_36 n x3 (x5 + (-1)) s11
        else none
      else none
set_option maxRecDepth 100000 in
set_option maxHeartbeats 4000000 in
theorem l_E_bestLedger_36 {X : Cx} (h : CX X 0 cX7_bestLedger 7 8 (some .int) RX7) (x2 : Int) (x3 : Int) (hx2 : r32 x2) (hx3 : r32 x3) {res : Mm} (hex : ∀  (σ : Mm) (hz : some σ = some res)  (ok : okM σ), SW X 0 7 130 [some (.ref (xad X 114)), none, some (.int (i32 x2)), some (.int (i32 x3)), none, none, none] [] σ) : ∀ (n : Nat) (x5 : Int) (σ : Mm) (hx5 : r32 x5) (ok : okM σ) (hf : L_E_bestLedger_36 n x3 x5 σ = some res), SW X 0 7 36 [some (.ref (xad X 114)), none, some (.int (i32 x2)), some (.int (i32 x3)), none, some (.int (i32 x5)), none] [] σ := by
  intro n
  induction n with
  | zero => intro x5 σ hx5 ok hf; exact absurd hf (by simp [L_E_bestLedger_36])
  | succ n ih =>
    intro x5 σ hx5 ok hf
    rw [L_E_bestLedger_36] at hf
    refine SW_iload h rfl (dt t_E_bestLedger 25 rfl) ?_
    refine SW_if_lt (tgt := 130) h (fun _ => hx5) (dt t_E_bestLedger 26 rfl) rfl hf (fun hf => ?_) (fun hf => ?_)
    · exact SW_fgt [true, false, true, true, false, false, false] rfl (hex σ hf ok)
    · refine SW_aload_n h rfl (dt t_E_bestLedger 27 rfl) ?_
      refine SW_iload h rfl (dt t_E_bestLedger 28 rfl) ?_
      refine SW_iload_n h rfl (dt t_E_bestLedger 29 rfl) ?_
      obtain ⟨s4, e4, hf⟩ := b0M_of hf
      refine cVv h [.int (i32 x5), .int (i32 x3)] [] v_X7_askBehind kX7_106 o114 (c_E_askBehind x5 hx5 x3 hx3 e4) rfl rfl (by decide) (by decide) rfl (Nat.le_of_ble_eq_true rfl) (dt t_E_bestLedger 30 rfl) (fun h4 => ?_)
      refine SW_ok (fun ok4 => ?_)
      refine SW_aload_n h rfl (dt t_E_bestLedger 31 rfl) ?_
      refine gR h cf7 o114 f7_6 j114_6 lX7_25 (dt t_E_bestLedger 32 rfl) ?_
      refine SW_iload h rfl (dt t_E_bestLedger 33 rfl) ?_
      refine SW_ldc (n := 10000000) h nX7_110 (by decide) (dt t_E_bestLedger 34 rfl) ?_
      refine sI h a119 (by decide) (dt t_E_bestLedger 35 rfl) hf (fun hf => SW_bm hf (fun s5 ok5 hf => ?_))
      refine SW_iconst h (dt t_E_bestLedger 36 rfl) ?_
      refine SW_istore (lv2 := [some (.ref (xad X 114)), none, some (.int (i32 x2)), some (.int (i32 x3)), none, some (.int (i32 x5)), some (.int (i32 0))]) h (dt t_E_bestLedger 37 rfl) (by decide) rfl ?_
      obtain ⟨z11, e11, hk11⟩ := b0M_ex hf
      refine SW_fgt [true, false, true, true, false, true, true] rfl (l_E_bestLedger_60 h x2 x3 x5 hx2 hx3 hx5 (fun s11 hz11 ok11 => ?_) LF 0 s5 (by decide) ok5 e11)
      have hf := hk11 s11 hz11
      refine SW_iinc (lv2 := [some (.ref (xad X 114)), none, some (.int (i32 x2)), some (.int (i32 x3)), none, some (.int (i32 (x5 + (-1)))), none]) h (dt t_E_bestLedger 75 rfl) rfl (by decide) rfl ?_
      refine SW_goto (tgt := 36) h (dt t_E_bestLedger 76 rfl) rfl ?_
      refine SW_chk hf (fun h12 hf => ?_)
      exact SW_fgt [true, false, true, true, false, true, false] rfl (ih (x5 + (-1)) s11 h12 ok11 hf)
def F_E_bestLedger (x1 : Int) (x2 : Int) (σ : Mm) : Option (Int × Mm) :=
  b1M (F_E_listMembers x1 12 σ) fun v1 s1 =>
  if v1 ≤ 5 then
    bindM ((ishl 1 v1) - 1) fun v2 =>
    if 0 ≤ v2 ∧ v2 < 32 then
      bindM (st2 s1 119 v2.toNat 0) fun s3 =>
      if r32 (v2 - 1) then
        b0M (L_E_bestLedger_36 LF v1 (v2 - 1) s3) fun s13 =>
        if x2 = (-1) then
          some (s13 119 0, s13)
        else
          b1 (F_E_rowAt x2 v1 s13) fun v15 =>
          some (v15, s13)
      else none
    else none
  else
    some ((-1), s1)
set_option maxRecDepth 100000 in
set_option maxHeartbeats 4000000 in
theorem c_E_bestLedger (x1 : Int) (hx1 : r32 x1) (x2 : Int) (hx2 : r32 x2) {σ : Mm} {a : Int} {σ2 : Mm} (hf : F_E_bestLedger x1 x2 σ = some (a, σ2)) : CT yX7_bestLedger cX7_bestLedger 7 (some .int) 8 0 (fun ad => [.ref (ad 114), .int (i32 x1), .int (i32 x2)]) σ (r32 a) (some (.int (i32 a))) σ2 := by
  refine MetJ 4 (by decide +kernel) rfl (fun _ => Nat.le_of_ble_eq_true rfl) ?_
  intro X h hR ok
  obtain ⟨res, er⟩ : ∃ z, z = (a, σ2) := ⟨_, rfl⟩
  have hret : ∀ y : Int × Mm, some y = some res → RX X 0 (r32 (y.1)) (some (.int (i32 (y.1)))) y.2 := fun y e => by cases e; cases er; exact hR
  rw [← er] at hf
  clear er hR
  unfold F_E_bestLedger at hf
  show SW X 0 7 0 [some (.ref (xad X 114)), some (.int (i32 x1)), some (.int (i32 x2)), none, none, none, none] [] σ
  refine SW_aload_n h rfl (dt t_E_bestLedger 0 rfl) ?_
  refine SW_iload_n h rfl (dt t_E_bestLedger 1 rfl) ?_
  refine SW_bipush h (dt t_E_bestLedger 2 rfl) (by decide) ?_
  obtain ⟨v1, s1, e1, hf⟩ := b1M_of hf
  refine cV h [.int (i32 x1), .int (i32 12)] [] v_X7_listMembers kX7_99 o114 (c_E_listMembers x1 hx1 12 (by decide) e1) rfl rfl (by decide) (by decide) rfl (Nat.le_of_ble_eq_true rfl) (dt t_E_bestLedger 3 rfl) (fun h1 => ?_)
  refine SW_ok (fun ok1 => ?_)
  refine SW_istore_n (lv2 := [some (.ref (xad X 114)), some (.int (i32 x1)), some (.int (i32 x2)), some (.int (i32 v1)), none, none, none]) h (dt t_E_bestLedger 4 rfl) (by decide) rfl ?_
  refine SW_iload_n h rfl (dt t_E_bestLedger 5 rfl) ?_
  refine SW_iconst h (dt t_E_bestLedger 6 rfl) ?_
  refine SW_icmp_le (tgt := 15) h (fun _ => h1) (fun _ => (by decide)) (dt t_E_bestLedger 7 rfl) rfl hf (fun hf => ?_) (fun hf => ?_)
  · refine SW_iconst h (dt t_E_bestLedger 10 rfl) ?_
    refine SW_iload_n h rfl (dt t_E_bestLedger 11 rfl) ?_
    refine SW_ishl h (dt t_E_bestLedger 12 rfl) ?_
    refine SW_iconst h (dt t_E_bestLedger 13 rfl) ?_
    refine SW_isub h (dt t_E_bestLedger 14 rfl) ?_
    refine SW_vu hf (fun v2 hf => ?_)
    refine SW_istore (lv2 := [some (.ref (xad X 114)), some (.int (i32 x1)), some (.int (i32 x2)), some (.int (i32 v1)), some (.int (i32 v2)), none, none]) h (dt t_E_bestLedger 15 rfl) (by decide) rfl ?_
    refine SW_aload_n h rfl (dt t_E_bestLedger 16 rfl) ?_
    refine gR h cf7 o114 f7_6 j114_6 lX7_25 (dt t_E_bestLedger 17 rfl) ?_
    refine SW_iload h rfl (dt t_E_bestLedger 18 rfl) ?_
    refine SW_iconst h (dt t_E_bestLedger 19 rfl) ?_
    refine sI h a119 (by decide) (dt t_E_bestLedger 20 rfl) hf (fun hf => SW_bm hf (fun s3 ok3 hf => ?_))
    refine SW_iload h rfl (dt t_E_bestLedger 21 rfl) ?_
    refine SW_iconst h (dt t_E_bestLedger 22 rfl) ?_
    refine SW_isub h (dt t_E_bestLedger 23 rfl) ?_
    refine SW_istore (lv2 := [some (.ref (xad X 114)), some (.int (i32 x1)), some (.int (i32 x2)), some (.int (i32 v1)), some (.int (i32 v2)), some (.int (i32 (v2 - 1))), none]) h (dt t_E_bestLedger 24 rfl) (by decide) rfl ?_
    refine SW_chk hf (fun h14 hf => ?_)
    obtain ⟨z13, e13, hk13⟩ := b0M_ex hf
    refine SW_fgt [true, false, true, true, false, true, false] rfl (l_E_bestLedger_36 h x2 v1 hx2 h1 (fun s13 hz13 ok13 => ?_) LF (v2 - 1) s3 h14 ok3 e13)
    have hf := hk13 s13 hz13
    refine SW_iload_n h rfl (dt t_E_bestLedger 77 rfl) ?_
    refine SW_iconst h (dt t_E_bestLedger 78 rfl) ?_
    refine SW_icmp_ne (tgt := 144) h (fun _ => hx2) (fun _ => (by decide)) (dt t_E_bestLedger 79 rfl) rfl hf (fun hf => ?_) (fun hf => ?_)
    · refine SW_aload_n h rfl (dt t_E_bestLedger 80 rfl) ?_
      refine gR h cf7 o114 f7_6 j114_6 lX7_25 (dt t_E_bestLedger 81 rfl) ?_
      refine SW_iconst h (dt t_E_bestLedger 82 rfl) ?_
      refine aIk h a119 (by decide) (dt t_E_bestLedger 83 rfl) ?_
      refine SW_goto (tgt := 150) h (dt t_E_bestLedger 84 rfl) rfl ?_
      exact SW_iret h (hret _ hf) (fun _ => (okI ok13 119 0 (IsA.n3 a119 (by decide)))) rfl (dt t_E_bestLedger 89 rfl)
    · refine SW_aload_n h rfl (dt t_E_bestLedger 85 rfl) ?_
      refine SW_iload_n h rfl (dt t_E_bestLedger 86 rfl) ?_
      refine SW_iload_n h rfl (dt t_E_bestLedger 87 rfl) ?_
      obtain ⟨v15, e15, hf⟩ := b1_of hf
      refine cV h [.int (i32 x2), .int (i32 v1)] [] v_X7_rowAt kX7_114 o114 (c_E_rowAt x2 hx2 v1 h1 e15) rfl rfl (by decide) (by decide) rfl (Nat.le_of_ble_eq_true rfl) (dt t_E_bestLedger 88 rfl) (fun h15 => ?_)
      exact SW_iret h (hret _ hf) (fun _ => h15) rfl (dt t_E_bestLedger 89 rfl)
  · refine SW_iconst h (dt t_E_bestLedger 8 rfl) ?_
    exact SW_iret h (hret _ hf) (fun _ => (by decide)) rfl (dt t_E_bestLedger 9 rfl)
def b_A_ledger : List (Nat × Instr × Nat) := [(0, .iload_n 1, 1), (1, .invokestatic 278, 3), (4, .istore_n 3, 1), (5, .iload_n 1, 1), (6, .ifCond .le 31, 3), (9, .iload_n 1, 1), (10, .iconst 1, 1), (11, .aload_n 0, 1), (12, .getfield 10, 3), (15, .getfield 81, 3), (18, .ishl, 1), (19, .if_icmp .ge 18, 3), (22, .iload_n 3, 1), (23, .iconst 5, 1), (24, .if_icmp .gt 13, 3), (27, .iload_n 2, 1), (28, .iconst (-1), 1), (29, .if_icmp .lt 8, 3), (32, .iload_n 2, 1), (33, .iload_n 3, 1), (34, .if_icmp .lt 5, 3), (37, .iconst (-1), 1), (38, .ireturn, 1), (39, .aload_n 0, 1), (40, .getfield 42, 3), (43, .iload_n 1, 1), (44, .iload_n 2, 1), (45, .invokevirtual 283, 3), (48, .ireturn, 1)]
theorem t_A_ledger : DT cX10_ledger b_A_ledger := DT.of (by decide +kernel)
def F_A_ledger (x1 : Int) (x2 : Int) (σ : Mm) : Option (Int × Mm) :=
  b1 (F_K_bitCount x1) fun v1 =>
  if x1 ≤ 0 then
    some ((-1), σ)
  else
    if ishl 1 (σ 1 4) ≤ x1 then
      some ((-1), σ)
    else
      if 5 < v1 then
        some ((-1), σ)
      else
        if x2 < (-1) then
          some ((-1), σ)
        else
          if x2 < v1 then
            b1M (F_E_bestLedger x1 x2 σ) fun v2 s2 =>
            some (v2, s2)
          else
            some ((-1), σ)
set_option maxRecDepth 100000 in
set_option maxHeartbeats 4000000 in
theorem c_A_ledger (x1 : Int) (hx1 : r32 x1) (x2 : Int) (hx2 : r32 x2) {σ : Mm} {a : Int} {σ2 : Mm} (hf : F_A_ledger x1 x2 σ = some (a, σ2)) : CT yX10_ledger cX10_ledger 4 (some .int) 9 0 (fun ad => [.ref (ad 0), .int (i32 x1), .int (i32 x2)]) σ (r32 a) (some (.int (i32 a))) σ2 := by
  refine MetJ 1 (by decide +kernel) rfl (fun _ => Nat.le_of_ble_eq_true rfl) ?_
  intro X h hR ok
  obtain ⟨res, er⟩ : ∃ z, z = (a, σ2) := ⟨_, rfl⟩
  have hret : ∀ y : Int × Mm, some y = some res → RX X 0 (r32 (y.1)) (some (.int (i32 (y.1)))) y.2 := fun y e => by cases e; cases er; exact hR
  rw [← er] at hf
  clear er hR
  unfold F_A_ledger at hf
  show SW X 0 4 0 [some (.ref (xad X 0)), some (.int (i32 x1)), some (.int (i32 x2)), none] [] σ
  refine SW_iload_n h rfl (dt t_A_ledger 0 rfl) ?_
  obtain ⟨v1, e1, hf⟩ := b1_of hf
  refine cS h [.int (i32 x1)] [] v_J6_bitCount_0f7a4 kX10_278 (c_K_bitCount x1 hx1 e1) rfl rfl (by decide) (by decide) rfl (Nat.le_of_ble_eq_true rfl) (dt t_A_ledger 1 rfl) (fun h1 => ?_)
  refine SW_istore_n (lv2 := [some (.ref (xad X 0)), some (.int (i32 x1)), some (.int (i32 x2)), some (.int (i32 v1))]) h (dt t_A_ledger 2 rfl) (by decide) rfl ?_
  refine SW_iload_n h rfl (dt t_A_ledger 3 rfl) ?_
  refine SW_if_le (tgt := 37) h (fun _ => hx1) (dt t_A_ledger 4 rfl) rfl hf (fun hf => ?_) (fun hf => ?_)
  · refine SW_iconst h (dt t_A_ledger 21 rfl) ?_
    exact SW_iret h (hret _ hf) (fun _ => (by decide)) rfl (dt t_A_ledger 22 rfl)
  · refine SW_iload_n h rfl (dt t_A_ledger 5 rfl) ?_
    refine SW_iconst h (dt t_A_ledger 6 rfl) ?_
    refine SW_aload_n h rfl (dt t_A_ledger 7 rfl) ?_
    refine gR h cf10 o0 f10_0 j0_0 lX10_10 (dt t_A_ledger 8 rfl) ?_
    refine gI h cf2 o1 f2_4 lX10_81 (dt t_A_ledger 9 rfl) ?_
    refine SW_ishl h (dt t_A_ledger 10 rfl) ?_
    refine SW_icmp_ge (tgt := 37) h (fun _ => hx1) (fun _ => (r_ishl _ _)) (dt t_A_ledger 11 rfl) rfl hf (fun hf => ?_) (fun hf => ?_)
    · refine SW_iconst h (dt t_A_ledger 21 rfl) ?_
      exact SW_iret h (hret _ hf) (fun _ => (by decide)) rfl (dt t_A_ledger 22 rfl)
    · refine SW_iload_n h rfl (dt t_A_ledger 12 rfl) ?_
      refine SW_iconst h (dt t_A_ledger 13 rfl) ?_
      refine SW_icmp_gt (tgt := 37) h (fun _ => h1) (fun _ => (by decide)) (dt t_A_ledger 14 rfl) rfl hf (fun hf => ?_) (fun hf => ?_)
      · refine SW_iconst h (dt t_A_ledger 21 rfl) ?_
        exact SW_iret h (hret _ hf) (fun _ => (by decide)) rfl (dt t_A_ledger 22 rfl)
      · refine SW_iload_n h rfl (dt t_A_ledger 15 rfl) ?_
        refine SW_iconst h (dt t_A_ledger 16 rfl) ?_
        refine SW_icmp_lt (tgt := 37) h (fun _ => hx2) (fun _ => (by decide)) (dt t_A_ledger 17 rfl) rfl hf (fun hf => ?_) (fun hf => ?_)
        · refine SW_iconst h (dt t_A_ledger 21 rfl) ?_
          exact SW_iret h (hret _ hf) (fun _ => (by decide)) rfl (dt t_A_ledger 22 rfl)
        · refine SW_iload_n h rfl (dt t_A_ledger 18 rfl) ?_
          refine SW_iload_n h rfl (dt t_A_ledger 19 rfl) ?_
          refine SW_icmp_lt (tgt := 39) h (fun _ => hx2) (fun _ => h1) (dt t_A_ledger 20 rfl) rfl hf (fun hf => ?_) (fun hf => ?_)
          · refine SW_aload_n h rfl (dt t_A_ledger 23 rfl) ?_
            refine gR h cf10 o0 f10_4 j0_4 lX10_42 (dt t_A_ledger 24 rfl) ?_
            refine SW_iload_n h rfl (dt t_A_ledger 25 rfl) ?_
            refine SW_iload_n h rfl (dt t_A_ledger 26 rfl) ?_
            obtain ⟨v2, s2, e2, hf⟩ := b1M_of hf
            refine cV h [.int (i32 x1), .int (i32 x2)] [] v_X7_bestLedger kX10_283 o114 (c_E_bestLedger x1 hx1 x2 hx2 e2) rfl rfl (by decide) (by decide) rfl (Nat.le_of_ble_eq_true rfl) (dt t_A_ledger 27 rfl) (fun h2 => ?_)
            refine SW_ok (fun ok2 => ?_)
            exact SW_iret h (hret _ hf) (fun _ => h2) rfl (dt t_A_ledger 28 rfl)
          · refine SW_iconst h (dt t_A_ledger 21 rfl) ?_
            exact SW_iret h (hret _ hf) (fun _ => (by decide)) rfl (dt t_A_ledger 22 rfl)
def b_J_isQuiet : List (Nat × Instr × Nat) := [(0, .iconst 1, 1), (1, .istore_n 2, 1), (2, .iload_n 1, 1), (3, .istore_n 3, 1), (4, .iload_n 3, 1), (5, .bipush 10, 2), (7, .if_icmp .lt 37, 3), (10, .aload_n 0, 1), (11, .iload_n 3, 1), (12, .bipush 10, 2), (14, .idiv, 1), (15, .bipush 10, 2), (17, .irem, 1), (18, .iload_n 3, 1), (19, .bipush 10, 2), (21, .irem, 1), (22, .iload_n 2, 1), (23, .invokevirtual 89, 3), (26, .sipush 1000, 3), (29, .if_icmp .eq 5, 3), (32, .iconst 0, 1), (33, .ireturn, 1), (34, .iconst 0, 1), (35, .istore_n 2, 1), (36, .iload_n 3, 1), (37, .bipush 10, 2), (39, .idiv, 1), (40, .istore_n 3, 1), (41, .goto (-37), 3), (44, .iconst 1, 1), (45, .ireturn, 1)]
theorem t_J_isQuiet : DT cX4_isQuiet b_J_isQuiet := DT.of (by decide +kernel)
def L_J_isQuiet_4 : Nat → Int → Int → Mm → Option ((Int × Mm) ⊕ (Mm))
  | 0, _, _, _ => none
  | n + 1, x2, x3, σ =>
    if x3 < 10 then
      some (.inr σ)
    else
      b1M (F_J_two ((x3.tdiv 10).tmod 10) (x3.tmod 10) x2 σ) fun v1 s1 =>
      if v1 = 1000 then
        L_J_isQuiet_4 n 0 (x3.tdiv 10) s1
      else
        some (.inl (0, s1))
set_option maxRecDepth 100000 in
set_option maxHeartbeats 4000000 in
theorem l_J_isQuiet_4 {X : Cx} (h : CX X 0 cX4_isQuiet 4 6 (some .boolean) RX4)   {res : (Int × Mm) ⊕ (Mm)} (hret : ∀ y : Int × Mm, some (.inl y) = some res → RX X 0 (y.1 = 0 ∨ y.1 = 1) (some (.int (i32 (y.1)))) y.2) (hex : ∀  (σ : Mm) (hz : some (.inr σ) = some res)  (ok : okM σ), SW X 0 4 44 [none, none, none, none] [] σ) : ∀ (n : Nat) (x2 : Int) (x3 : Int) (σ : Mm) (hx2 : r32 x2) (hx3 : r32 x3) (ok : okM σ) (hf : L_J_isQuiet_4 n x2 x3 σ = some res), SW X 0 4 4 [some (.ref (xad X 2)), none, some (.int (i32 x2)), some (.int (i32 x3))] [] σ := by
  intro n
  induction n with
  | zero => intro x2 x3 σ hx2 hx3 ok hf; exact absurd hf (by simp [L_J_isQuiet_4])
  | succ n ih =>
    intro x2 x3 σ hx2 hx3 ok hf
    rw [L_J_isQuiet_4] at hf
    refine SW_iload_n h rfl (dt t_J_isQuiet 4 rfl) ?_
    refine SW_bipush h (dt t_J_isQuiet 5 rfl) (by decide) ?_
    refine SW_icmp_lt (tgt := 44) h (fun _ => hx3) (fun _ => (by decide)) (dt t_J_isQuiet 6 rfl) rfl hf (fun hf => ?_) (fun hf => ?_)
    · exact SW_fgt [false, false, false, false] rfl (hex σ hf ok)
    · refine SW_aload_n h rfl (dt t_J_isQuiet 7 rfl) ?_
      refine SW_iload_n h rfl (dt t_J_isQuiet 8 rfl) ?_
      refine SW_bipush h (dt t_J_isQuiet 9 rfl) (by decide) ?_
      refine SW_idiv h (fun _ => hx3) (fun _ => (by decide)) (by decide) (dt t_J_isQuiet 10 rfl) ?_
      refine SW_bipush h (dt t_J_isQuiet 11 rfl) (by decide) ?_
      refine SW_irem h (fun _ => (r_tdiv hx3 (by decide))) (fun _ => (by decide)) (by decide) (dt t_J_isQuiet 12 rfl) ?_
      refine SW_iload_n h rfl (dt t_J_isQuiet 13 rfl) ?_
      refine SW_bipush h (dt t_J_isQuiet 14 rfl) (by decide) ?_
      refine SW_irem h (fun _ => hx3) (fun _ => (by decide)) (by decide) (dt t_J_isQuiet 15 rfl) ?_
      refine SW_iload_n h rfl (dt t_J_isQuiet 16 rfl) ?_
      obtain ⟨v1, s1, e1, hf⟩ := b1M_of hf
      refine cV h [.int (i32 ((x3.tdiv 10).tmod 10)), .int (i32 (x3.tmod 10)), .int (i32 x2)] [] v_X4_two kX4_89 o2 (c_J_two ((x3.tdiv 10).tmod 10) (r_tmod (r_tdiv hx3 (by decide)) (by decide)) (x3.tmod 10) (r_tmod hx3 (by decide)) x2 hx2 e1) rfl rfl (by decide) (by decide) rfl (Nat.le_of_ble_eq_true rfl) (dt t_J_isQuiet 17 rfl) (fun h1 => ?_)
      refine SW_ok (fun ok1 => ?_)
      refine SW_sipush h (dt t_J_isQuiet 18 rfl) (by decide) ?_
      refine SW_icmp_eq (tgt := 34) h (fun _ => h1) (fun _ => (by decide)) (dt t_J_isQuiet 19 rfl) rfl hf (fun hf => ?_) (fun hf => ?_)
      · refine SW_iconst h (dt t_J_isQuiet 22 rfl) ?_
        refine SW_istore_n (lv2 := [some (.ref (xad X 2)), none, some (.int (i32 0)), some (.int (i32 x3))]) h (dt t_J_isQuiet 23 rfl) (by decide) rfl ?_
        refine SW_iload_n h rfl (dt t_J_isQuiet 24 rfl) ?_
        refine SW_bipush h (dt t_J_isQuiet 25 rfl) (by decide) ?_
        refine SW_idiv h (fun _ => hx3) (fun _ => (by decide)) (by decide) (dt t_J_isQuiet 26 rfl) ?_
        refine SW_istore_n (lv2 := [some (.ref (xad X 2)), none, some (.int (i32 0)), some (.int (i32 (x3.tdiv 10)))]) h (dt t_J_isQuiet 27 rfl) (by decide) rfl ?_
        refine SW_goto (tgt := 4) h (dt t_J_isQuiet 28 rfl) rfl ?_
        exact SW_fgt [true, false, true, true] rfl (ih 0 (x3.tdiv 10) s1 (by decide) (r_tdiv hx3 (by decide)) ok1 hf)
      · refine SW_iconst h (dt t_J_isQuiet 20 rfl) ?_
        exact SW_zret h (hret _ hf) (by decide) rfl (dt t_J_isQuiet 21 rfl)
def F_J_isQuiet (x1 : Int) (σ : Mm) : Option (Int × Mm) :=
  b0MS (L_J_isQuiet_4 LF 1 x1 σ) (fun y => some y) fun s2 =>
  some (1, s2)
set_option maxRecDepth 100000 in
set_option maxHeartbeats 4000000 in
theorem c_J_isQuiet (x1 : Int) (hx1 : r32 x1) {σ : Mm} {a : Int} {σ2 : Mm} (hf : F_J_isQuiet x1 σ = some (a, σ2)) : CT yX4_isQuiet cX4_isQuiet 4 (some .boolean) 6 0 (fun ad => [.ref (ad 2), .int (i32 x1)]) σ (a = 0 ∨ a = 1) (some (.int (i32 a))) σ2 := by
  refine MetJ 2 (by decide +kernel) rfl (fun _ => Nat.le_of_ble_eq_true rfl) ?_
  intro X h hR ok
  obtain ⟨res, er⟩ : ∃ z, z = (a, σ2) := ⟨_, rfl⟩
  have hret : ∀ y : Int × Mm, some y = some res → RX X 0 (y.1 = 0 ∨ y.1 = 1) (some (.int (i32 (y.1)))) y.2 := fun y e => by cases e; cases er; exact hR
  rw [← er] at hf
  clear er hR
  unfold F_J_isQuiet at hf
  show SW X 0 4 0 [some (.ref (xad X 2)), some (.int (i32 x1)), none, none] [] σ
  refine SW_iconst h (dt t_J_isQuiet 0 rfl) ?_
  refine SW_istore_n (lv2 := [some (.ref (xad X 2)), some (.int (i32 x1)), some (.int (i32 1)), none]) h (dt t_J_isQuiet 1 rfl) (by decide) rfl ?_
  refine SW_iload_n h rfl (dt t_J_isQuiet 2 rfl) ?_
  refine SW_istore_n (lv2 := [some (.ref (xad X 2)), some (.int (i32 x1)), some (.int (i32 1)), some (.int (i32 x1))]) h (dt t_J_isQuiet 3 rfl) (by decide) rfl ?_
  obtain ⟨z2, e2, g2, hk2⟩ := b0MS_of hf
  refine SW_fgt [true, false, true, true] rfl (l_J_isQuiet_4 h (fun y e => hret y (g2 y (Option.some.inj e).symm)) (fun s2 hz2 ok2 => ?_) LF 1 x1 σ (by decide) hx1 ok e2)
  have hf := hk2 s2 (Option.some.inj hz2).symm
  refine SW_iconst h (dt t_J_isQuiet 29 rfl) ?_
  exact SW_zret h (hret _ hf) (by decide) rfl (dt t_J_isQuiet 30 rfl)
def b_E_nearestTo : List (Nat × Instr × Nat) := [(0, .aload_n 0, 1), (1, .getfield 41, 3), (4, .invokevirtual 42, 3), (7, .iconst 0, 1), (8, .istore_n 2, 1), (9, .iload_n 2, 1), (10, .sipush 9999, 3), (13, .if_icmp .gt 58, 3), (16, .iload_n 1, 1), (17, .iload_n 2, 1), (18, .isub, 1), (19, .ifCond .lt 20, 3), (22, .aload_n 0, 1), (23, .getfield 41, 3), (26, .iload_n 1, 1), (27, .iload_n 2, 1), (28, .isub, 1), (29, .invokevirtual 75, 3), (32, .ifCond .eq 7, 3), (35, .iload_n 1, 1), (36, .iload_n 2, 1), (37, .isub, 1), (38, .ireturn, 1), (39, .iload_n 1, 1), (40, .iload_n 2, 1), (41, .iadd, 1), (42, .sipush 9999, 3), (45, .if_icmp .gt 20, 3), (48, .aload_n 0, 1), (49, .getfield 41, 3), (52, .iload_n 1, 1), (53, .iload_n 2, 1), (54, .iadd, 1), (55, .invokevirtual 75, 3), (58, .ifCond .eq 7, 3), (61, .iload_n 1, 1), (62, .iload_n 2, 1), (63, .iadd, 1), (64, .ireturn, 1), (65, .iinc 2 1, 3), (68, .goto (-59), 3), (71, .iconst (-1), 1), (72, .ireturn, 1)]
theorem t_E_nearestTo : DT cX7_nearestTo b_E_nearestTo := DT.of (by decide +kernel)
def L_E_nearestTo_9 : Nat → Int → Int → Mm → Option ((Int × Mm) ⊕ (Mm))
  | 0, _, _, _ => none
  | n + 1, x1, x2, σ =>
    if 9999 < x2 then
      some (.inr σ)
    else
      if r32 (x1 - x2) then
        bindM (fun  (t3 : Mm) =>
          if r32 (x1 + x2) then
            bindM (fun  (t5 : Mm) =>
              if r32 (x2 + 1) then
                L_E_nearestTo_9 n x1 (x2 + 1) t5
              else none) fun J5 =>
            if 9999 < x1 + x2 then
              J5 t3
            else
              if r32 (x1 + x2) then
                b1M (F_J_isQuiet (x1 + x2) t3) fun v7 s7 =>
                if v7 = 0 then
                  J5 s7
                else
                  if r32 (x1 + x2) then
                    some (.inl (x1 + x2, s7))
                  else none
              else none
          else none) fun J3 =>
        if x1 - x2 < 0 then
          J3 σ
        else
          if r32 (x1 - x2) then
            b1M (F_J_isQuiet (x1 - x2) σ) fun v10 s10 =>
            if v10 = 0 then
              J3 s10
            else
              if r32 (x1 - x2) then
                some (.inl (x1 - x2, s10))
              else none
          else none
      else none
set_option maxRecDepth 100000 in
set_option maxHeartbeats 4000000 in
theorem l_E_nearestTo_9 {X : Cx} (h : CX X 0 cX7_nearestTo 3 7 (some .int) RX7) (x1 : Int) (hx1 : r32 x1) {res : (Int × Mm) ⊕ (Mm)} (hret : ∀ y : Int × Mm, some (.inl y) = some res → RX X 0 (r32 (y.1)) (some (.int (i32 (y.1)))) y.2) (hex : ∀  (σ : Mm) (hz : some (.inr σ) = some res)  (ok : okM σ), SW X 0 3 71 [none, none, none] [] σ) : ∀ (n : Nat) (x2 : Int) (σ : Mm) (hx2 : r32 x2) (ok : okM σ) (hf : L_E_nearestTo_9 n x1 x2 σ = some res), SW X 0 3 9 [some (.ref (xad X 114)), some (.int (i32 x1)), some (.int (i32 x2))] [] σ := by
  intro n
  induction n with
  | zero => intro x2 σ hx2 ok hf; exact absurd hf (by simp [L_E_nearestTo_9])
  | succ n ih =>
    intro x2 σ hx2 ok hf
    rw [L_E_nearestTo_9] at hf
    refine SW_iload_n h rfl (dt t_E_nearestTo 5 rfl) ?_
    refine SW_sipush h (dt t_E_nearestTo 6 rfl) (by decide) ?_
    refine SW_icmp_gt (tgt := 71) h (fun _ => hx2) (fun _ => (by decide)) (dt t_E_nearestTo 7 rfl) rfl hf (fun hf => ?_) (fun hf => ?_)
    · exact SW_fgt [false, false, false] rfl (hex σ hf ok)
    · refine SW_iload_n h rfl (dt t_E_nearestTo 8 rfl) ?_
      refine SW_iload_n h rfl (dt t_E_nearestTo 9 rfl) ?_
      refine SW_isub h (dt t_E_nearestTo 10 rfl) ?_
      refine SW_chk hf (fun h2 hf => ?_)
      refine bJ hf (fun J3 e3 hf => ?_)
      have k3 : ∀  (t3 : Mm)  (ot3 : okM t3) (hf : J3 t3 = some res), SW X 0 3 39 [some (.ref (xad X 114)), some (.int (i32 x1)), some (.int (i32 x2))] [] t3 := by
        intro t3 ot3 hf
        rw [e3] at hf
        refine SW_iload_n h rfl (dt t_E_nearestTo 23 rfl) ?_
        refine SW_iload_n h rfl (dt t_E_nearestTo 24 rfl) ?_
        refine SW_iadd h (dt t_E_nearestTo 25 rfl) ?_
        refine SW_sipush h (dt t_E_nearestTo 26 rfl) (by decide) ?_
        refine SW_chk hf (fun h4 hf => ?_)
        refine bJ hf (fun J5 e5 hf => ?_)
        have k5 : ∀  (t5 : Mm)  (ot5 : okM t5) (hf : J5 t5 = some res), SW X 0 3 65 [some (.ref (xad X 114)), some (.int (i32 x1)), some (.int (i32 x2))] [] t5 := by
          intro t5 ot5 hf
          rw [e5] at hf
          refine SW_iinc (lv2 := [some (.ref (xad X 114)), some (.int (i32 x1)), some (.int (i32 (x2 + 1)))]) h (dt t_E_nearestTo 39 rfl) rfl (by decide) rfl ?_
          refine SW_goto (tgt := 9) h (dt t_E_nearestTo 40 rfl) rfl ?_
          refine SW_chk hf (fun h6 hf => ?_)
          exact SW_fgt [true, true, true] rfl (ih (x2 + 1) t5 h6 ot5 hf)
        refine SW_icmp_gt (tgt := 65) h (fun _ => h4) (fun _ => (by decide)) (dt t_E_nearestTo 27 rfl) rfl hf (fun hf => ?_) (fun hf => ?_)
        · exact SW_fgt [true, true, true] rfl (k5 t3 ot3 hf)
        · refine SW_aload_n h rfl (dt t_E_nearestTo 28 rfl) ?_
          refine gR h cf7 o114 f7_1 j114_1 lX7_41 (dt t_E_nearestTo 29 rfl) ?_
          refine SW_iload_n h rfl (dt t_E_nearestTo 30 rfl) ?_
          refine SW_iload_n h rfl (dt t_E_nearestTo 31 rfl) ?_
          refine SW_iadd h (dt t_E_nearestTo 32 rfl) ?_
          refine SW_chk hf (fun h8 hf => ?_)
          obtain ⟨v7, s7, e7, hf⟩ := b1M_of hf
          refine cV h [.int (i32 (x1 + x2))] [] v_X4_isQuiet kX7_75 o2 (c_J_isQuiet (x1 + x2) h8 e7) rfl rfl (by decide) (by decide) rfl (Nat.le_of_ble_eq_true rfl) (dt t_E_nearestTo 33 rfl) (fun h7 => ?_)
          refine SW_ok (fun ok7 => ?_)
          refine SW_if_eq (tgt := 65) h (fun _ => (r_zo h7)) (dt t_E_nearestTo 34 rfl) rfl hf (fun hf => ?_) (fun hf => ?_)
          · exact SW_fgt [true, true, true] rfl (k5 s7 ok7 hf)
          · refine SW_iload_n h rfl (dt t_E_nearestTo 35 rfl) ?_
            refine SW_iload_n h rfl (dt t_E_nearestTo 36 rfl) ?_
            refine SW_iadd h (dt t_E_nearestTo 37 rfl) ?_
            refine SW_chk hf (fun h9 hf => ?_)
            exact SW_iret h (hret _ hf) (fun _ => h9) rfl (dt t_E_nearestTo 38 rfl)
      refine SW_if_lt (tgt := 39) h (fun _ => h2) (dt t_E_nearestTo 11 rfl) rfl hf (fun hf => ?_) (fun hf => ?_)
      · exact SW_fgt [true, true, true] rfl (k3 σ ok hf)
      · refine SW_aload_n h rfl (dt t_E_nearestTo 12 rfl) ?_
        refine gR h cf7 o114 f7_1 j114_1 lX7_41 (dt t_E_nearestTo 13 rfl) ?_
        refine SW_iload_n h rfl (dt t_E_nearestTo 14 rfl) ?_
        refine SW_iload_n h rfl (dt t_E_nearestTo 15 rfl) ?_
        refine SW_isub h (dt t_E_nearestTo 16 rfl) ?_
        refine SW_chk hf (fun h11 hf => ?_)
        obtain ⟨v10, s10, e10, hf⟩ := b1M_of hf
        refine cV h [.int (i32 (x1 - x2))] [] v_X4_isQuiet kX7_75 o2 (c_J_isQuiet (x1 - x2) h11 e10) rfl rfl (by decide) (by decide) rfl (Nat.le_of_ble_eq_true rfl) (dt t_E_nearestTo 17 rfl) (fun h10 => ?_)
        refine SW_ok (fun ok10 => ?_)
        refine SW_if_eq (tgt := 39) h (fun _ => (r_zo h10)) (dt t_E_nearestTo 18 rfl) rfl hf (fun hf => ?_) (fun hf => ?_)
        · exact SW_fgt [true, true, true] rfl (k3 s10 ok10 hf)
        · refine SW_iload_n h rfl (dt t_E_nearestTo 19 rfl) ?_
          refine SW_iload_n h rfl (dt t_E_nearestTo 20 rfl) ?_
          refine SW_isub h (dt t_E_nearestTo 21 rfl) ?_
          refine SW_chk hf (fun h12 hf => ?_)
          exact SW_iret h (hret _ hf) (fun _ => h12) rfl (dt t_E_nearestTo 22 rfl)
def F_E_nearestTo (x1 : Int) (σ : Mm) : Option (Int × Mm) :=
  b0M (F_J_fresh  σ) fun s1 =>
  b0MS (L_E_nearestTo_9 LF x1 0 s1) (fun y => some y) fun s13 =>
  some ((-1), s13)
set_option maxRecDepth 100000 in
set_option maxHeartbeats 4000000 in
theorem c_E_nearestTo (x1 : Int) (hx1 : r32 x1) {σ : Mm} {a : Int} {σ2 : Mm} (hf : F_E_nearestTo x1 σ = some (a, σ2)) : CT yX7_nearestTo cX7_nearestTo 3 (some .int) 7 0 (fun ad => [.ref (ad 114), .int (i32 x1)]) σ (r32 a) (some (.int (i32 a))) σ2 := by
  refine MetJ 1 (by decide +kernel) rfl (fun _ => Nat.le_of_ble_eq_true rfl) ?_
  intro X h hR ok
  obtain ⟨res, er⟩ : ∃ z, z = (a, σ2) := ⟨_, rfl⟩
  have hret : ∀ y : Int × Mm, some y = some res → RX X 0 (r32 (y.1)) (some (.int (i32 (y.1)))) y.2 := fun y e => by cases e; cases er; exact hR
  rw [← er] at hf
  clear er hR
  unfold F_E_nearestTo at hf
  show SW X 0 3 0 [some (.ref (xad X 114)), some (.int (i32 x1)), none] [] σ
  refine SW_aload_n h rfl (dt t_E_nearestTo 0 rfl) ?_
  refine gR h cf7 o114 f7_1 j114_1 lX7_41 (dt t_E_nearestTo 1 rfl) ?_
  obtain ⟨s1, e1, hf⟩ := b0M_of hf
  refine cVv h [] [] v_X4_fresh kX7_42 o2 (c_J_fresh  e1) rfl rfl (by decide) (by decide) rfl (Nat.le_of_ble_eq_true rfl) (dt t_E_nearestTo 2 rfl) (fun h1 => ?_)
  refine SW_ok (fun ok1 => ?_)
  refine SW_iconst h (dt t_E_nearestTo 3 rfl) ?_
  refine SW_istore_n (lv2 := [some (.ref (xad X 114)), some (.int (i32 x1)), some (.int (i32 0))]) h (dt t_E_nearestTo 4 rfl) (by decide) rfl ?_
  obtain ⟨z13, e13, g13, hk13⟩ := b0MS_of hf
  refine SW_fgt [true, true, true] rfl (l_E_nearestTo_9 h x1 hx1 (fun y e => hret y (g13 y (Option.some.inj e).symm)) (fun s13 hz13 ok13 => ?_) LF 0 s1 (by decide) ok1 e13)
  have hf := hk13 s13 (Option.some.inj hz13).symm
  refine SW_iconst h (dt t_E_nearestTo 41 rfl) ?_
  exact SW_iret h (hret _ hf) (fun _ => (by decide)) rfl (dt t_E_nearestTo 42 rfl)
def b_A_nearest : List (Nat × Instr × Nat) := [(0, .iload_n 1, 1), (1, .invokestatic 246, 3), (4, .ifCond .eq 14, 3), (7, .aload_n 0, 1), (8, .getfield 42, 3), (11, .iload_n 1, 1), (12, .invokevirtual 249, 3), (15, .goto 4, 3), (18, .iconst (-1), 1), (19, .ireturn, 1)]
theorem t_A_nearest : DT cX10_nearest b_A_nearest := DT.of (by decide +kernel)
def F_A_nearest (x1 : Int) (σ : Mm) : Option (Int × Mm) :=
  b1 (F_A_isNumber x1) fun v1 =>
  if v1 = 0 then
    some ((-1), σ)
  else
    b1M (F_E_nearestTo x1 σ) fun v2 s2 =>
    some (v2, s2)
set_option maxRecDepth 100000 in
set_option maxHeartbeats 4000000 in
theorem c_A_nearest (x1 : Int) (hx1 : r32 x1) {σ : Mm} {a : Int} {σ2 : Mm} (hf : F_A_nearest x1 σ = some (a, σ2)) : CT yX10_nearest cX10_nearest 2 (some .int) 8 0 (fun ad => [.ref (ad 0), .int (i32 x1)]) σ (r32 a) (some (.int (i32 a))) σ2 := by
  refine MetJ 0 (by decide +kernel) rfl (fun _ => Nat.le_of_ble_eq_true rfl) ?_
  intro X h hR ok
  obtain ⟨res, er⟩ : ∃ z, z = (a, σ2) := ⟨_, rfl⟩
  have hret : ∀ y : Int × Mm, some y = some res → RX X 0 (r32 (y.1)) (some (.int (i32 (y.1)))) y.2 := fun y e => by cases e; cases er; exact hR
  rw [← er] at hf
  clear er hR
  unfold F_A_nearest at hf
  show SW X 0 2 0 [some (.ref (xad X 0)), some (.int (i32 x1))] [] σ
  refine SW_iload_n h rfl (dt t_A_nearest 0 rfl) ?_
  obtain ⟨v1, e1, hf⟩ := b1_of hf
  refine cS h [.int (i32 x1)] [] v_X10_isNumber kX10_246 (c_A_isNumber x1 hx1 e1) rfl rfl (by decide) (by decide) rfl (Nat.le_of_ble_eq_true rfl) (dt t_A_nearest 1 rfl) (fun h1 => ?_)
  refine SW_if_eq (tgt := 18) h (fun _ => (r_zo h1)) (dt t_A_nearest 2 rfl) rfl hf (fun hf => ?_) (fun hf => ?_)
  · refine SW_iconst h (dt t_A_nearest 8 rfl) ?_
    exact SW_iret h (hret _ hf) (fun _ => (by decide)) rfl (dt t_A_nearest 9 rfl)
  · refine SW_aload_n h rfl (dt t_A_nearest 3 rfl) ?_
    refine gR h cf10 o0 f10_4 j0_4 lX10_42 (dt t_A_nearest 4 rfl) ?_
    refine SW_iload_n h rfl (dt t_A_nearest 5 rfl) ?_
    obtain ⟨v2, s2, e2, hf⟩ := b1M_of hf
    refine cV h [.int (i32 x1)] [] v_X7_nearestTo kX10_249 o114 (c_E_nearestTo x1 hx1 e2) rfl rfl (by decide) (by decide) rfl (Nat.le_of_ble_eq_true rfl) (dt t_A_nearest 6 rfl) (fun h2 => ?_)
    refine SW_ok (fun ok2 => ?_)
    refine SW_goto (tgt := 19) h (dt t_A_nearest 7 rfl) rfl ?_
    exact SW_iret h (hret _ hf) (fun _ => h2) rfl (dt t_A_nearest 9 rfl)
def b_A_of : List (Nat × Instr × Nat) := [(0, .iload_n 1, 1), (1, .invokestatic 125, 3), (4, .ifCond .ne 5, 3), (7, .iconst (-1), 1), (8, .ireturn, 1), (9, .iload_n 2, 1), (10, .tableswitch 81 0 3 #[30, 42, 55, 68], 30), (40, .aload_n 0, 1), (41, .getfield 10, 3), (44, .getfield 106, 3), (47, .iconst 0, 1), (48, .iload_n 1, 1), (49, .iadd, 1), (50, .iaload, 1), (51, .ireturn, 1), (52, .aload_n 0, 1), (53, .getfield 10, 3), (56, .getfield 106, 3), (59, .bipush 10, 2), (61, .iload_n 1, 1), (62, .iadd, 1), (63, .iaload, 1), (64, .ireturn, 1), (65, .aload_n 0, 1), (66, .getfield 10, 3), (69, .getfield 106, 3), (72, .bipush 20, 2), (74, .iload_n 1, 1), (75, .iadd, 1), (76, .iaload, 1), (77, .ireturn, 1), (78, .aload_n 0, 1), (79, .getfield 10, 3), (82, .getfield 106, 3), (85, .bipush 30, 2), (87, .iload_n 1, 1), (88, .iadd, 1), (89, .iaload, 1), (90, .ireturn, 1), (91, .iconst (-1), 1), (92, .ireturn, 1)]
theorem t_A_of : DT cX10_of b_A_of := DT.of (by decide +kernel)
def F_A_of (x1 : Int) (x2 : Int) (σ : Mm) : Option (Int) :=
  b1 (F_A_isFigure x1) fun v1 =>
  if v1 = 0 then
    some ((-1))
  else
    if x2 = 0 then
      if 0 ≤ 0 + x1 ∧ 0 + x1 < 165 then
        some (σ 3 ((0 + x1).toNat))
      else none
    else
      if x2 = 1 then
        if 0 ≤ 10 + x1 ∧ 10 + x1 < 165 then
          some (σ 3 ((10 + x1).toNat))
        else none
      else
        if x2 = 2 then
          if 0 ≤ 20 + x1 ∧ 20 + x1 < 165 then
            some (σ 3 ((20 + x1).toNat))
          else none
        else
          if x2 = 3 then
            if 0 ≤ 30 + x1 ∧ 30 + x1 < 165 then
              some (σ 3 ((30 + x1).toNat))
            else none
          else
            some ((-1))
set_option maxRecDepth 100000 in
set_option maxHeartbeats 4000000 in
theorem c_A_of (x1 : Int) (hx1 : r32 x1) (x2 : Int) (hx2 : r32 x2) {σ : Mm} {a : Int} (hf : F_A_of x1 x2 σ = some a) : CT yX10_of cX10_of 3 (some .int) 1 0 (fun ad => [.ref (ad 0), .int (i32 x1), .int (i32 x2)]) σ (r32 a) (some (.int (i32 a))) σ := by
  refine MetJ 0 (by decide +kernel) rfl (fun _ => Nat.le_of_ble_eq_true rfl) ?_
  intro X h hR ok
  obtain ⟨res, er⟩ : ∃ z, z = a := ⟨_, rfl⟩
  have hret : ∀ y : Int, some y = some res → RX X 0 (r32 (y)) (some (.int (i32 (y)))) σ := fun y e => by cases e; cases er; exact hR
  rw [← er] at hf
  clear er hR
  unfold F_A_of at hf
  show SW X 0 3 0 [some (.ref (xad X 0)), some (.int (i32 x1)), some (.int (i32 x2))] [] σ
  refine SW_iload_n h rfl (dt t_A_of 0 rfl) ?_
  obtain ⟨v1, e1, hf⟩ := b1_of hf
  refine cS h [.int (i32 x1)] [] v_X10_isFigure kX10_125 (c_A_isFigure x1 hx1 e1) rfl rfl (by decide) (by decide) rfl (Nat.le_of_ble_eq_true rfl) (dt t_A_of 1 rfl) (fun h1 => ?_)
  refine SW_if_ne (tgt := 9) h (fun _ => (r_zo h1)) (dt t_A_of 2 rfl) rfl hf (fun hf => ?_) (fun hf => ?_)
  · refine SW_iconst h (dt t_A_of 3 rfl) ?_
    exact SW_iret h (hret _ hf) (fun _ => (by decide)) rfl (dt t_A_of 4 rfl)
  · refine SW_iload_n h rfl (dt t_A_of 5 rfl) ?_
    refine SW_ite hf (fun h2 hf => ?_) (fun h2 hf => ?_)
    · refine SW_tabIn (tgt := 40) h 0 (fun _ => hx2) (dt t_A_of 6 rfl) (h2.trans rfl) (by decide) rfl rfl ?_
      refine SW_aload_n h rfl (dt t_A_of 7 rfl) ?_
      refine gR h cf10 o0 f10_0 j0_0 lX10_10 (dt t_A_of 8 rfl) ?_
      refine gR h cf2 o1 f2_1 j1_1 lX10_106 (dt t_A_of 9 rfl) ?_
      refine SW_iconst h (dt t_A_of 10 rfl) ?_
      refine SW_iload_n h rfl (dt t_A_of 11 rfl) ?_
      refine SW_iadd h (dt t_A_of 12 rfl) ?_
      refine aI h a3 (dt t_A_of 13 rfl) hf (fun hf => ?_)
      exact SW_iret h (hret _ hf) (fun _ => (okI ok 3 ((0 + x1).toNat) (IsA.n3 a3 (by decide)))) rfl (dt t_A_of 14 rfl)
    · refine SW_ite hf (fun h3 hf => ?_) (fun h3 hf => ?_)
      · refine SW_tabIn (tgt := 52) h 1 (fun _ => hx2) (dt t_A_of 6 rfl) (h3.trans rfl) (by decide) rfl rfl ?_
        refine SW_aload_n h rfl (dt t_A_of 15 rfl) ?_
        refine gR h cf10 o0 f10_0 j0_0 lX10_10 (dt t_A_of 16 rfl) ?_
        refine gR h cf2 o1 f2_1 j1_1 lX10_106 (dt t_A_of 17 rfl) ?_
        refine SW_bipush h (dt t_A_of 18 rfl) (by decide) ?_
        refine SW_iload_n h rfl (dt t_A_of 19 rfl) ?_
        refine SW_iadd h (dt t_A_of 20 rfl) ?_
        refine aI h a3 (dt t_A_of 21 rfl) hf (fun hf => ?_)
        exact SW_iret h (hret _ hf) (fun _ => (okI ok 3 ((10 + x1).toNat) (IsA.n3 a3 (by decide)))) rfl (dt t_A_of 22 rfl)
      · refine SW_ite hf (fun h4 hf => ?_) (fun h4 hf => ?_)
        · refine SW_tabIn (tgt := 65) h 2 (fun _ => hx2) (dt t_A_of 6 rfl) (h4.trans rfl) (by decide) rfl rfl ?_
          refine SW_aload_n h rfl (dt t_A_of 23 rfl) ?_
          refine gR h cf10 o0 f10_0 j0_0 lX10_10 (dt t_A_of 24 rfl) ?_
          refine gR h cf2 o1 f2_1 j1_1 lX10_106 (dt t_A_of 25 rfl) ?_
          refine SW_bipush h (dt t_A_of 26 rfl) (by decide) ?_
          refine SW_iload_n h rfl (dt t_A_of 27 rfl) ?_
          refine SW_iadd h (dt t_A_of 28 rfl) ?_
          refine aI h a3 (dt t_A_of 29 rfl) hf (fun hf => ?_)
          exact SW_iret h (hret _ hf) (fun _ => (okI ok 3 ((20 + x1).toNat) (IsA.n3 a3 (by decide)))) rfl (dt t_A_of 30 rfl)
        · refine SW_ite hf (fun h5 hf => ?_) (fun h5 hf => ?_)
          · refine SW_tabIn (tgt := 78) h 3 (fun _ => hx2) (dt t_A_of 6 rfl) (h5.trans rfl) (by decide) rfl rfl ?_
            refine SW_aload_n h rfl (dt t_A_of 31 rfl) ?_
            refine gR h cf10 o0 f10_0 j0_0 lX10_10 (dt t_A_of 32 rfl) ?_
            refine gR h cf2 o1 f2_1 j1_1 lX10_106 (dt t_A_of 33 rfl) ?_
            refine SW_bipush h (dt t_A_of 34 rfl) (by decide) ?_
            refine SW_iload_n h rfl (dt t_A_of 35 rfl) ?_
            refine SW_iadd h (dt t_A_of 36 rfl) ?_
            refine aI h a3 (dt t_A_of 37 rfl) hf (fun hf => ?_)
            exact SW_iret h (hret _ hf) (fun _ => (okI ok 3 ((30 + x1).toNat) (IsA.n3 a3 (by decide)))) rfl (dt t_A_of 38 rfl)
          · refine SW_tabOut (tgt := 91) h (fun _ => hx2) (dt t_A_of 6 rfl) (by omega) rfl ?_
            refine SW_iconst h (dt t_A_of 39 rfl) ?_
            exact SW_iret h (hret _ hf) (fun _ => (by decide)) rfl (dt t_A_of 40 rfl)
def b_J_quarrelsIn : List (Nat × Instr × Nat) := [(0, .iconst 0, 1), (1, .istore_n 2, 1), (2, .iconst 1, 1), (3, .istore_n 3, 1), (4, .iload_n 3, 1), (5, .aload_n 1, 1), (6, .getfield 78, 3), (9, .if_icmp .ge 47, 3), (12, .iload_n 2, 1), (13, .aload_n 0, 1), (14, .aload_n 1, 1), (15, .getfield 83, 3), (18, .iload_n 3, 1), (19, .iconst 1, 1), (20, .isub, 1), (21, .iaload, 1), (22, .aload_n 1, 1), (23, .getfield 83, 3), (26, .iload_n 3, 1), (27, .iaload, 1), (28, .aload_n 1, 1), (29, .getfield 86, 3), (32, .iload_n 3, 1), (33, .iaload, 1), (34, .invokevirtual 89, 3), (37, .sipush 1000, 3), (40, .if_icmp .ne 7, 3), (43, .iconst 0, 1), (44, .goto 4, 3), (47, .iconst 1, 1), (48, .iadd, 1), (49, .istore_n 2, 1), (50, .iinc 3 1, 3), (53, .goto (-49), 3), (56, .iload_n 2, 1), (57, .ireturn, 1)]
theorem t_J_quarrelsIn : DT cX4_quarrelsIn b_J_quarrelsIn := DT.of (by decide +kernel)
def L_J_quarrelsIn_4 : Nat → Nat → Int → Int → Mm → Option (Int × Mm)
  | 0, _, _, _, _ => none
  | n + 1, r1, x2, x3, σ =>
    if σ r1 4 ≤ x3 then
      some ((x2, σ))
    else
      if 0 ≤ x3 - 1 ∧ x3 - 1 < 16 then
        if 0 ≤ x3 ∧ x3 < 16 then
          if 0 ≤ x3 ∧ x3 < 16 then
            b1M (F_J_two (σ (r1 + 24) ((x3 - 1).toNat)) (σ (r1 + 24) x3.toNat) (σ (r1 + 36) x3.toNat) σ) fun v1 s1 =>
            bindM ((if v1 = 1000 then 0 else 1 : Int)) fun v2 =>
            if r32 (x2 + v2) then
              if r32 (x3 + 1) then
                L_J_quarrelsIn_4 n r1 (x2 + v2) (x3 + 1) s1
              else none
            else none
          else none
        else none
      else none
set_option maxRecDepth 100000 in
set_option maxHeartbeats 4000000 in
theorem l_J_quarrelsIn_4 {X : Cx} (h : CX X 0 cX4_quarrelsIn 4 6 (some .int) RX4) (r1 : Nat) (q1 : IsO 0 6 r1) {res : Int × Mm} (hex : ∀ (x2 : Int) (σ : Mm) (hz : some ((x2, σ)) = some res) (hx2 : r32 x2) (ok : okM σ), SW X 0 4 56 [none, none, some (.int (i32 x2)), none] [] σ) : ∀ (n : Nat) (x2 : Int) (x3 : Int) (σ : Mm) (hx2 : r32 x2) (hx3 : r32 x3) (ok : okM σ) (hf : L_J_quarrelsIn_4 n r1 x2 x3 σ = some res), SW X 0 4 4 [some (.ref (xad X 2)), some (.ref (xad X r1)), some (.int (i32 x2)), some (.int (i32 x3))] [] σ := by
  intro n
  induction n with
  | zero => intro x2 x3 σ hx2 hx3 ok hf; exact absurd hf (by simp [L_J_quarrelsIn_4])
  | succ n ih =>
    intro x2 x3 σ hx2 hx3 ok hf
    rw [L_J_quarrelsIn_4] at hf
    refine SW_iload_n h rfl (dt t_J_quarrelsIn 4 rfl) ?_
    refine SW_aload_n h rfl (dt t_J_quarrelsIn 5 rfl) ?_
    refine gI h cf6 q1 f6_4 lX4_78 (dt t_J_quarrelsIn 6 rfl) ?_
    refine SW_icmp_ge (tgt := 56) h (fun _ => hx3) (fun _ => (okI ok r1 4 (IsO.n3 q1))) (dt t_J_quarrelsIn 7 rfl) rfl hf (fun hf => ?_) (fun hf => ?_)
    · exact SW_fgt [false, false, true, false] rfl (hex x2 σ hf hx2 ok)
    · refine SW_iload_n h rfl (dt t_J_quarrelsIn 8 rfl) ?_
      refine SW_aload_n h rfl (dt t_J_quarrelsIn 9 rfl) ?_
      refine SW_aload_n h rfl (dt t_J_quarrelsIn 10 rfl) ?_
      refine gR h cf6 q1 f6_1 (dy6_1 q1).1 lX4_83 (dt t_J_quarrelsIn 11 rfl) ?_
      refine SW_iload_n h rfl (dt t_J_quarrelsIn 12 rfl) ?_
      refine SW_iconst h (dt t_J_quarrelsIn 13 rfl) ?_
      refine SW_isub h (dt t_J_quarrelsIn 14 rfl) ?_
      refine aI h (dy6_1 q1).2 (dt t_J_quarrelsIn 15 rfl) hf (fun hf => ?_)
      refine SW_aload_n h rfl (dt t_J_quarrelsIn 16 rfl) ?_
      refine gR h cf6 q1 f6_1 (dy6_1 q1).1 lX4_83 (dt t_J_quarrelsIn 17 rfl) ?_
      refine SW_iload_n h rfl (dt t_J_quarrelsIn 18 rfl) ?_
      refine aI h (dy6_1 q1).2 (dt t_J_quarrelsIn 19 rfl) hf (fun hf => ?_)
      refine SW_aload_n h rfl (dt t_J_quarrelsIn 20 rfl) ?_
      refine gR h cf6 q1 f6_2 (dy6_2 q1).1 lX4_86 (dt t_J_quarrelsIn 21 rfl) ?_
      refine SW_iload_n h rfl (dt t_J_quarrelsIn 22 rfl) ?_
      refine aI h (dy6_2 q1).2 (dt t_J_quarrelsIn 23 rfl) hf (fun hf => ?_)
      obtain ⟨v1, s1, e1, hf⟩ := b1M_of hf
      refine cV h [.int (i32 (σ (r1 + 24) ((x3 - 1).toNat))), .int (i32 (σ (r1 + 24) x3.toNat)), .int (i32 (σ (r1 + 36) x3.toNat))] [.int (i32 x2)] v_X4_two kX4_89 o2 (c_J_two (σ (r1 + 24) ((x3 - 1).toNat)) (okI ok (r1 + 24) ((x3 - 1).toNat) (IsA.n3 (dy6_1 q1).2 (by decide))) (σ (r1 + 24) x3.toNat) (okI ok (r1 + 24) x3.toNat (IsA.n3 (dy6_1 q1).2 (by decide))) (σ (r1 + 36) x3.toNat) (okI ok (r1 + 36) x3.toNat (IsA.n3 (dy6_2 q1).2 (by decide))) e1) rfl rfl (by decide) (by decide) rfl (Nat.le_of_ble_eq_true rfl) (dt t_J_quarrelsIn 24 rfl) (fun h1 => ?_)
      refine SW_ok (fun ok1 => ?_)
      refine SW_sipush h (dt t_J_quarrelsIn 25 rfl) (by decide) ?_
      refine bT hf (fun g2 e2 hf => ?_)
      have k2 : ∀ (v2 : Int) (h2 : r32 v2) (hf : g2 v2 = some res), SW X 0 4 48 [some (.ref (xad X 2)), some (.ref (xad X r1)), some (.int (i32 x2)), some (.int (i32 x3))] [.int (i32 v2), .int (i32 x2)] s1 := by
        intro v2 h2 hf
        rw [e2] at hf
        refine SW_iadd h (dt t_J_quarrelsIn 30 rfl) ?_
        refine SW_istore_n (lv2 := [some (.ref (xad X 2)), some (.ref (xad X r1)), some (.int (i32 (x2 + v2))), some (.int (i32 x3))]) h (dt t_J_quarrelsIn 31 rfl) (by decide) rfl ?_
        refine SW_iinc (lv2 := [some (.ref (xad X 2)), some (.ref (xad X r1)), some (.int (i32 (x2 + v2))), some (.int (i32 (x3 + 1)))]) h (dt t_J_quarrelsIn 32 rfl) rfl (by decide) rfl ?_
        refine SW_goto (tgt := 4) h (dt t_J_quarrelsIn 33 rfl) rfl ?_
        refine SW_chk hf (fun h3 hf => ?_)
        refine SW_chk hf (fun h4 hf => ?_)
        exact SW_fgt [true, true, true, true] rfl (ih (x2 + v2) (x3 + 1) s1 h3 h4 ok1 hf)
      have hf := bIte hf
      refine SW_icmp_ne (tgt := 47) h (fun _ => h1) (fun _ => (by decide)) (dt t_J_quarrelsIn 26 rfl) rfl hf (fun hf => ?_) (fun hf => ?_)
      · refine SW_iconst h (dt t_J_quarrelsIn 27 rfl) ?_
        refine SW_goto (tgt := 48) h (dt t_J_quarrelsIn 28 rfl) rfl ?_
        exact k2 0 (by decide) hf
      · refine SW_iconst h (dt t_J_quarrelsIn 29 rfl) ?_
        exact k2 1 (by decide) hf
def F_J_quarrelsIn (r1 : Nat) (σ : Mm) : Option (Int × Mm) :=
  b1M (L_J_quarrelsIn_4 LF r1 0 1 σ) fun x2_5 s5 =>
  some (x2_5, s5)
set_option maxRecDepth 100000 in
set_option maxHeartbeats 4000000 in
theorem c_J_quarrelsIn (r1 : Nat) (q1 : IsO 0 6 r1) {σ : Mm} {a : Int} {σ2 : Mm} (hf : F_J_quarrelsIn r1 σ = some (a, σ2)) : CT yX4_quarrelsIn cX4_quarrelsIn 4 (some .int) 6 0 (fun ad => [.ref (ad 2), .ref (ad r1)]) σ (r32 a) (some (.int (i32 a))) σ2 := by
  refine MetJ 2 (by decide +kernel) rfl (fun _ => Nat.le_of_ble_eq_true rfl) ?_
  intro X h hR ok
  obtain ⟨res, er⟩ : ∃ z, z = (a, σ2) := ⟨_, rfl⟩
  have hret : ∀ y : Int × Mm, some y = some res → RX X 0 (r32 (y.1)) (some (.int (i32 (y.1)))) y.2 := fun y e => by cases e; cases er; exact hR
  rw [← er] at hf
  clear er hR
  unfold F_J_quarrelsIn at hf
  show SW X 0 4 0 [some (.ref (xad X 2)), some (.ref (xad X r1)), none, none] [] σ
  refine SW_iconst h (dt t_J_quarrelsIn 0 rfl) ?_
  refine SW_istore_n (lv2 := [some (.ref (xad X 2)), some (.ref (xad X r1)), some (.int (i32 0)), none]) h (dt t_J_quarrelsIn 1 rfl) (by decide) rfl ?_
  refine SW_iconst h (dt t_J_quarrelsIn 2 rfl) ?_
  refine SW_istore_n (lv2 := [some (.ref (xad X 2)), some (.ref (xad X r1)), some (.int (i32 0)), some (.int (i32 1))]) h (dt t_J_quarrelsIn 3 rfl) (by decide) rfl ?_
  obtain ⟨z5, e5, hk5⟩ := b1M_ex hf
  refine SW_fgt [true, true, true, true] rfl (l_J_quarrelsIn_4 h r1 q1 (fun x2_5 s5 hz5 hx2_5 ok5 => ?_) LF 0 1 σ (by decide) (by decide) ok e5)
  have hf := hk5 x2_5 s5 hz5
  refine SW_iload_n h rfl (dt t_J_quarrelsIn 34 rfl) ?_
  exact SW_iret h (hret _ hf) (fun _ => hx2_5) rfl (dt t_J_quarrelsIn 35 rfl)
def b_A_ofRow : List (Nat × Instr × Nat) := [(0, .aload_n 0, 1), (1, .getfield 10, 3), (4, .iload_n 1, 1), (5, .invokevirtual 101, 3), (8, .ifCond .ne 6, 3), (11, .ldc 105, 2), (13, .ireturn, 1), (14, .aload_n 0, 1), (15, .getfield 10, 3), (18, .getfield 90, 3), (21, .iload_n 1, 1), (22, .aaload, 1), (23, .astore_n 3, 1), (24, .iload_n 2, 1), (25, .bipush 10, 2), (27, .if_icmp .lt 24, 3), (30, .iload_n 2, 1), (31, .bipush 10, 2), (33, .aload_n 3, 1), (34, .getfield 193, 3), (37, .iadd, 1), (38, .if_icmp .ge 13, 3), (41, .aload_n 3, 1), (42, .getfield 194, 3), (45, .iload_n 2, 1), (46, .bipush 10, 2), (48, .isub, 1), (49, .iaload, 1), (50, .ireturn, 1), (51, .iload_n 2, 1), (52, .bipush 20, 2), (54, .if_icmp .lt 26, 3), (57, .iload_n 2, 1), (58, .bipush 20, 2), (60, .aload_n 3, 1), (61, .getfield 193, 3), (64, .iadd, 1), (65, .if_icmp .ge 15, 3), (68, .aload_n 3, 1), (69, .getfield 197, 3), (72, .iload_n 2, 1), (73, .bipush 20, 2), (75, .isub, 1), (76, .ishr, 1), (77, .iconst 1, 1), (78, .iand, 1), (79, .ireturn, 1), (80, .aload_n 0, 1), (81, .getfield 10, 3), (84, .getfield 55, 3), (87, .invokevirtual 200, 3), (90, .iload_n 2, 1), (91, .tableswitch 77 0 4 #[33, 38, 43, 60, 72], 33), (124, .aload_n 3, 1), (125, .getfield 193, 3), (128, .ireturn, 1), (129, .aload_n 3, 1), (130, .getfield 203, 3), (133, .ireturn, 1), (134, .aload_n 3, 1), (135, .getfield 203, 3), (138, .aload_n 0, 1), (139, .getfield 10, 3), (142, .getfield 55, 3), (145, .aload_n 3, 1), (146, .invokevirtual 206, 3), (149, .iadd, 1), (150, .ireturn, 1), (151, .aload_n 0, 1), (152, .getfield 10, 3), (155, .getfield 55, 3), (158, .aload_n 3, 1), (159, .invokevirtual 210, 3), (162, .ireturn, 1), (163, .aload_n 3, 1), (164, .getfield 213, 3), (167, .ireturn, 1), (168, .ldc 105, 2), (170, .ireturn, 1)]
theorem t_A_ofRow : DT cX10_ofRow b_A_ofRow := DT.of (by decide +kernel)
def F_A_ofRow (x1 : Int) (x2 : Int) (σ : Mm) : Option (Int × Mm) :=
  b1 (F_H_has x1 σ) fun v1 =>
  if v1 = 0 then
    some ((-1000000), σ)
  else
    if 0 ≤ x1 ∧ x1 < 12 then
      bindM (
        bindM (
          b0M (F_J_fresh  σ) fun s5 =>
          if x2 = 0 then
            some (s5 (10 + x1.toNat) 3, s5)
          else
            if x2 = 1 then
              some (s5 (10 + x1.toNat) 6, s5)
            else
              if x2 = 2 then
                b1M (F_J_offOf (10 + x1.toNat) s5) fun v9 s9 =>
                if r32 ((s5 (10 + x1.toNat) 6) + v9) then
                  some ((s5 (10 + x1.toNat) 6) + v9, s9)
                else none
              else
                if x2 = 3 then
                  b1M (F_J_quarrelsIn (10 + x1.toNat) s5) fun v12 s12 =>
                  some (v12, s12)
                else
                  if x2 = 4 then
                    some (s5 (10 + x1.toNat) 4, s5)
                  else
                    some ((-1000000), s5)) fun J4 =>
        if x2 < 20 then
          J4
        else
          if r32 (20 + (σ (10 + x1.toNat) 3)) then
            if 20 + (σ (10 + x1.toNat) 3) ≤ x2 then
              J4
            else
              some (iand (ishr (σ (10 + x1.toNat) 5) (x2 - 20)) 1, σ)
          else none) fun J3 =>
      if x2 < 10 then
        J3
      else
        if r32 (10 + (σ (10 + x1.toNat) 3)) then
          if 10 + (σ (10 + x1.toNat) 3) ≤ x2 then
            J3
          else
            if 0 ≤ x2 - 10 ∧ x2 - 10 < 4 then
              some (σ ((10 + x1.toNat) + 12) ((x2 - 10).toNat), σ)
            else none
        else none
    else none
set_option maxRecDepth 100000 in
set_option maxHeartbeats 4000000 in
theorem c_A_ofRow (x1 : Int) (hx1 : r32 x1) (x2 : Int) (hx2 : r32 x2) {σ : Mm} {a : Int} {σ2 : Mm} (hf : F_A_ofRow x1 x2 σ = some (a, σ2)) : CT yX10_ofRow cX10_ofRow 4 (some .int) 7 0 (fun ad => [.ref (ad 0), .int (i32 x1), .int (i32 x2)]) σ (r32 a) (some (.int (i32 a))) σ2 := by
  refine MetJ 1 (by decide +kernel) rfl (fun _ => Nat.le_of_ble_eq_true rfl) ?_
  intro X h hR ok
  obtain ⟨res, er⟩ : ∃ z, z = (a, σ2) := ⟨_, rfl⟩
  have hret : ∀ y : Int × Mm, some y = some res → RX X 0 (r32 (y.1)) (some (.int (i32 (y.1)))) y.2 := fun y e => by cases e; cases er; exact hR
  rw [← er] at hf
  clear er hR
  unfold F_A_ofRow at hf
  show SW X 0 4 0 [some (.ref (xad X 0)), some (.int (i32 x1)), some (.int (i32 x2)), none] [] σ
  refine SW_aload_n h rfl (dt t_A_ofRow 0 rfl) ?_
  refine gR h cf10 o0 f10_0 j0_0 lX10_10 (dt t_A_ofRow 1 rfl) ?_
  refine SW_iload_n h rfl (dt t_A_ofRow 2 rfl) ?_
  obtain ⟨v1, e1, hf⟩ := b1_of hf
  refine cV h [.int (i32 x1)] [] v_X2_has kX10_101 o1 (c_H_has x1 hx1 e1) rfl rfl (by decide) (by decide) rfl (Nat.le_of_ble_eq_true rfl) (dt t_A_ofRow 3 rfl) (fun h1 => ?_)
  refine SW_if_ne (tgt := 14) h (fun _ => (r_zo h1)) (dt t_A_ofRow 4 rfl) rfl hf (fun hf => ?_) (fun hf => ?_)
  · refine SW_ldc (n := -1000000) h nX10_105 (by decide) (dt t_A_ofRow 5 rfl) ?_
    exact SW_iret h (hret _ hf) (fun _ => (by decide)) rfl (dt t_A_ofRow 6 rfl)
  · refine SW_aload_n h rfl (dt t_A_ofRow 7 rfl) ?_
    refine gR h cf10 o0 f10_0 j0_0 lX10_10 (dt t_A_ofRow 8 rfl) ?_
    refine gR h cf2 o1 f2_2 j1_2 lX10_90 (dt t_A_ofRow 9 rfl) ?_
    refine SW_iload_n h rfl (dt t_A_ofRow 10 rfl) ?_
    refine aR h (by decide) a8 rfl (dt t_A_ofRow 11 rfl) hf (fun h2 hf => ?_)
    refine SW_astore_n (lv2 := [some (.ref (xad X 0)), some (.int (i32 x1)), some (.int (i32 x2)), some (.ref (xad X (10 + x1.toNat)))]) h (dt t_A_ofRow 12 rfl) (by decide) rfl ?_
    refine SW_iload_n h rfl (dt t_A_ofRow 13 rfl) ?_
    refine SW_bipush h (dt t_A_ofRow 14 rfl) (by decide) ?_
    refine bJ hf (fun J3 e3 hf => ?_)
    have k3 : ∀ (hf : J3 = some res), SW X 0 4 51 [some (.ref (xad X 0)), none, some (.int (i32 x2)), some (.ref (xad X (10 + x1.toNat)))] [] σ := by
      intro hf
      rw [e3] at hf
      refine SW_iload_n h rfl (dt t_A_ofRow 29 rfl) ?_
      refine SW_bipush h (dt t_A_ofRow 30 rfl) (by decide) ?_
      refine bJ hf (fun J4 e4 hf => ?_)
      have k4 : ∀ (hf : J4 = some res), SW X 0 4 80 [some (.ref (xad X 0)), none, some (.int (i32 x2)), some (.ref (xad X (10 + x1.toNat)))] [] σ := by
        intro hf
        rw [e4] at hf
        refine SW_aload_n h rfl (dt t_A_ofRow 47 rfl) ?_
        refine gR h cf10 o0 f10_0 j0_0 lX10_10 (dt t_A_ofRow 48 rfl) ?_
        refine gR h cf2 o1 f2_0 j1_0 lX10_55 (dt t_A_ofRow 49 rfl) ?_
        obtain ⟨s5, e5, hf⟩ := b0M_of hf
        refine cVv h [] [] v_X4_fresh kX10_200 o2 (c_J_fresh  e5) rfl rfl (by decide) (by decide) rfl (Nat.le_of_ble_eq_true rfl) (dt t_A_ofRow 50 rfl) (fun h5 => ?_)
        refine SW_ok (fun ok5 => ?_)
        refine SW_iload_n h rfl (dt t_A_ofRow 51 rfl) ?_
        refine SW_ite hf (fun h6 hf => ?_) (fun h6 hf => ?_)
        · refine SW_tabIn (tgt := 124) h 0 (fun _ => hx2) (dt t_A_ofRow 52 rfl) (h6.trans rfl) (by decide) rfl rfl ?_
          refine SW_aload_n h rfl (dt t_A_ofRow 53 rfl) ?_
          refine gI h cf6 (mk_row h2) f6_3 lX10_193 (dt t_A_ofRow 54 rfl) ?_
          exact SW_iret h (hret _ hf) (fun _ => (okI ok5 (10 + x1.toNat) 3 (IsO.n3 (mk_row h2)))) rfl (dt t_A_ofRow 55 rfl)
        · refine SW_ite hf (fun h7 hf => ?_) (fun h7 hf => ?_)
          · refine SW_tabIn (tgt := 129) h 1 (fun _ => hx2) (dt t_A_ofRow 52 rfl) (h7.trans rfl) (by decide) rfl rfl ?_
            refine SW_aload_n h rfl (dt t_A_ofRow 56 rfl) ?_
            refine gI h cf6 (mk_row h2) f6_6 lX10_203 (dt t_A_ofRow 57 rfl) ?_
            exact SW_iret h (hret _ hf) (fun _ => (okI ok5 (10 + x1.toNat) 6 (IsO.n3 (mk_row h2)))) rfl (dt t_A_ofRow 58 rfl)
          · refine SW_ite hf (fun h8 hf => ?_) (fun h8 hf => ?_)
            · refine SW_tabIn (tgt := 134) h 2 (fun _ => hx2) (dt t_A_ofRow 52 rfl) (h8.trans rfl) (by decide) rfl rfl ?_
              refine SW_aload_n h rfl (dt t_A_ofRow 59 rfl) ?_
              refine gI h cf6 (mk_row h2) f6_6 lX10_203 (dt t_A_ofRow 60 rfl) ?_
              refine SW_aload_n h rfl (dt t_A_ofRow 61 rfl) ?_
              refine gR h cf10 o0 f10_0 j0_0 lX10_10 (dt t_A_ofRow 62 rfl) ?_
              refine gR h cf2 o1 f2_0 j1_0 lX10_55 (dt t_A_ofRow 63 rfl) ?_
              refine SW_aload_n h rfl (dt t_A_ofRow 64 rfl) ?_
              obtain ⟨v9, s9, e9, hf⟩ := b1M_of hf
              refine cV h [.ref (xad X (10 + x1.toNat))] [.int (i32 (s5 (10 + x1.toNat) 6))] v_X4_offOf kX10_206 o2 (c_J_offOf (10 + x1.toNat) (mk_row h2) e9) rfl rfl (by decide) (by decide) rfl (Nat.le_of_ble_eq_true rfl) (dt t_A_ofRow 65 rfl) (fun h9 => ?_)
              refine SW_ok (fun ok9 => ?_)
              refine SW_iadd h (dt t_A_ofRow 66 rfl) ?_
              refine SW_chk hf (fun h10 hf => ?_)
              exact SW_iret h (hret _ hf) (fun _ => h10) rfl (dt t_A_ofRow 67 rfl)
            · refine SW_ite hf (fun h11 hf => ?_) (fun h11 hf => ?_)
              · refine SW_tabIn (tgt := 151) h 3 (fun _ => hx2) (dt t_A_ofRow 52 rfl) (h11.trans rfl) (by decide) rfl rfl ?_
                refine SW_aload_n h rfl (dt t_A_ofRow 68 rfl) ?_
                refine gR h cf10 o0 f10_0 j0_0 lX10_10 (dt t_A_ofRow 69 rfl) ?_
                refine gR h cf2 o1 f2_0 j1_0 lX10_55 (dt t_A_ofRow 70 rfl) ?_
                refine SW_aload_n h rfl (dt t_A_ofRow 71 rfl) ?_
                obtain ⟨v12, s12, e12, hf⟩ := b1M_of hf
                refine cV h [.ref (xad X (10 + x1.toNat))] [] v_X4_quarrelsIn kX10_210 o2 (c_J_quarrelsIn (10 + x1.toNat) (mk_row h2) e12) rfl rfl (by decide) (by decide) rfl (Nat.le_of_ble_eq_true rfl) (dt t_A_ofRow 72 rfl) (fun h12 => ?_)
                refine SW_ok (fun ok12 => ?_)
                exact SW_iret h (hret _ hf) (fun _ => h12) rfl (dt t_A_ofRow 73 rfl)
              · refine SW_ite hf (fun h13 hf => ?_) (fun h13 hf => ?_)
                · refine SW_tabIn (tgt := 163) h 4 (fun _ => hx2) (dt t_A_ofRow 52 rfl) (h13.trans rfl) (by decide) rfl rfl ?_
                  refine SW_aload_n h rfl (dt t_A_ofRow 74 rfl) ?_
                  refine gI h cf6 (mk_row h2) f6_4 lX10_213 (dt t_A_ofRow 75 rfl) ?_
                  exact SW_iret h (hret _ hf) (fun _ => (okI ok5 (10 + x1.toNat) 4 (IsO.n3 (mk_row h2)))) rfl (dt t_A_ofRow 76 rfl)
                · refine SW_tabOut (tgt := 168) h (fun _ => hx2) (dt t_A_ofRow 52 rfl) (by omega) rfl ?_
                  refine SW_ldc (n := -1000000) h nX10_105 (by decide) (dt t_A_ofRow 77 rfl) ?_
                  exact SW_iret h (hret _ hf) (fun _ => (by decide)) rfl (dt t_A_ofRow 78 rfl)
      refine SW_icmp_lt (tgt := 80) h (fun _ => hx2) (fun _ => (by decide)) (dt t_A_ofRow 31 rfl) rfl hf (fun hf => ?_) (fun hf => ?_)
      · exact SW_fgt [true, false, true, true] rfl (k4 hf)
      · refine SW_iload_n h rfl (dt t_A_ofRow 32 rfl) ?_
        refine SW_bipush h (dt t_A_ofRow 33 rfl) (by decide) ?_
        refine SW_aload_n h rfl (dt t_A_ofRow 34 rfl) ?_
        refine gI h cf6 (mk_row h2) f6_3 lX10_193 (dt t_A_ofRow 35 rfl) ?_
        refine SW_iadd h (dt t_A_ofRow 36 rfl) ?_
        refine SW_chk hf (fun h14 hf => ?_)
        refine SW_icmp_ge (tgt := 80) h (fun _ => hx2) (fun _ => h14) (dt t_A_ofRow 37 rfl) rfl hf (fun hf => ?_) (fun hf => ?_)
        · exact SW_fgt [true, false, true, true] rfl (k4 hf)
        · refine SW_aload_n h rfl (dt t_A_ofRow 38 rfl) ?_
          refine gI h cf6 (mk_row h2) f6_5 lX10_197 (dt t_A_ofRow 39 rfl) ?_
          refine SW_iload_n h rfl (dt t_A_ofRow 40 rfl) ?_
          refine SW_bipush h (dt t_A_ofRow 41 rfl) (by decide) ?_
          refine SW_isub h (dt t_A_ofRow 42 rfl) ?_
          refine SW_ishr h (dt t_A_ofRow 43 rfl) ?_
          refine SW_iconst h (dt t_A_ofRow 44 rfl) ?_
          refine SW_iand h (dt t_A_ofRow 45 rfl) ?_
          exact SW_iret h (hret _ hf) (fun _ => (r_iand _ _)) rfl (dt t_A_ofRow 46 rfl)
    refine SW_icmp_lt (tgt := 51) h (fun _ => hx2) (fun _ => (by decide)) (dt t_A_ofRow 15 rfl) rfl hf (fun hf => ?_) (fun hf => ?_)
    · exact SW_fgt [true, false, true, true] rfl (k3 hf)
    · refine SW_iload_n h rfl (dt t_A_ofRow 16 rfl) ?_
      refine SW_bipush h (dt t_A_ofRow 17 rfl) (by decide) ?_
      refine SW_aload_n h rfl (dt t_A_ofRow 18 rfl) ?_
      refine gI h cf6 (mk_row h2) f6_3 lX10_193 (dt t_A_ofRow 19 rfl) ?_
      refine SW_iadd h (dt t_A_ofRow 20 rfl) ?_
      refine SW_chk hf (fun h15 hf => ?_)
      refine SW_icmp_ge (tgt := 51) h (fun _ => hx2) (fun _ => h15) (dt t_A_ofRow 21 rfl) rfl hf (fun hf => ?_) (fun hf => ?_)
      · exact SW_fgt [true, false, true, true] rfl (k3 hf)
      · refine SW_aload_n h rfl (dt t_A_ofRow 22 rfl) ?_
        refine gR h cf6 (mk_row h2) f6_0 (dy6_0 (mk_row h2)).1 lX10_194 (dt t_A_ofRow 23 rfl) ?_
        refine SW_iload_n h rfl (dt t_A_ofRow 24 rfl) ?_
        refine SW_bipush h (dt t_A_ofRow 25 rfl) (by decide) ?_
        refine SW_isub h (dt t_A_ofRow 26 rfl) ?_
        refine aI h (dy6_0 (mk_row h2)).2 (dt t_A_ofRow 27 rfl) hf (fun hf => ?_)
        exact SW_iret h (hret _ hf) (fun _ => (okI ok ((10 + x1.toNat) + 12) ((x2 - 10).toNat) (IsA.n3 (dy6_0 (mk_row h2)).2 (by decide)))) rfl (dt t_A_ofRow 28 rfl)
def b_E_leastOrder : List (Nat × Instr × Nat) := [(0, .aload_n 0, 1), (1, .getfield 41, 3), (4, .invokevirtual 42, 3), (7, .iconst 0, 1), (8, .istore_n 2, 1), (9, .iload_n 2, 1), (10, .iload_n 1, 1), (11, .if_icmp .ge 52, 3), (14, .iload_n 2, 1), (15, .iconst 1, 1), (16, .iadd, 1), (17, .istore_n 3, 1), (18, .iload_n 3, 1), (19, .iload_n 1, 1), (20, .if_icmp .ge 37, 3), (23, .aload_n 0, 1), (24, .getfield 41, 3), (27, .iload_n 2, 1), (28, .iload_n 3, 1), (29, .invokevirtual 72, 3), (32, .aload_n 0, 1), (33, .getfield 41, 3), (36, .iload_n 3, 1), (37, .iload_n 2, 1), (38, .invokevirtual 72, 3), (41, .if_icmp .eq 10, 3), (44, .bipush 100, 2), (46, .iload_n 2, 1), (47, .imul, 1), (48, .iload_n 3, 1), (49, .iadd, 1), (50, .ireturn, 1), (51, .iinc 3 1, 3), (54, .goto (-36), 3), (57, .iinc 2 1, 3), (60, .goto (-51), 3), (63, .iconst (-1), 1), (64, .ireturn, 1)]
theorem t_E_leastOrder : DT cX7_leastOrder b_E_leastOrder := DT.of (by decide +kernel)
def L_E_leastOrder_18 : Nat → Int → Int → Int → Mm → Option ((Int × Mm) ⊕ (Mm))
  | 0, _, _, _, _ => none
  | n + 1, x1, x2, x3, σ =>
    if x1 ≤ x3 then
      some (.inr σ)
    else
      b1M (F_J_between x2 x3 σ) fun v2 s2 =>
      b1M (F_J_between x3 x2 s2) fun v3 s3 =>
      if v2 = v3 then
        if r32 (x3 + 1) then
          L_E_leastOrder_18 n x1 x2 (x3 + 1) s3
        else none
      else
        if r32 ((100 * x2) + x3) then
          some (.inl ((100 * x2) + x3, s3))
        else none
set_option maxRecDepth 100000 in
set_option maxHeartbeats 4000000 in
theorem l_E_leastOrder_18 {X : Cx} (h : CX X 0 cX7_leastOrder 4 7 (some .int) RX7) (x1 : Int) (x2 : Int) (hx1 : r32 x1) (hx2 : r32 x2) {res : (Int × Mm) ⊕ (Mm)} (hret : ∀ y : Int × Mm, some (.inl y) = some res → RX X 0 (r32 (y.1)) (some (.int (i32 (y.1)))) y.2) (hex : ∀  (σ : Mm) (hz : some (.inr σ) = some res)  (ok : okM σ), SW X 0 4 57 [some (.ref (xad X 114)), some (.int (i32 x1)), some (.int (i32 x2)), none] [] σ) : ∀ (n : Nat) (x3 : Int) (σ : Mm) (hx3 : r32 x3) (ok : okM σ) (hf : L_E_leastOrder_18 n x1 x2 x3 σ = some res), SW X 0 4 18 [some (.ref (xad X 114)), some (.int (i32 x1)), some (.int (i32 x2)), some (.int (i32 x3))] [] σ := by
  intro n
  induction n with
  | zero => intro x3 σ hx3 ok hf; exact absurd hf (by simp [L_E_leastOrder_18])
  | succ n ih =>
    intro x3 σ hx3 ok hf
    rw [L_E_leastOrder_18] at hf
    refine SW_iload_n h rfl (dt t_E_leastOrder 12 rfl) ?_
    refine SW_iload_n h rfl (dt t_E_leastOrder 13 rfl) ?_
    refine SW_icmp_ge (tgt := 57) h (fun _ => hx3) (fun _ => hx1) (dt t_E_leastOrder 14 rfl) rfl hf (fun hf => ?_) (fun hf => ?_)
    · exact SW_fgt [true, true, true, false] rfl (hex σ hf ok)
    · refine SW_aload_n h rfl (dt t_E_leastOrder 15 rfl) ?_
      refine gR h cf7 o114 f7_1 j114_1 lX7_41 (dt t_E_leastOrder 16 rfl) ?_
      refine SW_iload_n h rfl (dt t_E_leastOrder 17 rfl) ?_
      refine SW_iload_n h rfl (dt t_E_leastOrder 18 rfl) ?_
      obtain ⟨v2, s2, e2, hf⟩ := b1M_of hf
      refine cV h [.int (i32 x2), .int (i32 x3)] [] v_X4_between kX7_72 o2 (c_J_between x2 hx2 x3 hx3 e2) rfl rfl (by decide) (by decide) rfl (Nat.le_of_ble_eq_true rfl) (dt t_E_leastOrder 19 rfl) (fun h2 => ?_)
      refine SW_ok (fun ok2 => ?_)
      refine SW_aload_n h rfl (dt t_E_leastOrder 20 rfl) ?_
      refine gR h cf7 o114 f7_1 j114_1 lX7_41 (dt t_E_leastOrder 21 rfl) ?_
      refine SW_iload_n h rfl (dt t_E_leastOrder 22 rfl) ?_
      refine SW_iload_n h rfl (dt t_E_leastOrder 23 rfl) ?_
      obtain ⟨v3, s3, e3, hf⟩ := b1M_of hf
      refine cV h [.int (i32 x3), .int (i32 x2)] [.int (i32 v2)] v_X4_between kX7_72 o2 (c_J_between x3 hx3 x2 hx2 e3) rfl rfl (by decide) (by decide) rfl (Nat.le_of_ble_eq_true rfl) (dt t_E_leastOrder 24 rfl) (fun h3 => ?_)
      refine SW_ok (fun ok3 => ?_)
      refine SW_icmp_eq (tgt := 51) h (fun _ => h2) (fun _ => h3) (dt t_E_leastOrder 25 rfl) rfl hf (fun hf => ?_) (fun hf => ?_)
      · refine SW_iinc (lv2 := [some (.ref (xad X 114)), some (.int (i32 x1)), some (.int (i32 x2)), some (.int (i32 (x3 + 1)))]) h (dt t_E_leastOrder 32 rfl) rfl (by decide) rfl ?_
        refine SW_goto (tgt := 18) h (dt t_E_leastOrder 33 rfl) rfl ?_
        refine SW_chk hf (fun h4 hf => ?_)
        exact SW_fgt [true, true, true, true] rfl (ih (x3 + 1) s3 h4 ok3 hf)
      · refine SW_bipush h (dt t_E_leastOrder 26 rfl) (by decide) ?_
        refine SW_iload_n h rfl (dt t_E_leastOrder 27 rfl) ?_
        refine SW_imul h (dt t_E_leastOrder 28 rfl) ?_
        refine SW_iload_n h rfl (dt t_E_leastOrder 29 rfl) ?_
        refine SW_iadd h (dt t_E_leastOrder 30 rfl) ?_
        refine SW_chk hf (fun h5 hf => ?_)
        exact SW_iret h (hret _ hf) (fun _ => h5) rfl (dt t_E_leastOrder 31 rfl)
def L_E_leastOrder_9 : Nat → Int → Int → Mm → Option ((Int × Mm) ⊕ (Mm))
  | 0, _, _, _ => none
  | n + 1, x1, x2, σ =>
    if x1 ≤ x2 then
      some (.inr σ)
    else
      if r32 (x2 + 1) then
        b0MS (L_E_leastOrder_18 LF x1 x2 (x2 + 1) σ) (fun y => some (.inl y)) fun s6 =>
        if r32 (x2 + 1) then
          L_E_leastOrder_9 n x1 (x2 + 1) s6
        else none
      else none
set_option maxRecDepth 100000 in
set_option maxHeartbeats 4000000 in
theorem l_E_leastOrder_9 {X : Cx} (h : CX X 0 cX7_leastOrder 4 7 (some .int) RX7) (x1 : Int) (hx1 : r32 x1) {res : (Int × Mm) ⊕ (Mm)} (hret : ∀ y : Int × Mm, some (.inl y) = some res → RX X 0 (r32 (y.1)) (some (.int (i32 (y.1)))) y.2) (hex : ∀  (σ : Mm) (hz : some (.inr σ) = some res)  (ok : okM σ), SW X 0 4 63 [none, none, none, none] [] σ) : ∀ (n : Nat) (x2 : Int) (σ : Mm) (hx2 : r32 x2) (ok : okM σ) (hf : L_E_leastOrder_9 n x1 x2 σ = some res), SW X 0 4 9 [some (.ref (xad X 114)), some (.int (i32 x1)), some (.int (i32 x2)), none] [] σ := by
  intro n
  induction n with
  | zero => intro x2 σ hx2 ok hf; exact absurd hf (by simp [L_E_leastOrder_9])
  | succ n ih =>
    intro x2 σ hx2 ok hf
    rw [L_E_leastOrder_9] at hf
    refine SW_iload_n h rfl (dt t_E_leastOrder 5 rfl) ?_
    refine SW_iload_n h rfl (dt t_E_leastOrder 6 rfl) ?_
    refine SW_icmp_ge (tgt := 63) h (fun _ => hx2) (fun _ => hx1) (dt t_E_leastOrder 7 rfl) rfl hf (fun hf => ?_) (fun hf => ?_)
    · exact SW_fgt [false, false, false, false] rfl (hex σ hf ok)
    · refine SW_iload_n h rfl (dt t_E_leastOrder 8 rfl) ?_
      refine SW_iconst h (dt t_E_leastOrder 9 rfl) ?_
      refine SW_iadd h (dt t_E_leastOrder 10 rfl) ?_
      refine SW_istore_n (lv2 := [some (.ref (xad X 114)), some (.int (i32 x1)), some (.int (i32 x2)), some (.int (i32 (x2 + 1)))]) h (dt t_E_leastOrder 11 rfl) (by decide) rfl ?_
      refine SW_chk hf (fun h7 hf => ?_)
      obtain ⟨z6, e6, g6, hk6⟩ := b0MS_of hf
      refine SW_fgt [true, true, true, true] rfl (l_E_leastOrder_18 h x1 x2 hx1 hx2 (fun y e => hret y (g6 y (Option.some.inj e).symm)) (fun s6 hz6 ok6 => ?_) LF (x2 + 1) σ h7 ok e6)
      have hf := hk6 s6 (Option.some.inj hz6).symm
      refine SW_iinc (lv2 := [some (.ref (xad X 114)), some (.int (i32 x1)), some (.int (i32 (x2 + 1))), none]) h (dt t_E_leastOrder 34 rfl) rfl (by decide) rfl ?_
      refine SW_goto (tgt := 9) h (dt t_E_leastOrder 35 rfl) rfl ?_
      refine SW_chk hf (fun h8 hf => ?_)
      exact SW_fgt [true, true, true, false] rfl (ih (x2 + 1) s6 h8 ok6 hf)
def F_E_leastOrder (x1 : Int) (σ : Mm) : Option (Int × Mm) :=
  b0M (F_J_fresh  σ) fun s1 =>
  b0MS (L_E_leastOrder_9 LF x1 0 s1) (fun y => some y) fun s9 =>
  some ((-1), s9)
set_option maxRecDepth 100000 in
set_option maxHeartbeats 4000000 in
theorem c_E_leastOrder (x1 : Int) (hx1 : r32 x1) {σ : Mm} {a : Int} {σ2 : Mm} (hf : F_E_leastOrder x1 σ = some (a, σ2)) : CT yX7_leastOrder cX7_leastOrder 4 (some .int) 7 0 (fun ad => [.ref (ad 114), .int (i32 x1)]) σ (r32 a) (some (.int (i32 a))) σ2 := by
  refine MetJ 2 (by decide +kernel) rfl (fun _ => Nat.le_of_ble_eq_true rfl) ?_
  intro X h hR ok
  obtain ⟨res, er⟩ : ∃ z, z = (a, σ2) := ⟨_, rfl⟩
  have hret : ∀ y : Int × Mm, some y = some res → RX X 0 (r32 (y.1)) (some (.int (i32 (y.1)))) y.2 := fun y e => by cases e; cases er; exact hR
  rw [← er] at hf
  clear er hR
  unfold F_E_leastOrder at hf
  show SW X 0 4 0 [some (.ref (xad X 114)), some (.int (i32 x1)), none, none] [] σ
  refine SW_aload_n h rfl (dt t_E_leastOrder 0 rfl) ?_
  refine gR h cf7 o114 f7_1 j114_1 lX7_41 (dt t_E_leastOrder 1 rfl) ?_
  obtain ⟨s1, e1, hf⟩ := b0M_of hf
  refine cVv h [] [] v_X4_fresh kX7_42 o2 (c_J_fresh  e1) rfl rfl (by decide) (by decide) rfl (Nat.le_of_ble_eq_true rfl) (dt t_E_leastOrder 2 rfl) (fun h1 => ?_)
  refine SW_ok (fun ok1 => ?_)
  refine SW_iconst h (dt t_E_leastOrder 3 rfl) ?_
  refine SW_istore_n (lv2 := [some (.ref (xad X 114)), some (.int (i32 x1)), some (.int (i32 0)), none]) h (dt t_E_leastOrder 4 rfl) (by decide) rfl ?_
  obtain ⟨z9, e9, g9, hk9⟩ := b0MS_of hf
  refine SW_fgt [true, true, true, false] rfl (l_E_leastOrder_9 h x1 hx1 (fun y e => hret y (g9 y (Option.some.inj e).symm)) (fun s9 hz9 ok9 => ?_) LF 0 s1 (by decide) ok1 e9)
  have hf := hk9 s9 (Option.some.inj hz9).symm
  refine SW_iconst h (dt t_E_leastOrder 36 rfl) ?_
  exact SW_iret h (hret _ hf) (fun _ => (by decide)) rfl (dt t_E_leastOrder 37 rfl)
def b_A_order : List (Nat × Instr × Nat) := [(0, .iload_n 1, 1), (1, .iconst 1, 1), (2, .if_icmp .lt 9, 3), (5, .iload_n 1, 1), (6, .bipush 100, 2), (8, .if_icmp .le 7, 3), (11, .iconst (-1), 1), (12, .goto 11, 3), (15, .aload_n 0, 1), (16, .getfield 42, 3), (19, .iload_n 1, 1), (20, .invokevirtual 286, 3), (23, .ireturn, 1)]
theorem t_A_order : DT cX10_order b_A_order := DT.of (by decide +kernel)
def F_A_order (x1 : Int) (σ : Mm) : Option (Int × Mm) :=
  if x1 < 1 then
    some ((-1), σ)
  else
    if x1 ≤ 100 then
      b1M (F_E_leastOrder x1 σ) fun v1 s1 =>
      some (v1, s1)
    else
      some ((-1), σ)
set_option maxRecDepth 100000 in
set_option maxHeartbeats 4000000 in
theorem c_A_order (x1 : Int) (hx1 : r32 x1) {σ : Mm} {a : Int} {σ2 : Mm} (hf : F_A_order x1 σ = some (a, σ2)) : CT yX10_order cX10_order 2 (some .int) 8 0 (fun ad => [.ref (ad 0), .int (i32 x1)]) σ (r32 a) (some (.int (i32 a))) σ2 := by
  refine MetJ 0 (by decide +kernel) rfl (fun _ => Nat.le_of_ble_eq_true rfl) ?_
  intro X h hR ok
  obtain ⟨res, er⟩ : ∃ z, z = (a, σ2) := ⟨_, rfl⟩
  have hret : ∀ y : Int × Mm, some y = some res → RX X 0 (r32 (y.1)) (some (.int (i32 (y.1)))) y.2 := fun y e => by cases e; cases er; exact hR
  rw [← er] at hf
  clear er hR
  unfold F_A_order at hf
  show SW X 0 2 0 [some (.ref (xad X 0)), some (.int (i32 x1))] [] σ
  refine SW_iload_n h rfl (dt t_A_order 0 rfl) ?_
  refine SW_iconst h (dt t_A_order 1 rfl) ?_
  refine SW_icmp_lt (tgt := 11) h (fun _ => hx1) (fun _ => (by decide)) (dt t_A_order 2 rfl) rfl hf (fun hf => ?_) (fun hf => ?_)
  · refine SW_iconst h (dt t_A_order 6 rfl) ?_
    refine SW_goto (tgt := 23) h (dt t_A_order 7 rfl) rfl ?_
    exact SW_iret h (hret _ hf) (fun _ => (by decide)) rfl (dt t_A_order 12 rfl)
  · refine SW_iload_n h rfl (dt t_A_order 3 rfl) ?_
    refine SW_bipush h (dt t_A_order 4 rfl) (by decide) ?_
    refine SW_icmp_le (tgt := 15) h (fun _ => hx1) (fun _ => (by decide)) (dt t_A_order 5 rfl) rfl hf (fun hf => ?_) (fun hf => ?_)
    · refine SW_aload_n h rfl (dt t_A_order 8 rfl) ?_
      refine gR h cf10 o0 f10_4 j0_4 lX10_42 (dt t_A_order 9 rfl) ?_
      refine SW_iload_n h rfl (dt t_A_order 10 rfl) ?_
      obtain ⟨v1, s1, e1, hf⟩ := b1M_of hf
      refine cV h [.int (i32 x1)] [] v_X7_leastOrder kX10_286 o114 (c_E_leastOrder x1 hx1 e1) rfl rfl (by decide) (by decide) rfl (Nat.le_of_ble_eq_true rfl) (dt t_A_order 11 rfl) (fun h1 => ?_)
      refine SW_ok (fun ok1 => ?_)
      exact SW_iret h (hret _ hf) (fun _ => h1) rfl (dt t_A_order 12 rfl)
    · refine SW_iconst h (dt t_A_order 6 rfl) ?_
      refine SW_goto (tgt := 23) h (dt t_A_order 7 rfl) rfl ?_
      exact SW_iret h (hret _ hf) (fun _ => (by decide)) rfl (dt t_A_order 12 rfl)
def b_E_sidesChanged : List (Nat × Instr × Nat) := [(0, .iconst 0, 1), (1, .istore_n 2, 1), (2, .iconst 0, 1), (3, .istore_n 3, 1), (4, .iload_n 1, 1), (5, .iconst 1, 1), (6, .isub, 1), (7, .istore 4, 2), (9, .iload 4, 2), (11, .ifCond .lt 54, 3), (14, .iload_n 0, 1), (15, .iconst 2, 1), (16, .iload 4, 2), (18, .imul, 1), (19, .ishr, 1), (20, .iconst 3, 1), (21, .iand, 1), (22, .istore 5, 2), (24, .iload 5, 2), (26, .iload_n 1, 1), (27, .if_icmp .ge 13, 3), (30, .iload_n 2, 1), (31, .iload 5, 2), (33, .ishr, 1), (34, .iconst 1, 1), (35, .iand, 1), (36, .iconst 1, 1), (37, .if_icmp .ne 5, 3), (40, .iconst (-1), 1), (41, .ireturn, 1), (42, .iload_n 3, 1), (43, .iload_n 2, 1), (44, .iload 5, 2), (46, .ishr, 1), (47, .invokestatic 67, 3), (50, .iadd, 1), (51, .istore_n 3, 1), (52, .iload_n 2, 1), (53, .iconst 1, 1), (54, .iload 5, 2), (56, .ishl, 1), (57, .ior, 1), (58, .istore_n 2, 1), (59, .iinc 4 (-1), 3), (62, .goto (-53), 3), (65, .iload_n 3, 1), (66, .ireturn, 1)]
theorem t_E_sidesChanged : DT cX7_sidesChanged b_E_sidesChanged := DT.of (by decide +kernel)
def L_E_sidesChanged_9 : Nat → Int → Int → Int → Int → Int → Option ((Int) ⊕ (Int))
  | 0, _, _, _, _, _ => none
  | n + 1, x0, x1, x2, x3, x4 =>
    if x4 < 0 then
      some (.inr x3)
    else
      bindM (iand (ishr x0 (2 * x4)) 3) fun v1 =>
      if x1 ≤ v1 then
        some (.inl ((-1)))
      else
        if iand (ishr x2 v1) 1 = 1 then
          some (.inl ((-1)))
        else
          b1 (F_K_bitCount (ishr x2 v1)) fun v2 =>
          bindM (ior x2 (ishl 1 v1)) fun v3 =>
          if r32 (x3 + v2) then
            if r32 (x4 + (-1)) then
              L_E_sidesChanged_9 n x0 x1 v3 (x3 + v2) (x4 + (-1))
            else none
          else none
set_option maxRecDepth 100000 in
set_option maxHeartbeats 4000000 in
theorem l_E_sidesChanged_9 {X : Cx} (h : CX X 0 cX7_sidesChanged 6 1 (some .int) RX7) (x0 : Int) (x1 : Int) (σ : Mm) (hx0 : r32 x0) (hx1 : r32 x1) (ok : okM σ) {res : (Int) ⊕ (Int)} (hret : ∀ y : Int, some (.inl y) = some res → RX X 0 (r32 (y)) (some (.int (i32 (y)))) σ) (hex : ∀ (x3 : Int) (hz : some (.inr x3) = some res) (hx3 : r32 x3), SW X 0 6 65 [none, none, none, some (.int (i32 x3)), none, none] [] σ) : ∀ (n : Nat) (x2 : Int) (x3 : Int) (x4 : Int) (hx2 : r32 x2) (hx3 : r32 x3) (hx4 : r32 x4) (hf : L_E_sidesChanged_9 n x0 x1 x2 x3 x4 = some res), SW X 0 6 9 [some (.int (i32 x0)), some (.int (i32 x1)), some (.int (i32 x2)), some (.int (i32 x3)), some (.int (i32 x4)), none] [] σ := by
  intro n
  induction n with
  | zero => intro x2 x3 x4 hx2 hx3 hx4 hf; exact absurd hf (by simp [L_E_sidesChanged_9])
  | succ n ih =>
    intro x2 x3 x4 hx2 hx3 hx4 hf
    rw [L_E_sidesChanged_9] at hf
    refine SW_iload h rfl (dt t_E_sidesChanged 8 rfl) ?_
    refine SW_if_lt (tgt := 65) h (fun _ => hx4) (dt t_E_sidesChanged 9 rfl) rfl hf (fun hf => ?_) (fun hf => ?_)
    · exact SW_fgt [false, false, false, true, false, false] rfl (hex x3 hf hx3)
    · refine SW_iload_n h rfl (dt t_E_sidesChanged 10 rfl) ?_
      refine SW_iconst h (dt t_E_sidesChanged 11 rfl) ?_
      refine SW_iload h rfl (dt t_E_sidesChanged 12 rfl) ?_
      refine SW_imul h (dt t_E_sidesChanged 13 rfl) ?_
      refine SW_ishr h (dt t_E_sidesChanged 14 rfl) ?_
      refine SW_iconst h (dt t_E_sidesChanged 15 rfl) ?_
      refine SW_iand h (dt t_E_sidesChanged 16 rfl) ?_
      refine SW_vi hf (r_iand _ _) (fun v1 h1 hf => ?_)
      refine SW_istore (lv2 := [some (.int (i32 x0)), some (.int (i32 x1)), some (.int (i32 x2)), some (.int (i32 x3)), some (.int (i32 x4)), some (.int (i32 v1))]) h (dt t_E_sidesChanged 17 rfl) (by decide) rfl ?_
      refine SW_iload h rfl (dt t_E_sidesChanged 18 rfl) ?_
      refine SW_iload_n h rfl (dt t_E_sidesChanged 19 rfl) ?_
      refine SW_icmp_ge (tgt := 40) h (fun _ => h1) (fun _ => hx1) (dt t_E_sidesChanged 20 rfl) rfl hf (fun hf => ?_) (fun hf => ?_)
      · refine SW_iconst h (dt t_E_sidesChanged 28 rfl) ?_
        exact SW_iret h (hret _ hf) (fun _ => (by decide)) rfl (dt t_E_sidesChanged 29 rfl)
      · refine SW_iload_n h rfl (dt t_E_sidesChanged 21 rfl) ?_
        refine SW_iload h rfl (dt t_E_sidesChanged 22 rfl) ?_
        refine SW_ishr h (dt t_E_sidesChanged 23 rfl) ?_
        refine SW_iconst h (dt t_E_sidesChanged 24 rfl) ?_
        refine SW_iand h (dt t_E_sidesChanged 25 rfl) ?_
        refine SW_iconst h (dt t_E_sidesChanged 26 rfl) ?_
        refine SW_icmp_ne (tgt := 42) h (fun _ => (r_iand _ _)) (fun _ => (by decide)) (dt t_E_sidesChanged 27 rfl) rfl hf (fun hf => ?_) (fun hf => ?_)
        · refine SW_iconst h (dt t_E_sidesChanged 28 rfl) ?_
          exact SW_iret h (hret _ hf) (fun _ => (by decide)) rfl (dt t_E_sidesChanged 29 rfl)
        · refine SW_iload_n h rfl (dt t_E_sidesChanged 30 rfl) ?_
          refine SW_iload_n h rfl (dt t_E_sidesChanged 31 rfl) ?_
          refine SW_iload h rfl (dt t_E_sidesChanged 32 rfl) ?_
          refine SW_ishr h (dt t_E_sidesChanged 33 rfl) ?_
          obtain ⟨v2, e2, hf⟩ := b1_of hf
          refine cS h [.int (i32 (ishr x2 v1))] [.int (i32 x3)] v_J6_bitCount_0f7a4 kX7_67 (c_K_bitCount (ishr x2 v1) (r_ishr _ _) e2) rfl rfl (by decide) (by decide) rfl (Nat.le_of_ble_eq_true rfl) (dt t_E_sidesChanged 34 rfl) (fun h2 => ?_)
          refine SW_iadd h (dt t_E_sidesChanged 35 rfl) ?_
          refine SW_istore_n (lv2 := [some (.int (i32 x0)), some (.int (i32 x1)), some (.int (i32 x2)), some (.int (i32 (x3 + v2))), some (.int (i32 x4)), some (.int (i32 v1))]) h (dt t_E_sidesChanged 36 rfl) (by decide) rfl ?_
          refine SW_iload_n h rfl (dt t_E_sidesChanged 37 rfl) ?_
          refine SW_iconst h (dt t_E_sidesChanged 38 rfl) ?_
          refine SW_iload h rfl (dt t_E_sidesChanged 39 rfl) ?_
          refine SW_ishl h (dt t_E_sidesChanged 40 rfl) ?_
          refine SW_ior h (dt t_E_sidesChanged 41 rfl) ?_
          refine SW_vi hf (r_ior _ _) (fun v3 h3 hf => ?_)
          refine SW_istore_n (lv2 := [some (.int (i32 x0)), some (.int (i32 x1)), some (.int (i32 v3)), some (.int (i32 (x3 + v2))), some (.int (i32 x4)), some (.int (i32 v1))]) h (dt t_E_sidesChanged 42 rfl) (by decide) rfl ?_
          refine SW_iinc (lv2 := [some (.int (i32 x0)), some (.int (i32 x1)), some (.int (i32 v3)), some (.int (i32 (x3 + v2))), some (.int (i32 (x4 + (-1)))), some (.int (i32 v1))]) h (dt t_E_sidesChanged 43 rfl) rfl (by decide) rfl ?_
          refine SW_goto (tgt := 9) h (dt t_E_sidesChanged 44 rfl) rfl ?_
          refine SW_chk hf (fun h4 hf => ?_)
          refine SW_chk hf (fun h5 hf => ?_)
          exact SW_fgt [true, true, true, true, true, false] rfl (ih v3 (x3 + v2) (x4 + (-1)) h3 h4 h5 hf)
def F_E_sidesChanged (x0 : Int) (x1 : Int) : Option (Int) :=
  if r32 (x1 - 1) then
    b1S (L_E_sidesChanged_9 LF x0 x1 0 0 (x1 - 1)) (fun y => some y) fun x3_6 =>
    some x3_6
  else none
set_option maxRecDepth 100000 in
set_option maxHeartbeats 4000000 in
theorem c_E_sidesChanged (x0 : Int) (hx0 : r32 x0) (x1 : Int) (hx1 : r32 x1) {σ : Mm} {a : Int} (hf : F_E_sidesChanged x0 x1 = some a) : CT yX7_sidesChanged cX7_sidesChanged 6 (some .int) 1 0 (fun ad => [.int (i32 x0), .int (i32 x1)]) σ (r32 a) (some (.int (i32 a))) σ := by
  refine MetJ 4 (by decide +kernel) rfl (fun _ => Nat.le_of_ble_eq_true rfl) ?_
  intro X h hR ok
  obtain ⟨res, er⟩ : ∃ z, z = a := ⟨_, rfl⟩
  have hret : ∀ y : Int, some y = some res → RX X 0 (r32 (y)) (some (.int (i32 (y)))) σ := fun y e => by cases e; cases er; exact hR
  rw [← er] at hf
  clear er hR
  unfold F_E_sidesChanged at hf
  show SW X 0 6 0 [some (.int (i32 x0)), some (.int (i32 x1)), none, none, none, none] [] σ
  refine SW_iconst h (dt t_E_sidesChanged 0 rfl) ?_
  refine SW_istore_n (lv2 := [some (.int (i32 x0)), some (.int (i32 x1)), some (.int (i32 0)), none, none, none]) h (dt t_E_sidesChanged 1 rfl) (by decide) rfl ?_
  refine SW_iconst h (dt t_E_sidesChanged 2 rfl) ?_
  refine SW_istore_n (lv2 := [some (.int (i32 x0)), some (.int (i32 x1)), some (.int (i32 0)), some (.int (i32 0)), none, none]) h (dt t_E_sidesChanged 3 rfl) (by decide) rfl ?_
  refine SW_iload_n h rfl (dt t_E_sidesChanged 4 rfl) ?_
  refine SW_iconst h (dt t_E_sidesChanged 5 rfl) ?_
  refine SW_isub h (dt t_E_sidesChanged 6 rfl) ?_
  refine SW_istore (lv2 := [some (.int (i32 x0)), some (.int (i32 x1)), some (.int (i32 0)), some (.int (i32 0)), some (.int (i32 (x1 - 1))), none]) h (dt t_E_sidesChanged 7 rfl) (by decide) rfl ?_
  refine SW_chk hf (fun h7 hf => ?_)
  obtain ⟨z6, e6, g6, hk6⟩ := b1S_of hf
  refine SW_fgt [true, true, true, true, true, false] rfl (l_E_sidesChanged_9 h x0 x1 σ hx0 hx1 ok (fun y e => hret y (g6 y (Option.some.inj e).symm)) (fun x3_6 hz6 hx3_6 => ?_) LF 0 0 (x1 - 1) (by decide) (by decide) h7 e6)
  have hf := hk6 x3_6 (Option.some.inj hz6).symm
  refine SW_iload_n h rfl (dt t_E_sidesChanged 45 rfl) ?_
  exact SW_iret h (hret _ hf) (fun _ => hx3_6) rfl (dt t_E_sidesChanged 46 rfl)
