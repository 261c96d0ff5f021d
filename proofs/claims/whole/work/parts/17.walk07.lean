def b_A_seen : List (Nat × Instr × Nat) := [(0, .iload_n 1, 1), (1, .iconst (-1), 1), (2, .if_icmp .ne 13, 3), (5, .aload_n 0, 1), (6, .getfield 49, 3), (9, .iconst 0, 1), (10, .putfield 255, 3), (13, .iconst 0, 1), (14, .ireturn, 1), (15, .aload_n 0, 1), (16, .getfield 10, 3), (19, .iload_n 1, 1), (20, .invokevirtual 101, 3), (23, .ifCond .eq 29, 3), (26, .iload_n 2, 1), (27, .ldc_w 258, 3), (30, .if_icmp .lt 22, 3), (33, .iload_n 2, 1), (34, .ldc_w 259, 3), (37, .if_icmp .gt 15, 3), (40, .aload_n 0, 1), (41, .getfield 49, 3), (44, .getfield 255, 3), (47, .bipush 6, 2), (49, .if_icmp .lt 6, 3), (52, .bipush (-2), 2), (54, .ireturn, 1), (55, .aload_n 0, 1), (56, .getfield 49, 3), (59, .getfield 260, 3), (62, .aload_n 0, 1), (63, .getfield 49, 3), (66, .getfield 255, 3), (69, .iload_n 1, 1), (70, .iastore, 1), (71, .aload_n 0, 1), (72, .getfield 49, 3), (75, .getfield 263, 3), (78, .aload_n 0, 1), (79, .getfield 49, 3), (82, .getfield 255, 3), (85, .iload_n 2, 1), (86, .iastore, 1), (87, .aload_n 0, 1), (88, .getfield 49, 3), (91, .dup, 1), (92, .getfield 255, 3), (95, .iconst 1, 1), (96, .iadd, 1), (97, .putfield 255, 3), (100, .aload_n 0, 1), (101, .getfield 49, 3), (104, .getfield 255, 3), (107, .ireturn, 1)]
theorem t_A_seen : DT cX10_seen b_A_seen := DT.of (by decide +kernel)
def F_A_seen (x1 : Int) (x2 : Int) (σ : Mm) : Option (Int × Mm) :=
  if x1 = (-1) then
    bindM (st2 σ 121 2 0) fun s2 =>
    some (0, s2)
  else
    b1 (F_H_has x1 σ) fun v3 =>
    if v3 = 0 then
      some ((-2), σ)
    else
      if x2 < (-99999) then
        some ((-2), σ)
      else
        if 99999 < x2 then
          some ((-2), σ)
        else
          if σ 121 2 < 6 then
            if 0 ≤ σ 121 2 ∧ σ 121 2 < 6 then
              bindM (st2 σ 122 ((σ 121 2).toNat) x1) fun s4 =>
              if 0 ≤ s4 121 2 ∧ s4 121 2 < 6 then
                bindM (st2 s4 123 ((s4 121 2).toNat) x2) fun s5 =>
                if r32 ((s5 121 2) + 1) then
                  bindM (st2 s5 121 2 ((s5 121 2) + 1)) fun s8 =>
                  some (s8 121 2, s8)
                else none
              else none
            else none
          else
            some ((-2), σ)
set_option maxRecDepth 100000 in
set_option maxHeartbeats 4000000 in
theorem c_A_seen (x1 : Int) (hx1 : r32 x1) (x2 : Int) (hx2 : r32 x2) {σ : Mm} {a : Int} {σ2 : Mm} (hf : F_A_seen x1 x2 σ = some (a, σ2)) : CT yX10_seen cX10_seen 3 (some .int) 1 0 (fun ad => [.ref (ad 0), .int (i32 x1), .int (i32 x2)]) σ (r32 a) (some (.int (i32 a))) σ2 := by
  refine MetJ 0 (by decide +kernel) rfl (fun _ => Nat.le_of_ble_eq_true rfl) ?_
  intro X h hR ok
  obtain ⟨res, er⟩ : ∃ z, z = (a, σ2) := ⟨_, rfl⟩
  have hret : ∀ y : Int × Mm, some y = some res → RX X 0 (r32 (y.1)) (some (.int (i32 (y.1)))) y.2 := fun y e => by cases e; cases er; exact hR
  rw [← er] at hf
  clear er hR
  unfold F_A_seen at hf
  show SW X 0 3 0 [some (.ref (xad X 0)), some (.int (i32 x1)), some (.int (i32 x2))] [] σ
  refine SW_iload_n h rfl (dt t_A_seen 0 rfl) ?_
  refine SW_iconst h (dt t_A_seen 1 rfl) ?_
  refine SW_icmp_ne (tgt := 15) h (fun _ => hx1) (fun _ => (by decide)) (dt t_A_seen 2 rfl) rfl hf (fun hf => ?_) (fun hf => ?_)
  · refine SW_aload_n h rfl (dt t_A_seen 3 rfl) ?_
    refine gR h cf10 o0 f10_5 j0_5 lX10_49 (dt t_A_seen 4 rfl) ?_
    refine SW_iconst h (dt t_A_seen 5 rfl) ?_
    refine pI h cf1 o121 f1_2 (by decide) lX10_255 (dt t_A_seen 6 rfl) (SW_bm hf (fun s2 ok2 hf => ?_))
    refine SW_iconst h (dt t_A_seen 7 rfl) ?_
    exact SW_iret h (hret _ hf) (fun _ => (by decide)) rfl (dt t_A_seen 8 rfl)
  · refine SW_aload_n h rfl (dt t_A_seen 9 rfl) ?_
    refine gR h cf10 o0 f10_0 j0_0 lX10_10 (dt t_A_seen 10 rfl) ?_
    refine SW_iload_n h rfl (dt t_A_seen 11 rfl) ?_
    obtain ⟨v3, e3, hf⟩ := b1_of hf
    refine cV h [.int (i32 x1)] [] v_X2_has kX10_101 o1 (c_H_has x1 hx1 e3) rfl rfl (by decide) (by decide) rfl (Nat.le_of_ble_eq_true rfl) (dt t_A_seen 12 rfl) (fun h3 => ?_)
    refine SW_if_eq (tgt := 52) h (fun _ => (r_zo h3)) (dt t_A_seen 13 rfl) rfl hf (fun hf => ?_) (fun hf => ?_)
    · refine SW_bipush h (dt t_A_seen 25 rfl) (by decide) ?_
      exact SW_iret h (hret _ hf) (fun _ => (by decide)) rfl (dt t_A_seen 26 rfl)
    · refine SW_iload_n h rfl (dt t_A_seen 14 rfl) ?_
      refine SW_ldcw (n := -99999) h nX10_258 (by decide) (dt t_A_seen 15 rfl) ?_
      refine SW_icmp_lt (tgt := 52) h (fun _ => hx2) (fun _ => (by decide)) (dt t_A_seen 16 rfl) rfl hf (fun hf => ?_) (fun hf => ?_)
      · refine SW_bipush h (dt t_A_seen 25 rfl) (by decide) ?_
        exact SW_iret h (hret _ hf) (fun _ => (by decide)) rfl (dt t_A_seen 26 rfl)
      · refine SW_iload_n h rfl (dt t_A_seen 17 rfl) ?_
        refine SW_ldcw (n := 99999) h nX10_259 (by decide) (dt t_A_seen 18 rfl) ?_
        refine SW_icmp_gt (tgt := 52) h (fun _ => hx2) (fun _ => (by decide)) (dt t_A_seen 19 rfl) rfl hf (fun hf => ?_) (fun hf => ?_)
        · refine SW_bipush h (dt t_A_seen 25 rfl) (by decide) ?_
          exact SW_iret h (hret _ hf) (fun _ => (by decide)) rfl (dt t_A_seen 26 rfl)
        · refine SW_aload_n h rfl (dt t_A_seen 20 rfl) ?_
          refine gR h cf10 o0 f10_5 j0_5 lX10_49 (dt t_A_seen 21 rfl) ?_
          refine gI h cf1 o121 f1_2 lX10_255 (dt t_A_seen 22 rfl) ?_
          refine SW_bipush h (dt t_A_seen 23 rfl) (by decide) ?_
          refine SW_icmp_lt (tgt := 55) h (fun _ => (okI ok 121 2 (IsO.n3 o121))) (fun _ => (by decide)) (dt t_A_seen 24 rfl) rfl hf (fun hf => ?_) (fun hf => ?_)
          · refine SW_aload_n h rfl (dt t_A_seen 27 rfl) ?_
            refine gR h cf10 o0 f10_5 j0_5 lX10_49 (dt t_A_seen 28 rfl) ?_
            refine gR h cf1 o121 f1_0 j121_0 lX10_260 (dt t_A_seen 29 rfl) ?_
            refine SW_aload_n h rfl (dt t_A_seen 30 rfl) ?_
            refine gR h cf10 o0 f10_5 j0_5 lX10_49 (dt t_A_seen 31 rfl) ?_
            refine gI h cf1 o121 f1_2 lX10_255 (dt t_A_seen 32 rfl) ?_
            refine SW_iload_n h rfl (dt t_A_seen 33 rfl) ?_
            refine sI h a122 hx1 (dt t_A_seen 34 rfl) hf (fun hf => SW_bm hf (fun s4 ok4 hf => ?_))
            refine SW_aload_n h rfl (dt t_A_seen 35 rfl) ?_
            refine gR h cf10 o0 f10_5 j0_5 lX10_49 (dt t_A_seen 36 rfl) ?_
            refine gR h cf1 o121 f1_1 j121_1 lX10_263 (dt t_A_seen 37 rfl) ?_
            refine SW_aload_n h rfl (dt t_A_seen 38 rfl) ?_
            refine gR h cf10 o0 f10_5 j0_5 lX10_49 (dt t_A_seen 39 rfl) ?_
            refine gI h cf1 o121 f1_2 lX10_255 (dt t_A_seen 40 rfl) ?_
            refine SW_iload_n h rfl (dt t_A_seen 41 rfl) ?_
            refine sI h a123 hx2 (dt t_A_seen 42 rfl) hf (fun hf => SW_bm hf (fun s5 ok5 hf => ?_))
            refine SW_aload_n h rfl (dt t_A_seen 43 rfl) ?_
            refine gR h cf10 o0 f10_5 j0_5 lX10_49 (dt t_A_seen 44 rfl) ?_
            refine SW_dup h rfl (dt t_A_seen 45 rfl) ?_
            refine gI h cf1 o121 f1_2 lX10_255 (dt t_A_seen 46 rfl) ?_
            refine SW_iconst h (dt t_A_seen 47 rfl) ?_
            refine SW_iadd h (dt t_A_seen 48 rfl) ?_
            refine SW_chk hf (fun h7 hf => ?_)
            refine pI h cf1 o121 f1_2 h7 lX10_255 (dt t_A_seen 49 rfl) (SW_bm hf (fun s8 ok8 hf => ?_))
            refine SW_aload_n h rfl (dt t_A_seen 50 rfl) ?_
            refine gR h cf10 o0 f10_5 j0_5 lX10_49 (dt t_A_seen 51 rfl) ?_
            refine gI h cf1 o121 f1_2 lX10_255 (dt t_A_seen 52 rfl) ?_
            exact SW_iret h (hret _ hf) (fun _ => (okI ok8 121 2 (IsO.n3 o121))) rfl (dt t_A_seen 53 rfl)
          · refine SW_bipush h (dt t_A_seen 25 rfl) (by decide) ?_
            exact SW_iret h (hret _ hf) (fun _ => (by decide)) rfl (dt t_A_seen 26 rfl)
def b_E_bestSplit : List (Nat × Instr × Nat) := [(0, .aload_n 0, 1), (1, .getfield 41, 3), (4, .invokevirtual 42, 3), (7, .iconst 0, 1), (8, .istore_n 2, 1), (9, .iload_n 2, 1), (10, .bipush 100, 2), (12, .if_icmp .ge 23, 3), (15, .aload_n 0, 1), (16, .getfield 9, 3), (19, .iload_n 2, 1), (20, .aload_n 0, 1), (21, .getfield 41, 3), (24, .iload_n 2, 1), (25, .invokevirtual 56, 3), (28, .iastore, 1), (29, .iinc 2 1, 3), (32, .goto (-23), 3), (35, .aload_n 0, 1), (36, .getfield 9, 3), (39, .iload_n 1, 1), (40, .iaload, 1), (41, .ifCond .ne 9, 3), (44, .iload_n 1, 1), (45, .sipush 10000, 3), (48, .imul, 1), (49, .ireturn, 1), (50, .iconst 1, 1), (51, .istore_n 2, 1), (52, .iload_n 2, 1), (53, .iload_n 1, 1), (54, .if_icmp .ge 50, 3), (57, .iload_n 1, 1), (58, .iload_n 2, 1), (59, .isub, 1), (60, .istore_n 3, 1), (61, .aload_n 0, 1), (62, .getfield 9, 3), (65, .iload_n 2, 1), (66, .iaload, 1), (67, .aload_n 0, 1), (68, .getfield 41, 3), (71, .iload_n 2, 1), (72, .iload_n 3, 1), (73, .invokevirtual 72, 3), (76, .iadd, 1), (77, .aload_n 0, 1), (78, .getfield 9, 3), (81, .iload_n 3, 1), (82, .iaload, 1), (83, .iadd, 1), (84, .ifCond .ne 14, 3), (87, .iload_n 2, 1), (88, .sipush 10000, 3), (91, .imul, 1), (92, .iload_n 3, 1), (93, .bipush 100, 2), (95, .imul, 1), (96, .iadd, 1), (97, .ireturn, 1), (98, .iinc 2 1, 3), (101, .goto (-49), 3), (104, .iconst 1, 1), (105, .istore_n 2, 1), (106, .iload_n 2, 1), (107, .iload_n 1, 1), (108, .if_icmp .ge 94, 3), (111, .iconst 1, 1), (112, .istore_n 3, 1), (113, .iload_n 3, 1), (114, .iload_n 1, 1), (115, .iload_n 2, 1), (116, .isub, 1), (117, .if_icmp .ge 79, 3), (120, .iload_n 1, 1), (121, .iload_n 2, 1), (122, .isub, 1), (123, .iload_n 3, 1), (124, .isub, 1), (125, .istore 4, 2), (127, .aload_n 0, 1), (128, .getfield 9, 3), (131, .iload_n 2, 1), (132, .iaload, 1), (133, .aload_n 0, 1), (134, .getfield 41, 3), (137, .iload_n 2, 1), (138, .iload_n 3, 1), (139, .invokevirtual 72, 3), (142, .iadd, 1), (143, .aload_n 0, 1), (144, .getfield 9, 3), (147, .iload_n 3, 1), (148, .iaload, 1), (149, .iadd, 1), (150, .aload_n 0, 1), (151, .getfield 41, 3), (154, .iload_n 3, 1), (155, .iload 4, 2), (157, .invokevirtual 72, 3), (160, .iadd, 1), (161, .aload_n 0, 1), (162, .getfield 9, 3), (165, .iload 4, 2), (167, .iaload, 1), (168, .iadd, 1), (169, .istore 5, 2), (171, .iload 5, 2), (173, .ifCond .ne 17, 3), (176, .iload_n 2, 1), (177, .sipush 10000, 3), (180, .imul, 1), (181, .iload_n 3, 1), (182, .bipush 100, 2), (184, .imul, 1), (185, .iadd, 1), (186, .iload 4, 2), (188, .iadd, 1), (189, .ireturn, 1), (190, .iinc 3 1, 3), (193, .goto (-80), 3), (196, .iinc 2 1, 3), (199, .goto (-93), 3), (202, .iconst (-1), 1), (203, .ireturn, 1)]
theorem t_E_bestSplit : DT cX7_bestSplit b_E_bestSplit := DT.of (by decide +kernel)
def L_E_bestSplit_9 : Nat → Int → Mm → Option (Mm)
  | 0, _, _ => none
  | n + 1, x2, σ =>
    if 100 ≤ x2 then
      some σ
    else
      b1M (F_J_within x2 σ) fun v2 s2 =>
      if 0 ≤ x2 ∧ x2 < 100 then
        bindM (st2 s2 115 x2.toNat v2) fun s3 =>
        if r32 (x2 + 1) then
          L_E_bestSplit_9 n (x2 + 1) s3
        else none
      else none
set_option maxRecDepth 100000 in
set_option maxHeartbeats 4000000 in
theorem l_E_bestSplit_9 {X : Cx} (h : CX X 0 cX7_bestSplit 6 7 (some .int) RX7) (x1 : Int) (hx1 : r32 x1) {res : Mm} (hex : ∀  (σ : Mm) (hz : some σ = some res)  (ok : okM σ), SW X 0 6 35 [some (.ref (xad X 114)), some (.int (i32 x1)), none, none, none, none] [] σ) : ∀ (n : Nat) (x2 : Int) (σ : Mm) (hx2 : r32 x2) (ok : okM σ) (hf : L_E_bestSplit_9 n x2 σ = some res), SW X 0 6 9 [some (.ref (xad X 114)), some (.int (i32 x1)), some (.int (i32 x2)), none, none, none] [] σ := by
  intro n
  induction n with
  | zero => intro x2 σ hx2 ok hf; exact absurd hf (by simp [L_E_bestSplit_9])
  | succ n ih =>
    intro x2 σ hx2 ok hf
    rw [L_E_bestSplit_9] at hf
    refine SW_iload_n h rfl (dt t_E_bestSplit 5 rfl) ?_
    refine SW_bipush h (dt t_E_bestSplit 6 rfl) (by decide) ?_
    refine SW_icmp_ge (tgt := 35) h (fun _ => hx2) (fun _ => (by decide)) (dt t_E_bestSplit 7 rfl) rfl hf (fun hf => ?_) (fun hf => ?_)
    · exact SW_fgt [true, true, false, false, false, false] rfl (hex σ hf ok)
    · refine SW_aload_n h rfl (dt t_E_bestSplit 8 rfl) ?_
      refine gR h cf7 o114 f7_2 j114_2 lX7_9 (dt t_E_bestSplit 9 rfl) ?_
      refine SW_iload_n h rfl (dt t_E_bestSplit 10 rfl) ?_
      refine SW_aload_n h rfl (dt t_E_bestSplit 11 rfl) ?_
      refine gR h cf7 o114 f7_1 j114_1 lX7_41 (dt t_E_bestSplit 12 rfl) ?_
      refine SW_iload_n h rfl (dt t_E_bestSplit 13 rfl) ?_
      obtain ⟨v2, s2, e2, hf⟩ := b1M_of hf
      refine cV h [.int (i32 x2)] [.int (i32 x2), .ref (xad X 115)] v_X4_within kX7_56 o2 (c_J_within x2 hx2 e2) rfl rfl (by decide) (by decide) rfl (Nat.le_of_ble_eq_true rfl) (dt t_E_bestSplit 14 rfl) (fun h2 => ?_)
      refine SW_ok (fun ok2 => ?_)
      refine sI h a115 h2 (dt t_E_bestSplit 15 rfl) hf (fun hf => SW_bm hf (fun s3 ok3 hf => ?_))
      refine SW_iinc (lv2 := [some (.ref (xad X 114)), some (.int (i32 x1)), some (.int (i32 (x2 + 1))), none, none, none]) h (dt t_E_bestSplit 16 rfl) rfl (by decide) rfl ?_
      refine SW_goto (tgt := 9) h (dt t_E_bestSplit 17 rfl) rfl ?_
      refine SW_chk hf (fun h4 hf => ?_)
      exact SW_fgt [true, true, true, false, false, false] rfl (ih (x2 + 1) s3 h4 ok3 hf)
def L_E_bestSplit_52 : Nat → Int → Int → Mm → Option ((Int × Mm) ⊕ (Mm))
  | 0, _, _, _ => none
  | n + 1, x1, x2, σ =>
    if x1 ≤ x2 then
      some (.inr σ)
    else
      if 0 ≤ x2 ∧ x2 < 100 then
        if r32 (x1 - x2) then
          b1M (F_J_between x2 (x1 - x2) σ) fun v7 s7 =>
          if 0 ≤ x1 - x2 ∧ x1 - x2 < 100 then
            if r32 (((σ 115 x2.toNat) + v7) + (s7 115 ((x1 - x2).toNat))) then
              if ((σ 115 x2.toNat) + v7) + (s7 115 ((x1 - x2).toNat)) = 0 then
                if r32 ((x2 * 10000) + ((x1 - x2) * 100)) then
                  some (.inl ((x2 * 10000) + ((x1 - x2) * 100), s7))
                else none
              else
                if r32 (x2 + 1) then
                  L_E_bestSplit_52 n x1 (x2 + 1) s7
                else none
            else none
          else none
        else none
      else none
set_option maxRecDepth 100000 in
set_option maxHeartbeats 4000000 in
theorem l_E_bestSplit_52 {X : Cx} (h : CX X 0 cX7_bestSplit 6 7 (some .int) RX7) (x1 : Int) (hx1 : r32 x1) {res : (Int × Mm) ⊕ (Mm)} (hret : ∀ y : Int × Mm, some (.inl y) = some res → RX X 0 (r32 (y.1)) (some (.int (i32 (y.1)))) y.2) (hex : ∀  (σ : Mm) (hz : some (.inr σ) = some res)  (ok : okM σ), SW X 0 6 104 [some (.ref (xad X 114)), some (.int (i32 x1)), none, none, none, none] [] σ) : ∀ (n : Nat) (x2 : Int) (σ : Mm) (hx2 : r32 x2) (ok : okM σ) (hf : L_E_bestSplit_52 n x1 x2 σ = some res), SW X 0 6 52 [some (.ref (xad X 114)), some (.int (i32 x1)), some (.int (i32 x2)), none, none, none] [] σ := by
  intro n
  induction n with
  | zero => intro x2 σ hx2 ok hf; exact absurd hf (by simp [L_E_bestSplit_52])
  | succ n ih =>
    intro x2 σ hx2 ok hf
    rw [L_E_bestSplit_52] at hf
    refine SW_iload_n h rfl (dt t_E_bestSplit 29 rfl) ?_
    refine SW_iload_n h rfl (dt t_E_bestSplit 30 rfl) ?_
    refine SW_icmp_ge (tgt := 104) h (fun _ => hx2) (fun _ => hx1) (dt t_E_bestSplit 31 rfl) rfl hf (fun hf => ?_) (fun hf => ?_)
    · exact SW_fgt [true, true, false, false, false, false] rfl (hex σ hf ok)
    · refine SW_iload_n h rfl (dt t_E_bestSplit 32 rfl) ?_
      refine SW_iload_n h rfl (dt t_E_bestSplit 33 rfl) ?_
      refine SW_isub h (dt t_E_bestSplit 34 rfl) ?_
      refine SW_istore_n (lv2 := [some (.ref (xad X 114)), some (.int (i32 x1)), some (.int (i32 x2)), some (.int (i32 (x1 - x2))), none, none]) h (dt t_E_bestSplit 35 rfl) (by decide) rfl ?_
      refine SW_aload_n h rfl (dt t_E_bestSplit 36 rfl) ?_
      refine gR h cf7 o114 f7_2 j114_2 lX7_9 (dt t_E_bestSplit 37 rfl) ?_
      refine SW_iload_n h rfl (dt t_E_bestSplit 38 rfl) ?_
      refine aI h a115 (dt t_E_bestSplit 39 rfl) hf (fun hf => ?_)
      refine SW_aload_n h rfl (dt t_E_bestSplit 40 rfl) ?_
      refine gR h cf7 o114 f7_1 j114_1 lX7_41 (dt t_E_bestSplit 41 rfl) ?_
      refine SW_iload_n h rfl (dt t_E_bestSplit 42 rfl) ?_
      refine SW_iload_n h rfl (dt t_E_bestSplit 43 rfl) ?_
      refine SW_chk hf (fun h8 hf => ?_)
      obtain ⟨v7, s7, e7, hf⟩ := b1M_of hf
      refine cV h [.int (i32 x2), .int (i32 (x1 - x2))] [.int (i32 (σ 115 x2.toNat))] v_X4_between kX7_72 o2 (c_J_between x2 hx2 (x1 - x2) h8 e7) rfl rfl (by decide) (by decide) rfl (Nat.le_of_ble_eq_true rfl) (dt t_E_bestSplit 44 rfl) (fun h7 => ?_)
      refine SW_ok (fun ok7 => ?_)
      refine SW_iadd h (dt t_E_bestSplit 45 rfl) ?_
      refine SW_aload_n h rfl (dt t_E_bestSplit 46 rfl) ?_
      refine gR h cf7 o114 f7_2 j114_2 lX7_9 (dt t_E_bestSplit 47 rfl) ?_
      refine SW_iload_n h rfl (dt t_E_bestSplit 48 rfl) ?_
      refine aI h a115 (dt t_E_bestSplit 49 rfl) hf (fun hf => ?_)
      refine SW_iadd h (dt t_E_bestSplit 50 rfl) ?_
      refine SW_chk hf (fun h9 hf => ?_)
      refine SW_if_ne (tgt := 98) h (fun _ => h9) (dt t_E_bestSplit 51 rfl) rfl hf (fun hf => ?_) (fun hf => ?_)
      · refine SW_iload_n h rfl (dt t_E_bestSplit 52 rfl) ?_
        refine SW_sipush h (dt t_E_bestSplit 53 rfl) (by decide) ?_
        refine SW_imul h (dt t_E_bestSplit 54 rfl) ?_
        refine SW_iload_n h rfl (dt t_E_bestSplit 55 rfl) ?_
        refine SW_bipush h (dt t_E_bestSplit 56 rfl) (by decide) ?_
        refine SW_imul h (dt t_E_bestSplit 57 rfl) ?_
        refine SW_iadd h (dt t_E_bestSplit 58 rfl) ?_
        refine SW_chk hf (fun h10 hf => ?_)
        exact SW_iret h (hret _ hf) (fun _ => h10) rfl (dt t_E_bestSplit 59 rfl)
      · refine SW_iinc (lv2 := [some (.ref (xad X 114)), some (.int (i32 x1)), some (.int (i32 (x2 + 1))), some (.int (i32 (x1 - x2))), none, none]) h (dt t_E_bestSplit 60 rfl) rfl (by decide) rfl ?_
        refine SW_goto (tgt := 52) h (dt t_E_bestSplit 61 rfl) rfl ?_
        refine SW_chk hf (fun h11 hf => ?_)
        exact SW_fgt [true, true, true, false, false, false] rfl (ih (x2 + 1) s7 h11 ok7 hf)
def L_E_bestSplit_113 : Nat → Int → Int → Int → Mm → Option ((Int × Mm) ⊕ (Mm))
  | 0, _, _, _, _ => none
  | n + 1, x1, x2, x3, σ =>
    if r32 (x1 - x2) then
      if x1 - x2 ≤ x3 then
        some (.inr σ)
      else
        bindM ((x1 - x2) - x3) fun v14 =>
        if 0 ≤ x2 ∧ x2 < 100 then
          b1M (F_J_between x2 x3 σ) fun v15 s15 =>
          if 0 ≤ x3 ∧ x3 < 100 then
            if r32 v14 then
              b1M (F_J_between x3 v14 s15) fun v16 s16 =>
              if 0 ≤ v14 ∧ v14 < 100 then
                bindM (((((σ 115 x2.toNat) + v15) + (s15 115 x3.toNat)) + v16) + (s16 115 v14.toNat)) fun v18 =>
                if r32 v18 then
                  if v18 = 0 then
                    if r32 (((x2 * 10000) + (x3 * 100)) + v14) then
                      some (.inl (((x2 * 10000) + (x3 * 100)) + v14, s16))
                    else none
                  else
                    if r32 (x3 + 1) then
                      L_E_bestSplit_113 n x1 x2 (x3 + 1) s16
                    else none
                else none
              else none
            else none
          else none
        else none
    else none
set_option maxRecDepth 100000 in
set_option maxHeartbeats 4000000 in
theorem l_E_bestSplit_113 {X : Cx} (h : CX X 0 cX7_bestSplit 6 7 (some .int) RX7) (x1 : Int) (x2 : Int) (hx1 : r32 x1) (hx2 : r32 x2) {res : (Int × Mm) ⊕ (Mm)} (hret : ∀ y : Int × Mm, some (.inl y) = some res → RX X 0 (r32 (y.1)) (some (.int (i32 (y.1)))) y.2) (hex : ∀  (σ : Mm) (hz : some (.inr σ) = some res)  (ok : okM σ), SW X 0 6 196 [some (.ref (xad X 114)), some (.int (i32 x1)), some (.int (i32 x2)), none, none, none] [] σ) : ∀ (n : Nat) (x3 : Int) (σ : Mm) (hx3 : r32 x3) (ok : okM σ) (hf : L_E_bestSplit_113 n x1 x2 x3 σ = some res), SW X 0 6 113 [some (.ref (xad X 114)), some (.int (i32 x1)), some (.int (i32 x2)), some (.int (i32 x3)), none, none] [] σ := by
  intro n
  induction n with
  | zero => intro x3 σ hx3 ok hf; exact absurd hf (by simp [L_E_bestSplit_113])
  | succ n ih =>
    intro x3 σ hx3 ok hf
    rw [L_E_bestSplit_113] at hf
    refine SW_iload_n h rfl (dt t_E_bestSplit 69 rfl) ?_
    refine SW_iload_n h rfl (dt t_E_bestSplit 70 rfl) ?_
    refine SW_iload_n h rfl (dt t_E_bestSplit 71 rfl) ?_
    refine SW_isub h (dt t_E_bestSplit 72 rfl) ?_
    refine SW_chk hf (fun h13 hf => ?_)
    refine SW_icmp_ge (tgt := 196) h (fun _ => hx3) (fun _ => h13) (dt t_E_bestSplit 73 rfl) rfl hf (fun hf => ?_) (fun hf => ?_)
    · exact SW_fgt [true, true, true, false, false, false] rfl (hex σ hf ok)
    · refine SW_iload_n h rfl (dt t_E_bestSplit 74 rfl) ?_
      refine SW_iload_n h rfl (dt t_E_bestSplit 75 rfl) ?_
      refine SW_isub h (dt t_E_bestSplit 76 rfl) ?_
      refine SW_iload_n h rfl (dt t_E_bestSplit 77 rfl) ?_
      refine SW_isub h (dt t_E_bestSplit 78 rfl) ?_
      refine SW_vu hf (fun v14 hf => ?_)
      refine SW_istore (lv2 := [some (.ref (xad X 114)), some (.int (i32 x1)), some (.int (i32 x2)), some (.int (i32 x3)), some (.int (i32 v14)), none]) h (dt t_E_bestSplit 79 rfl) (by decide) rfl ?_
      refine SW_aload_n h rfl (dt t_E_bestSplit 80 rfl) ?_
      refine gR h cf7 o114 f7_2 j114_2 lX7_9 (dt t_E_bestSplit 81 rfl) ?_
      refine SW_iload_n h rfl (dt t_E_bestSplit 82 rfl) ?_
      refine aI h a115 (dt t_E_bestSplit 83 rfl) hf (fun hf => ?_)
      refine SW_aload_n h rfl (dt t_E_bestSplit 84 rfl) ?_
      refine gR h cf7 o114 f7_1 j114_1 lX7_41 (dt t_E_bestSplit 85 rfl) ?_
      refine SW_iload_n h rfl (dt t_E_bestSplit 86 rfl) ?_
      refine SW_iload_n h rfl (dt t_E_bestSplit 87 rfl) ?_
      obtain ⟨v15, s15, e15, hf⟩ := b1M_of hf
      refine cV h [.int (i32 x2), .int (i32 x3)] [.int (i32 (σ 115 x2.toNat))] v_X4_between kX7_72 o2 (c_J_between x2 hx2 x3 hx3 e15) rfl rfl (by decide) (by decide) rfl (Nat.le_of_ble_eq_true rfl) (dt t_E_bestSplit 88 rfl) (fun h15 => ?_)
      refine SW_ok (fun ok15 => ?_)
      refine SW_iadd h (dt t_E_bestSplit 89 rfl) ?_
      refine SW_aload_n h rfl (dt t_E_bestSplit 90 rfl) ?_
      refine gR h cf7 o114 f7_2 j114_2 lX7_9 (dt t_E_bestSplit 91 rfl) ?_
      refine SW_iload_n h rfl (dt t_E_bestSplit 92 rfl) ?_
      refine aI h a115 (dt t_E_bestSplit 93 rfl) hf (fun hf => ?_)
      refine SW_iadd h (dt t_E_bestSplit 94 rfl) ?_
      refine SW_aload_n h rfl (dt t_E_bestSplit 95 rfl) ?_
      refine gR h cf7 o114 f7_1 j114_1 lX7_41 (dt t_E_bestSplit 96 rfl) ?_
      refine SW_iload_n h rfl (dt t_E_bestSplit 97 rfl) ?_
      refine SW_iload h rfl (dt t_E_bestSplit 98 rfl) ?_
      refine SW_chk hf (fun h17 hf => ?_)
      obtain ⟨v16, s16, e16, hf⟩ := b1M_of hf
      refine cV h [.int (i32 x3), .int (i32 v14)] [.int (i32 (((σ 115 x2.toNat) + v15) + (s15 115 x3.toNat)))] v_X4_between kX7_72 o2 (c_J_between x3 hx3 v14 h17 e16) rfl rfl (by decide) (by decide) rfl (Nat.le_of_ble_eq_true rfl) (dt t_E_bestSplit 99 rfl) (fun h16 => ?_)
      refine SW_ok (fun ok16 => ?_)
      refine SW_iadd h (dt t_E_bestSplit 100 rfl) ?_
      refine SW_aload_n h rfl (dt t_E_bestSplit 101 rfl) ?_
      refine gR h cf7 o114 f7_2 j114_2 lX7_9 (dt t_E_bestSplit 102 rfl) ?_
      refine SW_iload h rfl (dt t_E_bestSplit 103 rfl) ?_
      refine aI h a115 (dt t_E_bestSplit 104 rfl) hf (fun hf => ?_)
      refine SW_iadd h (dt t_E_bestSplit 105 rfl) ?_
      refine SW_vu hf (fun v18 hf => ?_)
      refine SW_istore (lv2 := [some (.ref (xad X 114)), some (.int (i32 x1)), some (.int (i32 x2)), some (.int (i32 x3)), some (.int (i32 v14)), some (.int (i32 v18))]) h (dt t_E_bestSplit 106 rfl) (by decide) rfl ?_
      refine SW_iload h rfl (dt t_E_bestSplit 107 rfl) ?_
      refine SW_chk hf (fun h19 hf => ?_)
      refine SW_if_ne (tgt := 190) h (fun _ => h19) (dt t_E_bestSplit 108 rfl) rfl hf (fun hf => ?_) (fun hf => ?_)
      · refine SW_iload_n h rfl (dt t_E_bestSplit 109 rfl) ?_
        refine SW_sipush h (dt t_E_bestSplit 110 rfl) (by decide) ?_
        refine SW_imul h (dt t_E_bestSplit 111 rfl) ?_
        refine SW_iload_n h rfl (dt t_E_bestSplit 112 rfl) ?_
        refine SW_bipush h (dt t_E_bestSplit 113 rfl) (by decide) ?_
        refine SW_imul h (dt t_E_bestSplit 114 rfl) ?_
        refine SW_iadd h (dt t_E_bestSplit 115 rfl) ?_
        refine SW_iload h rfl (dt t_E_bestSplit 116 rfl) ?_
        refine SW_iadd h (dt t_E_bestSplit 117 rfl) ?_
        refine SW_chk hf (fun h20 hf => ?_)
        exact SW_iret h (hret _ hf) (fun _ => h20) rfl (dt t_E_bestSplit 118 rfl)
      · refine SW_iinc (lv2 := [some (.ref (xad X 114)), some (.int (i32 x1)), some (.int (i32 x2)), some (.int (i32 (x3 + 1))), some (.int (i32 v14)), some (.int (i32 v18))]) h (dt t_E_bestSplit 119 rfl) rfl (by decide) rfl ?_
        refine SW_goto (tgt := 113) h (dt t_E_bestSplit 120 rfl) rfl ?_
        refine SW_chk hf (fun h21 hf => ?_)
        exact SW_fgt [true, true, true, true, false, false] rfl (ih (x3 + 1) s16 h21 ok16 hf)
def L_E_bestSplit_106 : Nat → Int → Int → Mm → Option ((Int × Mm) ⊕ (Mm))
  | 0, _, _, _ => none
  | n + 1, x1, x2, σ =>
    if x1 ≤ x2 then
      some (.inr σ)
    else
      b0MS (L_E_bestSplit_113 LF x1 x2 1 σ) (fun y => some (.inl y)) fun s22 =>
      if r32 (x2 + 1) then
        L_E_bestSplit_106 n x1 (x2 + 1) s22
      else none
set_option maxRecDepth 100000 in
set_option maxHeartbeats 4000000 in
theorem l_E_bestSplit_106 {X : Cx} (h : CX X 0 cX7_bestSplit 6 7 (some .int) RX7) (x1 : Int) (hx1 : r32 x1) {res : (Int × Mm) ⊕ (Mm)} (hret : ∀ y : Int × Mm, some (.inl y) = some res → RX X 0 (r32 (y.1)) (some (.int (i32 (y.1)))) y.2) (hex : ∀  (σ : Mm) (hz : some (.inr σ) = some res)  (ok : okM σ), SW X 0 6 202 [none, none, none, none, none, none] [] σ) : ∀ (n : Nat) (x2 : Int) (σ : Mm) (hx2 : r32 x2) (ok : okM σ) (hf : L_E_bestSplit_106 n x1 x2 σ = some res), SW X 0 6 106 [some (.ref (xad X 114)), some (.int (i32 x1)), some (.int (i32 x2)), none, none, none] [] σ := by
  intro n
  induction n with
  | zero => intro x2 σ hx2 ok hf; exact absurd hf (by simp [L_E_bestSplit_106])
  | succ n ih =>
    intro x2 σ hx2 ok hf
    rw [L_E_bestSplit_106] at hf
    refine SW_iload_n h rfl (dt t_E_bestSplit 64 rfl) ?_
    refine SW_iload_n h rfl (dt t_E_bestSplit 65 rfl) ?_
    refine SW_icmp_ge (tgt := 202) h (fun _ => hx2) (fun _ => hx1) (dt t_E_bestSplit 66 rfl) rfl hf (fun hf => ?_) (fun hf => ?_)
    · exact SW_fgt [false, false, false, false, false, false] rfl (hex σ hf ok)
    · refine SW_iconst h (dt t_E_bestSplit 67 rfl) ?_
      refine SW_istore_n (lv2 := [some (.ref (xad X 114)), some (.int (i32 x1)), some (.int (i32 x2)), some (.int (i32 1)), none, none]) h (dt t_E_bestSplit 68 rfl) (by decide) rfl ?_
      obtain ⟨z22, e22, g22, hk22⟩ := b0MS_of hf
      refine SW_fgt [true, true, true, true, false, false] rfl (l_E_bestSplit_113 h x1 x2 hx1 hx2 (fun y e => hret y (g22 y (Option.some.inj e).symm)) (fun s22 hz22 ok22 => ?_) LF 1 σ (by decide) ok e22)
      have hf := hk22 s22 (Option.some.inj hz22).symm
      refine SW_iinc (lv2 := [some (.ref (xad X 114)), some (.int (i32 x1)), some (.int (i32 (x2 + 1))), none, none, none]) h (dt t_E_bestSplit 121 rfl) rfl (by decide) rfl ?_
      refine SW_goto (tgt := 106) h (dt t_E_bestSplit 122 rfl) rfl ?_
      refine SW_chk hf (fun h23 hf => ?_)
      exact SW_fgt [true, true, true, false, false, false] rfl (ih (x2 + 1) s22 h23 ok22 hf)
def F_E_bestSplit (x1 : Int) (σ : Mm) : Option (Int × Mm) :=
  b0M (F_J_fresh  σ) fun s1 =>
  b0M (L_E_bestSplit_9 LF 0 s1) fun s5 =>
  if 0 ≤ x1 ∧ x1 < 100 then
    if s5 115 x1.toNat = 0 then
      if r32 (x1 * 10000) then
        some (x1 * 10000, s5)
      else none
    else
      b0MS (L_E_bestSplit_52 LF x1 1 s5) (fun y => some y) fun s12 =>
      b0MS (L_E_bestSplit_106 LF x1 1 s12) (fun y => some y) fun s24 =>
      some ((-1), s24)
  else none
set_option maxRecDepth 100000 in
set_option maxHeartbeats 4000000 in
theorem c_E_bestSplit (x1 : Int) (hx1 : r32 x1) {σ : Mm} {a : Int} {σ2 : Mm} (hf : F_E_bestSplit x1 σ = some (a, σ2)) : CT yX7_bestSplit cX7_bestSplit 6 (some .int) 7 0 (fun ad => [.ref (ad 114), .int (i32 x1)]) σ (r32 a) (some (.int (i32 a))) σ2 := by
  refine MetJ 4 (by decide +kernel) rfl (fun _ => Nat.le_of_ble_eq_true rfl) ?_
  intro X h hR ok
  obtain ⟨res, er⟩ : ∃ z, z = (a, σ2) := ⟨_, rfl⟩
  have hret : ∀ y : Int × Mm, some y = some res → RX X 0 (r32 (y.1)) (some (.int (i32 (y.1)))) y.2 := fun y e => by cases e; cases er; exact hR
  rw [← er] at hf
  clear er hR
  unfold F_E_bestSplit at hf
  show SW X 0 6 0 [some (.ref (xad X 114)), some (.int (i32 x1)), none, none, none, none] [] σ
  refine SW_aload_n h rfl (dt t_E_bestSplit 0 rfl) ?_
  refine gR h cf7 o114 f7_1 j114_1 lX7_41 (dt t_E_bestSplit 1 rfl) ?_
  obtain ⟨s1, e1, hf⟩ := b0M_of hf
  refine cVv h [] [] v_X4_fresh kX7_42 o2 (c_J_fresh  e1) rfl rfl (by decide) (by decide) rfl (Nat.le_of_ble_eq_true rfl) (dt t_E_bestSplit 2 rfl) (fun h1 => ?_)
  refine SW_ok (fun ok1 => ?_)
  refine SW_iconst h (dt t_E_bestSplit 3 rfl) ?_
  refine SW_istore_n (lv2 := [some (.ref (xad X 114)), some (.int (i32 x1)), some (.int (i32 0)), none, none, none]) h (dt t_E_bestSplit 4 rfl) (by decide) rfl ?_
  obtain ⟨z5, e5, hk5⟩ := b0M_ex hf
  refine SW_fgt [true, true, true, false, false, false] rfl (l_E_bestSplit_9 h x1 hx1 (fun s5 hz5 ok5 => ?_) LF 0 s1 (by decide) ok1 e5)
  have hf := hk5 s5 hz5
  refine SW_aload_n h rfl (dt t_E_bestSplit 18 rfl) ?_
  refine gR h cf7 o114 f7_2 j114_2 lX7_9 (dt t_E_bestSplit 19 rfl) ?_
  refine SW_iload_n h rfl (dt t_E_bestSplit 20 rfl) ?_
  refine aI h a115 (dt t_E_bestSplit 21 rfl) hf (fun hf => ?_)
  refine SW_if_ne (tgt := 50) h (fun _ => (okI ok5 115 x1.toNat (IsA.n3 a115 (by decide)))) (dt t_E_bestSplit 22 rfl) rfl hf (fun hf => ?_) (fun hf => ?_)
  · refine SW_iload_n h rfl (dt t_E_bestSplit 23 rfl) ?_
    refine SW_sipush h (dt t_E_bestSplit 24 rfl) (by decide) ?_
    refine SW_imul h (dt t_E_bestSplit 25 rfl) ?_
    refine SW_chk hf (fun h6 hf => ?_)
    exact SW_iret h (hret _ hf) (fun _ => h6) rfl (dt t_E_bestSplit 26 rfl)
  · refine SW_iconst h (dt t_E_bestSplit 27 rfl) ?_
    refine SW_istore_n (lv2 := [some (.ref (xad X 114)), some (.int (i32 x1)), some (.int (i32 1)), none, none, none]) h (dt t_E_bestSplit 28 rfl) (by decide) rfl ?_
    obtain ⟨z12, e12, g12, hk12⟩ := b0MS_of hf
    refine SW_fgt [true, true, true, false, false, false] rfl (l_E_bestSplit_52 h x1 hx1 (fun y e => hret y (g12 y (Option.some.inj e).symm)) (fun s12 hz12 ok12 => ?_) LF 1 s5 (by decide) ok5 e12)
    have hf := hk12 s12 (Option.some.inj hz12).symm
    refine SW_iconst h (dt t_E_bestSplit 62 rfl) ?_
    refine SW_istore_n (lv2 := [some (.ref (xad X 114)), some (.int (i32 x1)), some (.int (i32 1)), none, none, none]) h (dt t_E_bestSplit 63 rfl) (by decide) rfl ?_
    obtain ⟨z24, e24, g24, hk24⟩ := b0MS_of hf
    refine SW_fgt [true, true, true, false, false, false] rfl (l_E_bestSplit_106 h x1 hx1 (fun y e => hret y (g24 y (Option.some.inj e).symm)) (fun s24 hz24 ok24 => ?_) LF 1 s12 (by decide) ok12 e24)
    have hf := hk24 s24 (Option.some.inj hz24).symm
    refine SW_iconst h (dt t_E_bestSplit 123 rfl) ?_
    exact SW_iret h (hret _ hf) (fun _ => (by decide)) rfl (dt t_E_bestSplit 124 rfl)
def b_A_split : List (Nat × Instr × Nat) := [(0, .iload_n 1, 1), (1, .iconst 1, 1), (2, .if_icmp .lt 19, 3), (5, .iload_n 1, 1), (6, .bipush 99, 2), (8, .if_icmp .gt 13, 3), (11, .iload_n 2, 1), (12, .iconst (-1), 1), (13, .if_icmp .lt 8, 3), (16, .iload_n 2, 1), (17, .iconst 2, 1), (18, .if_icmp .le 5, 3), (21, .iconst (-1), 1), (22, .ireturn, 1), (23, .aload_n 0, 1), (24, .getfield 42, 3), (27, .iload_n 1, 1), (28, .invokevirtual 243, 3), (31, .istore_n 3, 1), (32, .iload_n 3, 1), (33, .iconst (-1), 1), (34, .if_icmp .ne 5, 3), (37, .iconst (-1), 1), (38, .ireturn, 1), (39, .iload_n 3, 1), (40, .bipush 100, 2), (42, .idiv, 1), (43, .bipush 100, 2), (45, .irem, 1), (46, .istore 4, 2), (48, .iload_n 3, 1), (49, .bipush 100, 2), (51, .irem, 1), (52, .istore 5, 2), (54, .iload_n 2, 1), (55, .iconst (-1), 1), (56, .if_icmp .ne 23, 3), (59, .iload 5, 2), (61, .ifCond .le 7, 3), (64, .iconst 3, 1), (65, .goto 13, 3), (68, .iload 4, 2), (70, .ifCond .le 7, 3), (73, .iconst 2, 1), (74, .goto 4, 3), (77, .iconst 1, 1), (78, .ireturn, 1), (79, .iload_n 2, 1), (80, .ifCond .ne 11, 3), (83, .iload_n 3, 1), (84, .sipush 10000, 3), (87, .idiv, 1), (88, .goto 15, 3), (91, .iload_n 2, 1), (92, .iconst 1, 1), (93, .if_icmp .ne 8, 3), (96, .iload 4, 2), (98, .goto 5, 3), (101, .iload 5, 2), (103, .istore 6, 2), (105, .iload 6, 2), (107, .ifCond .le 8, 3), (110, .iload 6, 2), (112, .goto 4, 3), (115, .iconst (-1), 1), (116, .ireturn, 1)]
theorem t_A_split : DT cX10_split b_A_split := DT.of (by decide +kernel)
def F_A_split (x1 : Int) (x2 : Int) (σ : Mm) : Option (Int × Mm) :=
  if x1 < 1 then
    some ((-1), σ)
  else
    if 99 < x1 then
      some ((-1), σ)
    else
      if x2 < (-1) then
        some ((-1), σ)
      else
        if x2 ≤ 2 then
          b1M (F_E_bestSplit x1 σ) fun v1 s1 =>
          if v1 = (-1) then
            some ((-1), s1)
          else
            bindM ((v1.tdiv 100).tmod 100) fun v2 =>
            if x2 = (-1) then
              if v1.tmod 100 ≤ 0 then
                if v2 ≤ 0 then
                  some (1, s1)
                else
                  some (2, s1)
              else
                some (3, s1)
            else
              bindM (fun (y3 : Int) =>
                if y3 ≤ 0 then
                  some ((-1), s1)
                else
                  some (y3, s1)) fun J3 =>
              if x2 = 0 then
                J3 (v1.tdiv 10000)
              else
                if x2 = 1 then
                  J3 v2
                else
                  J3 (v1.tmod 100)
        else
          some ((-1), σ)
set_option maxRecDepth 100000 in
set_option maxHeartbeats 4000000 in
theorem c_A_split (x1 : Int) (hx1 : r32 x1) (x2 : Int) (hx2 : r32 x2) {σ : Mm} {a : Int} {σ2 : Mm} (hf : F_A_split x1 x2 σ = some (a, σ2)) : CT yX10_split cX10_split 7 (some .int) 8 0 (fun ad => [.ref (ad 0), .int (i32 x1), .int (i32 x2)]) σ (r32 a) (some (.int (i32 a))) σ2 := by
  refine MetJ 4 (by decide +kernel) rfl (fun _ => Nat.le_of_ble_eq_true rfl) ?_
  intro X h hR ok
  obtain ⟨res, er⟩ : ∃ z, z = (a, σ2) := ⟨_, rfl⟩
  have hret : ∀ y : Int × Mm, some y = some res → RX X 0 (r32 (y.1)) (some (.int (i32 (y.1)))) y.2 := fun y e => by cases e; cases er; exact hR
  rw [← er] at hf
  clear er hR
  unfold F_A_split at hf
  show SW X 0 7 0 [some (.ref (xad X 0)), some (.int (i32 x1)), some (.int (i32 x2)), none, none, none, none] [] σ
  refine SW_iload_n h rfl (dt t_A_split 0 rfl) ?_
  refine SW_iconst h (dt t_A_split 1 rfl) ?_
  refine SW_icmp_lt (tgt := 21) h (fun _ => hx1) (fun _ => (by decide)) (dt t_A_split 2 rfl) rfl hf (fun hf => ?_) (fun hf => ?_)
  · refine SW_iconst h (dt t_A_split 12 rfl) ?_
    exact SW_iret h (hret _ hf) (fun _ => (by decide)) rfl (dt t_A_split 13 rfl)
  · refine SW_iload_n h rfl (dt t_A_split 3 rfl) ?_
    refine SW_bipush h (dt t_A_split 4 rfl) (by decide) ?_
    refine SW_icmp_gt (tgt := 21) h (fun _ => hx1) (fun _ => (by decide)) (dt t_A_split 5 rfl) rfl hf (fun hf => ?_) (fun hf => ?_)
    · refine SW_iconst h (dt t_A_split 12 rfl) ?_
      exact SW_iret h (hret _ hf) (fun _ => (by decide)) rfl (dt t_A_split 13 rfl)
    · refine SW_iload_n h rfl (dt t_A_split 6 rfl) ?_
      refine SW_iconst h (dt t_A_split 7 rfl) ?_
      refine SW_icmp_lt (tgt := 21) h (fun _ => hx2) (fun _ => (by decide)) (dt t_A_split 8 rfl) rfl hf (fun hf => ?_) (fun hf => ?_)
      · refine SW_iconst h (dt t_A_split 12 rfl) ?_
        exact SW_iret h (hret _ hf) (fun _ => (by decide)) rfl (dt t_A_split 13 rfl)
      · refine SW_iload_n h rfl (dt t_A_split 9 rfl) ?_
        refine SW_iconst h (dt t_A_split 10 rfl) ?_
        refine SW_icmp_le (tgt := 23) h (fun _ => hx2) (fun _ => (by decide)) (dt t_A_split 11 rfl) rfl hf (fun hf => ?_) (fun hf => ?_)
        · refine SW_aload_n h rfl (dt t_A_split 14 rfl) ?_
          refine gR h cf10 o0 f10_4 j0_4 lX10_42 (dt t_A_split 15 rfl) ?_
          refine SW_iload_n h rfl (dt t_A_split 16 rfl) ?_
          obtain ⟨v1, s1, e1, hf⟩ := b1M_of hf
          refine cV h [.int (i32 x1)] [] v_X7_bestSplit kX10_243 o114 (c_E_bestSplit x1 hx1 e1) rfl rfl (by decide) (by decide) rfl (Nat.le_of_ble_eq_true rfl) (dt t_A_split 17 rfl) (fun h1 => ?_)
          refine SW_ok (fun ok1 => ?_)
          refine SW_istore_n (lv2 := [some (.ref (xad X 0)), some (.int (i32 x1)), some (.int (i32 x2)), some (.int (i32 v1)), none, none, none]) h (dt t_A_split 18 rfl) (by decide) rfl ?_
          refine SW_iload_n h rfl (dt t_A_split 19 rfl) ?_
          refine SW_iconst h (dt t_A_split 20 rfl) ?_
          refine SW_icmp_ne (tgt := 39) h (fun _ => h1) (fun _ => (by decide)) (dt t_A_split 21 rfl) rfl hf (fun hf => ?_) (fun hf => ?_)
          · refine SW_iconst h (dt t_A_split 22 rfl) ?_
            exact SW_iret h (hret _ hf) (fun _ => (by decide)) rfl (dt t_A_split 23 rfl)
          · refine SW_iload_n h rfl (dt t_A_split 24 rfl) ?_
            refine SW_bipush h (dt t_A_split 25 rfl) (by decide) ?_
            refine SW_idiv h (fun _ => h1) (fun _ => (by decide)) (by decide) (dt t_A_split 26 rfl) ?_
            refine SW_bipush h (dt t_A_split 27 rfl) (by decide) ?_
            refine SW_irem h (fun _ => (r_tdiv h1 (by decide))) (fun _ => (by decide)) (by decide) (dt t_A_split 28 rfl) ?_
            refine SW_vi hf (r_tmod (r_tdiv h1 (by decide)) (by decide)) (fun v2 h2 hf => ?_)
            refine SW_istore (lv2 := [some (.ref (xad X 0)), some (.int (i32 x1)), some (.int (i32 x2)), some (.int (i32 v1)), some (.int (i32 v2)), none, none]) h (dt t_A_split 29 rfl) (by decide) rfl ?_
            refine SW_iload_n h rfl (dt t_A_split 30 rfl) ?_
            refine SW_bipush h (dt t_A_split 31 rfl) (by decide) ?_
            refine SW_irem h (fun _ => h1) (fun _ => (by decide)) (by decide) (dt t_A_split 32 rfl) ?_
            refine SW_istore (lv2 := [some (.ref (xad X 0)), some (.int (i32 x1)), some (.int (i32 x2)), some (.int (i32 v1)), some (.int (i32 v2)), some (.int (i32 (v1.tmod 100))), none]) h (dt t_A_split 33 rfl) (by decide) rfl ?_
            refine SW_iload_n h rfl (dt t_A_split 34 rfl) ?_
            refine SW_iconst h (dt t_A_split 35 rfl) ?_
            refine SW_icmp_ne (tgt := 79) h (fun _ => hx2) (fun _ => (by decide)) (dt t_A_split 36 rfl) rfl hf (fun hf => ?_) (fun hf => ?_)
            · refine SW_iload h rfl (dt t_A_split 37 rfl) ?_
              refine SW_if_le (tgt := 68) h (fun _ => (r_tmod h1 (by decide))) (dt t_A_split 38 rfl) rfl hf (fun hf => ?_) (fun hf => ?_)
              · refine SW_iload h rfl (dt t_A_split 41 rfl) ?_
                refine SW_if_le (tgt := 77) h (fun _ => h2) (dt t_A_split 42 rfl) rfl hf (fun hf => ?_) (fun hf => ?_)
                · refine SW_iconst h (dt t_A_split 45 rfl) ?_
                  exact SW_iret h (hret _ hf) (fun _ => (by decide)) rfl (dt t_A_split 46 rfl)
                · refine SW_iconst h (dt t_A_split 43 rfl) ?_
                  refine SW_goto (tgt := 78) h (dt t_A_split 44 rfl) rfl ?_
                  exact SW_iret h (hret _ hf) (fun _ => (by decide)) rfl (dt t_A_split 46 rfl)
              · refine SW_iconst h (dt t_A_split 39 rfl) ?_
                refine SW_goto (tgt := 78) h (dt t_A_split 40 rfl) rfl ?_
                exact SW_iret h (hret _ hf) (fun _ => (by decide)) rfl (dt t_A_split 46 rfl)
            · refine SW_iload_n h rfl (dt t_A_split 47 rfl) ?_
              refine bJ hf (fun J3 e3 hf => ?_)
              have k3 : ∀ (y3 : Int) (hy3 : r32 y3) (hf : J3 y3 = some res), SW X 0 7 103 [none, none, none, none, none, none, none] [.int (i32 y3)] s1 := by
                intro y3 hy3 hf
                rw [e3] at hf
                refine SW_istore (lv2 := [none, none, none, none, none, none, some (.int (i32 y3))]) h (dt t_A_split 59 rfl) (by decide) rfl ?_
                refine SW_iload h rfl (dt t_A_split 60 rfl) ?_
                refine SW_if_le (tgt := 115) h (fun _ => hy3) (dt t_A_split 61 rfl) rfl hf (fun hf => ?_) (fun hf => ?_)
                · refine SW_iconst h (dt t_A_split 64 rfl) ?_
                  exact SW_iret h (hret _ hf) (fun _ => (by decide)) rfl (dt t_A_split 65 rfl)
                · refine SW_iload h rfl (dt t_A_split 62 rfl) ?_
                  refine SW_goto (tgt := 116) h (dt t_A_split 63 rfl) rfl ?_
                  exact SW_iret h (hret _ hf) (fun _ => hy3) rfl (dt t_A_split 65 rfl)
              refine SW_if_ne (tgt := 91) h (fun _ => hx2) (dt t_A_split 48 rfl) rfl hf (fun hf => ?_) (fun hf => ?_)
              · refine SW_iload_n h rfl (dt t_A_split 49 rfl) ?_
                refine SW_sipush h (dt t_A_split 50 rfl) (by decide) ?_
                refine SW_idiv h (fun _ => h1) (fun _ => (by decide)) (by decide) (dt t_A_split 51 rfl) ?_
                refine SW_goto (tgt := 103) h (dt t_A_split 52 rfl) rfl ?_
                exact SW_fgt [false, false, false, false, false, false, false] rfl (k3 (v1.tdiv 10000) (r_tdiv h1 (by decide)) hf)
              · refine SW_iload_n h rfl (dt t_A_split 53 rfl) ?_
                refine SW_iconst h (dt t_A_split 54 rfl) ?_
                refine SW_icmp_ne (tgt := 101) h (fun _ => hx2) (fun _ => (by decide)) (dt t_A_split 55 rfl) rfl hf (fun hf => ?_) (fun hf => ?_)
                · refine SW_iload h rfl (dt t_A_split 56 rfl) ?_
                  refine SW_goto (tgt := 103) h (dt t_A_split 57 rfl) rfl ?_
                  exact SW_fgt [false, false, false, false, false, false, false] rfl (k3 v2 h2 hf)
                · refine SW_iload h rfl (dt t_A_split 58 rfl) ?_
                  exact SW_fgt [false, false, false, false, false, false, false] rfl (k3 (v1.tmod 100) (r_tmod h1 (by decide)) hf)
        · refine SW_iconst h (dt t_A_split 12 rfl) ?_
          exact SW_iret h (hret _ hf) (fun _ => (by decide)) rfl (dt t_A_split 13 rfl)
def b_G_mostAlike : List (Nat × Instr × Nat) := [(0, .aload_n 0, 1), (1, .getfield 31, 3), (4, .iconst 0, 1), (5, .invokestatic 68, 3), (8, .iconst 0, 1), (9, .istore_n 1, 1), (10, .iconst 0, 1), (11, .istore_n 2, 1), (12, .iload_n 2, 1), (13, .aload_n 0, 1), (14, .getfield 38, 3), (17, .if_icmp .ge 63, 3), (20, .aload_n 0, 1), (21, .getfield 25, 3), (24, .iload_n 2, 1), (25, .iaload, 1), (26, .sipush 1485, 3), (29, .iadd, 1), (30, .istore_n 3, 1), (31, .aload_n 0, 1), (32, .getfield 21, 3), (35, .iload_n 2, 1), (36, .baload, 1), (37, .ifCond .eq 37, 3), (40, .iload_n 3, 1), (41, .ifCond .lt 33, 3), (44, .iload_n 3, 1), (45, .aload_n 0, 1), (46, .getfield 31, 3), (49, .arraylength, 1), (50, .if_icmp .ge 24, 3), (53, .aload_n 0, 1), (54, .getfield 31, 3), (57, .iload_n 3, 1), (58, .dup2, 1), (59, .iaload, 1), (60, .iconst 1, 1), (61, .iadd, 1), (62, .iastore, 1), (63, .iload_n 1, 1), (64, .aload_n 0, 1), (65, .getfield 31, 3), (68, .iload_n 3, 1), (69, .iaload, 1), (70, .invokestatic 74, 3), (73, .istore_n 1, 1), (74, .iinc 2 1, 3), (77, .goto (-65), 3), (80, .iload_n 1, 1), (81, .ireturn, 1)]
theorem t_G_mostAlike : DT cX1_mostAlike b_G_mostAlike := DT.of (by decide +kernel)
def L_G_mostAlike_12 : Nat → Int → Int → Mm → Option (Int × Mm)
  | 0, _, _, _ => none
  | n + 1, x1, x2, σ =>
    if σ 121 9 ≤ x2 then
      some ((x1, σ))
    else
      if 0 ≤ x2 ∧ x2 < 1000 then
        bindM ((σ 126 x2.toNat) + 1485) fun v2 =>
        if 0 ≤ x2 ∧ x2 < 1000 then
          bindM (fun (x1_3 : Int) (t3 : Mm) =>
            if r32 (x2 + 1) then
              L_G_mostAlike_12 n x1_3 (x2 + 1) t3
            else none) fun J3 =>
          if σ 125 x2.toNat = 0 then
            J3 x1 σ
          else
            if r32 v2 then
              if v2 < 0 then
                J3 x1 σ
              else
                if ((2971 : Nat) : Int) ≤ v2 then
                  J3 x1 σ
                else
                  if 0 ≤ v2 ∧ v2 < 2971 then
                    if r32 ((σ 128 v2.toNat) + 1) then
                      if 0 ≤ v2 ∧ v2 < 2971 then
                        bindM (st2 σ 128 v2.toNat ((σ 128 v2.toNat) + 1)) fun s7 =>
                        if 0 ≤ v2 ∧ v2 < 2971 then
                          bindM (max x1 (s7 128 v2.toNat)) fun v9 =>
                          J3 v9 s7
                        else none
                      else none
                    else none
                  else none
            else none
        else none
      else none
set_option maxRecDepth 100000 in
set_option maxHeartbeats 4000000 in
theorem l_G_mostAlike_12 {X : Cx} (h : CX X 0 cX1_mostAlike 4 3 (some .int) RX1)   {res : Int × Mm} (hex : ∀ (x1 : Int) (σ : Mm) (hz : some ((x1, σ)) = some res) (hx1 : r32 x1) (ok : okM σ), SW X 0 4 80 [none, some (.int (i32 x1)), none, none] [] σ) : ∀ (n : Nat) (x1 : Int) (x2 : Int) (σ : Mm) (hx1 : r32 x1) (hx2 : r32 x2) (ok : okM σ) (hf : L_G_mostAlike_12 n x1 x2 σ = some res), SW X 0 4 12 [some (.ref (xad X 121)), some (.int (i32 x1)), some (.int (i32 x2)), none] [] σ := by
  intro n
  induction n with
  | zero => intro x1 x2 σ hx1 hx2 ok hf; exact absurd hf (by simp [L_G_mostAlike_12])
  | succ n ih =>
    intro x1 x2 σ hx1 hx2 ok hf
    rw [L_G_mostAlike_12] at hf
    refine SW_iload_n h rfl (dt t_G_mostAlike 8 rfl) ?_
    refine SW_aload_n h rfl (dt t_G_mostAlike 9 rfl) ?_
    refine gI h cf1 o121 f1_9 lX1_38 (dt t_G_mostAlike 10 rfl) ?_
    refine SW_icmp_ge (tgt := 80) h (fun _ => hx2) (fun _ => (okI ok 121 9 (IsO.n3 o121))) (dt t_G_mostAlike 11 rfl) rfl hf (fun hf => ?_) (fun hf => ?_)
    · exact SW_fgt [false, true, false, false] rfl (hex x1 σ hf hx1 ok)
    · refine SW_aload_n h rfl (dt t_G_mostAlike 12 rfl) ?_
      refine gR h cf1 o121 f1_6 j121_6 lX1_25 (dt t_G_mostAlike 13 rfl) ?_
      refine SW_iload_n h rfl (dt t_G_mostAlike 14 rfl) ?_
      refine aI h a126 (dt t_G_mostAlike 15 rfl) hf (fun hf => ?_)
      refine SW_sipush h (dt t_G_mostAlike 16 rfl) (by decide) ?_
      refine SW_iadd h (dt t_G_mostAlike 17 rfl) ?_
      refine SW_vu hf (fun v2 hf => ?_)
      refine SW_istore_n (lv2 := [some (.ref (xad X 121)), some (.int (i32 x1)), some (.int (i32 x2)), some (.int (i32 v2))]) h (dt t_G_mostAlike 18 rfl) (by decide) rfl ?_
      refine SW_aload_n h rfl (dt t_G_mostAlike 19 rfl) ?_
      refine gR h cf1 o121 f1_5 j121_5 lX1_21 (dt t_G_mostAlike 20 rfl) ?_
      refine SW_iload_n h rfl (dt t_G_mostAlike 21 rfl) ?_
      refine aZ h a125 (dt t_G_mostAlike 22 rfl) hf (fun hf => ?_)
      refine bJ hf (fun J3 e3 hf => ?_)
      have k3 : ∀ (x1_3 : Int) (t3 : Mm) (hx1_3 : r32 x1_3) (ot3 : okM t3) (hf : J3 x1_3 t3 = some res), SW X 0 4 74 [some (.ref (xad X 121)), some (.int (i32 x1_3)), some (.int (i32 x2)), none] [] t3 := by
        intro x1_3 t3 hx1_3 ot3 hf
        rw [e3] at hf
        refine SW_iinc (lv2 := [some (.ref (xad X 121)), some (.int (i32 x1_3)), some (.int (i32 (x2 + 1))), none]) h (dt t_G_mostAlike 46 rfl) rfl (by decide) rfl ?_
        refine SW_goto (tgt := 12) h (dt t_G_mostAlike 47 rfl) rfl ?_
        refine SW_chk hf (fun h4 hf => ?_)
        exact SW_fgt [true, true, true, false] rfl (ih x1_3 (x2 + 1) t3 hx1_3 h4 ot3 hf)
      refine SW_if_eq (tgt := 74) h (fun _ => (okI ok 125 x2.toNat (IsA.n3 a125 (by decide)))) (dt t_G_mostAlike 23 rfl) rfl hf (fun hf => ?_) (fun hf => ?_)
      · exact SW_fgt [true, true, true, false] rfl (k3 x1 σ hx1 ok hf)
      · refine SW_iload_n h rfl (dt t_G_mostAlike 24 rfl) ?_
        refine SW_chk hf (fun h5 hf => ?_)
        refine SW_if_lt (tgt := 74) h (fun _ => h5) (dt t_G_mostAlike 25 rfl) rfl hf (fun hf => ?_) (fun hf => ?_)
        · exact SW_fgt [true, true, true, false] rfl (k3 x1 σ hx1 ok hf)
        · refine SW_iload_n h rfl (dt t_G_mostAlike 26 rfl) ?_
          refine SW_aload_n h rfl (dt t_G_mostAlike 27 rfl) ?_
          refine gR h cf1 o121 f1_8 j121_8 lX1_31 (dt t_G_mostAlike 28 rfl) ?_
          refine aLen h (by decide) a128 (dt t_G_mostAlike 29 rfl) ?_
          refine SW_icmp_ge (tgt := 74) h (fun _ => h5) (fun _ => (by decide)) (dt t_G_mostAlike 30 rfl) rfl hf (fun hf => ?_) (fun hf => ?_)
          · exact SW_fgt [true, true, true, false] rfl (k3 x1 σ hx1 ok hf)
          · refine SW_aload_n h rfl (dt t_G_mostAlike 31 rfl) ?_
            refine gR h cf1 o121 f1_8 j121_8 lX1_31 (dt t_G_mostAlike 32 rfl) ?_
            refine SW_iload_n h rfl (dt t_G_mostAlike 33 rfl) ?_
            refine SW_dup2 h rfl rfl (dt t_G_mostAlike 34 rfl) ?_
            refine aI h a128 (dt t_G_mostAlike 35 rfl) hf (fun hf => ?_)
            refine SW_iconst h (dt t_G_mostAlike 36 rfl) ?_
            refine SW_iadd h (dt t_G_mostAlike 37 rfl) ?_
            refine SW_chk hf (fun h6 hf => ?_)
            refine sI h a128 h6 (dt t_G_mostAlike 38 rfl) hf (fun hf => SW_bm hf (fun s7 ok7 hf => ?_))
            refine SW_iload_n h rfl (dt t_G_mostAlike 39 rfl) ?_
            refine SW_aload_n h rfl (dt t_G_mostAlike 40 rfl) ?_
            refine gR h cf1 o121 f1_8 j121_8 lX1_31 (dt t_G_mostAlike 41 rfl) ?_
            refine SW_iload_n h rfl (dt t_G_mostAlike 42 rfl) ?_
            refine aI h a128 (dt t_G_mostAlike 43 rfl) hf (fun hf => ?_)
            refine SW_max h kX1_74 hx1 (okI ok7 128 v2.toNat (IsA.n3 a128 (by decide))) (Nat.le_of_ble_eq_true rfl) (dt t_G_mostAlike 44 rfl) ?_
            refine SW_vi hf (r_max hx1 (okI ok7 128 v2.toNat (IsA.n3 a128 (by decide)))) (fun v9 h9 hf => ?_)
            refine SW_istore_n (lv2 := [some (.ref (xad X 121)), some (.int (i32 v9)), some (.int (i32 x2)), some (.int (i32 v2))]) h (dt t_G_mostAlike 45 rfl) (by decide) rfl ?_
            exact SW_fgt [true, true, true, false] rfl (k3 v9 s7 h9 ok7 hf)
def F_G_mostAlike  (σ : Mm) : Option (Int × Mm) :=
  b0M (F_K_fill 128 0 σ) fun s1 =>
  b1M (L_G_mostAlike_12 LF 0 0 s1) fun x1_10 s10 =>
  some (x1_10, s10)
set_option maxRecDepth 100000 in
set_option maxHeartbeats 4000000 in
theorem c_G_mostAlike  {σ : Mm} {a : Int} {σ2 : Mm} (hf : F_G_mostAlike  σ = some (a, σ2)) : CT yX1_mostAlike cX1_mostAlike 4 (some .int) 3 0 (fun ad => [.ref (ad 121)]) σ (r32 a) (some (.int (i32 a))) σ2 := by
  refine MetJ 3 (by decide +kernel) rfl (fun _ => Nat.le_of_ble_eq_true rfl) ?_
  intro X h hR ok
  obtain ⟨res, er⟩ : ∃ z, z = (a, σ2) := ⟨_, rfl⟩
  have hret : ∀ y : Int × Mm, some y = some res → RX X 0 (r32 (y.1)) (some (.int (i32 (y.1)))) y.2 := fun y e => by cases e; cases er; exact hR
  rw [← er] at hf
  clear er hR
  unfold F_G_mostAlike at hf
  show SW X 0 4 0 [some (.ref (xad X 121)), none, none, none] [] σ
  refine SW_aload_n h rfl (dt t_G_mostAlike 0 rfl) ?_
  refine gR h cf1 o121 f1_8 j121_8 lX1_31 (dt t_G_mostAlike 1 rfl) ?_
  refine SW_iconst h (dt t_G_mostAlike 2 rfl) ?_
  obtain ⟨s1, e1, hf⟩ := b0M_of hf
  refine cSv h [.ref (xad X 128), .int (i32 0)] [] v_J7_fill_53178 kX1_68 (c_K_fill 128 ⟨(a128).1, (a128).2.1, rfl⟩ 0 (by decide) e1) rfl rfl (by decide) (by decide) rfl (Nat.le_of_ble_eq_true rfl) (dt t_G_mostAlike 3 rfl) (fun h1 => ?_)
  refine SW_ok (fun ok1 => ?_)
  refine SW_iconst h (dt t_G_mostAlike 4 rfl) ?_
  refine SW_istore_n (lv2 := [some (.ref (xad X 121)), some (.int (i32 0)), none, none]) h (dt t_G_mostAlike 5 rfl) (by decide) rfl ?_
  refine SW_iconst h (dt t_G_mostAlike 6 rfl) ?_
  refine SW_istore_n (lv2 := [some (.ref (xad X 121)), some (.int (i32 0)), some (.int (i32 0)), none]) h (dt t_G_mostAlike 7 rfl) (by decide) rfl ?_
  obtain ⟨z10, e10, hk10⟩ := b1M_ex hf
  refine SW_fgt [true, true, true, false] rfl (l_G_mostAlike_12 h (fun x1_10 s10 hz10 hx1_10 ok10 => ?_) LF 0 0 s1 (by decide) (by decide) ok1 e10)
  have hf := hk10 x1_10 s10 hz10
  refine SW_iload_n h rfl (dt t_G_mostAlike 48 rfl) ?_
  exact SW_iret h (hret _ hf) (fun _ => hx1_10) rfl (dt t_G_mostAlike 49 rfl)
def b_G_tellsMost : List (Nat × Instr × Nat) := [(0, .iconst (-1), 1), (1, .istore_n 1, 1), (2, .ldc 60, 2), (4, .istore_n 2, 1), (5, .iconst 0, 1), (6, .istore_n 3, 1), (7, .iload_n 3, 1), (8, .aload_n 0, 1), (9, .getfield 34, 3), (12, .getfield 61, 3), (15, .if_icmp .ge 39, 3), (18, .aload_n 0, 1), (19, .aload_n 0, 1), (20, .getfield 34, 3), (23, .getfield 45, 3), (26, .iload_n 3, 1), (27, .aaload, 1), (28, .invokevirtual 51, 3), (31, .aload_n 0, 1), (32, .invokevirtual 64, 3), (35, .istore 4, 2), (37, .iload 4, 2), (39, .iload_n 2, 1), (40, .if_icmp .ge 8, 3), (43, .iload 4, 2), (45, .istore_n 2, 1), (46, .iload_n 3, 1), (47, .istore_n 1, 1), (48, .iinc 3 1, 3), (51, .goto (-44), 3), (54, .iload_n 1, 1), (55, .ireturn, 1)]
theorem t_G_tellsMost : DT cX1_tellsMost b_G_tellsMost := DT.of (by decide +kernel)
def L_G_tellsMost_7 : Nat → Int → Int → Int → Mm → Option (Int × Mm)
  | 0, _, _, _, _ => none
  | n + 1, x1, x2, x3, σ =>
    if σ 1 4 ≤ x3 then
      some ((x1, σ))
    else
      if 0 ≤ x3 ∧ x3 < 12 then
        b0M (F_G_spread (10 + x3.toNat) σ) fun s2 =>
        b1M (F_G_mostAlike  s2) fun v3 s3 =>
        bindM (fun (x1_4 : Int) (x2_4 : Int) =>
          if r32 (x3 + 1) then
            L_G_tellsMost_7 n x1_4 x2_4 (x3 + 1) s3
          else none) fun J4 =>
        if x2 ≤ v3 then
          J4 x1 x2
        else
          J4 x3 v3
      else none
set_option maxRecDepth 100000 in
set_option maxHeartbeats 4000000 in
theorem l_G_tellsMost_7 {X : Cx} (h : CX X 0 cX1_tellsMost 5 8 (some .int) RX1)   {res : Int × Mm} (hex : ∀ (x1 : Int) (σ : Mm) (hz : some ((x1, σ)) = some res) (hx1 : r32 x1) (ok : okM σ), SW X 0 5 54 [none, some (.int (i32 x1)), none, none, none] [] σ) : ∀ (n : Nat) (x1 : Int) (x2 : Int) (x3 : Int) (σ : Mm) (hx1 : r32 x1) (hx2 : r32 x2) (hx3 : r32 x3) (ok : okM σ) (hf : L_G_tellsMost_7 n x1 x2 x3 σ = some res), SW X 0 5 7 [some (.ref (xad X 121)), some (.int (i32 x1)), some (.int (i32 x2)), some (.int (i32 x3)), none] [] σ := by
  intro n
  induction n with
  | zero => intro x1 x2 x3 σ hx1 hx2 hx3 ok hf; exact absurd hf (by simp [L_G_tellsMost_7])
  | succ n ih =>
    intro x1 x2 x3 σ hx1 hx2 hx3 ok hf
    rw [L_G_tellsMost_7] at hf
    refine SW_iload_n h rfl (dt t_G_tellsMost 6 rfl) ?_
    refine SW_aload_n h rfl (dt t_G_tellsMost 7 rfl) ?_
    refine gR h cf1 o121 f1_3 j121_3 lX1_34 (dt t_G_tellsMost 8 rfl) ?_
    refine gI h cf2 o1 f2_4 lX1_61 (dt t_G_tellsMost 9 rfl) ?_
    refine SW_icmp_ge (tgt := 54) h (fun _ => hx3) (fun _ => (okI ok 1 4 (IsO.n3 o1))) (dt t_G_tellsMost 10 rfl) rfl hf (fun hf => ?_) (fun hf => ?_)
    · exact SW_fgt [false, true, false, false, false] rfl (hex x1 σ hf hx1 ok)
    · refine SW_aload_n h rfl (dt t_G_tellsMost 11 rfl) ?_
      refine SW_aload_n h rfl (dt t_G_tellsMost 12 rfl) ?_
      refine gR h cf1 o121 f1_3 j121_3 lX1_34 (dt t_G_tellsMost 13 rfl) ?_
      refine gR h cf2 o1 f2_2 j1_2 lX1_45 (dt t_G_tellsMost 14 rfl) ?_
      refine SW_iload_n h rfl (dt t_G_tellsMost 15 rfl) ?_
      refine aR h (by decide) a8 rfl (dt t_G_tellsMost 16 rfl) hf (fun h1 hf => ?_)
      obtain ⟨s2, e2, hf⟩ := b0M_of hf
      refine cVv h [.ref (xad X (10 + x3.toNat))] [] v_X1_spread kX1_51 o121 (c_G_spread (10 + x3.toNat) (mk_row h1) e2) rfl rfl (by decide) (by decide) rfl (Nat.le_of_ble_eq_true rfl) (dt t_G_tellsMost 17 rfl) (fun h2 => ?_)
      refine SW_ok (fun ok2 => ?_)
      refine SW_aload_n h rfl (dt t_G_tellsMost 18 rfl) ?_
      obtain ⟨v3, s3, e3, hf⟩ := b1M_of hf
      refine cV h [] [] v_X1_mostAlike kX1_64 o121 (c_G_mostAlike  e3) rfl rfl (by decide) (by decide) rfl (Nat.le_of_ble_eq_true rfl) (dt t_G_tellsMost 19 rfl) (fun h3 => ?_)
      refine SW_ok (fun ok3 => ?_)
      refine SW_istore (lv2 := [some (.ref (xad X 121)), some (.int (i32 x1)), some (.int (i32 x2)), some (.int (i32 x3)), some (.int (i32 v3))]) h (dt t_G_tellsMost 20 rfl) (by decide) rfl ?_
      refine SW_iload h rfl (dt t_G_tellsMost 21 rfl) ?_
      refine SW_iload_n h rfl (dt t_G_tellsMost 22 rfl) ?_
      refine bJ hf (fun J4 e4 hf => ?_)
      have k4 : ∀ (x1_4 : Int) (x2_4 : Int) (hx1_4 : r32 x1_4) (hx2_4 : r32 x2_4) (hf : J4 x1_4 x2_4 = some res), SW X 0 5 48 [some (.ref (xad X 121)), some (.int (i32 x1_4)), some (.int (i32 x2_4)), some (.int (i32 x3)), none] [] s3 := by
        intro x1_4 x2_4 hx1_4 hx2_4 hf
        rw [e4] at hf
        refine SW_iinc (lv2 := [some (.ref (xad X 121)), some (.int (i32 x1_4)), some (.int (i32 x2_4)), some (.int (i32 (x3 + 1))), none]) h (dt t_G_tellsMost 28 rfl) rfl (by decide) rfl ?_
        refine SW_goto (tgt := 7) h (dt t_G_tellsMost 29 rfl) rfl ?_
        refine SW_chk hf (fun h5 hf => ?_)
        exact SW_fgt [true, true, true, true, false] rfl (ih x1_4 x2_4 (x3 + 1) s3 hx1_4 hx2_4 h5 ok3 hf)
      refine SW_icmp_ge (tgt := 48) h (fun _ => h3) (fun _ => hx2) (dt t_G_tellsMost 23 rfl) rfl hf (fun hf => ?_) (fun hf => ?_)
      · exact SW_fgt [true, true, true, true, false] rfl (k4 x1 x2 hx1 hx2 hf)
      · refine SW_iload h rfl (dt t_G_tellsMost 24 rfl) ?_
        refine SW_istore_n (lv2 := [some (.ref (xad X 121)), some (.int (i32 x1)), some (.int (i32 v3)), some (.int (i32 x3)), some (.int (i32 v3))]) h (dt t_G_tellsMost 25 rfl) (by decide) rfl ?_
        refine SW_iload_n h rfl (dt t_G_tellsMost 26 rfl) ?_
        refine SW_istore_n (lv2 := [some (.ref (xad X 121)), some (.int (i32 x3)), some (.int (i32 v3)), some (.int (i32 x3)), some (.int (i32 v3))]) h (dt t_G_tellsMost 27 rfl) (by decide) rfl ?_
        exact SW_fgt [true, true, true, true, false] rfl (k4 x3 v3 hx3 h3 hf)
def F_G_tellsMost  (σ : Mm) : Option (Int × Mm) :=
  b1M (L_G_tellsMost_7 LF ((-1)) 10000000 0 σ) fun x1_6 s6 =>
  some (x1_6, s6)
set_option maxRecDepth 100000 in
set_option maxHeartbeats 4000000 in
theorem c_G_tellsMost  {σ : Mm} {a : Int} {σ2 : Mm} (hf : F_G_tellsMost  σ = some (a, σ2)) : CT yX1_tellsMost cX1_tellsMost 5 (some .int) 8 0 (fun ad => [.ref (ad 121)]) σ (r32 a) (some (.int (i32 a))) σ2 := by
  refine MetJ 4 (by decide +kernel) rfl (fun _ => Nat.le_of_ble_eq_true rfl) ?_
  intro X h hR ok
  obtain ⟨res, er⟩ : ∃ z, z = (a, σ2) := ⟨_, rfl⟩
  have hret : ∀ y : Int × Mm, some y = some res → RX X 0 (r32 (y.1)) (some (.int (i32 (y.1)))) y.2 := fun y e => by cases e; cases er; exact hR
  rw [← er] at hf
  clear er hR
  unfold F_G_tellsMost at hf
  show SW X 0 5 0 [some (.ref (xad X 121)), none, none, none, none] [] σ
  refine SW_iconst h (dt t_G_tellsMost 0 rfl) ?_
  refine SW_istore_n (lv2 := [some (.ref (xad X 121)), some (.int (i32 ((-1)))), none, none, none]) h (dt t_G_tellsMost 1 rfl) (by decide) rfl ?_
  refine SW_ldc (n := 10000000) h nX1_60 (by decide) (dt t_G_tellsMost 2 rfl) ?_
  refine SW_istore_n (lv2 := [some (.ref (xad X 121)), some (.int (i32 ((-1)))), some (.int (i32 10000000)), none, none]) h (dt t_G_tellsMost 3 rfl) (by decide) rfl ?_
  refine SW_iconst h (dt t_G_tellsMost 4 rfl) ?_
  refine SW_istore_n (lv2 := [some (.ref (xad X 121)), some (.int (i32 ((-1)))), some (.int (i32 10000000)), some (.int (i32 0)), none]) h (dt t_G_tellsMost 5 rfl) (by decide) rfl ?_
  obtain ⟨z6, e6, hk6⟩ := b1M_ex hf
  refine SW_fgt [true, true, true, true, false] rfl (l_G_tellsMost_7 h (fun x1_6 s6 hz6 hx1_6 ok6 => ?_) LF ((-1)) 10000000 0 σ (by decide) (by decide) (by decide) ok e6)
  have hf := hk6 x1_6 s6 hz6
  refine SW_iload_n h rfl (dt t_G_tellsMost 30 rfl) ?_
  exact SW_iret h (hret _ hf) (fun _ => hx1_6) rfl (dt t_G_tellsMost 31 rfl)
def b_A_tells : List (Nat × Instr × Nat) := [(0, .iload_n 1, 1), (1, .iconst 3, 1), (2, .invokestatic 266, 3), (5, .ifCond .eq 24, 3), (8, .aload_n 0, 1), (9, .getfield 10, 3), (12, .getfield 81, 3), (15, .ifCond .eq 14, 3), (18, .aload_n 0, 1), (19, .getfield 49, 3), (22, .iload_n 1, 1), (23, .invokevirtual 269, 3), (26, .ifCond .ne 5, 3), (29, .iconst (-1), 1), (30, .ireturn, 1), (31, .aload_n 0, 1), (32, .getfield 49, 3), (35, .invokevirtual 275, 3), (38, .ireturn, 1)]
theorem t_A_tells : DT cX10_tells b_A_tells := DT.of (by decide +kernel)
def F_A_tells (x1 : Int) (σ : Mm) : Option (Int × Mm) :=
  b1 (F_A_isSet x1 3) fun v1 =>
  if v1 = 0 then
    some ((-1), σ)
  else
    if σ 1 4 = 0 then
      some ((-1), σ)
    else
      b1M (F_G_find x1 σ) fun v2 s2 =>
      if v2 = 0 then
        some ((-1), s2)
      else
        b1M (F_G_tellsMost  s2) fun v3 s3 =>
        some (v3, s3)
set_option maxRecDepth 100000 in
set_option maxHeartbeats 4000000 in
theorem c_A_tells (x1 : Int) (hx1 : r32 x1) {σ : Mm} {a : Int} {σ2 : Mm} (hf : F_A_tells x1 σ = some (a, σ2)) : CT yX10_tells cX10_tells 2 (some .int) 9 0 (fun ad => [.ref (ad 0), .int (i32 x1)]) σ (r32 a) (some (.int (i32 a))) σ2 := by
  refine MetJ 0 (by decide +kernel) rfl (fun _ => Nat.le_of_ble_eq_true rfl) ?_
  intro X h hR ok
  obtain ⟨res, er⟩ : ∃ z, z = (a, σ2) := ⟨_, rfl⟩
  have hret : ∀ y : Int × Mm, some y = some res → RX X 0 (r32 (y.1)) (some (.int (i32 (y.1)))) y.2 := fun y e => by cases e; cases er; exact hR
  rw [← er] at hf
  clear er hR
  unfold F_A_tells at hf
  show SW X 0 2 0 [some (.ref (xad X 0)), some (.int (i32 x1))] [] σ
  refine SW_iload_n h rfl (dt t_A_tells 0 rfl) ?_
  refine SW_iconst h (dt t_A_tells 1 rfl) ?_
  obtain ⟨v1, e1, hf⟩ := b1_of hf
  refine cS h [.int (i32 x1), .int (i32 3)] [] v_X10_isSet kX10_266 (c_A_isSet x1 hx1 3 (by decide) e1) rfl rfl (by decide) (by decide) rfl (Nat.le_of_ble_eq_true rfl) (dt t_A_tells 2 rfl) (fun h1 => ?_)
  refine SW_if_eq (tgt := 29) h (fun _ => (r_zo h1)) (dt t_A_tells 3 rfl) rfl hf (fun hf => ?_) (fun hf => ?_)
  · refine SW_iconst h (dt t_A_tells 13 rfl) ?_
    exact SW_iret h (hret _ hf) (fun _ => (by decide)) rfl (dt t_A_tells 14 rfl)
  · refine SW_aload_n h rfl (dt t_A_tells 4 rfl) ?_
    refine gR h cf10 o0 f10_0 j0_0 lX10_10 (dt t_A_tells 5 rfl) ?_
    refine gI h cf2 o1 f2_4 lX10_81 (dt t_A_tells 6 rfl) ?_
    refine SW_if_eq (tgt := 29) h (fun _ => (okI ok 1 4 (IsO.n3 o1))) (dt t_A_tells 7 rfl) rfl hf (fun hf => ?_) (fun hf => ?_)
    · refine SW_iconst h (dt t_A_tells 13 rfl) ?_
      exact SW_iret h (hret _ hf) (fun _ => (by decide)) rfl (dt t_A_tells 14 rfl)
    · refine SW_aload_n h rfl (dt t_A_tells 8 rfl) ?_
      refine gR h cf10 o0 f10_5 j0_5 lX10_49 (dt t_A_tells 9 rfl) ?_
      refine SW_iload_n h rfl (dt t_A_tells 10 rfl) ?_
      obtain ⟨v2, s2, e2, hf⟩ := b1M_of hf
      refine cV h [.int (i32 x1)] [] v_X1_find kX10_269 o121 (c_G_find x1 hx1 e2) rfl rfl (by decide) (by decide) rfl (Nat.le_of_ble_eq_true rfl) (dt t_A_tells 11 rfl) (fun h2 => ?_)
      refine SW_ok (fun ok2 => ?_)
      refine SW_if_ne (tgt := 31) h (fun _ => h2) (dt t_A_tells 12 rfl) rfl hf (fun hf => ?_) (fun hf => ?_)
      · refine SW_iconst h (dt t_A_tells 13 rfl) ?_
        exact SW_iret h (hret _ hf) (fun _ => (by decide)) rfl (dt t_A_tells 14 rfl)
      · refine SW_aload_n h rfl (dt t_A_tells 15 rfl) ?_
        refine gR h cf10 o0 f10_5 j0_5 lX10_49 (dt t_A_tells 16 rfl) ?_
        obtain ⟨v3, s3, e3, hf⟩ := b1M_of hf
        refine cV h [] [] v_X1_tellsMost kX10_275 o121 (c_G_tellsMost  e3) rfl rfl (by decide) (by decide) rfl (Nat.le_of_ble_eq_true rfl) (dt t_A_tells 17 rfl) (fun h3 => ?_)
        refine SW_ok (fun ok3 => ?_)
        exact SW_iret h (hret _ hf) (fun _ => h3) rfl (dt t_A_tells 18 rfl)
def b_T_clear : List (Nat × Instr × Nat) := [(0, .aload_n 0, 1), (1, .iconst 0, 1), (2, .putfield 24, 3), (5, .aload_n 0, 1), (6, .iconst 0, 1), (7, .putfield 28, 3), (10, .aload_n 0, 1), (11, .getfield 15, 3), (14, .iconst 0, 1), (15, .invokestatic 31, 3), (18, .aload_n 0, 1), (19, .getfield 18, 3), (22, .iconst 0, 1), (23, .invokestatic 31, 3), (26, .return_, 1)]
theorem t_T_clear : DT cX9_clear b_T_clear := DT.of (by decide +kernel)
def F_T_clear (r0 : Nat) (σ : Mm) : Option (Mm) :=
  bindM (st2 σ r0 4 0) fun s2 =>
  bindM (st2 s2 r0 5 0) fun s4 =>
  b0M (F_K_fill (r0 + 8) 0 s4) fun s5 =>
  b0M (F_K_fill (r0 + 12) 0 s5) fun s6 =>
  some s6
set_option maxRecDepth 100000 in
set_option maxHeartbeats 4000000 in
theorem c_T_clear (r0 : Nat) (q0 : IsO 0 9 r0) {σ : Mm} {σ2 : Mm} (hf : F_T_clear r0 σ = some σ2) : CT yX9_clear cX9_clear 1 none 1 0 (fun ad => [.ref (ad r0)]) σ True none σ2 := by
  refine MetJ 0 (by decide +kernel) rfl (fun _ => Nat.le_of_ble_eq_true rfl) ?_
  intro X h hR ok
  obtain ⟨res, er⟩ : ∃ z, z = σ2 := ⟨_, rfl⟩
  have hret : ∀ y : Mm, some y = some res → RX X 0 True none y := fun y e => by cases e; cases er; exact hR
  rw [← er] at hf
  clear er hR
  unfold F_T_clear at hf
  show SW X 0 1 0 [some (.ref (xad X r0))] [] σ
  refine SW_aload_n h rfl (dt t_T_clear 0 rfl) ?_
  refine SW_iconst h (dt t_T_clear 1 rfl) ?_
  refine pI h cf9 q0 f9_4 (by decide) lX9_24 (dt t_T_clear 2 rfl) (SW_bm hf (fun s2 ok2 hf => ?_))
  refine SW_aload_n h rfl (dt t_T_clear 3 rfl) ?_
  refine SW_iconst h (dt t_T_clear 4 rfl) ?_
  refine pI h cf9 q0 f9_5 (by decide) lX9_28 (dt t_T_clear 5 rfl) (SW_bm hf (fun s4 ok4 hf => ?_))
  refine SW_aload_n h rfl (dt t_T_clear 6 rfl) ?_
  refine gR h cf9 q0 f9_1 (dy9_1 q0).1 lX9_15 (dt t_T_clear 7 rfl) ?_
  refine SW_iconst h (dt t_T_clear 8 rfl) ?_
  obtain ⟨s5, e5, hf⟩ := b0M_of hf
  refine cSv h [.ref (xad X (r0 + 8)), .int (i32 0)] [] v_J7_fill_53178 kX9_31 (c_K_fill (r0 + 8) ⟨((dy9_1 q0).2).1, ((dy9_1 q0).2).2.1, rfl⟩ 0 (by decide) e5) rfl rfl (by decide) (by decide) rfl (Nat.le_of_ble_eq_true rfl) (dt t_T_clear 9 rfl) (fun h5 => ?_)
  refine SW_ok (fun ok5 => ?_)
  refine SW_aload_n h rfl (dt t_T_clear 10 rfl) ?_
  refine gR h cf9 q0 f9_2 (dy9_2 q0).1 lX9_18 (dt t_T_clear 11 rfl) ?_
  refine SW_iconst h (dt t_T_clear 12 rfl) ?_
  obtain ⟨s6, e6, hf⟩ := b0M_of hf
  refine cSv h [.ref (xad X (r0 + 12)), .int (i32 0)] [] v_J7_fill_53178 kX9_31 (c_K_fill (r0 + 12) ⟨((dy9_2 q0).2).1, ((dy9_2 q0).2).2.1, rfl⟩ 0 (by decide) e6) rfl rfl (by decide) (by decide) rfl (Nat.le_of_ble_eq_true rfl) (dt t_T_clear 13 rfl) (fun h6 => ?_)
  refine SW_ok (fun ok6 => ?_)
  exact SW_vret h (hret _ hf) rfl (dt t_T_clear 14 rfl)
def b_R_isDigit : List (Nat × Instr × Nat) := [(0, .iload_n 0, 1), (1, .bipush 48, 2), (3, .if_icmp .lt 13, 3), (6, .iload_n 0, 1), (7, .bipush 57, 2), (9, .if_icmp .gt 7, 3), (12, .iconst 1, 1), (13, .goto 4, 3), (16, .iconst 0, 1), (17, .ireturn, 1)]
theorem t_R_isDigit : DT cX5_isDigit b_R_isDigit := DT.of (by decide +kernel)
def F_R_isDigit (x0 : Int) : Option (Int) :=
  if x0 < 48 then
    some 0
  else
    if 57 < x0 then
      some 0
    else
      some 1
set_option maxRecDepth 100000 in
set_option maxHeartbeats 4000000 in
theorem c_R_isDigit (x0 : Int) (hx0 : r32 x0) {σ : Mm} {a : Int} (hf : F_R_isDigit x0 = some a) : CT yX5_isDigit cX5_isDigit 1 (some .boolean) 0 0 (fun ad => [.int (i32 x0)]) σ (a = 0 ∨ a = 1) (some (.int (i32 a))) σ := by
  refine MetJ 0 (by decide +kernel) rfl (fun _ => Nat.le_of_ble_eq_true rfl) ?_
  intro X h hR ok
  obtain ⟨res, er⟩ : ∃ z, z = a := ⟨_, rfl⟩
  have hret : ∀ y : Int, some y = some res → RX X 0 (y = 0 ∨ y = 1) (some (.int (i32 (y)))) σ := fun y e => by cases e; cases er; exact hR
  rw [← er] at hf
  clear er hR
  unfold F_R_isDigit at hf
  show SW X 0 1 0 [some (.int (i32 x0))] [] σ
  refine SW_iload_n h rfl (dt t_R_isDigit 0 rfl) ?_
  refine SW_bipush h (dt t_R_isDigit 1 rfl) (by decide) ?_
  refine SW_icmp_lt (tgt := 16) h (fun _ => hx0) (fun _ => (by decide)) (dt t_R_isDigit 2 rfl) rfl hf (fun hf => ?_) (fun hf => ?_)
  · refine SW_iconst h (dt t_R_isDigit 8 rfl) ?_
    exact SW_zret h (hret _ hf) (by decide) rfl (dt t_R_isDigit 9 rfl)
  · refine SW_iload_n h rfl (dt t_R_isDigit 3 rfl) ?_
    refine SW_bipush h (dt t_R_isDigit 4 rfl) (by decide) ?_
    refine SW_icmp_gt (tgt := 16) h (fun _ => hx0) (fun _ => (by decide)) (dt t_R_isDigit 5 rfl) rfl hf (fun hf => ?_) (fun hf => ?_)
    · refine SW_iconst h (dt t_R_isDigit 8 rfl) ?_
      exact SW_zret h (hret _ hf) (by decide) rfl (dt t_R_isDigit 9 rfl)
    · refine SW_iconst h (dt t_R_isDigit 6 rfl) ?_
      refine SW_goto (tgt := 17) h (dt t_R_isDigit 7 rfl) rfl ?_
      exact SW_zret h (hret _ hf) (by decide) rfl (dt t_R_isDigit 9 rfl)
def b_R_isLetter : List (Nat × Instr × Nat) := [(0, .iload_n 0, 1), (1, .bipush 97, 2), (3, .if_icmp .lt 9, 3), (6, .iload_n 0, 1), (7, .bipush 122, 2), (9, .if_icmp .le 15, 3), (12, .iload_n 0, 1), (13, .bipush 65, 2), (15, .if_icmp .lt 13, 3), (18, .iload_n 0, 1), (19, .bipush 90, 2), (21, .if_icmp .gt 7, 3), (24, .iconst 1, 1), (25, .goto 4, 3), (28, .iconst 0, 1), (29, .ireturn, 1)]
theorem t_R_isLetter : DT cX5_isLetter b_R_isLetter := DT.of (by decide +kernel)
def F_R_isLetter (x0 : Int) : Option (Int) :=
  bindM (
    if x0 < 65 then
      some 0
    else
      if 90 < x0 then
        some 0
      else
        some 1) fun J1 =>
  if x0 < 97 then
    J1
  else
    if x0 ≤ 122 then
      some 1
    else
      J1
set_option maxRecDepth 100000 in
set_option maxHeartbeats 4000000 in
theorem c_R_isLetter (x0 : Int) (hx0 : r32 x0) {σ : Mm} {a : Int} (hf : F_R_isLetter x0 = some a) : CT yX5_isLetter cX5_isLetter 1 (some .boolean) 0 0 (fun ad => [.int (i32 x0)]) σ (a = 0 ∨ a = 1) (some (.int (i32 a))) σ := by
  refine MetJ 0 (by decide +kernel) rfl (fun _ => Nat.le_of_ble_eq_true rfl) ?_
  intro X h hR ok
  obtain ⟨res, er⟩ : ∃ z, z = a := ⟨_, rfl⟩
  have hret : ∀ y : Int, some y = some res → RX X 0 (y = 0 ∨ y = 1) (some (.int (i32 (y)))) σ := fun y e => by cases e; cases er; exact hR
  rw [← er] at hf
  clear er hR
  unfold F_R_isLetter at hf
  show SW X 0 1 0 [some (.int (i32 x0))] [] σ
  refine SW_iload_n h rfl (dt t_R_isLetter 0 rfl) ?_
  refine SW_bipush h (dt t_R_isLetter 1 rfl) (by decide) ?_
  refine bJ hf (fun J1 e1 hf => ?_)
  have k1 : ∀ (hf : J1 = some res), SW X 0 1 12 [some (.int (i32 x0))] [] σ := by
    intro hf
    rw [e1] at hf
    refine SW_iload_n h rfl (dt t_R_isLetter 6 rfl) ?_
    refine SW_bipush h (dt t_R_isLetter 7 rfl) (by decide) ?_
    refine SW_icmp_lt (tgt := 28) h (fun _ => hx0) (fun _ => (by decide)) (dt t_R_isLetter 8 rfl) rfl hf (fun hf => ?_) (fun hf => ?_)
    · refine SW_iconst h (dt t_R_isLetter 14 rfl) ?_
      exact SW_zret h (hret _ hf) (by decide) rfl (dt t_R_isLetter 15 rfl)
    · refine SW_iload_n h rfl (dt t_R_isLetter 9 rfl) ?_
      refine SW_bipush h (dt t_R_isLetter 10 rfl) (by decide) ?_
      refine SW_icmp_gt (tgt := 28) h (fun _ => hx0) (fun _ => (by decide)) (dt t_R_isLetter 11 rfl) rfl hf (fun hf => ?_) (fun hf => ?_)
      · refine SW_iconst h (dt t_R_isLetter 14 rfl) ?_
        exact SW_zret h (hret _ hf) (by decide) rfl (dt t_R_isLetter 15 rfl)
      · refine SW_iconst h (dt t_R_isLetter 12 rfl) ?_
        refine SW_goto (tgt := 29) h (dt t_R_isLetter 13 rfl) rfl ?_
        exact SW_zret h (hret _ hf) (by decide) rfl (dt t_R_isLetter 15 rfl)
  refine SW_icmp_lt (tgt := 12) h (fun _ => hx0) (fun _ => (by decide)) (dt t_R_isLetter 2 rfl) rfl hf (fun hf => ?_) (fun hf => ?_)
  · exact SW_fgt [true] rfl (k1 hf)
  · refine SW_iload_n h rfl (dt t_R_isLetter 3 rfl) ?_
    refine SW_bipush h (dt t_R_isLetter 4 rfl) (by decide) ?_
    refine SW_icmp_le (tgt := 24) h (fun _ => hx0) (fun _ => (by decide)) (dt t_R_isLetter 5 rfl) rfl hf (fun hf => ?_) (fun hf => ?_)
    · refine SW_iconst h (dt t_R_isLetter 12 rfl) ?_
      refine SW_goto (tgt := 29) h (dt t_R_isLetter 13 rfl) rfl ?_
      exact SW_zret h (hret _ hf) (by decide) rfl (dt t_R_isLetter 15 rfl)
    · exact SW_fgt [true] rfl (k1 hf)
def b_R_wordFrom : List (Nat × Instr × Nat) := [(0, .sipush 300, 3), (3, .istore_n 3, 1), (4, .iload_n 1, 1), (5, .istore 4, 2), (7, .iconst 1, 1), (8, .istore 5, 2), (10, .iconst 0, 1), (11, .istore 6, 2), (13, .iload 6, 2), (15, .ldc 83, 2), (17, .invokevirtual 85, 3), (20, .if_icmp .ge 83, 3), (23, .ldc 83, 2), (25, .iload 6, 2), (27, .invokevirtual 88, 3), (30, .istore 7, 2), (32, .iload 7, 2), (34, .bipush 32, 2), (36, .if_icmp .eq 39, 3), (39, .iload 5, 2), (41, .ifCond .eq 25, 3), (44, .iload 4, 2), (46, .iload_n 2, 1), (47, .if_icmp .ge 19, 3), (50, .aload_n 0, 1), (51, .getfield 9, 3), (54, .iload 4, 2), (56, .iaload, 1), (57, .iload 7, 2), (59, .if_icmp .ne 7, 3), (62, .iconst 1, 1), (63, .goto 4, 3), (66, .iconst 0, 1), (67, .istore 5, 2), (69, .iinc 4 1, 3), (72, .goto 25, 3), (75, .iload 5, 2), (77, .ifCond .eq 11, 3), (80, .iload 4, 2), (82, .iload_n 2, 1), (83, .if_icmp .ne 5, 3), (86, .iload_n 3, 1), (87, .ireturn, 1), (88, .iinc 3 1, 3), (91, .iload_n 1, 1), (92, .istore 4, 2), (94, .iconst 1, 1), (95, .istore 5, 2), (97, .iinc 6 1, 3), (100, .goto (-87), 3), (103, .iconst 1, 1), (104, .ireturn, 1)]
theorem t_R_wordFrom : DT cX5_wordFrom b_R_wordFrom := DT.of (by decide +kernel)
def L_R_wordFrom_13 : Nat → Int → Int → Int → Int → Int → Int → Mm → Option ((Int) ⊕ (Unit))
  | 0, _, _, _, _, _, _, _ => none
  | n + 1, x1, x2, x3, x4, x5, x6, σ =>
    if 136 ≤ x6 then
      some (.inr (()))
    else
      if 0 ≤ x6 ∧ x6 < 136 then
        bindM (schI 0 (x6).toNat) fun v3 =>
        bindM (fun (x3_4 : Int) (x4_4 : Int) (x5_4 : Int) =>
          if r32 (x6 + 1) then
            L_R_wordFrom_13 n x1 x2 x3_4 x4_4 x5_4 (x6 + 1) σ
          else none) fun J4 =>
        if v3 = 32 then
          bindM (
            if r32 (x3 + 1) then
              J4 (x3 + 1) x1 1
            else none) fun J6 =>
          if x5 = 0 then
            J6
          else
            if x4 = x2 then
              some (.inl x3)
            else
              J6
        else
          bindM (fun (y8 : Int) =>
            if r32 (x4 + 1) then
              J4 x3 (x4 + 1) y8
            else none) fun J8 =>
          bindM (
            J8 0) fun J10 =>
          if x5 = 0 then
            J10
          else
            if x2 ≤ x4 then
              J10
            else
              if 0 ≤ x4 ∧ x4 < 300 then
                if σ 91 x4.toNat = v3 then
                  J8 1
                else
                  J10
              else none
      else none
set_option maxRecDepth 100000 in
set_option maxHeartbeats 4000000 in
theorem l_R_wordFrom_13 {X : Cx} (h : CX X 0 cX5_wordFrom 8 8 (some .int) RX5) (x1 : Int) (x2 : Int) (σ : Mm) (hx1 : r32 x1) (hx2 : r32 x2) (ok : okM σ) {res : (Int) ⊕ (Unit)} (hret : ∀ y : Int, some (.inl y) = some res → RX X 0 (r32 (y)) (some (.int (i32 (y)))) σ) (hex : ∀ (hz : some (.inr (())) = some res), SW X 0 8 103 [none, none, none, none, none, none, none, none] [] σ) : ∀ (n : Nat) (x3 : Int) (x4 : Int) (x5 : Int) (x6 : Int) (hx3 : r32 x3) (hx4 : r32 x4) (hx5 : r32 x5) (hx6 : r32 x6) (hf : L_R_wordFrom_13 n x1 x2 x3 x4 x5 x6 σ = some res), SW X 0 8 13 [some (.ref (xad X 90)), some (.int (i32 x1)), some (.int (i32 x2)), some (.int (i32 x3)), some (.int (i32 x4)), some (.int (i32 x5)), some (.int (i32 x6)), none] [] σ := by
  intro n
  induction n with
  | zero => intro x3 x4 x5 x6 hx3 hx4 hx5 hx6 hf; exact absurd hf (by simp [L_R_wordFrom_13])
  | succ n ih =>
    intro x3 x4 x5 x6 hx3 hx4 hx5 hx6 hf
    rw [L_R_wordFrom_13] at hf
    refine SW_iload h rfl (dt t_R_wordFrom 8 rfl) ?_
    refine SW_ldcs0 h (dt t_R_wordFrom 9 rfl) ?_
    refine SW_slen0 h (by decide) (by exact Nat.le_of_ble_eq_true rfl) kX5_85 (dt t_R_wordFrom 10 rfl) ?_
    refine SW_icmp_ge (tgt := 103) h (fun _ => hx6) (fun _ => (by decide)) (dt t_R_wordFrom 11 rfl) rfl hf (fun hf => ?_) (fun hf => ?_)
    · exact SW_fgt [false, false, false, false, false, false, false, false] rfl (hex hf)
    · refine SW_ldcs0 h (dt t_R_wordFrom 12 rfl) ?_
      refine SW_iload h rfl (dt t_R_wordFrom 13 rfl) ?_
      refine SW_schar0 h (by decide) (by exact Nat.le_of_ble_eq_true rfl) kX5_88 (dt t_R_wordFrom 14 rfl) hf (fun hf => ?_)
      refine SW_vi hf (r_sch _ _) (fun v3 h3 hf => ?_)
      refine SW_istore (lv2 := [some (.ref (xad X 90)), some (.int (i32 x1)), some (.int (i32 x2)), some (.int (i32 x3)), some (.int (i32 x4)), some (.int (i32 x5)), some (.int (i32 x6)), some (.int (i32 v3))]) h (dt t_R_wordFrom 15 rfl) (by decide) rfl ?_
      refine SW_iload h rfl (dt t_R_wordFrom 16 rfl) ?_
      refine SW_bipush h (dt t_R_wordFrom 17 rfl) (by decide) ?_
      refine bJ hf (fun J4 e4 hf => ?_)
      have k4 : ∀ (x3_4 : Int) (x4_4 : Int) (x5_4 : Int) (hx3_4 : r32 x3_4) (hx4_4 : r32 x4_4) (hx5_4 : r32 x5_4) (hf : J4 x3_4 x4_4 x5_4 = some res), SW X 0 8 97 [some (.ref (xad X 90)), some (.int (i32 x1)), some (.int (i32 x2)), some (.int (i32 x3_4)), some (.int (i32 x4_4)), some (.int (i32 x5_4)), some (.int (i32 x6)), none] [] σ := by
        intro x3_4 x4_4 x5_4 hx3_4 hx4_4 hx5_4 hf
        rw [e4] at hf
        refine SW_iinc (lv2 := [some (.ref (xad X 90)), some (.int (i32 x1)), some (.int (i32 x2)), some (.int (i32 x3_4)), some (.int (i32 x4_4)), some (.int (i32 x5_4)), some (.int (i32 (x6 + 1))), none]) h (dt t_R_wordFrom 48 rfl) rfl (by decide) rfl ?_
        refine SW_goto (tgt := 13) h (dt t_R_wordFrom 49 rfl) rfl ?_
        refine SW_chk hf (fun h5 hf => ?_)
        exact SW_fgt [true, true, true, true, true, true, true, false] rfl (ih x3_4 x4_4 x5_4 (x6 + 1) hx3_4 hx4_4 hx5_4 h5 hf)
      refine SW_icmp_eq (tgt := 75) h (fun _ => h3) (fun _ => (by decide)) (dt t_R_wordFrom 18 rfl) rfl hf (fun hf => ?_) (fun hf => ?_)
      · refine SW_iload h rfl (dt t_R_wordFrom 36 rfl) ?_
        refine bJ hf (fun J6 e6 hf => ?_)
        have k6 : ∀ (hf : J6 = some res), SW X 0 8 88 [some (.ref (xad X 90)), some (.int (i32 x1)), some (.int (i32 x2)), some (.int (i32 x3)), none, none, some (.int (i32 x6)), none] [] σ := by
          intro hf
          rw [e6] at hf
          refine SW_iinc (lv2 := [some (.ref (xad X 90)), some (.int (i32 x1)), some (.int (i32 x2)), some (.int (i32 (x3 + 1))), none, none, some (.int (i32 x6)), none]) h (dt t_R_wordFrom 43 rfl) rfl (by decide) rfl ?_
          refine SW_iload_n h rfl (dt t_R_wordFrom 44 rfl) ?_
          refine SW_istore (lv2 := [some (.ref (xad X 90)), some (.int (i32 x1)), some (.int (i32 x2)), some (.int (i32 (x3 + 1))), some (.int (i32 x1)), none, some (.int (i32 x6)), none]) h (dt t_R_wordFrom 45 rfl) (by decide) rfl ?_
          refine SW_iconst h (dt t_R_wordFrom 46 rfl) ?_
          refine SW_istore (lv2 := [some (.ref (xad X 90)), some (.int (i32 x1)), some (.int (i32 x2)), some (.int (i32 (x3 + 1))), some (.int (i32 x1)), some (.int (i32 1)), some (.int (i32 x6)), none]) h (dt t_R_wordFrom 47 rfl) (by decide) rfl ?_
          refine SW_chk hf (fun h7 hf => ?_)
          exact SW_fgt [true, true, true, true, true, true, true, false] rfl (k4 (x3 + 1) x1 1 h7 hx1 (by decide) hf)
        refine SW_if_eq (tgt := 88) h (fun _ => hx5) (dt t_R_wordFrom 37 rfl) rfl hf (fun hf => ?_) (fun hf => ?_)
        · exact SW_fgt [true, true, true, true, false, false, true, false] rfl (k6 hf)
        · refine SW_iload h rfl (dt t_R_wordFrom 38 rfl) ?_
          refine SW_iload_n h rfl (dt t_R_wordFrom 39 rfl) ?_
          refine SW_icmp_ne (tgt := 88) h (fun _ => hx4) (fun _ => hx2) (dt t_R_wordFrom 40 rfl) rfl hf (fun hf => ?_) (fun hf => ?_)
          · refine SW_iload_n h rfl (dt t_R_wordFrom 41 rfl) ?_
            exact SW_iret h (hret _ hf) (fun _ => hx3) rfl (dt t_R_wordFrom 42 rfl)
          · exact SW_fgt [true, true, true, true, false, false, true, false] rfl (k6 hf)
      · refine SW_iload h rfl (dt t_R_wordFrom 19 rfl) ?_
        refine bJ hf (fun J8 e8 hf => ?_)
        have k8 : ∀ (y8 : Int) (hy8 : r32 y8) (hf : J8 y8 = some res), SW X 0 8 67 [some (.ref (xad X 90)), some (.int (i32 x1)), some (.int (i32 x2)), some (.int (i32 x3)), some (.int (i32 x4)), none, some (.int (i32 x6)), none] [.int (i32 y8)] σ := by
          intro y8 hy8 hf
          rw [e8] at hf
          refine SW_istore (lv2 := [some (.ref (xad X 90)), some (.int (i32 x1)), some (.int (i32 x2)), some (.int (i32 x3)), some (.int (i32 x4)), some (.int (i32 y8)), some (.int (i32 x6)), none]) h (dt t_R_wordFrom 33 rfl) (by decide) rfl ?_
          refine SW_iinc (lv2 := [some (.ref (xad X 90)), some (.int (i32 x1)), some (.int (i32 x2)), some (.int (i32 x3)), some (.int (i32 (x4 + 1))), some (.int (i32 y8)), some (.int (i32 x6)), none]) h (dt t_R_wordFrom 34 rfl) rfl (by decide) rfl ?_
          refine SW_goto (tgt := 97) h (dt t_R_wordFrom 35 rfl) rfl ?_
          refine SW_chk hf (fun h9 hf => ?_)
          exact SW_fgt [true, true, true, true, true, true, true, false] rfl (k4 x3 (x4 + 1) y8 hx3 h9 hy8 hf)
        refine bJ hf (fun J10 e10 hf => ?_)
        have k10 : ∀ (hf : J10 = some res), SW X 0 8 66 [some (.ref (xad X 90)), some (.int (i32 x1)), some (.int (i32 x2)), some (.int (i32 x3)), some (.int (i32 x4)), none, some (.int (i32 x6)), none] [] σ := by
          intro hf
          rw [e10] at hf
          refine SW_iconst h (dt t_R_wordFrom 32 rfl) ?_
          exact SW_fgt [true, true, true, true, true, false, true, false] rfl (k8 0 (by decide) hf)
        refine SW_if_eq (tgt := 66) h (fun _ => hx5) (dt t_R_wordFrom 20 rfl) rfl hf (fun hf => ?_) (fun hf => ?_)
        · exact SW_fgt [true, true, true, true, true, false, true, false] rfl (k10 hf)
        · refine SW_iload h rfl (dt t_R_wordFrom 21 rfl) ?_
          refine SW_iload_n h rfl (dt t_R_wordFrom 22 rfl) ?_
          refine SW_icmp_ge (tgt := 66) h (fun _ => hx4) (fun _ => hx2) (dt t_R_wordFrom 23 rfl) rfl hf (fun hf => ?_) (fun hf => ?_)
          · exact SW_fgt [true, true, true, true, true, false, true, false] rfl (k10 hf)
          · refine SW_aload_n h rfl (dt t_R_wordFrom 24 rfl) ?_
            refine gR h cf5 o90 f5_0 j90_0 lX5_9 (dt t_R_wordFrom 25 rfl) ?_
            refine SW_iload h rfl (dt t_R_wordFrom 26 rfl) ?_
            refine aI h a91 (dt t_R_wordFrom 27 rfl) hf (fun hf => ?_)
            refine SW_iload h rfl (dt t_R_wordFrom 28 rfl) ?_
            refine SW_icmp_ne (tgt := 66) h (fun _ => (okI ok 91 x4.toNat (IsA.n3 a91 (by decide)))) (fun _ => h3) (dt t_R_wordFrom 29 rfl) rfl hf (fun hf => ?_) (fun hf => ?_)
            · refine SW_iconst h (dt t_R_wordFrom 30 rfl) ?_
              refine SW_goto (tgt := 67) h (dt t_R_wordFrom 31 rfl) rfl ?_
              exact SW_fgt [true, true, true, true, true, false, true, false] rfl (k8 1 (by decide) hf)
            · exact SW_fgt [true, true, true, true, true, false, true, false] rfl (k10 hf)
def F_R_wordFrom (x1 : Int) (x2 : Int) (σ : Mm) : Option (Int) :=
  b0S (L_R_wordFrom_13 LF x1 x2 300 x1 1 0 σ) (fun y => some y) <|
  some 1
set_option maxRecDepth 100000 in
set_option maxHeartbeats 4000000 in
theorem c_R_wordFrom (x1 : Int) (hx1 : r32 x1) (x2 : Int) (hx2 : r32 x2) {σ : Mm} {a : Int} (hf : F_R_wordFrom x1 x2 σ = some a) : CT yX5_wordFrom cX5_wordFrom 8 (some .int) 8 0 (fun ad => [.ref (ad 90), .int (i32 x1), .int (i32 x2)]) σ (r32 a) (some (.int (i32 a))) σ := by
  refine MetJ 5 (by decide +kernel) rfl (fun _ => Nat.le_of_ble_eq_true rfl) ?_
  intro X h hR ok
  obtain ⟨res, er⟩ : ∃ z, z = a := ⟨_, rfl⟩
  have hret : ∀ y : Int, some y = some res → RX X 0 (r32 (y)) (some (.int (i32 (y)))) σ := fun y e => by cases e; cases er; exact hR
  rw [← er] at hf
  clear er hR
  unfold F_R_wordFrom at hf
  show SW X 0 8 0 [some (.ref (xad X 90)), some (.int (i32 x1)), some (.int (i32 x2)), none, none, none, none, none] [] σ
  refine SW_sipush h (dt t_R_wordFrom 0 rfl) (by decide) ?_
  refine SW_istore_n (lv2 := [some (.ref (xad X 90)), some (.int (i32 x1)), some (.int (i32 x2)), some (.int (i32 300)), none, none, none, none]) h (dt t_R_wordFrom 1 rfl) (by decide) rfl ?_
  refine SW_iload_n h rfl (dt t_R_wordFrom 2 rfl) ?_
  refine SW_istore (lv2 := [some (.ref (xad X 90)), some (.int (i32 x1)), some (.int (i32 x2)), some (.int (i32 300)), some (.int (i32 x1)), none, none, none]) h (dt t_R_wordFrom 3 rfl) (by decide) rfl ?_
  refine SW_iconst h (dt t_R_wordFrom 4 rfl) ?_
  refine SW_istore (lv2 := [some (.ref (xad X 90)), some (.int (i32 x1)), some (.int (i32 x2)), some (.int (i32 300)), some (.int (i32 x1)), some (.int (i32 1)), none, none]) h (dt t_R_wordFrom 5 rfl) (by decide) rfl ?_
  refine SW_iconst h (dt t_R_wordFrom 6 rfl) ?_
  refine SW_istore (lv2 := [some (.ref (xad X 90)), some (.int (i32 x1)), some (.int (i32 x2)), some (.int (i32 300)), some (.int (i32 x1)), some (.int (i32 1)), some (.int (i32 0)), none]) h (dt t_R_wordFrom 7 rfl) (by decide) rfl ?_
  obtain ⟨z11, e11, g11, hk11⟩ := b0S_of hf
  refine SW_fgt [true, true, true, true, true, true, true, false] rfl (l_R_wordFrom_13 h x1 x2 σ hx1 hx2 ok (fun y e => hret y (g11 y (Option.some.inj e).symm)) (fun hz11 => ?_) LF 300 x1 1 0 (by decide) hx1 (by decide) (by decide) e11)
  have hf := hk11 (Option.some.inj hz11).symm
  refine SW_iconst h (dt t_R_wordFrom 50 rfl) ?_
  exact SW_iret h (hret _ hf) (fun _ => (by decide)) rfl (dt t_R_wordFrom 51 rfl)
def b_R_step : List (Nat × Instr × Nat) := [(0, .aload_n 0, 1), (1, .getfield 41, 3), (4, .aload_n 0, 1), (5, .getfield 18, 3), (8, .if_icmp .ge 44, 3), (11, .aload_n 0, 1), (12, .getfield 9, 3), (15, .aload_n 0, 1), (16, .getfield 41, 3), (19, .iaload, 1), (20, .bipush 32, 2), (22, .if_icmp .eq 17, 3), (25, .aload_n 0, 1), (26, .getfield 9, 3), (29, .aload_n 0, 1), (30, .getfield 41, 3), (33, .iaload, 1), (34, .bipush 10, 2), (36, .if_icmp .ne 16, 3), (39, .aload_n 0, 1), (40, .dup, 1), (41, .getfield 41, 3), (44, .iconst 1, 1), (45, .iadd, 1), (46, .putfield 41, 3), (49, .goto (-49), 3), (52, .aload_n 0, 1), (53, .aload_n 0, 1), (54, .getfield 41, 3), (57, .putfield 53, 3), (60, .aload_n 0, 1), (61, .getfield 41, 3), (64, .aload_n 0, 1), (65, .getfield 18, 3), (68, .if_icmp .lt 11, 3), (71, .aload_n 0, 1), (72, .iconst 0, 1), (73, .putfield 47, 3), (76, .goto 274, 3), (79, .aload_n 0, 1), (80, .getfield 9, 3), (83, .aload_n 0, 1), (84, .getfield 41, 3), (87, .iaload, 1), (88, .invokestatic 56, 3), (91, .ifCond .eq 85, 3), (94, .aload_n 0, 1), (95, .iconst 0, 1), (96, .putfield 60, 3), (99, .aload_n 0, 1), (100, .getfield 41, 3), (103, .aload_n 0, 1), (104, .getfield 18, 3), (107, .if_icmp .ge 61, 3), (110, .aload_n 0, 1), (111, .getfield 9, 3), (114, .aload_n 0, 1), (115, .getfield 41, 3), (118, .iaload, 1), (119, .invokestatic 56, 3), (122, .ifCond .eq 46, 3), (125, .aload_n 0, 1), (126, .sipush 10000, 3), (129, .aload_n 0, 1), (130, .getfield 60, 3), (133, .bipush 10, 2), (135, .imul, 1), (136, .aload_n 0, 1), (137, .getfield 9, 3), (140, .aload_n 0, 1), (141, .getfield 41, 3), (144, .iaload, 1), (145, .iadd, 1), (146, .bipush 48, 2), (148, .isub, 1), (149, .invokestatic 63, 3), (152, .putfield 60, 3), (155, .aload_n 0, 1), (156, .dup, 1), (157, .getfield 41, 3), (160, .iconst 1, 1), (161, .iadd, 1), (162, .putfield 41, 3), (165, .goto (-66), 3), (168, .aload_n 0, 1), (169, .iconst 2, 1), (170, .putfield 47, 3), (173, .goto 177, 3), (176, .aload_n 0, 1), (177, .getfield 9, 3), (180, .aload_n 0, 1), (181, .getfield 41, 3), (184, .iaload, 1), (185, .invokestatic 69, 3), (188, .ifCond .eq 61, 3), (191, .aload_n 0, 1), (192, .getfield 41, 3), (195, .aload_n 0, 1), (196, .getfield 18, 3), (199, .if_icmp .ge 31, 3), (202, .aload_n 0, 1), (203, .getfield 9, 3), (206, .aload_n 0, 1), (207, .getfield 41, 3), (210, .iaload, 1), (211, .invokestatic 69, 3), (214, .ifCond .eq 16, 3), (217, .aload_n 0, 1), (218, .dup, 1), (219, .getfield 41, 3), (222, .iconst 1, 1), (223, .iadd, 1), (224, .putfield 41, 3), (227, .goto (-36), 3), (230, .aload_n 0, 1), (231, .aload_n 0, 1), (232, .aload_n 0, 1), (233, .getfield 53, 3), (236, .aload_n 0, 1), (237, .getfield 41, 3), (240, .invokevirtual 72, 3), (243, .putfield 47, 3), (246, .goto 104, 3), (249, .aload_n 0, 1), (250, .getfield 9, 3), (253, .aload_n 0, 1), (254, .getfield 41, 3), (257, .iaload, 1), (258, .istore_n 1, 1), (259, .aload_n 0, 1), (260, .dup, 1), (261, .getfield 41, 3), (264, .iconst 1, 1), (265, .iadd, 1), (266, .putfield 41, 3), (269, .aload_n 0, 1), (270, .ldc 75, 2), (272, .iload_n 1, 1), (273, .i2c, 1), (274, .invokevirtual 77, 3), (277, .ifCond .lt 7, 3), (280, .iload_n 1, 1), (281, .goto 4, 3), (284, .iconst 1, 1), (285, .putfield 47, 3), (288, .iload_n 1, 1), (289, .bipush 60, 2), (291, .if_icmp .eq 9, 3), (294, .iload_n 1, 1), (295, .bipush 62, 2), (297, .if_icmp .ne 53, 3), (300, .aload_n 0, 1), (301, .getfield 41, 3), (304, .aload_n 0, 1), (305, .getfield 18, 3), (308, .if_icmp .ge 42, 3), (311, .aload_n 0, 1), (312, .getfield 9, 3), (315, .aload_n 0, 1), (316, .getfield 41, 3), (319, .iaload, 1), (320, .bipush 61, 2), (322, .if_icmp .ne 28, 3), (325, .aload_n 0, 1), (326, .dup, 1), (327, .getfield 41, 3), (330, .iconst 1, 1), (331, .iadd, 1), (332, .putfield 41, 3), (335, .aload_n 0, 1), (336, .iload_n 1, 1), (337, .bipush 60, 2), (339, .if_icmp .ne 7, 3), (342, .iconst 3, 1), (343, .goto 4, 3), (346, .iconst 4, 1), (347, .putfield 47, 3), (350, .return_, 1)]
theorem t_R_step : DT cX5_step b_R_step := DT.of (by decide +kernel)
def L_R_step_0 : Nat → Mm → Option (Mm)
  | 0, _ => none
  | n + 1, σ =>
    if σ 90 1 ≤ σ 90 5 then
      some σ
    else
      if 0 ≤ σ 90 5 ∧ σ 90 5 < 300 then
        bindM (
          if r32 ((σ 90 5) + 1) then
            bindM (st2 σ 90 5 ((σ 90 5) + 1)) fun s4 =>
            L_R_step_0 n s4
          else none) fun J1 =>
        if σ 91 ((σ 90 5).toNat) = 32 then
          J1
        else
          if 0 ≤ σ 90 5 ∧ σ 90 5 < 300 then
            if σ 91 ((σ 90 5).toNat) = 10 then
              J1
            else
              some σ
          else none
      else none
set_option maxRecDepth 100000 in
set_option maxHeartbeats 4000000 in
theorem l_R_step_0 {X : Cx} (h : CX X 0 cX5_step 2 9 none RX5)   {res : Mm} (hex : ∀  (σ : Mm) (hz : some σ = some res)  (ok : okM σ), SW X 0 2 52 [some (.ref (xad X 90)), none] [] σ) : ∀ (n : Nat)  (σ : Mm)  (ok : okM σ) (hf : L_R_step_0 n σ = some res), SW X 0 2 0 [some (.ref (xad X 90)), none] [] σ := by
  intro n
  induction n with
  | zero => intro σ ok hf; exact absurd hf (by simp [L_R_step_0])
  | succ n ih =>
    intro σ ok hf
    rw [L_R_step_0] at hf
    refine SW_aload_n h rfl (dt t_R_step 0 rfl) ?_
    refine gI h cf5 o90 f5_5 lX5_41 (dt t_R_step 1 rfl) ?_
    refine SW_aload_n h rfl (dt t_R_step 2 rfl) ?_
    refine gI h cf5 o90 f5_1 lX5_18 (dt t_R_step 3 rfl) ?_
    refine SW_icmp_ge (tgt := 52) h (fun _ => (okI ok 90 5 (IsO.n3 o90))) (fun _ => (okI ok 90 1 (IsO.n3 o90))) (dt t_R_step 4 rfl) rfl hf (fun hf => ?_) (fun hf => ?_)
    · exact SW_fgt [true, false] rfl (hex σ hf ok)
    · refine SW_aload_n h rfl (dt t_R_step 5 rfl) ?_
      refine gR h cf5 o90 f5_0 j90_0 lX5_9 (dt t_R_step 6 rfl) ?_
      refine SW_aload_n h rfl (dt t_R_step 7 rfl) ?_
      refine gI h cf5 o90 f5_5 lX5_41 (dt t_R_step 8 rfl) ?_
      refine aI h a91 (dt t_R_step 9 rfl) hf (fun hf => ?_)
      refine SW_bipush h (dt t_R_step 10 rfl) (by decide) ?_
      refine bJ hf (fun J1 e1 hf => ?_)
      have k1 : ∀ (hf : J1 = some res), SW X 0 2 39 [some (.ref (xad X 90)), none] [] σ := by
        intro hf
        rw [e1] at hf
        refine SW_aload_n h rfl (dt t_R_step 19 rfl) ?_
        refine SW_dup h rfl (dt t_R_step 20 rfl) ?_
        refine gI h cf5 o90 f5_5 lX5_41 (dt t_R_step 21 rfl) ?_
        refine SW_iconst h (dt t_R_step 22 rfl) ?_
        refine SW_iadd h (dt t_R_step 23 rfl) ?_
        refine SW_chk hf (fun h3 hf => ?_)
        refine pI h cf5 o90 f5_5 h3 lX5_41 (dt t_R_step 24 rfl) (SW_bm hf (fun s4 ok4 hf => ?_))
        refine SW_goto (tgt := 0) h (dt t_R_step 25 rfl) rfl ?_
        exact SW_fgt [true, false] rfl (ih s4 ok4 hf)
      refine SW_icmp_eq (tgt := 39) h (fun _ => (okI ok 91 ((σ 90 5).toNat) (IsA.n3 a91 (by decide)))) (fun _ => (by decide)) (dt t_R_step 11 rfl) rfl hf (fun hf => ?_) (fun hf => ?_)
      · exact SW_fgt [true, false] rfl (k1 hf)
      · refine SW_aload_n h rfl (dt t_R_step 12 rfl) ?_
        refine gR h cf5 o90 f5_0 j90_0 lX5_9 (dt t_R_step 13 rfl) ?_
        refine SW_aload_n h rfl (dt t_R_step 14 rfl) ?_
        refine gI h cf5 o90 f5_5 lX5_41 (dt t_R_step 15 rfl) ?_
        refine aI h a91 (dt t_R_step 16 rfl) hf (fun hf => ?_)
        refine SW_bipush h (dt t_R_step 17 rfl) (by decide) ?_
        refine SW_icmp_ne (tgt := 52) h (fun _ => (okI ok 91 ((σ 90 5).toNat) (IsA.n3 a91 (by decide)))) (fun _ => (by decide)) (dt t_R_step 18 rfl) rfl hf (fun hf => ?_) (fun hf => ?_)
        · exact SW_fgt [true, false] rfl (k1 hf)
        · exact SW_fgt [true, false] rfl (hex σ hf ok)
def L_R_step_191 : Nat → Mm → Option (Mm)
  | 0, _ => none
  | n + 1, σ =>
    if σ 90 1 ≤ σ 90 5 then
      some σ
    else
      if 0 ≤ σ 90 5 ∧ σ 90 5 < 300 then
        b1 (F_R_isLetter (σ 91 ((σ 90 5).toNat))) fun v25 =>
        if v25 = 0 then
          some σ
        else
          if r32 ((σ 90 5) + 1) then
            bindM (st2 σ 90 5 ((σ 90 5) + 1)) fun s28 =>
            L_R_step_191 n s28
          else none
      else none
set_option maxRecDepth 100000 in
set_option maxHeartbeats 4000000 in
theorem l_R_step_191 {X : Cx} (h : CX X 0 cX5_step 2 9 none RX5)   {res : Mm} (hex : ∀  (σ : Mm) (hz : some σ = some res)  (ok : okM σ), SW X 0 2 230 [some (.ref (xad X 90)), none] [] σ) : ∀ (n : Nat)  (σ : Mm)  (ok : okM σ) (hf : L_R_step_191 n σ = some res), SW X 0 2 191 [some (.ref (xad X 90)), none] [] σ := by
  intro n
  induction n with
  | zero => intro σ ok hf; exact absurd hf (by simp [L_R_step_191])
  | succ n ih =>
    intro σ ok hf
    rw [L_R_step_191] at hf
    refine SW_aload_n h rfl (dt t_R_step 95 rfl) ?_
    refine gI h cf5 o90 f5_5 lX5_41 (dt t_R_step 96 rfl) ?_
    refine SW_aload_n h rfl (dt t_R_step 97 rfl) ?_
    refine gI h cf5 o90 f5_1 lX5_18 (dt t_R_step 98 rfl) ?_
    refine SW_icmp_ge (tgt := 230) h (fun _ => (okI ok 90 5 (IsO.n3 o90))) (fun _ => (okI ok 90 1 (IsO.n3 o90))) (dt t_R_step 99 rfl) rfl hf (fun hf => ?_) (fun hf => ?_)
    · exact SW_fgt [true, false] rfl (hex σ hf ok)
    · refine SW_aload_n h rfl (dt t_R_step 100 rfl) ?_
      refine gR h cf5 o90 f5_0 j90_0 lX5_9 (dt t_R_step 101 rfl) ?_
      refine SW_aload_n h rfl (dt t_R_step 102 rfl) ?_
      refine gI h cf5 o90 f5_5 lX5_41 (dt t_R_step 103 rfl) ?_
      refine aI h a91 (dt t_R_step 104 rfl) hf (fun hf => ?_)
      obtain ⟨v25, e25, hf⟩ := b1_of hf
      refine cS h [.int (i32 (σ 91 ((σ 90 5).toNat)))] [] v_X5_isLetter kX5_69 (c_R_isLetter (σ 91 ((σ 90 5).toNat)) (okI ok 91 ((σ 90 5).toNat) (IsA.n3 a91 (by decide))) e25) rfl rfl (by decide) (by decide) rfl (Nat.le_of_ble_eq_true rfl) (dt t_R_step 105 rfl) (fun h25 => ?_)
      refine SW_if_eq (tgt := 230) h (fun _ => (r_zo h25)) (dt t_R_step 106 rfl) rfl hf (fun hf => ?_) (fun hf => ?_)
      · exact SW_fgt [true, false] rfl (hex σ hf ok)
      · refine SW_aload_n h rfl (dt t_R_step 107 rfl) ?_
        refine SW_dup h rfl (dt t_R_step 108 rfl) ?_
        refine gI h cf5 o90 f5_5 lX5_41 (dt t_R_step 109 rfl) ?_
        refine SW_iconst h (dt t_R_step 110 rfl) ?_
        refine SW_iadd h (dt t_R_step 111 rfl) ?_
        refine SW_chk hf (fun h27 hf => ?_)
        refine pI h cf5 o90 f5_5 h27 lX5_41 (dt t_R_step 112 rfl) (SW_bm hf (fun s28 ok28 hf => ?_))
        refine SW_goto (tgt := 191) h (dt t_R_step 113 rfl) rfl ?_
        exact SW_fgt [true, false] rfl (ih s28 ok28 hf)
def L_R_step_99 : Nat → Mm → Option (Mm)
  | 0, _ => none
  | n + 1, σ =>
    if σ 90 1 ≤ σ 90 5 then
      some σ
    else
      if 0 ≤ σ 90 5 ∧ σ 90 5 < 300 then
        b1 (F_R_isDigit (σ 91 ((σ 90 5).toNat))) fun v35 =>
        if v35 = 0 then
          some σ
        else
          if 0 ≤ σ 90 5 ∧ σ 90 5 < 300 then
            if r32 ((((σ 90 8) * 10) + (σ 91 ((σ 90 5).toNat))) - 48) then
              bindM (st2 σ 90 8 (min 10000 ((((σ 90 8) * 10) + (σ 91 ((σ 90 5).toNat))) - 48))) fun s39 =>
              if r32 ((s39 90 5) + 1) then
                bindM (st2 s39 90 5 ((s39 90 5) + 1)) fun s42 =>
                L_R_step_99 n s42
              else none
            else none
          else none
      else none
set_option maxRecDepth 100000 in
set_option maxHeartbeats 4000000 in
theorem l_R_step_99 {X : Cx} (h : CX X 0 cX5_step 2 9 none RX5)   {res : Mm} (hex : ∀  (σ : Mm) (hz : some σ = some res)  (ok : okM σ), SW X 0 2 168 [some (.ref (xad X 90)), none] [] σ) : ∀ (n : Nat)  (σ : Mm)  (ok : okM σ) (hf : L_R_step_99 n σ = some res), SW X 0 2 99 [some (.ref (xad X 90)), none] [] σ := by
  intro n
  induction n with
  | zero => intro σ ok hf; exact absurd hf (by simp [L_R_step_99])
  | succ n ih =>
    intro σ ok hf
    rw [L_R_step_99] at hf
    refine SW_aload_n h rfl (dt t_R_step 49 rfl) ?_
    refine gI h cf5 o90 f5_5 lX5_41 (dt t_R_step 50 rfl) ?_
    refine SW_aload_n h rfl (dt t_R_step 51 rfl) ?_
    refine gI h cf5 o90 f5_1 lX5_18 (dt t_R_step 52 rfl) ?_
    refine SW_icmp_ge (tgt := 168) h (fun _ => (okI ok 90 5 (IsO.n3 o90))) (fun _ => (okI ok 90 1 (IsO.n3 o90))) (dt t_R_step 53 rfl) rfl hf (fun hf => ?_) (fun hf => ?_)
    · exact SW_fgt [true, false] rfl (hex σ hf ok)
    · refine SW_aload_n h rfl (dt t_R_step 54 rfl) ?_
      refine gR h cf5 o90 f5_0 j90_0 lX5_9 (dt t_R_step 55 rfl) ?_
      refine SW_aload_n h rfl (dt t_R_step 56 rfl) ?_
      refine gI h cf5 o90 f5_5 lX5_41 (dt t_R_step 57 rfl) ?_
      refine aI h a91 (dt t_R_step 58 rfl) hf (fun hf => ?_)
      obtain ⟨v35, e35, hf⟩ := b1_of hf
      refine cS h [.int (i32 (σ 91 ((σ 90 5).toNat)))] [] v_X5_isDigit kX5_56 (c_R_isDigit (σ 91 ((σ 90 5).toNat)) (okI ok 91 ((σ 90 5).toNat) (IsA.n3 a91 (by decide))) e35) rfl rfl (by decide) (by decide) rfl (Nat.le_of_ble_eq_true rfl) (dt t_R_step 59 rfl) (fun h35 => ?_)
      refine SW_if_eq (tgt := 168) h (fun _ => (r_zo h35)) (dt t_R_step 60 rfl) rfl hf (fun hf => ?_) (fun hf => ?_)
      · exact SW_fgt [true, false] rfl (hex σ hf ok)
      · refine SW_aload_n h rfl (dt t_R_step 61 rfl) ?_
        refine SW_sipush h (dt t_R_step 62 rfl) (by decide) ?_
        refine SW_aload_n h rfl (dt t_R_step 63 rfl) ?_
        refine gI h cf5 o90 f5_8 lX5_60 (dt t_R_step 64 rfl) ?_
        refine SW_bipush h (dt t_R_step 65 rfl) (by decide) ?_
        refine SW_imul h (dt t_R_step 66 rfl) ?_
        refine SW_aload_n h rfl (dt t_R_step 67 rfl) ?_
        refine gR h cf5 o90 f5_0 j90_0 lX5_9 (dt t_R_step 68 rfl) ?_
        refine SW_aload_n h rfl (dt t_R_step 69 rfl) ?_
        refine gI h cf5 o90 f5_5 lX5_41 (dt t_R_step 70 rfl) ?_
        refine aI h a91 (dt t_R_step 71 rfl) hf (fun hf => ?_)
        refine SW_iadd h (dt t_R_step 72 rfl) ?_
        refine SW_bipush h (dt t_R_step 73 rfl) (by decide) ?_
        refine SW_isub h (dt t_R_step 74 rfl) ?_
        refine SW_chk hf (fun h37 hf => ?_)
        refine SW_min h kX5_63 (by decide) h37 (Nat.le_of_ble_eq_true rfl) (dt t_R_step 75 rfl) ?_
        refine pI h cf5 o90 f5_8 (r_min (by decide) h37) lX5_60 (dt t_R_step 76 rfl) (SW_bm hf (fun s39 ok39 hf => ?_))
        refine SW_aload_n h rfl (dt t_R_step 77 rfl) ?_
        refine SW_dup h rfl (dt t_R_step 78 rfl) ?_
        refine gI h cf5 o90 f5_5 lX5_41 (dt t_R_step 79 rfl) ?_
        refine SW_iconst h (dt t_R_step 80 rfl) ?_
        refine SW_iadd h (dt t_R_step 81 rfl) ?_
        refine SW_chk hf (fun h41 hf => ?_)
        refine pI h cf5 o90 f5_5 h41 lX5_41 (dt t_R_step 82 rfl) (SW_bm hf (fun s42 ok42 hf => ?_))
        refine SW_goto (tgt := 99) h (dt t_R_step 83 rfl) rfl ?_
        exact SW_fgt [true, false] rfl (ih s42 ok42 hf)
def F_R_step  (σ : Mm) : Option (Mm) :=
  b0M (L_R_step_0 LF σ) fun s5 =>
  bindM (st2 s5 90 6 (s5 90 5)) fun s7 =>
  if s7 90 5 < s7 90 1 then
    if 0 ≤ s7 90 5 ∧ s7 90 5 < 300 then
      b1 (F_R_isDigit (s7 91 ((s7 90 5).toNat))) fun v8 =>
      if v8 = 0 then
        if 0 ≤ s7 90 5 ∧ s7 90 5 < 300 then
          b1 (F_R_isLetter (s7 91 ((s7 90 5).toNat))) fun v9 =>
          if v9 = 0 then
            if 0 ≤ s7 90 5 ∧ s7 90 5 < 300 then
              bindM (s7 91 ((s7 90 5).toNat)) fun v10 =>
              if r32 ((s7 90 5) + 1) then
                bindM (st2 s7 90 5 ((s7 90 5) + 1)) fun s13 =>
                bindM ((if sixI 1 (i2cI v10) < 0 then 1 else v10 : Int)) fun v15 =>
                bindM (st2 s13 90 7 v15) fun s17 =>
                bindM (
                  if s17 90 1 ≤ s17 90 5 then
                    some s17
                  else
                    if 0 ≤ s17 90 5 ∧ s17 90 5 < 300 then
                      if s17 91 ((s17 90 5).toNat) = 61 then
                        if r32 ((s17 90 5) + 1) then
                          bindM (st2 s17 90 5 ((s17 90 5) + 1)) fun s21 =>
                          bindM ((if v10 = 60 then 3 else 4 : Int)) fun v22 =>
                          bindM (st2 s21 90 7 v22) fun s24 =>
                          some s24
                        else none
                      else
                        some s17
                    else none) fun J18 =>
                if v10 = 60 then
                  J18
                else
                  if v10 = 62 then
                    J18
                  else
                    some s17
              else none
            else none
          else
            b0M (L_R_step_191 LF s7) fun s29 =>
            b1 (F_R_wordFrom (s29 90 6) (s29 90 5) s29) fun v30 =>
            bindM (st2 s29 90 7 v30) fun s32 =>
            some s32
        else none
      else
        bindM (st2 s7 90 8 0) fun s34 =>
        b0M (L_R_step_99 LF s34) fun s43 =>
        bindM (st2 s43 90 7 2) fun s45 =>
        some s45
    else none
  else
    bindM (st2 s7 90 7 0) fun s47 =>
    some s47
set_option maxRecDepth 100000 in
set_option maxHeartbeats 4000000 in
theorem c_R_step  {σ : Mm} {σ2 : Mm} (hf : F_R_step  σ = some σ2) : CT yX5_step cX5_step 2 none 9 0 (fun ad => [.ref (ad 90)]) σ True none σ2 := by
  refine MetJ 1 (by decide +kernel) rfl (fun _ => Nat.le_of_ble_eq_true rfl) ?_
  intro X h hR ok
  obtain ⟨res, er⟩ : ∃ z, z = σ2 := ⟨_, rfl⟩
  have hret : ∀ y : Mm, some y = some res → RX X 0 True none y := fun y e => by cases e; cases er; exact hR
  rw [← er] at hf
  clear er hR
  unfold F_R_step at hf
  show SW X 0 2 0 [some (.ref (xad X 90)), none] [] σ
  obtain ⟨z5, e5, hk5⟩ := b0M_ex hf
  refine SW_fgt [true, false] rfl (l_R_step_0 h (fun s5 hz5 ok5 => ?_) LF σ ok e5)
  have hf := hk5 s5 hz5
  refine SW_aload_n h rfl (dt t_R_step 26 rfl) ?_
  refine SW_aload_n h rfl (dt t_R_step 27 rfl) ?_
  refine gI h cf5 o90 f5_5 lX5_41 (dt t_R_step 28 rfl) ?_
  refine pI h cf5 o90 f5_6 (okI ok5 90 5 (IsO.n3 o90)) lX5_53 (dt t_R_step 29 rfl) (SW_bm hf (fun s7 ok7 hf => ?_))
  refine SW_aload_n h rfl (dt t_R_step 30 rfl) ?_
  refine gI h cf5 o90 f5_5 lX5_41 (dt t_R_step 31 rfl) ?_
  refine SW_aload_n h rfl (dt t_R_step 32 rfl) ?_
  refine gI h cf5 o90 f5_1 lX5_18 (dt t_R_step 33 rfl) ?_
  refine SW_icmp_lt (tgt := 79) h (fun _ => (okI ok7 90 5 (IsO.n3 o90))) (fun _ => (okI ok7 90 1 (IsO.n3 o90))) (dt t_R_step 34 rfl) rfl hf (fun hf => ?_) (fun hf => ?_)
  · refine SW_aload_n h rfl (dt t_R_step 39 rfl) ?_
    refine gR h cf5 o90 f5_0 j90_0 lX5_9 (dt t_R_step 40 rfl) ?_
    refine SW_aload_n h rfl (dt t_R_step 41 rfl) ?_
    refine gI h cf5 o90 f5_5 lX5_41 (dt t_R_step 42 rfl) ?_
    refine aI h a91 (dt t_R_step 43 rfl) hf (fun hf => ?_)
    obtain ⟨v8, e8, hf⟩ := b1_of hf
    refine cS h [.int (i32 (s7 91 ((s7 90 5).toNat)))] [] v_X5_isDigit kX5_56 (c_R_isDigit (s7 91 ((s7 90 5).toNat)) (okI ok7 91 ((s7 90 5).toNat) (IsA.n3 a91 (by decide))) e8) rfl rfl (by decide) (by decide) rfl (Nat.le_of_ble_eq_true rfl) (dt t_R_step 44 rfl) (fun h8 => ?_)
    refine SW_if_eq (tgt := 176) h (fun _ => (r_zo h8)) (dt t_R_step 45 rfl) rfl hf (fun hf => ?_) (fun hf => ?_)
    · refine SW_aload_n h rfl (dt t_R_step 88 rfl) ?_
      refine gR h cf5 o90 f5_0 j90_0 lX5_9 (dt t_R_step 89 rfl) ?_
      refine SW_aload_n h rfl (dt t_R_step 90 rfl) ?_
      refine gI h cf5 o90 f5_5 lX5_41 (dt t_R_step 91 rfl) ?_
      refine aI h a91 (dt t_R_step 92 rfl) hf (fun hf => ?_)
      obtain ⟨v9, e9, hf⟩ := b1_of hf
      refine cS h [.int (i32 (s7 91 ((s7 90 5).toNat)))] [] v_X5_isLetter kX5_69 (c_R_isLetter (s7 91 ((s7 90 5).toNat)) (okI ok7 91 ((s7 90 5).toNat) (IsA.n3 a91 (by decide))) e9) rfl rfl (by decide) (by decide) rfl (Nat.le_of_ble_eq_true rfl) (dt t_R_step 93 rfl) (fun h9 => ?_)
      refine SW_if_eq (tgt := 249) h (fun _ => (r_zo h9)) (dt t_R_step 94 rfl) rfl hf (fun hf => ?_) (fun hf => ?_)
      · refine SW_aload_n h rfl (dt t_R_step 123 rfl) ?_
        refine gR h cf5 o90 f5_0 j90_0 lX5_9 (dt t_R_step 124 rfl) ?_
        refine SW_aload_n h rfl (dt t_R_step 125 rfl) ?_
        refine gI h cf5 o90 f5_5 lX5_41 (dt t_R_step 126 rfl) ?_
        refine aI h a91 (dt t_R_step 127 rfl) hf (fun hf => ?_)
        refine SW_vi hf (okI ok7 91 ((s7 90 5).toNat) (IsA.n3 a91 (by decide))) (fun v10 h10 hf => ?_)
        refine SW_istore_n (lv2 := [some (.ref (xad X 90)), some (.int (i32 v10))]) h (dt t_R_step 128 rfl) (by decide) rfl ?_
        refine SW_aload_n h rfl (dt t_R_step 129 rfl) ?_
        refine SW_dup h rfl (dt t_R_step 130 rfl) ?_
        refine gI h cf5 o90 f5_5 lX5_41 (dt t_R_step 131 rfl) ?_
        refine SW_iconst h (dt t_R_step 132 rfl) ?_
        refine SW_iadd h (dt t_R_step 133 rfl) ?_
        refine SW_chk hf (fun h12 hf => ?_)
        refine pI h cf5 o90 f5_5 h12 lX5_41 (dt t_R_step 134 rfl) (SW_bm hf (fun s13 ok13 hf => ?_))
        refine SW_aload_n h rfl (dt t_R_step 135 rfl) ?_
        refine SW_ldcs1 h (dt t_R_step 136 rfl) ?_
        refine SW_iload_n h rfl (dt t_R_step 137 rfl) ?_
        refine SW_i2c h (dt t_R_step 138 rfl) ?_
        refine SW_sidx1 h (by decide) (by exact Nat.le_of_ble_eq_true rfl) (r32_of _) kX5_77 (dt t_R_step 139 rfl) ?_
        refine bT hf (fun g15 e15 hf => ?_)
        have k15 : ∀ (v15 : Int) (h15 : r32 v15) (hf : g15 v15 = some res), SW X 0 2 285 [some (.ref (xad X 90)), some (.int (i32 v10))] [.int (i32 v15), .ref (xad X 90)] s13 := by
          intro v15 h15 hf
          rw [e15] at hf
          refine pI h cf5 o90 f5_7 h15 lX5_47 (dt t_R_step 144 rfl) (SW_bm hf (fun s17 ok17 hf => ?_))
          refine SW_iload_n h rfl (dt t_R_step 145 rfl) ?_
          refine SW_bipush h (dt t_R_step 146 rfl) (by decide) ?_
          refine bJ hf (fun J18 e18 hf => ?_)
          have k18 : ∀ (hf : J18 = some res), SW X 0 2 300 [some (.ref (xad X 90)), some (.int (i32 v10))] [] s17 := by
            intro hf
            rw [e18] at hf
            refine SW_aload_n h rfl (dt t_R_step 151 rfl) ?_
            refine gI h cf5 o90 f5_5 lX5_41 (dt t_R_step 152 rfl) ?_
            refine SW_aload_n h rfl (dt t_R_step 153 rfl) ?_
            refine gI h cf5 o90 f5_1 lX5_18 (dt t_R_step 154 rfl) ?_
            refine SW_icmp_ge (tgt := 350) h (fun _ => (okI ok17 90 5 (IsO.n3 o90))) (fun _ => (okI ok17 90 1 (IsO.n3 o90))) (dt t_R_step 155 rfl) rfl hf (fun hf => ?_) (fun hf => ?_)
            · exact SW_vret h (hret _ hf) rfl (dt t_R_step 177 rfl)
            · refine SW_aload_n h rfl (dt t_R_step 156 rfl) ?_
              refine gR h cf5 o90 f5_0 j90_0 lX5_9 (dt t_R_step 157 rfl) ?_
              refine SW_aload_n h rfl (dt t_R_step 158 rfl) ?_
              refine gI h cf5 o90 f5_5 lX5_41 (dt t_R_step 159 rfl) ?_
              refine aI h a91 (dt t_R_step 160 rfl) hf (fun hf => ?_)
              refine SW_bipush h (dt t_R_step 161 rfl) (by decide) ?_
              refine SW_icmp_ne (tgt := 350) h (fun _ => (okI ok17 91 ((s17 90 5).toNat) (IsA.n3 a91 (by decide)))) (fun _ => (by decide)) (dt t_R_step 162 rfl) rfl hf (fun hf => ?_) (fun hf => ?_)
              · refine SW_aload_n h rfl (dt t_R_step 163 rfl) ?_
                refine SW_dup h rfl (dt t_R_step 164 rfl) ?_
                refine gI h cf5 o90 f5_5 lX5_41 (dt t_R_step 165 rfl) ?_
                refine SW_iconst h (dt t_R_step 166 rfl) ?_
                refine SW_iadd h (dt t_R_step 167 rfl) ?_
                refine SW_chk hf (fun h20 hf => ?_)
                refine pI h cf5 o90 f5_5 h20 lX5_41 (dt t_R_step 168 rfl) (SW_bm hf (fun s21 ok21 hf => ?_))
                refine SW_aload_n h rfl (dt t_R_step 169 rfl) ?_
                refine SW_iload_n h rfl (dt t_R_step 170 rfl) ?_
                refine SW_bipush h (dt t_R_step 171 rfl) (by decide) ?_
                refine bT hf (fun g22 e22 hf => ?_)
                have k22 : ∀ (v22 : Int) (h22 : r32 v22) (hf : g22 v22 = some res), SW X 0 2 347 [some (.ref (xad X 90)), some (.int (i32 v10))] [.int (i32 v22), .ref (xad X 90)] s21 := by
                  intro v22 h22 hf
                  rw [e22] at hf
                  refine pI h cf5 o90 f5_7 h22 lX5_47 (dt t_R_step 176 rfl) (SW_bm hf (fun s24 ok24 hf => ?_))
                  exact SW_vret h (hret _ hf) rfl (dt t_R_step 177 rfl)
                have hf := bIte hf
                refine SW_icmp_ne (tgt := 346) h (fun _ => h10) (fun _ => (by decide)) (dt t_R_step 172 rfl) rfl hf (fun hf => ?_) (fun hf => ?_)
                · refine SW_iconst h (dt t_R_step 173 rfl) ?_
                  refine SW_goto (tgt := 347) h (dt t_R_step 174 rfl) rfl ?_
                  exact k22 3 (by decide) hf
                · refine SW_iconst h (dt t_R_step 175 rfl) ?_
                  exact k22 4 (by decide) hf
              · exact SW_vret h (hret _ hf) rfl (dt t_R_step 177 rfl)
          refine SW_icmp_eq (tgt := 300) h (fun _ => h10) (fun _ => (by decide)) (dt t_R_step 147 rfl) rfl hf (fun hf => ?_) (fun hf => ?_)
          · exact SW_fgt [true, true] rfl (k18 hf)
          · refine SW_iload_n h rfl (dt t_R_step 148 rfl) ?_
            refine SW_bipush h (dt t_R_step 149 rfl) (by decide) ?_
            refine SW_icmp_ne (tgt := 350) h (fun _ => h10) (fun _ => (by decide)) (dt t_R_step 150 rfl) rfl hf (fun hf => ?_) (fun hf => ?_)
            · exact SW_fgt [true, true] rfl (k18 hf)
            · exact SW_vret h (hret _ hf) rfl (dt t_R_step 177 rfl)
        have hf := bIte hf
        refine SW_if_lt (tgt := 284) h (fun _ => (r_six _ _)) (dt t_R_step 140 rfl) rfl hf (fun hf => ?_) (fun hf => ?_)
        · refine SW_iconst h (dt t_R_step 143 rfl) ?_
          exact k15 1 (by decide) hf
        · refine SW_iload_n h rfl (dt t_R_step 141 rfl) ?_
          refine SW_goto (tgt := 285) h (dt t_R_step 142 rfl) rfl ?_
          exact k15 v10 h10 hf
      · obtain ⟨z29, e29, hk29⟩ := b0M_ex hf
        refine SW_fgt [true, false] rfl (l_R_step_191 h (fun s29 hz29 ok29 => ?_) LF s7 ok7 e29)
        have hf := hk29 s29 hz29
        refine SW_aload_n h rfl (dt t_R_step 114 rfl) ?_
        refine SW_aload_n h rfl (dt t_R_step 115 rfl) ?_
        refine SW_aload_n h rfl (dt t_R_step 116 rfl) ?_
        refine gI h cf5 o90 f5_6 lX5_53 (dt t_R_step 117 rfl) ?_
        refine SW_aload_n h rfl (dt t_R_step 118 rfl) ?_
        refine gI h cf5 o90 f5_5 lX5_41 (dt t_R_step 119 rfl) ?_
        obtain ⟨v30, e30, hf⟩ := b1_of hf
        refine cV h [.int (i32 (s29 90 6)), .int (i32 (s29 90 5))] [.ref (xad X 90)] v_X5_wordFrom kX5_72 o90 (c_R_wordFrom (s29 90 6) (okI ok29 90 6 (IsO.n3 o90)) (s29 90 5) (okI ok29 90 5 (IsO.n3 o90)) e30) rfl rfl (by decide) (by decide) rfl (Nat.le_of_ble_eq_true rfl) (dt t_R_step 120 rfl) (fun h30 => ?_)
        refine pI h cf5 o90 f5_7 h30 lX5_47 (dt t_R_step 121 rfl) (SW_bm hf (fun s32 ok32 hf => ?_))
        refine SW_goto (tgt := 350) h (dt t_R_step 122 rfl) rfl ?_
        exact SW_vret h (hret _ hf) rfl (dt t_R_step 177 rfl)
    · refine SW_aload_n h rfl (dt t_R_step 46 rfl) ?_
      refine SW_iconst h (dt t_R_step 47 rfl) ?_
      refine pI h cf5 o90 f5_8 (by decide) lX5_60 (dt t_R_step 48 rfl) (SW_bm hf (fun s34 ok34 hf => ?_))
      obtain ⟨z43, e43, hk43⟩ := b0M_ex hf
      refine SW_fgt [true, false] rfl (l_R_step_99 h (fun s43 hz43 ok43 => ?_) LF s34 ok34 e43)
      have hf := hk43 s43 hz43
      refine SW_aload_n h rfl (dt t_R_step 84 rfl) ?_
      refine SW_iconst h (dt t_R_step 85 rfl) ?_
      refine pI h cf5 o90 f5_7 (by decide) lX5_47 (dt t_R_step 86 rfl) (SW_bm hf (fun s45 ok45 hf => ?_))
      refine SW_goto (tgt := 350) h (dt t_R_step 87 rfl) rfl ?_
      exact SW_vret h (hret _ hf) rfl (dt t_R_step 177 rfl)
  · refine SW_aload_n h rfl (dt t_R_step 35 rfl) ?_
    refine SW_iconst h (dt t_R_step 36 rfl) ?_
    refine pI h cf5 o90 f5_7 (by decide) lX5_47 (dt t_R_step 37 rfl) (SW_bm hf (fun s47 ok47 hf => ?_))
    refine SW_goto (tgt := 350) h (dt t_R_step 38 rfl) rfl ?_
    exact SW_vret h (hret _ hf) rfl (dt t_R_step 177 rfl)
def b_R_fail : List (Nat × Instr × Nat) := [(0, .aload_n 0, 1), (1, .getfield 35, 3), (4, .ifCond .ne 16, 3), (7, .aload_n 0, 1), (8, .iload_n 1, 1), (9, .putfield 35, 3), (12, .aload_n 0, 1), (13, .aload_n 0, 1), (14, .getfield 53, 3), (17, .putfield 38, 3), (20, .iconst 2, 1), (21, .ireturn, 1)]
theorem t_R_fail : DT cX5_fail b_R_fail := DT.of (by decide +kernel)
def F_R_fail (x1 : Int) (σ : Mm) : Option (Int × Mm) :=
  if σ 90 3 = 0 then
    bindM (st2 σ 90 3 x1) fun s2 =>
    bindM (st2 s2 90 4 (s2 90 6)) fun s4 =>
    some (2, s4)
  else
    some (2, σ)
set_option maxRecDepth 100000 in
set_option maxHeartbeats 4000000 in
theorem c_R_fail (x1 : Int) (hx1 : r32 x1) {σ : Mm} {a : Int} {σ2 : Mm} (hf : F_R_fail x1 σ = some (a, σ2)) : CT yX5_fail cX5_fail 2 (some .int) 0 0 (fun ad => [.ref (ad 90), .int (i32 x1)]) σ (r32 a) (some (.int (i32 a))) σ2 := by
  refine MetJ 0 (by decide +kernel) rfl (fun _ => Nat.le_of_ble_eq_true rfl) ?_
  intro X h hR ok
  obtain ⟨res, er⟩ : ∃ z, z = (a, σ2) := ⟨_, rfl⟩
  have hret : ∀ y : Int × Mm, some y = some res → RX X 0 (r32 (y.1)) (some (.int (i32 (y.1)))) y.2 := fun y e => by cases e; cases er; exact hR
  rw [← er] at hf
  clear er hR
  unfold F_R_fail at hf
  show SW X 0 2 0 [some (.ref (xad X 90)), some (.int (i32 x1))] [] σ
  refine SW_aload_n h rfl (dt t_R_fail 0 rfl) ?_
  refine gI h cf5 o90 f5_3 lX5_35 (dt t_R_fail 1 rfl) ?_
  refine SW_if_ne (tgt := 20) h (fun _ => (okI ok 90 3 (IsO.n3 o90))) (dt t_R_fail 2 rfl) rfl hf (fun hf => ?_) (fun hf => ?_)
  · refine SW_aload_n h rfl (dt t_R_fail 3 rfl) ?_
    refine SW_iload_n h rfl (dt t_R_fail 4 rfl) ?_
    refine pI h cf5 o90 f5_3 hx1 lX5_35 (dt t_R_fail 5 rfl) (SW_bm hf (fun s2 ok2 hf => ?_))
    refine SW_aload_n h rfl (dt t_R_fail 6 rfl) ?_
    refine SW_aload_n h rfl (dt t_R_fail 7 rfl) ?_
    refine gI h cf5 o90 f5_6 lX5_53 (dt t_R_fail 8 rfl) ?_
    refine pI h cf5 o90 f5_4 (okI ok2 90 6 (IsO.n3 o90)) lX5_38 (dt t_R_fail 9 rfl) (SW_bm hf (fun s4 ok4 hf => ?_))
    refine SW_iconst h (dt t_R_fail 10 rfl) ?_
    exact SW_iret h (hret _ hf) (fun _ => (by decide)) rfl (dt t_R_fail 11 rfl)
  · refine SW_iconst h (dt t_R_fail 10 rfl) ?_
    exact SW_iret h (hret _ hf) (fun _ => (by decide)) rfl (dt t_R_fail 11 rfl)
def b_T_put : List (Nat × Instr × Nat) := [(0, .aload_n 0, 1), (1, .getfield 28, 3), (4, .iconst 1, 1), (5, .isub, 1), (6, .bipush 6, 2), (8, .imul, 1), (9, .iload_n 1, 1), (10, .iadd, 1), (11, .istore_n 3, 1), (12, .iload_n 1, 1), (13, .ifCond .lt 29, 3), (16, .iload_n 1, 1), (17, .bipush 6, 2), (19, .if_icmp .ge 23, 3), (22, .iload_n 3, 1), (23, .ifCond .lt 19, 3), (26, .iload_n 3, 1), (27, .aload_n 0, 1), (28, .getfield 21, 3), (31, .arraylength, 1), (32, .if_icmp .ge 10, 3), (35, .aload_n 0, 1), (36, .getfield 21, 3), (39, .iload_n 3, 1), (40, .iload_n 2, 1), (41, .iastore, 1), (42, .return_, 1)]
theorem t_T_put : DT cX9_put b_T_put := DT.of (by decide +kernel)
def F_T_put (r0 : Nat) (x1 : Int) (x2 : Int) (σ : Mm) : Option (Mm) :=
  bindM ((((σ r0 5) - 1) * 6) + x1) fun v1 =>
  if x1 < 0 then
    some σ
  else
    if 6 ≤ x1 then
      some σ
    else
      if r32 v1 then
        if v1 < 0 then
          some σ
        else
          if ((144 : Nat) : Int) ≤ v1 then
            some σ
          else
            if 0 ≤ v1 ∧ v1 < 144 then
              bindM (st2 σ (r0 + 16) v1.toNat x2) fun s3 =>
              some s3
            else none
      else none
set_option maxRecDepth 100000 in
set_option maxHeartbeats 4000000 in
theorem c_T_put (r0 : Nat) (q0 : IsO 0 9 r0) (x1 : Int) (hx1 : r32 x1) (x2 : Int) (hx2 : r32 x2) {σ : Mm} {σ2 : Mm} (hf : F_T_put r0 x1 x2 σ = some σ2) : CT yX9_put cX9_put 4 none 0 0 (fun ad => [.ref (ad r0), .int (i32 x1), .int (i32 x2)]) σ True none σ2 := by
  refine MetJ 1 (by decide +kernel) rfl (fun _ => Nat.le_of_ble_eq_true rfl) ?_
  intro X h hR ok
  obtain ⟨res, er⟩ : ∃ z, z = σ2 := ⟨_, rfl⟩
  have hret : ∀ y : Mm, some y = some res → RX X 0 True none y := fun y e => by cases e; cases er; exact hR
  rw [← er] at hf
  clear er hR
  unfold F_T_put at hf
  show SW X 0 4 0 [some (.ref (xad X r0)), some (.int (i32 x1)), some (.int (i32 x2)), none] [] σ
  refine SW_aload_n h rfl (dt t_T_put 0 rfl) ?_
  refine gI h cf9 q0 f9_5 lX9_28 (dt t_T_put 1 rfl) ?_
  refine SW_iconst h (dt t_T_put 2 rfl) ?_
  refine SW_isub h (dt t_T_put 3 rfl) ?_
  refine SW_bipush h (dt t_T_put 4 rfl) (by decide) ?_
  refine SW_imul h (dt t_T_put 5 rfl) ?_
  refine SW_iload_n h rfl (dt t_T_put 6 rfl) ?_
  refine SW_iadd h (dt t_T_put 7 rfl) ?_
  refine SW_vu hf (fun v1 hf => ?_)
  refine SW_istore_n (lv2 := [some (.ref (xad X r0)), some (.int (i32 x1)), some (.int (i32 x2)), some (.int (i32 v1))]) h (dt t_T_put 8 rfl) (by decide) rfl ?_
  refine SW_iload_n h rfl (dt t_T_put 9 rfl) ?_
  refine SW_if_lt (tgt := 42) h (fun _ => hx1) (dt t_T_put 10 rfl) rfl hf (fun hf => ?_) (fun hf => ?_)
  · exact SW_vret h (hret _ hf) rfl (dt t_T_put 26 rfl)
  · refine SW_iload_n h rfl (dt t_T_put 11 rfl) ?_
    refine SW_bipush h (dt t_T_put 12 rfl) (by decide) ?_
    refine SW_icmp_ge (tgt := 42) h (fun _ => hx1) (fun _ => (by decide)) (dt t_T_put 13 rfl) rfl hf (fun hf => ?_) (fun hf => ?_)
    · exact SW_vret h (hret _ hf) rfl (dt t_T_put 26 rfl)
    · refine SW_iload_n h rfl (dt t_T_put 14 rfl) ?_
      refine SW_chk hf (fun h2 hf => ?_)
      refine SW_if_lt (tgt := 42) h (fun _ => h2) (dt t_T_put 15 rfl) rfl hf (fun hf => ?_) (fun hf => ?_)
      · exact SW_vret h (hret _ hf) rfl (dt t_T_put 26 rfl)
      · refine SW_iload_n h rfl (dt t_T_put 16 rfl) ?_
        refine SW_aload_n h rfl (dt t_T_put 17 rfl) ?_
        refine gR h cf9 q0 f9_3 (dy9_3 q0).1 lX9_21 (dt t_T_put 18 rfl) ?_
        refine aLen h (by decide) (dy9_3 q0).2 (dt t_T_put 19 rfl) ?_
        refine SW_icmp_ge (tgt := 42) h (fun _ => h2) (fun _ => (by decide)) (dt t_T_put 20 rfl) rfl hf (fun hf => ?_) (fun hf => ?_)
        · exact SW_vret h (hret _ hf) rfl (dt t_T_put 26 rfl)
        · refine SW_aload_n h rfl (dt t_T_put 21 rfl) ?_
          refine gR h cf9 q0 f9_3 (dy9_3 q0).1 lX9_21 (dt t_T_put 22 rfl) ?_
          refine SW_iload_n h rfl (dt t_T_put 23 rfl) ?_
          refine SW_iload_n h rfl (dt t_T_put 24 rfl) ?_
          refine sI h (dy9_3 q0).2 hx2 (dt t_T_put 25 rfl) hf (fun hf => SW_bm hf (fun s3 ok3 hf => ?_))
          exact SW_vret h (hret _ hf) rfl (dt t_T_put 26 rfl)
def b_T_begin : List (Nat × Instr × Nat) := [(0, .aload_n 0, 1), (1, .getfield 28, 3), (4, .bipush 24, 2), (6, .if_icmp .ge 39, 3), (9, .aload_n 0, 1), (10, .dup, 1), (11, .getfield 28, 3), (14, .iconst 1, 1), (15, .iadd, 1), (16, .putfield 28, 3), (19, .aload_n 0, 1), (20, .iconst 0, 1), (21, .iload_n 1, 1), (22, .invokevirtual 37, 3), (25, .iconst 1, 1), (26, .istore_n 2, 1), (27, .iload_n 2, 1), (28, .bipush 6, 2), (30, .if_icmp .ge 15, 3), (33, .aload_n 0, 1), (34, .iload_n 2, 1), (35, .iconst (-1), 1), (36, .invokevirtual 37, 3), (39, .iinc 2 1, 3), (42, .goto (-15), 3), (45, .return_, 1)]
theorem t_T_begin : DT cX9_begin b_T_begin := DT.of (by decide +kernel)
def L_T_begin_27 : Nat → Nat → Int → Mm → Option (Mm)
  | 0, _, _, _ => none
  | n + 1, r0, x2, σ =>
    if 6 ≤ x2 then
      some σ
    else
      b0M (F_T_put r0 x2 ((-1)) σ) fun s5 =>
      if r32 (x2 + 1) then
        L_T_begin_27 n r0 (x2 + 1) s5
      else none
set_option maxRecDepth 100000 in
set_option maxHeartbeats 4000000 in
theorem l_T_begin_27 {X : Cx} (h : CX X 0 cX9_begin 3 1 none RX9) (r0 : Nat) (q0 : IsO 0 9 r0) {res : Mm} (hex : ∀  (σ : Mm) (hz : some σ = some res)  (ok : okM σ), SW X 0 3 45 [none, none, none] [] σ) : ∀ (n : Nat) (x2 : Int) (σ : Mm) (hx2 : r32 x2) (ok : okM σ) (hf : L_T_begin_27 n r0 x2 σ = some res), SW X 0 3 27 [some (.ref (xad X r0)), none, some (.int (i32 x2))] [] σ := by
  intro n
  induction n with
  | zero => intro x2 σ hx2 ok hf; exact absurd hf (by simp [L_T_begin_27])
  | succ n ih =>
    intro x2 σ hx2 ok hf
    rw [L_T_begin_27] at hf
    refine SW_iload_n h rfl (dt t_T_begin 16 rfl) ?_
    refine SW_bipush h (dt t_T_begin 17 rfl) (by decide) ?_
    refine SW_icmp_ge (tgt := 45) h (fun _ => hx2) (fun _ => (by decide)) (dt t_T_begin 18 rfl) rfl hf (fun hf => ?_) (fun hf => ?_)
    · exact SW_fgt [false, false, false] rfl (hex σ hf ok)
    · refine SW_aload_n h rfl (dt t_T_begin 19 rfl) ?_
      refine SW_iload_n h rfl (dt t_T_begin 20 rfl) ?_
      refine SW_iconst h (dt t_T_begin 21 rfl) ?_
      obtain ⟨s5, e5, hf⟩ := b0M_of hf
      refine cVv h [.int (i32 x2), .int (i32 ((-1)))] [] v_X9_put kX9_37 q0 (c_T_put r0 q0 x2 hx2 ((-1)) (by decide) e5) rfl rfl (by decide) (by decide) rfl (Nat.le_of_ble_eq_true rfl) (dt t_T_begin 22 rfl) (fun h5 => ?_)
      refine SW_ok (fun ok5 => ?_)
      refine SW_iinc (lv2 := [some (.ref (xad X r0)), none, some (.int (i32 (x2 + 1)))]) h (dt t_T_begin 23 rfl) rfl (by decide) rfl ?_
      refine SW_goto (tgt := 27) h (dt t_T_begin 24 rfl) rfl ?_
      refine SW_chk hf (fun h6 hf => ?_)
      exact SW_fgt [true, false, true] rfl (ih (x2 + 1) s5 h6 ok5 hf)
def F_T_begin (r0 : Nat) (x1 : Int) (σ : Mm) : Option (Mm) :=
  if 24 ≤ σ r0 5 then
    some σ
  else
    if r32 ((σ r0 5) + 1) then
      bindM (st2 σ r0 5 ((σ r0 5) + 1)) fun s3 =>
      b0M (F_T_put r0 0 x1 s3) fun s4 =>
      b0M (L_T_begin_27 LF r0 1 s4) fun s7 =>
      some s7
    else none
set_option maxRecDepth 100000 in
set_option maxHeartbeats 4000000 in
theorem c_T_begin (r0 : Nat) (q0 : IsO 0 9 r0) (x1 : Int) (hx1 : r32 x1) {σ : Mm} {σ2 : Mm} (hf : F_T_begin r0 x1 σ = some σ2) : CT yX9_begin cX9_begin 3 none 1 0 (fun ad => [.ref (ad r0), .int (i32 x1)]) σ True none σ2 := by
  refine MetJ 1 (by decide +kernel) rfl (fun _ => Nat.le_of_ble_eq_true rfl) ?_
  intro X h hR ok
  obtain ⟨res, er⟩ : ∃ z, z = σ2 := ⟨_, rfl⟩
  have hret : ∀ y : Mm, some y = some res → RX X 0 True none y := fun y e => by cases e; cases er; exact hR
  rw [← er] at hf
  clear er hR
  unfold F_T_begin at hf
  show SW X 0 3 0 [some (.ref (xad X r0)), some (.int (i32 x1)), none] [] σ
  refine SW_aload_n h rfl (dt t_T_begin 0 rfl) ?_
  refine gI h cf9 q0 f9_5 lX9_28 (dt t_T_begin 1 rfl) ?_
  refine SW_bipush h (dt t_T_begin 2 rfl) (by decide) ?_
  refine SW_icmp_ge (tgt := 45) h (fun _ => (okI ok r0 5 (IsO.n3 q0))) (fun _ => (by decide)) (dt t_T_begin 3 rfl) rfl hf (fun hf => ?_) (fun hf => ?_)
  · exact SW_vret h (hret _ hf) rfl (dt t_T_begin 25 rfl)
  · refine SW_aload_n h rfl (dt t_T_begin 4 rfl) ?_
    refine SW_dup h rfl (dt t_T_begin 5 rfl) ?_
    refine gI h cf9 q0 f9_5 lX9_28 (dt t_T_begin 6 rfl) ?_
    refine SW_iconst h (dt t_T_begin 7 rfl) ?_
    refine SW_iadd h (dt t_T_begin 8 rfl) ?_
    refine SW_chk hf (fun h2 hf => ?_)
    refine pI h cf9 q0 f9_5 h2 lX9_28 (dt t_T_begin 9 rfl) (SW_bm hf (fun s3 ok3 hf => ?_))
    refine SW_aload_n h rfl (dt t_T_begin 10 rfl) ?_
    refine SW_iconst h (dt t_T_begin 11 rfl) ?_
    refine SW_iload_n h rfl (dt t_T_begin 12 rfl) ?_
    obtain ⟨s4, e4, hf⟩ := b0M_of hf
    refine cVv h [.int (i32 0), .int (i32 x1)] [] v_X9_put kX9_37 q0 (c_T_put r0 q0 0 (by decide) x1 hx1 e4) rfl rfl (by decide) (by decide) rfl (Nat.le_of_ble_eq_true rfl) (dt t_T_begin 13 rfl) (fun h4 => ?_)
    refine SW_ok (fun ok4 => ?_)
    refine SW_iconst h (dt t_T_begin 14 rfl) ?_
    refine SW_istore_n (lv2 := [some (.ref (xad X r0)), some (.int (i32 x1)), some (.int (i32 1))]) h (dt t_T_begin 15 rfl) (by decide) rfl ?_
    obtain ⟨z7, e7, hk7⟩ := b0M_ex hf
    refine SW_fgt [true, false, true] rfl (l_T_begin_27 h r0 q0 (fun s7 hz7 ok7 => ?_) LF 1 s4 (by decide) ok4 e7)
    have hf := hk7 s7 hz7
    exact SW_vret h (hret _ hf) rfl (dt t_T_begin 25 rfl)
def b_R_takeNumber : List (Nat × Instr × Nat) := [(0, .aload_n 0, 1), (1, .getfield 47, 3), (4, .iconst 2, 1), (5, .if_icmp .eq 11, 3), (8, .aload_n 0, 1), (9, .iconst 1, 1), (10, .invokevirtual 92, 3), (13, .pop, 1), (14, .iconst 0, 1), (15, .ireturn, 1), (16, .aload_n 0, 1), (17, .getfield 60, 3), (20, .iload_n 2, 1), (21, .if_icmp .lt 11, 3), (24, .aload_n 0, 1), (25, .getfield 60, 3), (28, .iload_n 3, 1), (29, .if_icmp .le 11, 3), (32, .aload_n 0, 1), (33, .iconst 2, 1), (34, .invokevirtual 92, 3), (37, .pop, 1), (38, .iconst 0, 1), (39, .ireturn, 1), (40, .aload_n 0, 1), (41, .getfield 22, 3), (44, .iload_n 1, 1), (45, .aload_n 0, 1), (46, .getfield 60, 3), (49, .invokevirtual 115, 3), (52, .aload_n 0, 1), (53, .invokevirtual 44, 3), (56, .iconst 1, 1), (57, .ireturn, 1)]
theorem t_R_takeNumber : DT cX5_takeNumber b_R_takeNumber := DT.of (by decide +kernel)
def F_R_takeNumber (x1 : Int) (x2 : Int) (x3 : Int) (σ : Mm) : Option (Int × Mm) :=
  if σ 90 7 = 2 then
    bindM (
      b1M (F_R_fail 2 σ) fun v2 s2 =>
      some (0, s2)) fun J1 =>
    if σ 90 8 < x2 then
      J1
    else
      if σ 90 8 ≤ x3 then
        if 0 ≤ σ 90 15 ∧ IsO 0 9 (σ 90 15).toNat then
          b0M (F_T_put ((σ 90 15).toNat) x1 (σ 90 8) σ) fun s4 =>
          b0M (F_R_step  s4) fun s5 =>
          some (1, s5)
        else none
      else
        J1
  else
    b1M (F_R_fail 1 σ) fun v6 s6 =>
    some (0, s6)
set_option maxRecDepth 100000 in
set_option maxHeartbeats 4000000 in
theorem c_R_takeNumber (x1 : Int) (hx1 : r32 x1) (x2 : Int) (hx2 : r32 x2) (x3 : Int) (hx3 : r32 x3) {σ : Mm} {a : Int} {σ2 : Mm} (hf : F_R_takeNumber x1 x2 x3 σ = some (a, σ2)) : CT yX5_takeNumber cX5_takeNumber 4 (some .boolean) 10 0 (fun ad => [.ref (ad 90), .int (i32 x1), .int (i32 x2), .int (i32 x3)]) σ (a = 0 ∨ a = 1) (some (.int (i32 a))) σ2 := by
  refine MetJ 0 (by decide +kernel) rfl (fun _ => Nat.le_of_ble_eq_true rfl) ?_
  intro X h hR ok
  obtain ⟨res, er⟩ : ∃ z, z = (a, σ2) := ⟨_, rfl⟩
  have hret : ∀ y : Int × Mm, some y = some res → RX X 0 (y.1 = 0 ∨ y.1 = 1) (some (.int (i32 (y.1)))) y.2 := fun y e => by cases e; cases er; exact hR
  rw [← er] at hf
  clear er hR
  unfold F_R_takeNumber at hf
  show SW X 0 4 0 [some (.ref (xad X 90)), some (.int (i32 x1)), some (.int (i32 x2)), some (.int (i32 x3))] [] σ
  refine SW_aload_n h rfl (dt t_R_takeNumber 0 rfl) ?_
  refine gI h cf5 o90 f5_7 lX5_47 (dt t_R_takeNumber 1 rfl) ?_
  refine SW_iconst h (dt t_R_takeNumber 2 rfl) ?_
  refine SW_icmp_eq (tgt := 16) h (fun _ => (okI ok 90 7 (IsO.n3 o90))) (fun _ => (by decide)) (dt t_R_takeNumber 3 rfl) rfl hf (fun hf => ?_) (fun hf => ?_)
  · refine SW_aload_n h rfl (dt t_R_takeNumber 10 rfl) ?_
    refine gI h cf5 o90 f5_8 lX5_60 (dt t_R_takeNumber 11 rfl) ?_
    refine SW_iload_n h rfl (dt t_R_takeNumber 12 rfl) ?_
    refine bJ hf (fun J1 e1 hf => ?_)
    have k1 : ∀ (hf : J1 = some res), SW X 0 4 32 [some (.ref (xad X 90)), none, none, none] [] σ := by
      intro hf
      rw [e1] at hf
      refine SW_aload_n h rfl (dt t_R_takeNumber 18 rfl) ?_
      refine SW_iconst h (dt t_R_takeNumber 19 rfl) ?_
      obtain ⟨v2, s2, e2, hf⟩ := b1M_of hf
      refine cV h [.int (i32 2)] [] v_X5_fail kX5_92 o90 (c_R_fail 2 (by decide) e2) rfl rfl (by decide) (by decide) rfl (Nat.le_of_ble_eq_true rfl) (dt t_R_takeNumber 20 rfl) (fun h2 => ?_)
      refine SW_ok (fun ok2 => ?_)
      refine SW_pop h rfl (dt t_R_takeNumber 21 rfl) ?_
      refine SW_iconst h (dt t_R_takeNumber 22 rfl) ?_
      exact SW_zret h (hret _ hf) (by decide) rfl (dt t_R_takeNumber 23 rfl)
    refine SW_icmp_lt (tgt := 32) h (fun _ => (okI ok 90 8 (IsO.n3 o90))) (fun _ => hx2) (dt t_R_takeNumber 13 rfl) rfl hf (fun hf => ?_) (fun hf => ?_)
    · exact SW_fgt [true, false, false, false] rfl (k1 hf)
    · refine SW_aload_n h rfl (dt t_R_takeNumber 14 rfl) ?_
      refine gI h cf5 o90 f5_8 lX5_60 (dt t_R_takeNumber 15 rfl) ?_
      refine SW_iload_n h rfl (dt t_R_takeNumber 16 rfl) ?_
      refine SW_icmp_le (tgt := 40) h (fun _ => (okI ok 90 8 (IsO.n3 o90))) (fun _ => hx3) (dt t_R_takeNumber 17 rfl) rfl hf (fun hf => ?_) (fun hf => ?_)
      · refine SW_aload_n h rfl (dt t_R_takeNumber 24 rfl) ?_
        refine gD h cf5 o90 f5_15 lX5_22 (dt t_R_takeNumber 25 rfl) ?_
        refine SW_isO hf (fun h3 hf => ?_)
        refine SW_iload_n h rfl (dt t_R_takeNumber 26 rfl) ?_
        refine SW_aload_n h rfl (dt t_R_takeNumber 27 rfl) ?_
        refine gI h cf5 o90 f5_8 lX5_60 (dt t_R_takeNumber 28 rfl) ?_
        obtain ⟨s4, e4, hf⟩ := b0M_of hf
        refine cVv h [.int (i32 x1), .int (i32 (σ 90 8))] [] v_X9_put kX5_115 h3 (c_T_put ((σ 90 15).toNat) h3 x1 hx1 (σ 90 8) (okI ok 90 8 (IsO.n3 o90)) e4) rfl rfl (by decide) (by decide) rfl (Nat.le_of_ble_eq_true rfl) (dt t_R_takeNumber 29 rfl) (fun h4 => ?_)
        refine SW_ok (fun ok4 => ?_)
        refine SW_aload_n h rfl (dt t_R_takeNumber 30 rfl) ?_
        obtain ⟨s5, e5, hf⟩ := b0M_of hf
        refine cVv h [] [] v_X5_step kX5_44 o90 (c_R_step  e5) rfl rfl (by decide) (by decide) rfl (Nat.le_of_ble_eq_true rfl) (dt t_R_takeNumber 31 rfl) (fun h5 => ?_)
        refine SW_ok (fun ok5 => ?_)
        refine SW_iconst h (dt t_R_takeNumber 32 rfl) ?_
        exact SW_zret h (hret _ hf) (by decide) rfl (dt t_R_takeNumber 33 rfl)
      · exact SW_fgt [true, false, false, false] rfl (k1 hf)
  · refine SW_aload_n h rfl (dt t_R_takeNumber 4 rfl) ?_
    refine SW_iconst h (dt t_R_takeNumber 5 rfl) ?_
    obtain ⟨v6, s6, e6, hf⟩ := b1M_of hf
    refine cV h [.int (i32 1)] [] v_X5_fail kX5_92 o90 (c_R_fail 1 (by decide) e6) rfl rfl (by decide) (by decide) rfl (Nat.le_of_ble_eq_true rfl) (dt t_R_takeNumber 6 rfl) (fun h6 => ?_)
    refine SW_ok (fun ok6 => ?_)
    refine SW_pop h rfl (dt t_R_takeNumber 7 rfl) ?_
    refine SW_iconst h (dt t_R_takeNumber 8 rfl) ?_
    exact SW_zret h (hret _ hf) (by decide) rfl (dt t_R_takeNumber 9 rfl)
