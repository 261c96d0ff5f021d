def b_H_writeDown : List (Nat × Instr × Nat) := [(0, .bipush 45, 2), (2, .iconst 3, 1), (3, .aload_n 0, 1), (4, .getfield 22, 3), (7, .bipush 44, 2), (9, .iaload, 1), (10, .imul, 1), (11, .iadd, 1), (12, .istore_n 3, 1), (13, .aload_n 0, 1), (14, .getfield 22, 3), (17, .iload_n 3, 1), (18, .iload_n 1, 1), (19, .iastore, 1), (20, .aload_n 0, 1), (21, .getfield 22, 3), (24, .iload_n 3, 1), (25, .iconst 1, 1), (26, .iadd, 1), (27, .aload_n 0, 1), (28, .getfield 22, 3), (31, .bipush 40, 2), (33, .iaload, 1), (34, .iastore, 1), (35, .aload_n 0, 1), (36, .getfield 22, 3), (39, .iload_n 3, 1), (40, .iconst 2, 1), (41, .iadd, 1), (42, .iload_n 2, 1), (43, .iastore, 1), (44, .aload_n 0, 1), (45, .getfield 22, 3), (48, .bipush 44, 2), (50, .aload_n 0, 1), (51, .getfield 22, 3), (54, .bipush 44, 2), (56, .iaload, 1), (57, .iconst 1, 1), (58, .iadd, 1), (59, .bipush 40, 2), (61, .irem, 1), (62, .iastore, 1), (63, .aload_n 0, 1), (64, .getfield 22, 3), (67, .bipush 43, 2), (69, .bipush 40, 2), (71, .aload_n 0, 1), (72, .getfield 22, 3), (75, .bipush 43, 2), (77, .iaload, 1), (78, .iconst 1, 1), (79, .iadd, 1), (80, .invokestatic 68, 3), (83, .iastore, 1), (84, .return_, 1)]
theorem t_H_writeDown : DT cX2_writeDown b_H_writeDown := DT.of (by decide +kernel)
def F_H_writeDown (x1 : Int) (x2 : Int) (σ : Mm) : Option (Mm) :=
  bindM (45 + (3 * (σ 3 44))) fun v1 =>
  if 0 ≤ v1 ∧ v1 < 165 then
    bindM (st2 σ 3 v1.toNat x1) fun s2 =>
    if 0 ≤ v1 + 1 ∧ v1 + 1 < 165 then
      bindM (st2 s2 3 ((v1 + 1).toNat) (s2 3 40)) fun s3 =>
      if 0 ≤ v1 + 2 ∧ v1 + 2 < 165 then
        bindM (st2 s3 3 ((v1 + 2).toNat) x2) fun s4 =>
        if r32 ((s4 3 44) + 1) then
          bindM (st2 s4 3 44 (((s4 3 44) + 1).tmod 40)) fun s6 =>
          if r32 ((s6 3 43) + 1) then
            bindM (st2 s6 3 43 (min 40 ((s6 3 43) + 1))) fun s9 =>
            some s9
          else none
        else none
      else none
    else none
  else none
set_option maxRecDepth 100000 in
set_option maxHeartbeats 4000000 in
theorem c_H_writeDown (x1 : Int) (hx1 : r32 x1) (x2 : Int) (hx2 : r32 x2) {σ : Mm} {σ2 : Mm} (hf : F_H_writeDown x1 x2 σ = some σ2) : CT yX2_writeDown cX2_writeDown 4 none 3 0 (fun ad => [.ref (ad 1), .int (i32 x1), .int (i32 x2)]) σ True none σ2 := by
  refine MetJ 1 (by decide +kernel) rfl (fun _ => Nat.le_of_ble_eq_true rfl) ?_
  intro X h hR ok
  obtain ⟨res, er⟩ : ∃ z, z = σ2 := ⟨_, rfl⟩
  have hret : ∀ y : Mm, some y = some res → RX X 0 True none y := fun y e => by cases e; cases er; exact hR
  rw [← er] at hf
  clear er hR
  unfold F_H_writeDown at hf
  show SW X 0 4 0 [some (.ref (xad X 1)), some (.int (i32 x1)), some (.int (i32 x2)), none] [] σ
  refine SW_bipush h (dt t_H_writeDown 0 rfl) (by decide) ?_
  refine SW_iconst h (dt t_H_writeDown 1 rfl) ?_
  refine SW_aload_n h rfl (dt t_H_writeDown 2 rfl) ?_
  refine gR h cf2 o1 f2_1 j1_1 lX2_22 (dt t_H_writeDown 3 rfl) ?_
  refine SW_bipush h (dt t_H_writeDown 4 rfl) (by decide) ?_
  refine aIk h a3 (by decide) (dt t_H_writeDown 5 rfl) ?_
  refine SW_imul h (dt t_H_writeDown 6 rfl) ?_
  refine SW_iadd h (dt t_H_writeDown 7 rfl) ?_
  refine SW_vu hf (fun v1 hf => ?_)
  refine SW_istore_n (lv2 := [some (.ref (xad X 1)), some (.int (i32 x1)), some (.int (i32 x2)), some (.int (i32 v1))]) h (dt t_H_writeDown 8 rfl) (by decide) rfl ?_
  refine SW_aload_n h rfl (dt t_H_writeDown 9 rfl) ?_
  refine gR h cf2 o1 f2_1 j1_1 lX2_22 (dt t_H_writeDown 10 rfl) ?_
  refine SW_iload_n h rfl (dt t_H_writeDown 11 rfl) ?_
  refine SW_iload_n h rfl (dt t_H_writeDown 12 rfl) ?_
  refine sI h a3 hx1 (dt t_H_writeDown 13 rfl) hf (fun hf => SW_bm hf (fun s2 ok2 hf => ?_))
  refine SW_aload_n h rfl (dt t_H_writeDown 14 rfl) ?_
  refine gR h cf2 o1 f2_1 j1_1 lX2_22 (dt t_H_writeDown 15 rfl) ?_
  refine SW_iload_n h rfl (dt t_H_writeDown 16 rfl) ?_
  refine SW_iconst h (dt t_H_writeDown 17 rfl) ?_
  refine SW_iadd h (dt t_H_writeDown 18 rfl) ?_
  refine SW_aload_n h rfl (dt t_H_writeDown 19 rfl) ?_
  refine gR h cf2 o1 f2_1 j1_1 lX2_22 (dt t_H_writeDown 20 rfl) ?_
  refine SW_bipush h (dt t_H_writeDown 21 rfl) (by decide) ?_
  refine aIk h a3 (by decide) (dt t_H_writeDown 22 rfl) ?_
  refine sI h a3 (okI ok2 3 40 (IsA.n3 a3 (by decide))) (dt t_H_writeDown 23 rfl) hf (fun hf => SW_bm hf (fun s3 ok3 hf => ?_))
  refine SW_aload_n h rfl (dt t_H_writeDown 24 rfl) ?_
  refine gR h cf2 o1 f2_1 j1_1 lX2_22 (dt t_H_writeDown 25 rfl) ?_
  refine SW_iload_n h rfl (dt t_H_writeDown 26 rfl) ?_
  refine SW_iconst h (dt t_H_writeDown 27 rfl) ?_
  refine SW_iadd h (dt t_H_writeDown 28 rfl) ?_
  refine SW_iload_n h rfl (dt t_H_writeDown 29 rfl) ?_
  refine sI h a3 hx2 (dt t_H_writeDown 30 rfl) hf (fun hf => SW_bm hf (fun s4 ok4 hf => ?_))
  refine SW_aload_n h rfl (dt t_H_writeDown 31 rfl) ?_
  refine gR h cf2 o1 f2_1 j1_1 lX2_22 (dt t_H_writeDown 32 rfl) ?_
  refine SW_bipush h (dt t_H_writeDown 33 rfl) (by decide) ?_
  refine SW_aload_n h rfl (dt t_H_writeDown 34 rfl) ?_
  refine gR h cf2 o1 f2_1 j1_1 lX2_22 (dt t_H_writeDown 35 rfl) ?_
  refine SW_bipush h (dt t_H_writeDown 36 rfl) (by decide) ?_
  refine aIk h a3 (by decide) (dt t_H_writeDown 37 rfl) ?_
  refine SW_iconst h (dt t_H_writeDown 38 rfl) ?_
  refine SW_iadd h (dt t_H_writeDown 39 rfl) ?_
  refine SW_bipush h (dt t_H_writeDown 40 rfl) (by decide) ?_
  refine SW_chk hf (fun h5 hf => ?_)
  refine SW_irem h (fun _ => h5) (fun _ => (by decide)) (by decide) (dt t_H_writeDown 41 rfl) ?_
  refine sIk h a3 (by decide) (r_tmod h5 (by decide)) (dt t_H_writeDown 42 rfl) (SW_bm hf (fun s6 ok6 hf => ?_))
  refine SW_aload_n h rfl (dt t_H_writeDown 43 rfl) ?_
  refine gR h cf2 o1 f2_1 j1_1 lX2_22 (dt t_H_writeDown 44 rfl) ?_
  refine SW_bipush h (dt t_H_writeDown 45 rfl) (by decide) ?_
  refine SW_bipush h (dt t_H_writeDown 46 rfl) (by decide) ?_
  refine SW_aload_n h rfl (dt t_H_writeDown 47 rfl) ?_
  refine gR h cf2 o1 f2_1 j1_1 lX2_22 (dt t_H_writeDown 48 rfl) ?_
  refine SW_bipush h (dt t_H_writeDown 49 rfl) (by decide) ?_
  refine aIk h a3 (by decide) (dt t_H_writeDown 50 rfl) ?_
  refine SW_iconst h (dt t_H_writeDown 51 rfl) ?_
  refine SW_iadd h (dt t_H_writeDown 52 rfl) ?_
  refine SW_chk hf (fun h8 hf => ?_)
  refine SW_min h kX2_68 (by decide) h8 (Nat.le_of_ble_eq_true rfl) (dt t_H_writeDown 53 rfl) ?_
  refine sIk h a3 (by decide) (r_min (by decide) h8) (dt t_H_writeDown 54 rfl) (SW_bm hf (fun s9 ok9 hf => ?_))
  exact SW_vret h (hret _ hf) rfl (dt t_H_writeDown 55 rfl)
def b_H_reckonRow : List (Nat × Instr × Nat) := [(0, .aload_n 0, 1), (1, .getfield 25, 3), (4, .iload_n 1, 1), (5, .aaload, 1), (6, .astore_n 2, 1), (7, .aload_n 2, 1), (8, .getfield 43, 3), (11, .istore_n 3, 1), (12, .aload_n 0, 1), (13, .getfield 12, 3), (16, .invokevirtual 46, 3), (19, .iconst 1, 1), (20, .istore 4, 2), (22, .iload 4, 2), (24, .aload_n 2, 1), (25, .getfield 49, 3), (28, .if_icmp .ge 90, 3), (31, .aload_n 2, 1), (32, .getfield 52, 3), (35, .iload 4, 2), (37, .iconst 1, 1), (38, .isub, 1), (39, .iaload, 1), (40, .istore 5, 2), (42, .aload_n 2, 1), (43, .getfield 52, 3), (46, .iload 4, 2), (48, .iaload, 1), (49, .istore 6, 2), (51, .aload_n 0, 1), (52, .getfield 12, 3), (55, .iload 5, 2), (57, .iload 6, 2), (59, .aload_n 2, 1), (60, .getfield 55, 3), (63, .iload 4, 2), (65, .iaload, 1), (66, .invokevirtual 58, 3), (69, .istore 7, 2), (71, .iload 7, 2), (73, .sipush 1000, 3), (76, .if_icmp .eq 36, 3), (79, .iload_n 3, 1), (80, .iload 7, 2), (82, .iadd, 1), (83, .istore_n 3, 1), (84, .aload_n 0, 1), (85, .getfield 22, 3), (88, .bipush 20, 2), (90, .iload 5, 2), (92, .iadd, 1), (93, .dup2, 1), (94, .iaload, 1), (95, .iconst 1, 1), (96, .iadd, 1), (97, .iastore, 1), (98, .aload_n 0, 1), (99, .getfield 22, 3), (102, .bipush 20, 2), (104, .iload 6, 2), (106, .iadd, 1), (107, .dup2, 1), (108, .iaload, 1), (109, .iconst 1, 1), (110, .iadd, 1), (111, .iastore, 1), (112, .iinc 4 1, 3), (115, .goto (-93), 3), (118, .aload_n 0, 1), (119, .aload_n 2, 1), (120, .invokevirtual 62, 3), (123, .aload_n 0, 1), (124, .getfield 22, 3), (127, .bipush 41, 2), (129, .ldc 66, 2), (131, .ldc 67, 2), (133, .aload_n 0, 1), (134, .getfield 22, 3), (137, .bipush 41, 2), (139, .iaload, 1), (140, .iload_n 3, 1), (141, .iadd, 1), (142, .invokestatic 68, 3), (145, .invokestatic 74, 3), (148, .iastore, 1), (149, .aload_n 0, 1), (150, .iload_n 1, 1), (151, .iload_n 3, 1), (152, .invokevirtual 77, 3), (155, .iload_n 3, 1), (156, .ireturn, 1)]
theorem t_H_reckonRow : DT cX2_reckonRow b_H_reckonRow := DT.of (by decide +kernel)
def L_H_reckonRow_22 : Nat → Nat → Int → Int → Mm → Option (Int × Mm)
  | 0, _, _, _, _ => none
  | n + 1, r2, x3, x4, σ =>
    if σ r2 4 ≤ x4 then
      some ((x3, σ))
    else
      if 0 ≤ x4 - 1 ∧ x4 - 1 < 16 then
        bindM (σ (r2 + 24) ((x4 - 1).toNat)) fun v4 =>
        if 0 ≤ x4 ∧ x4 < 16 then
          bindM (σ (r2 + 24) x4.toNat) fun v5 =>
          if 0 ≤ x4 ∧ x4 < 16 then
            b1M (F_J_two v4 v5 (σ (r2 + 36) x4.toNat) σ) fun v6 s6 =>
            bindM (fun (x3_7 : Int) (t7 : Mm) =>
              if r32 (x4 + 1) then
                L_H_reckonRow_22 n r2 x3_7 (x4 + 1) t7
              else none) fun J7 =>
            if v6 = 1000 then
              J7 x3 s6
            else
              if 0 ≤ 20 + v4 ∧ 20 + v4 < 165 then
                if r32 ((s6 3 ((20 + v4).toNat)) + 1) then
                  if 0 ≤ 20 + v4 ∧ 20 + v4 < 165 then
                    bindM (st2 s6 3 ((20 + v4).toNat) ((s6 3 ((20 + v4).toNat)) + 1)) fun s10 =>
                    if 0 ≤ 20 + v5 ∧ 20 + v5 < 165 then
                      if r32 ((s10 3 ((20 + v5).toNat)) + 1) then
                        if 0 ≤ 20 + v5 ∧ 20 + v5 < 165 then
                          bindM (st2 s10 3 ((20 + v5).toNat) ((s10 3 ((20 + v5).toNat)) + 1)) fun s12 =>
                          if r32 (x3 + v6) then
                            J7 (x3 + v6) s12
                          else none
                        else none
                      else none
                    else none
                  else none
                else none
              else none
          else none
        else none
      else none
set_option maxRecDepth 100000 in
set_option maxHeartbeats 4000000 in
theorem l_H_reckonRow_22 {X : Cx} (h : CX X 0 cX2_reckonRow 8 6 (some .int) RX2) (x1 : Int) (r2 : Nat) (hx1 : r32 x1) (q2 : IsO 0 6 r2) {res : Int × Mm} (hex : ∀ (x3 : Int) (σ : Mm) (hz : some ((x3, σ)) = some res) (hx3 : r32 x3) (ok : okM σ), SW X 0 8 118 [some (.ref (xad X 1)), some (.int (i32 x1)), some (.ref (xad X r2)), some (.int (i32 x3)), none, none, none, none] [] σ) : ∀ (n : Nat) (x3 : Int) (x4 : Int) (σ : Mm) (hx3 : r32 x3) (hx4 : r32 x4) (ok : okM σ) (hf : L_H_reckonRow_22 n r2 x3 x4 σ = some res), SW X 0 8 22 [some (.ref (xad X 1)), some (.int (i32 x1)), some (.ref (xad X r2)), some (.int (i32 x3)), some (.int (i32 x4)), none, none, none] [] σ := by
  intro n
  induction n with
  | zero => intro x3 x4 σ hx3 hx4 ok hf; exact absurd hf (by simp [L_H_reckonRow_22])
  | succ n ih =>
    intro x3 x4 σ hx3 hx4 ok hf
    rw [L_H_reckonRow_22] at hf
    refine SW_iload h rfl (dt t_H_reckonRow 13 rfl) ?_
    refine SW_aload_n h rfl (dt t_H_reckonRow 14 rfl) ?_
    refine gI h cf6 q2 f6_4 lX2_49 (dt t_H_reckonRow 15 rfl) ?_
    refine SW_icmp_ge (tgt := 118) h (fun _ => hx4) (fun _ => (okI ok r2 4 (IsO.n3 q2))) (dt t_H_reckonRow 16 rfl) rfl hf (fun hf => ?_) (fun hf => ?_)
    · exact SW_fgt [true, true, true, true, false, false, false, false] rfl (hex x3 σ hf hx3 ok)
    · refine SW_aload_n h rfl (dt t_H_reckonRow 17 rfl) ?_
      refine gR h cf6 q2 f6_1 (dy6_1 q2).1 lX2_52 (dt t_H_reckonRow 18 rfl) ?_
      refine SW_iload h rfl (dt t_H_reckonRow 19 rfl) ?_
      refine SW_iconst h (dt t_H_reckonRow 20 rfl) ?_
      refine SW_isub h (dt t_H_reckonRow 21 rfl) ?_
      refine aI h (dy6_1 q2).2 (dt t_H_reckonRow 22 rfl) hf (fun hf => ?_)
      refine SW_vi hf (okI ok (r2 + 24) ((x4 - 1).toNat) (IsA.n3 (dy6_1 q2).2 (by decide))) (fun v4 h4 hf => ?_)
      refine SW_istore (lv2 := [some (.ref (xad X 1)), some (.int (i32 x1)), some (.ref (xad X r2)), some (.int (i32 x3)), some (.int (i32 x4)), some (.int (i32 v4)), none, none]) h (dt t_H_reckonRow 23 rfl) (by decide) rfl ?_
      refine SW_aload_n h rfl (dt t_H_reckonRow 24 rfl) ?_
      refine gR h cf6 q2 f6_1 (dy6_1 q2).1 lX2_52 (dt t_H_reckonRow 25 rfl) ?_
      refine SW_iload h rfl (dt t_H_reckonRow 26 rfl) ?_
      refine aI h (dy6_1 q2).2 (dt t_H_reckonRow 27 rfl) hf (fun hf => ?_)
      refine SW_vi hf (okI ok (r2 + 24) x4.toNat (IsA.n3 (dy6_1 q2).2 (by decide))) (fun v5 h5 hf => ?_)
      refine SW_istore (lv2 := [some (.ref (xad X 1)), some (.int (i32 x1)), some (.ref (xad X r2)), some (.int (i32 x3)), some (.int (i32 x4)), some (.int (i32 v4)), some (.int (i32 v5)), none]) h (dt t_H_reckonRow 28 rfl) (by decide) rfl ?_
      refine SW_aload_n h rfl (dt t_H_reckonRow 29 rfl) ?_
      refine gR h cf2 o1 f2_0 j1_0 lX2_12 (dt t_H_reckonRow 30 rfl) ?_
      refine SW_iload h rfl (dt t_H_reckonRow 31 rfl) ?_
      refine SW_iload h rfl (dt t_H_reckonRow 32 rfl) ?_
      refine SW_aload_n h rfl (dt t_H_reckonRow 33 rfl) ?_
      refine gR h cf6 q2 f6_2 (dy6_2 q2).1 lX2_55 (dt t_H_reckonRow 34 rfl) ?_
      refine SW_iload h rfl (dt t_H_reckonRow 35 rfl) ?_
      refine aI h (dy6_2 q2).2 (dt t_H_reckonRow 36 rfl) hf (fun hf => ?_)
      obtain ⟨v6, s6, e6, hf⟩ := b1M_of hf
      refine cV h [.int (i32 v4), .int (i32 v5), .int (i32 (σ (r2 + 36) x4.toNat))] [] v_X4_two kX2_58 o2 (c_J_two v4 h4 v5 h5 (σ (r2 + 36) x4.toNat) (okI ok (r2 + 36) x4.toNat (IsA.n3 (dy6_2 q2).2 (by decide))) e6) rfl rfl (by decide) (by decide) rfl (Nat.le_of_ble_eq_true rfl) (dt t_H_reckonRow 37 rfl) (fun h6 => ?_)
      refine SW_ok (fun ok6 => ?_)
      refine SW_istore (lv2 := [some (.ref (xad X 1)), some (.int (i32 x1)), some (.ref (xad X r2)), some (.int (i32 x3)), some (.int (i32 x4)), some (.int (i32 v4)), some (.int (i32 v5)), some (.int (i32 v6))]) h (dt t_H_reckonRow 38 rfl) (by decide) rfl ?_
      refine SW_iload h rfl (dt t_H_reckonRow 39 rfl) ?_
      refine SW_sipush h (dt t_H_reckonRow 40 rfl) (by decide) ?_
      refine bJ hf (fun J7 e7 hf => ?_)
      have k7 : ∀ (x3_7 : Int) (t7 : Mm) (hx3_7 : r32 x3_7) (ot7 : okM t7) (hf : J7 x3_7 t7 = some res), SW X 0 8 112 [some (.ref (xad X 1)), some (.int (i32 x1)), some (.ref (xad X r2)), some (.int (i32 x3_7)), some (.int (i32 x4)), none, none, none] [] t7 := by
        intro x3_7 t7 hx3_7 ot7 hf
        rw [e7] at hf
        refine SW_iinc (lv2 := [some (.ref (xad X 1)), some (.int (i32 x1)), some (.ref (xad X r2)), some (.int (i32 x3_7)), some (.int (i32 (x4 + 1))), none, none, none]) h (dt t_H_reckonRow 66 rfl) rfl (by decide) rfl ?_
        refine SW_goto (tgt := 22) h (dt t_H_reckonRow 67 rfl) rfl ?_
        refine SW_chk hf (fun h8 hf => ?_)
        exact SW_fgt [true, true, true, true, true, false, false, false] rfl (ih x3_7 (x4 + 1) t7 hx3_7 h8 ot7 hf)
      refine SW_icmp_eq (tgt := 112) h (fun _ => h6) (fun _ => (by decide)) (dt t_H_reckonRow 41 rfl) rfl hf (fun hf => ?_) (fun hf => ?_)
      · exact SW_fgt [true, true, true, true, true, false, false, false] rfl (k7 x3 s6 hx3 ok6 hf)
      · refine SW_iload_n h rfl (dt t_H_reckonRow 42 rfl) ?_
        refine SW_iload h rfl (dt t_H_reckonRow 43 rfl) ?_
        refine SW_iadd h (dt t_H_reckonRow 44 rfl) ?_
        refine SW_istore_n (lv2 := [some (.ref (xad X 1)), some (.int (i32 x1)), some (.ref (xad X r2)), some (.int (i32 (x3 + v6))), some (.int (i32 x4)), some (.int (i32 v4)), some (.int (i32 v5)), some (.int (i32 v6))]) h (dt t_H_reckonRow 45 rfl) (by decide) rfl ?_
        refine SW_aload_n h rfl (dt t_H_reckonRow 46 rfl) ?_
        refine gR h cf2 o1 f2_1 j1_1 lX2_22 (dt t_H_reckonRow 47 rfl) ?_
        refine SW_bipush h (dt t_H_reckonRow 48 rfl) (by decide) ?_
        refine SW_iload h rfl (dt t_H_reckonRow 49 rfl) ?_
        refine SW_iadd h (dt t_H_reckonRow 50 rfl) ?_
        refine SW_dup2 h rfl rfl (dt t_H_reckonRow 51 rfl) ?_
        refine aI h a3 (dt t_H_reckonRow 52 rfl) hf (fun hf => ?_)
        refine SW_iconst h (dt t_H_reckonRow 53 rfl) ?_
        refine SW_iadd h (dt t_H_reckonRow 54 rfl) ?_
        refine SW_chk hf (fun h9 hf => ?_)
        refine sI h a3 h9 (dt t_H_reckonRow 55 rfl) hf (fun hf => SW_bm hf (fun s10 ok10 hf => ?_))
        refine SW_aload_n h rfl (dt t_H_reckonRow 56 rfl) ?_
        refine gR h cf2 o1 f2_1 j1_1 lX2_22 (dt t_H_reckonRow 57 rfl) ?_
        refine SW_bipush h (dt t_H_reckonRow 58 rfl) (by decide) ?_
        refine SW_iload h rfl (dt t_H_reckonRow 59 rfl) ?_
        refine SW_iadd h (dt t_H_reckonRow 60 rfl) ?_
        refine SW_dup2 h rfl rfl (dt t_H_reckonRow 61 rfl) ?_
        refine aI h a3 (dt t_H_reckonRow 62 rfl) hf (fun hf => ?_)
        refine SW_iconst h (dt t_H_reckonRow 63 rfl) ?_
        refine SW_iadd h (dt t_H_reckonRow 64 rfl) ?_
        refine SW_chk hf (fun h11 hf => ?_)
        refine sI h a3 h11 (dt t_H_reckonRow 65 rfl) hf (fun hf => SW_bm hf (fun s12 ok12 hf => ?_))
        refine SW_chk hf (fun h13 hf => ?_)
        exact SW_fgt [true, true, true, true, true, false, false, false] rfl (k7 (x3 + v6) s12 h13 ok12 hf)
def F_H_reckonRow (x1 : Int) (σ : Mm) : Option (Int × Mm) :=
  if 0 ≤ x1 ∧ x1 < 12 then
    bindM (σ (10 + x1.toNat) 6) fun v2 =>
    b0M (F_J_fresh  σ) fun s3 =>
    b1M (L_H_reckonRow_22 LF (10 + x1.toNat) v2 1 s3) fun x3_14 s14 =>
    b0M (F_H_use (10 + x1.toNat) s14) fun s15 =>
    if r32 ((s15 3 41) + x3_14) then
      bindM (st2 s15 3 41 (max ((-9999999)) (min 9999999 ((s15 3 41) + x3_14)))) fun s19 =>
      b0M (F_H_writeDown x1 x3_14 s19) fun s20 =>
      some (x3_14, s20)
    else none
  else none
set_option maxRecDepth 100000 in
set_option maxHeartbeats 4000000 in
theorem c_H_reckonRow (x1 : Int) (hx1 : r32 x1) {σ : Mm} {a : Int} {σ2 : Mm} (hf : F_H_reckonRow x1 σ = some (a, σ2)) : CT yX2_reckonRow cX2_reckonRow 8 (some .int) 6 0 (fun ad => [.ref (ad 1), .int (i32 x1)]) σ (r32 a) (some (.int (i32 a))) σ2 := by
  refine MetJ 6 (by decide +kernel) rfl (fun _ => Nat.le_of_ble_eq_true rfl) ?_
  intro X h hR ok
  obtain ⟨res, er⟩ : ∃ z, z = (a, σ2) := ⟨_, rfl⟩
  have hret : ∀ y : Int × Mm, some y = some res → RX X 0 (r32 (y.1)) (some (.int (i32 (y.1)))) y.2 := fun y e => by cases e; cases er; exact hR
  rw [← er] at hf
  clear er hR
  unfold F_H_reckonRow at hf
  show SW X 0 8 0 [some (.ref (xad X 1)), some (.int (i32 x1)), none, none, none, none, none, none] [] σ
  refine SW_aload_n h rfl (dt t_H_reckonRow 0 rfl) ?_
  refine gR h cf2 o1 f2_2 j1_2 lX2_25 (dt t_H_reckonRow 1 rfl) ?_
  refine SW_iload_n h rfl (dt t_H_reckonRow 2 rfl) ?_
  refine aR h (by decide) a8 rfl (dt t_H_reckonRow 3 rfl) hf (fun h1 hf => ?_)
  refine SW_astore_n (lv2 := [some (.ref (xad X 1)), some (.int (i32 x1)), some (.ref (xad X (10 + x1.toNat))), none, none, none, none, none]) h (dt t_H_reckonRow 4 rfl) (by decide) rfl ?_
  refine SW_aload_n h rfl (dt t_H_reckonRow 5 rfl) ?_
  refine gI h cf6 (mk_row h1) f6_6 lX2_43 (dt t_H_reckonRow 6 rfl) ?_
  refine SW_vi hf (okI ok (10 + x1.toNat) 6 (IsO.n3 (mk_row h1))) (fun v2 h2 hf => ?_)
  refine SW_istore_n (lv2 := [some (.ref (xad X 1)), some (.int (i32 x1)), some (.ref (xad X (10 + x1.toNat))), some (.int (i32 v2)), none, none, none, none]) h (dt t_H_reckonRow 7 rfl) (by decide) rfl ?_
  refine SW_aload_n h rfl (dt t_H_reckonRow 8 rfl) ?_
  refine gR h cf2 o1 f2_0 j1_0 lX2_12 (dt t_H_reckonRow 9 rfl) ?_
  obtain ⟨s3, e3, hf⟩ := b0M_of hf
  refine cVv h [] [] v_X4_fresh kX2_46 o2 (c_J_fresh  e3) rfl rfl (by decide) (by decide) rfl (Nat.le_of_ble_eq_true rfl) (dt t_H_reckonRow 10 rfl) (fun h3 => ?_)
  refine SW_ok (fun ok3 => ?_)
  refine SW_iconst h (dt t_H_reckonRow 11 rfl) ?_
  refine SW_istore (lv2 := [some (.ref (xad X 1)), some (.int (i32 x1)), some (.ref (xad X (10 + x1.toNat))), some (.int (i32 v2)), some (.int (i32 1)), none, none, none]) h (dt t_H_reckonRow 12 rfl) (by decide) rfl ?_
  obtain ⟨z14, e14, hk14⟩ := b1M_ex hf
  refine SW_fgt [true, true, true, true, true, false, false, false] rfl (l_H_reckonRow_22 h x1 (10 + x1.toNat) hx1 (mk_row h1) (fun x3_14 s14 hz14 hx3_14 ok14 => ?_) LF v2 1 s3 h2 (by decide) ok3 e14)
  have hf := hk14 x3_14 s14 hz14
  refine SW_aload_n h rfl (dt t_H_reckonRow 68 rfl) ?_
  refine SW_aload_n h rfl (dt t_H_reckonRow 69 rfl) ?_
  obtain ⟨s15, e15, hf⟩ := b0M_of hf
  refine cVv h [.ref (xad X (10 + x1.toNat))] [] v_X2_use kX2_62 o1 (c_H_use (10 + x1.toNat) (mk_row h1) e15) rfl rfl (by decide) (by decide) rfl (Nat.le_of_ble_eq_true rfl) (dt t_H_reckonRow 70 rfl) (fun h15 => ?_)
  refine SW_ok (fun ok15 => ?_)
  refine SW_aload_n h rfl (dt t_H_reckonRow 71 rfl) ?_
  refine gR h cf2 o1 f2_1 j1_1 lX2_22 (dt t_H_reckonRow 72 rfl) ?_
  refine SW_bipush h (dt t_H_reckonRow 73 rfl) (by decide) ?_
  refine SW_ldc (n := -9999999) h nX2_66 (by decide) (dt t_H_reckonRow 74 rfl) ?_
  refine SW_ldc (n := 9999999) h nX2_67 (by decide) (dt t_H_reckonRow 75 rfl) ?_
  refine SW_aload_n h rfl (dt t_H_reckonRow 76 rfl) ?_
  refine gR h cf2 o1 f2_1 j1_1 lX2_22 (dt t_H_reckonRow 77 rfl) ?_
  refine SW_bipush h (dt t_H_reckonRow 78 rfl) (by decide) ?_
  refine aIk h a3 (by decide) (dt t_H_reckonRow 79 rfl) ?_
  refine SW_iload_n h rfl (dt t_H_reckonRow 80 rfl) ?_
  refine SW_iadd h (dt t_H_reckonRow 81 rfl) ?_
  refine SW_chk hf (fun h17 hf => ?_)
  refine SW_min h kX2_68 (by decide) h17 (Nat.le_of_ble_eq_true rfl) (dt t_H_reckonRow 82 rfl) ?_
  refine SW_max h kX2_74 (by decide) (r_min (by decide) h17) (Nat.le_of_ble_eq_true rfl) (dt t_H_reckonRow 83 rfl) ?_
  refine sIk h a3 (by decide) (r_max (by decide) (r_min (by decide) h17)) (dt t_H_reckonRow 84 rfl) (SW_bm hf (fun s19 ok19 hf => ?_))
  refine SW_aload_n h rfl (dt t_H_reckonRow 85 rfl) ?_
  refine SW_iload_n h rfl (dt t_H_reckonRow 86 rfl) ?_
  refine SW_iload_n h rfl (dt t_H_reckonRow 87 rfl) ?_
  obtain ⟨s20, e20, hf⟩ := b0M_of hf
  refine cVv h [.int (i32 x1), .int (i32 x3_14)] [] v_X2_writeDown kX2_77 o1 (c_H_writeDown x1 hx1 x3_14 hx3_14 e20) rfl rfl (by decide) (by decide) rfl (Nat.le_of_ble_eq_true rfl) (dt t_H_reckonRow 88 rfl) (fun h20 => ?_)
  refine SW_ok (fun ok20 => ?_)
  refine SW_iload_n h rfl (dt t_H_reckonRow 89 rfl) ?_
  exact SW_iret h (hret _ hf) (fun _ => hx3_14) rfl (dt t_H_reckonRow 90 rfl)
def b_J_mood : List (Nat × Instr × Nat) := [(0, .aload_n 0, 1), (1, .getfield 9, 3), (4, .iconst 0, 1), (5, .iload_n 1, 1), (6, .iadd, 1), (7, .iaload, 1), (8, .istore_n 2, 1), (9, .aload_n 0, 1), (10, .getfield 31, 3), (13, .ifnull 14, 3), (16, .aload_n 0, 1), (17, .getfield 31, 3), (20, .iconst 2, 1), (21, .invokevirtual 35, 3), (24, .ifCond .ne 5, 3), (27, .iload_n 2, 1), (28, .ireturn, 1), (29, .aload_n 0, 1), (30, .getfield 15, 3), (33, .iconst 0, 1), (34, .aload_n 0, 1), (35, .getfield 9, 3), (38, .bipush 40, 2), (40, .iaload, 1), (41, .iastore, 1), (42, .aload_n 0, 1), (43, .getfield 15, 3), (46, .bipush 9, 2), (48, .iload_n 1, 1), (49, .iastore, 1), (50, .aload_n 0, 1), (51, .getfield 15, 3), (54, .bipush 10, 2), (56, .iload_n 2, 1), (57, .iastore, 1), (58, .aload_n 0, 1), (59, .getfield 15, 3), (62, .bipush 11, 2), (64, .aload_n 0, 1), (65, .getfield 9, 3), (68, .bipush 10, 2), (70, .iload_n 1, 1), (71, .iadd, 1), (72, .iaload, 1), (73, .iastore, 1), (74, .aload_n 0, 1), (75, .getfield 15, 3), (78, .bipush 12, 2), (80, .aload_n 0, 1), (81, .getfield 9, 3), (84, .bipush 20, 2), (86, .iload_n 1, 1), (87, .iadd, 1), (88, .iaload, 1), (89, .iastore, 1), (90, .iconst 0, 1), (91, .bipush 9, 2), (93, .aload_n 0, 1), (94, .iconst 2, 1), (95, .invokevirtual 41, 3), (98, .invokestatic 45, 3), (101, .invokestatic 51, 3), (104, .ireturn, 1)]
theorem t_J_mood : DT cX4_mood b_J_mood := DT.of (by decide +kernel)
def F_J_mood (x1 : Int) (σ : Mm) : Option (Int × Mm) :=
  if 0 ≤ 0 + x1 ∧ 0 + x1 < 165 then
    bindM (σ 3 ((0 + x1).toNat)) fun v1 =>
    if σ 2 6 < 0 then
      some (v1, σ)
    else
      if 0 ≤ σ 2 6 ∧ IsO 0 9 (σ 2 6).toNat then
        b1 (F_T_has ((σ 2 6).toNat) 2 σ) fun v3 =>
        if v3 = 0 then
          some (v1, σ)
        else
          bindM (st2 σ 4 0 (σ 3 40)) fun s4 =>
          bindM (st2 s4 4 9 x1) fun s5 =>
          bindM (st2 s5 4 10 v1) fun s6 =>
          if 0 ≤ 10 + x1 ∧ 10 + x1 < 165 then
            bindM (st2 s6 4 11 (s6 3 ((10 + x1).toNat))) fun s7 =>
            if 0 ≤ 20 + x1 ∧ 20 + x1 < 165 then
              bindM (st2 s7 4 12 (s7 3 ((20 + x1).toNat))) fun s8 =>
              b1M (F_J_run 2 s8) fun v9 s9 =>
              some (max 0 (min 9 v9), s9)
            else none
          else none
      else none
  else none
set_option maxRecDepth 100000 in
set_option maxHeartbeats 4000000 in
theorem c_J_mood (x1 : Int) (hx1 : r32 x1) {σ : Mm} {a : Int} {σ2 : Mm} (hf : F_J_mood x1 σ = some (a, σ2)) : CT yX4_mood cX4_mood 3 (some .int) 5 0 (fun ad => [.ref (ad 2), .int (i32 x1)]) σ (r32 a) (some (.int (i32 a))) σ2 := by
  refine MetJ 1 (by decide +kernel) rfl (fun _ => Nat.le_of_ble_eq_true rfl) ?_
  intro X h hR ok
  obtain ⟨res, er⟩ : ∃ z, z = (a, σ2) := ⟨_, rfl⟩
  have hret : ∀ y : Int × Mm, some y = some res → RX X 0 (r32 (y.1)) (some (.int (i32 (y.1)))) y.2 := fun y e => by cases e; cases er; exact hR
  rw [← er] at hf
  clear er hR
  unfold F_J_mood at hf
  show SW X 0 3 0 [some (.ref (xad X 2)), some (.int (i32 x1)), none] [] σ
  refine SW_aload_n h rfl (dt t_J_mood 0 rfl) ?_
  refine gR h cf4 o2 f4_0 j2_0 lX4_9 (dt t_J_mood 1 rfl) ?_
  refine SW_iconst h (dt t_J_mood 2 rfl) ?_
  refine SW_iload_n h rfl (dt t_J_mood 3 rfl) ?_
  refine SW_iadd h (dt t_J_mood 4 rfl) ?_
  refine aI h a3 (dt t_J_mood 5 rfl) hf (fun hf => ?_)
  refine SW_vi hf (okI ok 3 ((0 + x1).toNat) (IsA.n3 a3 (by decide))) (fun v1 h1 hf => ?_)
  refine SW_istore_n (lv2 := [some (.ref (xad X 2)), some (.int (i32 x1)), some (.int (i32 v1))]) h (dt t_J_mood 6 rfl) (by decide) rfl ?_
  refine SW_aload_n h rfl (dt t_J_mood 7 rfl) ?_
  refine gD h cf4 o2 f4_6 lX4_31 (dt t_J_mood 8 rfl) ?_
  refine SW_isN (tgt := 27) h (dt t_J_mood 9 rfl) rfl hf (fun hf => ?_) (fun hf => ?_)
  · refine SW_iload_n h rfl (dt t_J_mood 15 rfl) ?_
    exact SW_iret h (hret _ hf) (fun _ => h1) rfl (dt t_J_mood 16 rfl)
  · refine SW_aload_n h rfl (dt t_J_mood 10 rfl) ?_
    refine gD h cf4 o2 f4_6 lX4_31 (dt t_J_mood 11 rfl) ?_
    refine SW_isO hf (fun h2 hf => ?_)
    refine SW_iconst h (dt t_J_mood 12 rfl) ?_
    obtain ⟨v3, e3, hf⟩ := b1_of hf
    refine cV h [.int (i32 2)] [] v_X9_has kX4_35 h2 (c_T_has ((σ 2 6).toNat) h2 2 (by decide) e3) rfl rfl (by decide) (by decide) rfl (Nat.le_of_ble_eq_true rfl) (dt t_J_mood 13 rfl) (fun h3 => ?_)
    refine SW_if_ne (tgt := 29) h (fun _ => (r_zo h3)) (dt t_J_mood 14 rfl) rfl hf (fun hf => ?_) (fun hf => ?_)
    · refine SW_iload_n h rfl (dt t_J_mood 15 rfl) ?_
      exact SW_iret h (hret _ hf) (fun _ => h1) rfl (dt t_J_mood 16 rfl)
    · refine SW_aload_n h rfl (dt t_J_mood 17 rfl) ?_
      refine gR h cf4 o2 f4_1 j2_1 lX4_15 (dt t_J_mood 18 rfl) ?_
      refine SW_iconst h (dt t_J_mood 19 rfl) ?_
      refine SW_aload_n h rfl (dt t_J_mood 20 rfl) ?_
      refine gR h cf4 o2 f4_0 j2_0 lX4_9 (dt t_J_mood 21 rfl) ?_
      refine SW_bipush h (dt t_J_mood 22 rfl) (by decide) ?_
      refine aIk h a3 (by decide) (dt t_J_mood 23 rfl) ?_
      refine sIk h a4 (by decide) (okI ok 3 40 (IsA.n3 a3 (by decide))) (dt t_J_mood 24 rfl) (SW_bm hf (fun s4 ok4 hf => ?_))
      refine SW_aload_n h rfl (dt t_J_mood 25 rfl) ?_
      refine gR h cf4 o2 f4_1 j2_1 lX4_15 (dt t_J_mood 26 rfl) ?_
      refine SW_bipush h (dt t_J_mood 27 rfl) (by decide) ?_
      refine SW_iload_n h rfl (dt t_J_mood 28 rfl) ?_
      refine sIk h a4 (by decide) hx1 (dt t_J_mood 29 rfl) (SW_bm hf (fun s5 ok5 hf => ?_))
      refine SW_aload_n h rfl (dt t_J_mood 30 rfl) ?_
      refine gR h cf4 o2 f4_1 j2_1 lX4_15 (dt t_J_mood 31 rfl) ?_
      refine SW_bipush h (dt t_J_mood 32 rfl) (by decide) ?_
      refine SW_iload_n h rfl (dt t_J_mood 33 rfl) ?_
      refine sIk h a4 (by decide) h1 (dt t_J_mood 34 rfl) (SW_bm hf (fun s6 ok6 hf => ?_))
      refine SW_aload_n h rfl (dt t_J_mood 35 rfl) ?_
      refine gR h cf4 o2 f4_1 j2_1 lX4_15 (dt t_J_mood 36 rfl) ?_
      refine SW_bipush h (dt t_J_mood 37 rfl) (by decide) ?_
      refine SW_aload_n h rfl (dt t_J_mood 38 rfl) ?_
      refine gR h cf4 o2 f4_0 j2_0 lX4_9 (dt t_J_mood 39 rfl) ?_
      refine SW_bipush h (dt t_J_mood 40 rfl) (by decide) ?_
      refine SW_iload_n h rfl (dt t_J_mood 41 rfl) ?_
      refine SW_iadd h (dt t_J_mood 42 rfl) ?_
      refine aI h a3 (dt t_J_mood 43 rfl) hf (fun hf => ?_)
      refine sIk h a4 (by decide) (okI ok6 3 ((10 + x1).toNat) (IsA.n3 a3 (by decide))) (dt t_J_mood 44 rfl) (SW_bm hf (fun s7 ok7 hf => ?_))
      refine SW_aload_n h rfl (dt t_J_mood 45 rfl) ?_
      refine gR h cf4 o2 f4_1 j2_1 lX4_15 (dt t_J_mood 46 rfl) ?_
      refine SW_bipush h (dt t_J_mood 47 rfl) (by decide) ?_
      refine SW_aload_n h rfl (dt t_J_mood 48 rfl) ?_
      refine gR h cf4 o2 f4_0 j2_0 lX4_9 (dt t_J_mood 49 rfl) ?_
      refine SW_bipush h (dt t_J_mood 50 rfl) (by decide) ?_
      refine SW_iload_n h rfl (dt t_J_mood 51 rfl) ?_
      refine SW_iadd h (dt t_J_mood 52 rfl) ?_
      refine aI h a3 (dt t_J_mood 53 rfl) hf (fun hf => ?_)
      refine sIk h a4 (by decide) (okI ok7 3 ((20 + x1).toNat) (IsA.n3 a3 (by decide))) (dt t_J_mood 54 rfl) (SW_bm hf (fun s8 ok8 hf => ?_))
      refine SW_iconst h (dt t_J_mood 55 rfl) ?_
      refine SW_bipush h (dt t_J_mood 56 rfl) (by decide) ?_
      refine SW_aload_n h rfl (dt t_J_mood 57 rfl) ?_
      refine SW_iconst h (dt t_J_mood 58 rfl) ?_
      obtain ⟨v9, s9, e9, hf⟩ := b1M_of hf
      refine cV h [.int (i32 2)] [.int (i32 9), .int (i32 0)] v_X4_run kX4_41 o2 (c_J_run 2 (by decide) e9) rfl rfl (by decide) (by decide) rfl (Nat.le_of_ble_eq_true rfl) (dt t_J_mood 59 rfl) (fun h9 => ?_)
      refine SW_ok (fun ok9 => ?_)
      refine SW_min h kX4_45 (by decide) h9 (Nat.le_of_ble_eq_true rfl) (dt t_J_mood 60 rfl) ?_
      refine SW_max h kX4_51 (by decide) (r_min (by decide) h9) (Nat.le_of_ble_eq_true rfl) (dt t_J_mood 61 rfl) ?_
      exact SW_iret h (hret _ hf) (fun _ => (r_max (by decide) (r_min (by decide) h9))) rfl (dt t_J_mood 62 rfl)
def b_H_passDay : List (Nat × Instr × Nat) := [(0, .iconst 0, 1), (1, .istore_n 1, 1), (2, .iconst 0, 1), (3, .istore_n 2, 1), (4, .iload_n 2, 1), (5, .aload_n 0, 1), (6, .getfield 33, 3), (9, .if_icmp .ge 32, 3), (12, .aload_n 0, 1), (13, .iload_n 2, 1), (14, .invokevirtual 81, 3), (17, .aload_n 0, 1), (18, .getfield 25, 3), (21, .iload_n 2, 1), (22, .aaload, 1), (23, .getfield 43, 3), (26, .if_icmp .eq 9, 3), (29, .iload_n 1, 1), (30, .iconst 1, 1), (31, .iload_n 2, 1), (32, .ishl, 1), (33, .ior, 1), (34, .istore_n 1, 1), (35, .iinc 2 1, 3), (38, .goto (-34), 3), (41, .iconst 0, 1), (42, .istore_n 2, 1), (43, .iload_n 2, 1), (44, .bipush 10, 2), (46, .if_icmp .ge 35, 3), (49, .aload_n 0, 1), (50, .getfield 22, 3), (53, .iconst 0, 1), (54, .iload_n 2, 1), (55, .iadd, 1), (56, .aload_n 0, 1), (57, .getfield 12, 3), (60, .iload_n 2, 1), (61, .invokevirtual 85, 3), (64, .iastore, 1), (65, .aload_n 0, 1), (66, .getfield 22, 3), (69, .bipush 20, 2), (71, .iload_n 2, 1), (72, .iadd, 1), (73, .iconst 0, 1), (74, .iastore, 1), (75, .iinc 2 1, 3), (78, .goto (-35), 3), (81, .aload_n 0, 1), (82, .getfield 22, 3), (85, .bipush 40, 2), (87, .dup2, 1), (88, .iaload, 1), (89, .iconst 1, 1), (90, .iadd, 1), (91, .iastore, 1), (92, .iload_n 1, 1), (93, .ireturn, 1)]
theorem t_H_passDay : DT cX2_passDay b_H_passDay := DT.of (by decide +kernel)
def L_H_passDay_4 : Nat → Int → Int → Mm → Option (Int × Mm)
  | 0, _, _, _ => none
  | n + 1, x1, x2, σ =>
    if σ 1 4 ≤ x2 then
      some ((x1, σ))
    else
      b1M (F_H_reckonRow x2 σ) fun v1 s1 =>
      if 0 ≤ x2 ∧ x2 < 12 then
        bindM (fun (x1_3 : Int) =>
          if r32 (x2 + 1) then
            L_H_passDay_4 n x1_3 (x2 + 1) s1
          else none) fun J3 =>
        if v1 = s1 (10 + x2.toNat) 6 then
          J3 x1
        else
          bindM (ior x1 (ishl 1 x2)) fun v5 =>
          J3 v5
      else none
set_option maxRecDepth 100000 in
set_option maxHeartbeats 4000000 in
theorem l_H_passDay_4 {X : Cx} (h : CX X 0 cX2_passDay 3 7 (some .int) RX2)   {res : Int × Mm} (hex : ∀ (x1 : Int) (σ : Mm) (hz : some ((x1, σ)) = some res) (hx1 : r32 x1) (ok : okM σ), SW X 0 3 41 [some (.ref (xad X 1)), some (.int (i32 x1)), none] [] σ) : ∀ (n : Nat) (x1 : Int) (x2 : Int) (σ : Mm) (hx1 : r32 x1) (hx2 : r32 x2) (ok : okM σ) (hf : L_H_passDay_4 n x1 x2 σ = some res), SW X 0 3 4 [some (.ref (xad X 1)), some (.int (i32 x1)), some (.int (i32 x2))] [] σ := by
  intro n
  induction n with
  | zero => intro x1 x2 σ hx1 hx2 ok hf; exact absurd hf (by simp [L_H_passDay_4])
  | succ n ih =>
    intro x1 x2 σ hx1 hx2 ok hf
    rw [L_H_passDay_4] at hf
    refine SW_iload_n h rfl (dt t_H_passDay 4 rfl) ?_
    refine SW_aload_n h rfl (dt t_H_passDay 5 rfl) ?_
    refine gI h cf2 o1 f2_4 lX2_33 (dt t_H_passDay 6 rfl) ?_
    refine SW_icmp_ge (tgt := 41) h (fun _ => hx2) (fun _ => (okI ok 1 4 (IsO.n3 o1))) (dt t_H_passDay 7 rfl) rfl hf (fun hf => ?_) (fun hf => ?_)
    · exact SW_fgt [true, true, false] rfl (hex x1 σ hf hx1 ok)
    · refine SW_aload_n h rfl (dt t_H_passDay 8 rfl) ?_
      refine SW_iload_n h rfl (dt t_H_passDay 9 rfl) ?_
      obtain ⟨v1, s1, e1, hf⟩ := b1M_of hf
      refine cV h [.int (i32 x2)] [] v_X2_reckonRow kX2_81 o1 (c_H_reckonRow x2 hx2 e1) rfl rfl (by decide) (by decide) rfl (Nat.le_of_ble_eq_true rfl) (dt t_H_passDay 10 rfl) (fun h1 => ?_)
      refine SW_ok (fun ok1 => ?_)
      refine SW_aload_n h rfl (dt t_H_passDay 11 rfl) ?_
      refine gR h cf2 o1 f2_2 j1_2 lX2_25 (dt t_H_passDay 12 rfl) ?_
      refine SW_iload_n h rfl (dt t_H_passDay 13 rfl) ?_
      refine aR h (by decide) a8 rfl (dt t_H_passDay 14 rfl) hf (fun h2 hf => ?_)
      refine gI h cf6 (mk_row h2) f6_6 lX2_43 (dt t_H_passDay 15 rfl) ?_
      refine bJ hf (fun J3 e3 hf => ?_)
      have k3 : ∀ (x1_3 : Int) (hx1_3 : r32 x1_3) (hf : J3 x1_3 = some res), SW X 0 3 35 [some (.ref (xad X 1)), some (.int (i32 x1_3)), some (.int (i32 x2))] [] s1 := by
        intro x1_3 hx1_3 hf
        rw [e3] at hf
        refine SW_iinc (lv2 := [some (.ref (xad X 1)), some (.int (i32 x1_3)), some (.int (i32 (x2 + 1)))]) h (dt t_H_passDay 23 rfl) rfl (by decide) rfl ?_
        refine SW_goto (tgt := 4) h (dt t_H_passDay 24 rfl) rfl ?_
        refine SW_chk hf (fun h4 hf => ?_)
        exact SW_fgt [true, true, true] rfl (ih x1_3 (x2 + 1) s1 hx1_3 h4 ok1 hf)
      refine SW_icmp_eq (tgt := 35) h (fun _ => h1) (fun _ => (okI ok1 (10 + x2.toNat) 6 (IsO.n3 (mk_row h2)))) (dt t_H_passDay 16 rfl) rfl hf (fun hf => ?_) (fun hf => ?_)
      · exact SW_fgt [true, true, true] rfl (k3 x1 hx1 hf)
      · refine SW_iload_n h rfl (dt t_H_passDay 17 rfl) ?_
        refine SW_iconst h (dt t_H_passDay 18 rfl) ?_
        refine SW_iload_n h rfl (dt t_H_passDay 19 rfl) ?_
        refine SW_ishl h (dt t_H_passDay 20 rfl) ?_
        refine SW_ior h (dt t_H_passDay 21 rfl) ?_
        refine SW_vi hf (r_ior _ _) (fun v5 h5 hf => ?_)
        refine SW_istore_n (lv2 := [some (.ref (xad X 1)), some (.int (i32 v5)), some (.int (i32 x2))]) h (dt t_H_passDay 22 rfl) (by decide) rfl ?_
        exact SW_fgt [true, true, true] rfl (k3 v5 h5 hf)
def L_H_passDay_43 : Nat → Int → Mm → Option (Mm)
  | 0, _, _ => none
  | n + 1, x2, σ =>
    if 10 ≤ x2 then
      some σ
    else
      b1M (F_J_mood x2 σ) fun v7 s7 =>
      if 0 ≤ 0 + x2 ∧ 0 + x2 < 165 then
        bindM (st2 s7 3 ((0 + x2).toNat) v7) fun s8 =>
        if 0 ≤ 20 + x2 ∧ 20 + x2 < 165 then
          bindM (st2 s8 3 ((20 + x2).toNat) 0) fun s9 =>
          if r32 (x2 + 1) then
            L_H_passDay_43 n (x2 + 1) s9
          else none
        else none
      else none
set_option maxRecDepth 100000 in
set_option maxHeartbeats 4000000 in
theorem l_H_passDay_43 {X : Cx} (h : CX X 0 cX2_passDay 3 7 (some .int) RX2) (x1 : Int) (hx1 : r32 x1) {res : Mm} (hex : ∀  (σ : Mm) (hz : some σ = some res)  (ok : okM σ), SW X 0 3 81 [some (.ref (xad X 1)), some (.int (i32 x1)), none] [] σ) : ∀ (n : Nat) (x2 : Int) (σ : Mm) (hx2 : r32 x2) (ok : okM σ) (hf : L_H_passDay_43 n x2 σ = some res), SW X 0 3 43 [some (.ref (xad X 1)), some (.int (i32 x1)), some (.int (i32 x2))] [] σ := by
  intro n
  induction n with
  | zero => intro x2 σ hx2 ok hf; exact absurd hf (by simp [L_H_passDay_43])
  | succ n ih =>
    intro x2 σ hx2 ok hf
    rw [L_H_passDay_43] at hf
    refine SW_iload_n h rfl (dt t_H_passDay 27 rfl) ?_
    refine SW_bipush h (dt t_H_passDay 28 rfl) (by decide) ?_
    refine SW_icmp_ge (tgt := 81) h (fun _ => hx2) (fun _ => (by decide)) (dt t_H_passDay 29 rfl) rfl hf (fun hf => ?_) (fun hf => ?_)
    · exact SW_fgt [true, true, false] rfl (hex σ hf ok)
    · refine SW_aload_n h rfl (dt t_H_passDay 30 rfl) ?_
      refine gR h cf2 o1 f2_1 j1_1 lX2_22 (dt t_H_passDay 31 rfl) ?_
      refine SW_iconst h (dt t_H_passDay 32 rfl) ?_
      refine SW_iload_n h rfl (dt t_H_passDay 33 rfl) ?_
      refine SW_iadd h (dt t_H_passDay 34 rfl) ?_
      refine SW_aload_n h rfl (dt t_H_passDay 35 rfl) ?_
      refine gR h cf2 o1 f2_0 j1_0 lX2_12 (dt t_H_passDay 36 rfl) ?_
      refine SW_iload_n h rfl (dt t_H_passDay 37 rfl) ?_
      obtain ⟨v7, s7, e7, hf⟩ := b1M_of hf
      refine cV h [.int (i32 x2)] [.int (i32 (0 + x2)), .ref (xad X 3)] v_X4_mood kX2_85 o2 (c_J_mood x2 hx2 e7) rfl rfl (by decide) (by decide) rfl (Nat.le_of_ble_eq_true rfl) (dt t_H_passDay 38 rfl) (fun h7 => ?_)
      refine SW_ok (fun ok7 => ?_)
      refine sI h a3 h7 (dt t_H_passDay 39 rfl) hf (fun hf => SW_bm hf (fun s8 ok8 hf => ?_))
      refine SW_aload_n h rfl (dt t_H_passDay 40 rfl) ?_
      refine gR h cf2 o1 f2_1 j1_1 lX2_22 (dt t_H_passDay 41 rfl) ?_
      refine SW_bipush h (dt t_H_passDay 42 rfl) (by decide) ?_
      refine SW_iload_n h rfl (dt t_H_passDay 43 rfl) ?_
      refine SW_iadd h (dt t_H_passDay 44 rfl) ?_
      refine SW_iconst h (dt t_H_passDay 45 rfl) ?_
      refine sI h a3 (by decide) (dt t_H_passDay 46 rfl) hf (fun hf => SW_bm hf (fun s9 ok9 hf => ?_))
      refine SW_iinc (lv2 := [some (.ref (xad X 1)), some (.int (i32 x1)), some (.int (i32 (x2 + 1)))]) h (dt t_H_passDay 47 rfl) rfl (by decide) rfl ?_
      refine SW_goto (tgt := 43) h (dt t_H_passDay 48 rfl) rfl ?_
      refine SW_chk hf (fun h10 hf => ?_)
      exact SW_fgt [true, true, true] rfl (ih (x2 + 1) s9 h10 ok9 hf)
def F_H_passDay  (σ : Mm) : Option (Int × Mm) :=
  b1M (L_H_passDay_4 LF 0 0 σ) fun x1_6 s6 =>
  b0M (L_H_passDay_43 LF 0 s6) fun s11 =>
  if r32 ((s11 3 40) + 1) then
    bindM (st2 s11 3 40 ((s11 3 40) + 1)) fun s13 =>
    some (x1_6, s13)
  else none
set_option maxRecDepth 100000 in
set_option maxHeartbeats 4000000 in
theorem c_H_passDay  {σ : Mm} {a : Int} {σ2 : Mm} (hf : F_H_passDay  σ = some (a, σ2)) : CT yX2_passDay cX2_passDay 3 (some .int) 7 0 (fun ad => [.ref (ad 1)]) σ (r32 a) (some (.int (i32 a))) σ2 := by
  refine MetJ 2 (by decide +kernel) rfl (fun _ => Nat.le_of_ble_eq_true rfl) ?_
  intro X h hR ok
  obtain ⟨res, er⟩ : ∃ z, z = (a, σ2) := ⟨_, rfl⟩
  have hret : ∀ y : Int × Mm, some y = some res → RX X 0 (r32 (y.1)) (some (.int (i32 (y.1)))) y.2 := fun y e => by cases e; cases er; exact hR
  rw [← er] at hf
  clear er hR
  unfold F_H_passDay at hf
  show SW X 0 3 0 [some (.ref (xad X 1)), none, none] [] σ
  refine SW_iconst h (dt t_H_passDay 0 rfl) ?_
  refine SW_istore_n (lv2 := [some (.ref (xad X 1)), some (.int (i32 0)), none]) h (dt t_H_passDay 1 rfl) (by decide) rfl ?_
  refine SW_iconst h (dt t_H_passDay 2 rfl) ?_
  refine SW_istore_n (lv2 := [some (.ref (xad X 1)), some (.int (i32 0)), some (.int (i32 0))]) h (dt t_H_passDay 3 rfl) (by decide) rfl ?_
  obtain ⟨z6, e6, hk6⟩ := b1M_ex hf
  refine SW_fgt [true, true, true] rfl (l_H_passDay_4 h (fun x1_6 s6 hz6 hx1_6 ok6 => ?_) LF 0 0 σ (by decide) (by decide) ok e6)
  have hf := hk6 x1_6 s6 hz6
  refine SW_iconst h (dt t_H_passDay 25 rfl) ?_
  refine SW_istore_n (lv2 := [some (.ref (xad X 1)), some (.int (i32 x1_6)), some (.int (i32 0))]) h (dt t_H_passDay 26 rfl) (by decide) rfl ?_
  obtain ⟨z11, e11, hk11⟩ := b0M_ex hf
  refine SW_fgt [true, true, true] rfl (l_H_passDay_43 h x1_6 hx1_6 (fun s11 hz11 ok11 => ?_) LF 0 s6 (by decide) ok6 e11)
  have hf := hk11 s11 hz11
  refine SW_aload_n h rfl (dt t_H_passDay 49 rfl) ?_
  refine gR h cf2 o1 f2_1 j1_1 lX2_22 (dt t_H_passDay 50 rfl) ?_
  refine SW_bipush h (dt t_H_passDay 51 rfl) (by decide) ?_
  refine SW_dup2 h rfl rfl (dt t_H_passDay 52 rfl) ?_
  refine aIk h a3 (by decide) (dt t_H_passDay 53 rfl) ?_
  refine SW_iconst h (dt t_H_passDay 54 rfl) ?_
  refine SW_iadd h (dt t_H_passDay 55 rfl) ?_
  refine SW_chk hf (fun h12 hf => ?_)
  refine sIk h a3 (by decide) h12 (dt t_H_passDay 56 rfl) (SW_bm hf (fun s13 ok13 hf => ?_))
  refine SW_iload_n h rfl (dt t_H_passDay 57 rfl) ?_
  exact SW_iret h (hret _ hf) (fun _ => hx1_6) rfl (dt t_H_passDay 58 rfl)
def b_A_passDays : List (Nat × Instr × Nat) := [(0, .iconst 0, 1), (1, .istore_n 2, 1), (2, .iload_n 2, 1), (3, .iload_n 1, 1), (4, .if_icmp .ge 49, 3), (7, .aload_n 0, 1), (8, .getfield 10, 3), (11, .getfield 106, 3), (14, .bipush 40, 2), (16, .iaload, 1), (17, .sipush 999, 3), (20, .if_icmp .lt 5, 3), (23, .iconst 0, 1), (24, .ireturn, 1), (25, .aload_n 0, 1), (26, .getfield 19, 3), (29, .aload_n 0, 1), (30, .getfield 10, 3), (33, .getfield 106, 3), (36, .invokevirtual 110, 3), (39, .aload_n 0, 1), (40, .getfield 10, 3), (43, .invokevirtual 122, 3), (46, .pop, 1), (47, .iinc 2 1, 3), (50, .goto (-48), 3), (53, .iconst 1, 1), (54, .ireturn, 1)]
theorem t_A_passDays : DT cX10_passDays b_A_passDays := DT.of (by decide +kernel)
def L_A_passDays_2 : Nat → Int → Int → Mm → Option ((Int × Mm) ⊕ (Mm))
  | 0, _, _, _ => none
  | n + 1, x1, x2, σ =>
    if x1 ≤ x2 then
      some (.inr σ)
    else
      if σ 3 40 < 999 then
        b0M (F_S_keep 58 σ) fun s1 =>
        b1M (F_H_passDay  s1) fun v2 s2 =>
        if r32 (x2 + 1) then
          L_A_passDays_2 n x1 (x2 + 1) s2
        else none
      else
        some (.inl (0, σ))
set_option maxRecDepth 100000 in
set_option maxHeartbeats 4000000 in
theorem l_A_passDays_2 {X : Cx} (h : CX X 0 cX10_passDays 3 8 (some .boolean) RX10) (x1 : Int) (hx1 : r32 x1) {res : (Int × Mm) ⊕ (Mm)} (hret : ∀ y : Int × Mm, some (.inl y) = some res → RX X 0 (y.1 = 0 ∨ y.1 = 1) (some (.int (i32 (y.1)))) y.2) (hex : ∀  (σ : Mm) (hz : some (.inr σ) = some res)  (ok : okM σ), SW X 0 3 53 [none, none, none] [] σ) : ∀ (n : Nat) (x2 : Int) (σ : Mm) (hx2 : r32 x2) (ok : okM σ) (hf : L_A_passDays_2 n x1 x2 σ = some res), SW X 0 3 2 [some (.ref (xad X 0)), some (.int (i32 x1)), some (.int (i32 x2))] [] σ := by
  intro n
  induction n with
  | zero => intro x2 σ hx2 ok hf; exact absurd hf (by simp [L_A_passDays_2])
  | succ n ih =>
    intro x2 σ hx2 ok hf
    rw [L_A_passDays_2] at hf
    refine SW_iload_n h rfl (dt t_A_passDays 2 rfl) ?_
    refine SW_iload_n h rfl (dt t_A_passDays 3 rfl) ?_
    refine SW_icmp_ge (tgt := 53) h (fun _ => hx2) (fun _ => hx1) (dt t_A_passDays 4 rfl) rfl hf (fun hf => ?_) (fun hf => ?_)
    · exact SW_fgt [false, false, false] rfl (hex σ hf ok)
    · refine SW_aload_n h rfl (dt t_A_passDays 5 rfl) ?_
      refine gR h cf10 o0 f10_0 j0_0 lX10_10 (dt t_A_passDays 6 rfl) ?_
      refine gR h cf2 o1 f2_1 j1_1 lX10_106 (dt t_A_passDays 7 rfl) ?_
      refine SW_bipush h (dt t_A_passDays 8 rfl) (by decide) ?_
      refine aIk h a3 (by decide) (dt t_A_passDays 9 rfl) ?_
      refine SW_sipush h (dt t_A_passDays 10 rfl) (by decide) ?_
      refine SW_icmp_lt (tgt := 25) h (fun _ => (okI ok 3 40 (IsA.n3 a3 (by decide)))) (fun _ => (by decide)) (dt t_A_passDays 11 rfl) rfl hf (fun hf => ?_) (fun hf => ?_)
      · refine SW_aload_n h rfl (dt t_A_passDays 14 rfl) ?_
        refine gR h cf10 o0 f10_1 j0_1 lX10_19 (dt t_A_passDays 15 rfl) ?_
        refine SW_aload_n h rfl (dt t_A_passDays 16 rfl) ?_
        refine gR h cf10 o0 f10_0 j0_0 lX10_10 (dt t_A_passDays 17 rfl) ?_
        refine gR h cf2 o1 f2_1 j1_1 lX10_106 (dt t_A_passDays 18 rfl) ?_
        obtain ⟨s1, e1, hf⟩ := b0M_of hf
        refine cVv h [.ref (xad X 3)] [] v_X8_keep kX10_110 o58 (c_S_keep 58 o58 e1) rfl rfl (by decide) (by decide) rfl (Nat.le_of_ble_eq_true rfl) (dt t_A_passDays 19 rfl) (fun h1 => ?_)
        refine SW_ok (fun ok1 => ?_)
        refine SW_aload_n h rfl (dt t_A_passDays 20 rfl) ?_
        refine gR h cf10 o0 f10_0 j0_0 lX10_10 (dt t_A_passDays 21 rfl) ?_
        obtain ⟨v2, s2, e2, hf⟩ := b1M_of hf
        refine cV h [] [] v_X2_passDay kX10_122 o1 (c_H_passDay  e2) rfl rfl (by decide) (by decide) rfl (Nat.le_of_ble_eq_true rfl) (dt t_A_passDays 22 rfl) (fun h2 => ?_)
        refine SW_ok (fun ok2 => ?_)
        refine SW_pop h rfl (dt t_A_passDays 23 rfl) ?_
        refine SW_iinc (lv2 := [some (.ref (xad X 0)), some (.int (i32 x1)), some (.int (i32 (x2 + 1)))]) h (dt t_A_passDays 24 rfl) rfl (by decide) rfl ?_
        refine SW_goto (tgt := 2) h (dt t_A_passDays 25 rfl) rfl ?_
        refine SW_chk hf (fun h3 hf => ?_)
        exact SW_fgt [true, true, true] rfl (ih (x2 + 1) s2 h3 ok2 hf)
      · refine SW_iconst h (dt t_A_passDays 12 rfl) ?_
        exact SW_zret h (hret _ hf) (by decide) rfl (dt t_A_passDays 13 rfl)
def F_A_passDays (x1 : Int) (σ : Mm) : Option (Int × Mm) :=
  b0MS (L_A_passDays_2 LF x1 0 σ) (fun y => some y) fun s4 =>
  some (1, s4)
set_option maxRecDepth 100000 in
set_option maxHeartbeats 4000000 in
theorem c_A_passDays (x1 : Int) (hx1 : r32 x1) {σ : Mm} {a : Int} {σ2 : Mm} (hf : F_A_passDays x1 σ = some (a, σ2)) : CT yX10_passDays cX10_passDays 3 (some .boolean) 8 0 (fun ad => [.ref (ad 0), .int (i32 x1)]) σ (a = 0 ∨ a = 1) (some (.int (i32 a))) σ2 := by
  refine MetJ 1 (by decide +kernel) rfl (fun _ => Nat.le_of_ble_eq_true rfl) ?_
  intro X h hR ok
  obtain ⟨res, er⟩ : ∃ z, z = (a, σ2) := ⟨_, rfl⟩
  have hret : ∀ y : Int × Mm, some y = some res → RX X 0 (y.1 = 0 ∨ y.1 = 1) (some (.int (i32 (y.1)))) y.2 := fun y e => by cases e; cases er; exact hR
  rw [← er] at hf
  clear er hR
  unfold F_A_passDays at hf
  show SW X 0 3 0 [some (.ref (xad X 0)), some (.int (i32 x1)), none] [] σ
  refine SW_iconst h (dt t_A_passDays 0 rfl) ?_
  refine SW_istore_n (lv2 := [some (.ref (xad X 0)), some (.int (i32 x1)), some (.int (i32 0))]) h (dt t_A_passDays 1 rfl) (by decide) rfl ?_
  obtain ⟨z4, e4, g4, hk4⟩ := b0MS_of hf
  refine SW_fgt [true, true, true] rfl (l_A_passDays_2 h x1 hx1 (fun y e => hret y (g4 y (Option.some.inj e).symm)) (fun s4 hz4 ok4 => ?_) LF 0 σ (by decide) ok e4)
  have hf := hk4 s4 (Option.some.inj hz4).symm
  refine SW_iconst h (dt t_A_passDays 26 rfl) ?_
  exact SW_zret h (hret _ hf) (by decide) rfl (dt t_A_passDays 27 rfl)
def b_A_day : List (Nat × Instr × Nat) := [(0, .iload_n 1, 1), (1, .iconst 1, 1), (2, .if_icmp .lt 27, 3), (5, .iload_n 1, 1), (6, .bipush 60, 2), (8, .if_icmp .gt 21, 3), (11, .aload_n 0, 1), (12, .getfield 10, 3), (15, .getfield 106, 3), (18, .bipush 40, 2), (20, .iaload, 1), (21, .iload_n 1, 1), (22, .iadd, 1), (23, .sipush 999, 3), (26, .if_icmp .le 6, 3), (29, .ldc 118, 2), (31, .ireturn, 1), (32, .aload_n 0, 1), (33, .iload_n 1, 1), (34, .invokevirtual 119, 3), (37, .pop, 1), (38, .aload_n 0, 1), (39, .getfield 10, 3), (42, .getfield 106, 3), (45, .bipush 41, 2), (47, .iaload, 1), (48, .ireturn, 1)]
theorem t_A_day : DT cX10_day b_A_day := DT.of (by decide +kernel)
def F_A_day (x1 : Int) (σ : Mm) : Option (Int × Mm) :=
  if x1 < 1 then
    some ((-10000000), σ)
  else
    if 60 < x1 then
      some ((-10000000), σ)
    else
      if r32 ((σ 3 40) + x1) then
        if (σ 3 40) + x1 ≤ 999 then
          b1M (F_A_passDays x1 σ) fun v2 s2 =>
          some (s2 3 41, s2)
        else
          some ((-10000000), σ)
      else none
set_option maxRecDepth 100000 in
set_option maxHeartbeats 4000000 in
theorem c_A_day (x1 : Int) (hx1 : r32 x1) {σ : Mm} {a : Int} {σ2 : Mm} (hf : F_A_day x1 σ = some (a, σ2)) : CT yX10_day cX10_day 2 (some .int) 9 0 (fun ad => [.ref (ad 0), .int (i32 x1)]) σ (r32 a) (some (.int (i32 a))) σ2 := by
  refine MetJ 0 (by decide +kernel) rfl (fun _ => Nat.le_of_ble_eq_true rfl) ?_
  intro X h hR ok
  obtain ⟨res, er⟩ : ∃ z, z = (a, σ2) := ⟨_, rfl⟩
  have hret : ∀ y : Int × Mm, some y = some res → RX X 0 (r32 (y.1)) (some (.int (i32 (y.1)))) y.2 := fun y e => by cases e; cases er; exact hR
  rw [← er] at hf
  clear er hR
  unfold F_A_day at hf
  show SW X 0 2 0 [some (.ref (xad X 0)), some (.int (i32 x1))] [] σ
  refine SW_iload_n h rfl (dt t_A_day 0 rfl) ?_
  refine SW_iconst h (dt t_A_day 1 rfl) ?_
  refine SW_icmp_lt (tgt := 29) h (fun _ => hx1) (fun _ => (by decide)) (dt t_A_day 2 rfl) rfl hf (fun hf => ?_) (fun hf => ?_)
  · refine SW_ldc (n := -10000000) h nX10_118 (by decide) (dt t_A_day 15 rfl) ?_
    exact SW_iret h (hret _ hf) (fun _ => (by decide)) rfl (dt t_A_day 16 rfl)
  · refine SW_iload_n h rfl (dt t_A_day 3 rfl) ?_
    refine SW_bipush h (dt t_A_day 4 rfl) (by decide) ?_
    refine SW_icmp_gt (tgt := 29) h (fun _ => hx1) (fun _ => (by decide)) (dt t_A_day 5 rfl) rfl hf (fun hf => ?_) (fun hf => ?_)
    · refine SW_ldc (n := -10000000) h nX10_118 (by decide) (dt t_A_day 15 rfl) ?_
      exact SW_iret h (hret _ hf) (fun _ => (by decide)) rfl (dt t_A_day 16 rfl)
    · refine SW_aload_n h rfl (dt t_A_day 6 rfl) ?_
      refine gR h cf10 o0 f10_0 j0_0 lX10_10 (dt t_A_day 7 rfl) ?_
      refine gR h cf2 o1 f2_1 j1_1 lX10_106 (dt t_A_day 8 rfl) ?_
      refine SW_bipush h (dt t_A_day 9 rfl) (by decide) ?_
      refine aIk h a3 (by decide) (dt t_A_day 10 rfl) ?_
      refine SW_iload_n h rfl (dt t_A_day 11 rfl) ?_
      refine SW_iadd h (dt t_A_day 12 rfl) ?_
      refine SW_sipush h (dt t_A_day 13 rfl) (by decide) ?_
      refine SW_chk hf (fun h1 hf => ?_)
      refine SW_icmp_le (tgt := 32) h (fun _ => h1) (fun _ => (by decide)) (dt t_A_day 14 rfl) rfl hf (fun hf => ?_) (fun hf => ?_)
      · refine SW_aload_n h rfl (dt t_A_day 17 rfl) ?_
        refine SW_iload_n h rfl (dt t_A_day 18 rfl) ?_
        obtain ⟨v2, s2, e2, hf⟩ := b1M_of hf
        refine cV h [.int (i32 x1)] [] v_X10_passDays kX10_119 o0 (c_A_passDays x1 hx1 e2) rfl rfl (by decide) (by decide) rfl (Nat.le_of_ble_eq_true rfl) (dt t_A_day 19 rfl) (fun h2 => ?_)
        refine SW_ok (fun ok2 => ?_)
        refine SW_pop h rfl (dt t_A_day 20 rfl) ?_
        refine SW_aload_n h rfl (dt t_A_day 21 rfl) ?_
        refine gR h cf10 o0 f10_0 j0_0 lX10_10 (dt t_A_day 22 rfl) ?_
        refine gR h cf2 o1 f2_1 j1_1 lX10_106 (dt t_A_day 23 rfl) ?_
        refine SW_bipush h (dt t_A_day 24 rfl) (by decide) ?_
        refine aIk h a3 (by decide) (dt t_A_day 25 rfl) ?_
        exact SW_iret h (hret _ hf) (fun _ => (okI ok2 3 41 (IsA.n3 a3 (by decide)))) rfl (dt t_A_day 26 rfl)
      · refine SW_ldc (n := -10000000) h nX10_118 (by decide) (dt t_A_day 15 rfl) ?_
        exact SW_iret h (hret _ hf) (fun _ => (by decide)) rfl (dt t_A_day 16 rfl)
def b_A_isBank : List (Nat × Instr × Nat) := [(0, .iload_n 0, 1), (1, .ifCond .lt 13, 3), (4, .iload_n 0, 1), (5, .bipush 6, 2), (7, .if_icmp .ge 7, 3), (10, .iconst 1, 1), (11, .goto 4, 3), (14, .iconst 0, 1), (15, .ireturn, 1)]
theorem t_A_isBank : DT cX10_isBank b_A_isBank := DT.of (by decide +kernel)
def F_A_isBank (x0 : Int) : Option (Int) :=
  if x0 < 0 then
    some 0
  else
    if 6 ≤ x0 then
      some 0
    else
      some 1
set_option maxRecDepth 100000 in
set_option maxHeartbeats 4000000 in
theorem c_A_isBank (x0 : Int) (hx0 : r32 x0) {σ : Mm} {a : Int} (hf : F_A_isBank x0 = some a) : CT yX10_isBank cX10_isBank 1 (some .boolean) 0 0 (fun ad => [.int (i32 x0)]) σ (a = 0 ∨ a = 1) (some (.int (i32 a))) σ := by
  refine MetJ 0 (by decide +kernel) rfl (fun _ => Nat.le_of_ble_eq_true rfl) ?_
  intro X h hR ok
  obtain ⟨res, er⟩ : ∃ z, z = a := ⟨_, rfl⟩
  have hret : ∀ y : Int, some y = some res → RX X 0 (y = 0 ∨ y = 1) (some (.int (i32 (y)))) σ := fun y e => by cases e; cases er; exact hR
  rw [← er] at hf
  clear er hR
  unfold F_A_isBank at hf
  show SW X 0 1 0 [some (.int (i32 x0))] [] σ
  refine SW_iload_n h rfl (dt t_A_isBank 0 rfl) ?_
  refine SW_if_lt (tgt := 14) h (fun _ => hx0) (dt t_A_isBank 1 rfl) rfl hf (fun hf => ?_) (fun hf => ?_)
  · refine SW_iconst h (dt t_A_isBank 7 rfl) ?_
    exact SW_zret h (hret _ hf) (by decide) rfl (dt t_A_isBank 8 rfl)
  · refine SW_iload_n h rfl (dt t_A_isBank 2 rfl) ?_
    refine SW_bipush h (dt t_A_isBank 3 rfl) (by decide) ?_
    refine SW_icmp_ge (tgt := 14) h (fun _ => hx0) (fun _ => (by decide)) (dt t_A_isBank 4 rfl) rfl hf (fun hf => ?_) (fun hf => ?_)
    · refine SW_iconst h (dt t_A_isBank 7 rfl) ?_
      exact SW_zret h (hret _ hf) (by decide) rfl (dt t_A_isBank 8 rfl)
    · refine SW_iconst h (dt t_A_isBank 5 rfl) ?_
      refine SW_goto (tgt := 15) h (dt t_A_isBank 6 rfl) rfl ?_
      exact SW_zret h (hret _ hf) (by decide) rfl (dt t_A_isBank 8 rfl)
def b_A_debt : List (Nat × Instr × Nat) := [(0, .iload_n 1, 1), (1, .invokestatic 299, 3), (4, .ifCond .eq 22, 3), (7, .iload_n 2, 1), (8, .invokestatic 299, 3), (11, .ifCond .eq 15, 3), (14, .iload_n 1, 1), (15, .iload_n 2, 1), (16, .if_icmp .eq 10, 3), (19, .iload_n 3, 1), (20, .invokestatic 246, 3), (23, .ifCond .ne 5, 3), (26, .iconst 0, 1), (27, .ireturn, 1), (28, .aload_n 0, 1), (29, .getfield 62, 3), (32, .getfield 302, 3), (35, .iload_n 1, 1), (36, .bipush 6, 2), (38, .imul, 1), (39, .iload_n 2, 1), (40, .iadd, 1), (41, .iload_n 3, 1), (42, .iastore, 1), (43, .iconst 1, 1), (44, .ireturn, 1)]
theorem t_A_debt : DT cX10_debt b_A_debt := DT.of (by decide +kernel)
def F_A_debt (x1 : Int) (x2 : Int) (x3 : Int) (σ : Mm) : Option (Int × Mm) :=
  b1 (F_A_isBank x1) fun v1 =>
  if v1 = 0 then
    some (0, σ)
  else
    b1 (F_A_isBank x2) fun v2 =>
    if v2 = 0 then
      some (0, σ)
    else
      if x1 = x2 then
        some (0, σ)
      else
        b1 (F_A_isNumber x3) fun v3 =>
        if v3 = 0 then
          some (0, σ)
        else
          if 0 ≤ (x1 * 6) + x2 ∧ (x1 * 6) + x2 < 36 then
            bindM (st2 σ 130 (((x1 * 6) + x2).toNat) x3) fun s4 =>
            some (1, s4)
          else none
set_option maxRecDepth 100000 in
set_option maxHeartbeats 4000000 in
theorem c_A_debt (x1 : Int) (hx1 : r32 x1) (x2 : Int) (hx2 : r32 x2) (x3 : Int) (hx3 : r32 x3) {σ : Mm} {a : Int} {σ2 : Mm} (hf : F_A_debt x1 x2 x3 σ = some (a, σ2)) : CT yX10_debt cX10_debt 4 (some .boolean) 1 0 (fun ad => [.ref (ad 0), .int (i32 x1), .int (i32 x2), .int (i32 x3)]) σ (a = 0 ∨ a = 1) (some (.int (i32 a))) σ2 := by
  refine MetJ 0 (by decide +kernel) rfl (fun _ => Nat.le_of_ble_eq_true rfl) ?_
  intro X h hR ok
  obtain ⟨res, er⟩ : ∃ z, z = (a, σ2) := ⟨_, rfl⟩
  have hret : ∀ y : Int × Mm, some y = some res → RX X 0 (y.1 = 0 ∨ y.1 = 1) (some (.int (i32 (y.1)))) y.2 := fun y e => by cases e; cases er; exact hR
  rw [← er] at hf
  clear er hR
  unfold F_A_debt at hf
  show SW X 0 4 0 [some (.ref (xad X 0)), some (.int (i32 x1)), some (.int (i32 x2)), some (.int (i32 x3))] [] σ
  refine SW_iload_n h rfl (dt t_A_debt 0 rfl) ?_
  obtain ⟨v1, e1, hf⟩ := b1_of hf
  refine cS h [.int (i32 x1)] [] v_X10_isBank kX10_299 (c_A_isBank x1 hx1 e1) rfl rfl (by decide) (by decide) rfl (Nat.le_of_ble_eq_true rfl) (dt t_A_debt 1 rfl) (fun h1 => ?_)
  refine SW_if_eq (tgt := 26) h (fun _ => (r_zo h1)) (dt t_A_debt 2 rfl) rfl hf (fun hf => ?_) (fun hf => ?_)
  · refine SW_iconst h (dt t_A_debt 12 rfl) ?_
    exact SW_zret h (hret _ hf) (by decide) rfl (dt t_A_debt 13 rfl)
  · refine SW_iload_n h rfl (dt t_A_debt 3 rfl) ?_
    obtain ⟨v2, e2, hf⟩ := b1_of hf
    refine cS h [.int (i32 x2)] [] v_X10_isBank kX10_299 (c_A_isBank x2 hx2 e2) rfl rfl (by decide) (by decide) rfl (Nat.le_of_ble_eq_true rfl) (dt t_A_debt 4 rfl) (fun h2 => ?_)
    refine SW_if_eq (tgt := 26) h (fun _ => (r_zo h2)) (dt t_A_debt 5 rfl) rfl hf (fun hf => ?_) (fun hf => ?_)
    · refine SW_iconst h (dt t_A_debt 12 rfl) ?_
      exact SW_zret h (hret _ hf) (by decide) rfl (dt t_A_debt 13 rfl)
    · refine SW_iload_n h rfl (dt t_A_debt 6 rfl) ?_
      refine SW_iload_n h rfl (dt t_A_debt 7 rfl) ?_
      refine SW_icmp_eq (tgt := 26) h (fun _ => hx1) (fun _ => hx2) (dt t_A_debt 8 rfl) rfl hf (fun hf => ?_) (fun hf => ?_)
      · refine SW_iconst h (dt t_A_debt 12 rfl) ?_
        exact SW_zret h (hret _ hf) (by decide) rfl (dt t_A_debt 13 rfl)
      · refine SW_iload_n h rfl (dt t_A_debt 9 rfl) ?_
        obtain ⟨v3, e3, hf⟩ := b1_of hf
        refine cS h [.int (i32 x3)] [] v_X10_isNumber kX10_246 (c_A_isNumber x3 hx3 e3) rfl rfl (by decide) (by decide) rfl (Nat.le_of_ble_eq_true rfl) (dt t_A_debt 10 rfl) (fun h3 => ?_)
        refine SW_if_ne (tgt := 28) h (fun _ => (r_zo h3)) (dt t_A_debt 11 rfl) rfl hf (fun hf => ?_) (fun hf => ?_)
        · refine SW_iconst h (dt t_A_debt 12 rfl) ?_
          exact SW_zret h (hret _ hf) (by decide) rfl (dt t_A_debt 13 rfl)
        · refine SW_aload_n h rfl (dt t_A_debt 14 rfl) ?_
          refine gR h cf10 o0 f10_6 j0_6 lX10_62 (dt t_A_debt 15 rfl) ?_
          refine gR h cf0 o129 f0_0 j129_0 lX10_302 (dt t_A_debt 16 rfl) ?_
          refine SW_iload_n h rfl (dt t_A_debt 17 rfl) ?_
          refine SW_bipush h (dt t_A_debt 18 rfl) (by decide) ?_
          refine SW_imul h (dt t_A_debt 19 rfl) ?_
          refine SW_iload_n h rfl (dt t_A_debt 20 rfl) ?_
          refine SW_iadd h (dt t_A_debt 21 rfl) ?_
          refine SW_iload_n h rfl (dt t_A_debt 22 rfl) ?_
          refine sI h a130 hx3 (dt t_A_debt 23 rfl) hf (fun hf => SW_bm hf (fun s4 ok4 hf => ?_))
          refine SW_iconst h (dt t_A_debt 24 rfl) ?_
          exact SW_zret h (hret _ hf) (by decide) rfl (dt t_A_debt 25 rfl)
def b_A_end : List (Nat × Instr × Nat) := [(0, .iload_n 1, 1), (1, .ifCond .lt 14, 3), (4, .iload_n 1, 1), (5, .aload_n 0, 1), (6, .getfield 26, 3), (9, .getfield 135, 3), (12, .if_icmp .le 5, 3), (15, .iconst (-1), 1), (16, .ireturn, 1), (17, .aload_n 0, 1), (18, .getfield 26, 3), (21, .iload_n 1, 1), (22, .putfield 135, 3), (25, .iload_n 1, 1), (26, .ireturn, 1)]
theorem t_A_end : DT cX10_end b_A_end := DT.of (by decide +kernel)
def F_A_end (x1 : Int) (σ : Mm) : Option (Int × Mm) :=
  if x1 < 0 then
    some ((-1), σ)
  else
    if x1 ≤ σ 90 1 then
      bindM (st2 σ 90 1 x1) fun s2 =>
      some (x1, s2)
    else
      some ((-1), σ)
set_option maxRecDepth 100000 in
set_option maxHeartbeats 4000000 in
theorem c_A_end (x1 : Int) (hx1 : r32 x1) {σ : Mm} {a : Int} {σ2 : Mm} (hf : F_A_end x1 σ = some (a, σ2)) : CT yX10_end cX10_end 2 (some .int) 0 0 (fun ad => [.ref (ad 0), .int (i32 x1)]) σ (r32 a) (some (.int (i32 a))) σ2 := by
  refine MetJ 0 (by decide +kernel) rfl (fun _ => Nat.le_of_ble_eq_true rfl) ?_
  intro X h hR ok
  obtain ⟨res, er⟩ : ∃ z, z = (a, σ2) := ⟨_, rfl⟩
  have hret : ∀ y : Int × Mm, some y = some res → RX X 0 (r32 (y.1)) (some (.int (i32 (y.1)))) y.2 := fun y e => by cases e; cases er; exact hR
  rw [← er] at hf
  clear er hR
  unfold F_A_end at hf
  show SW X 0 2 0 [some (.ref (xad X 0)), some (.int (i32 x1))] [] σ
  refine SW_iload_n h rfl (dt t_A_end 0 rfl) ?_
  refine SW_if_lt (tgt := 15) h (fun _ => hx1) (dt t_A_end 1 rfl) rfl hf (fun hf => ?_) (fun hf => ?_)
  · refine SW_iconst h (dt t_A_end 7 rfl) ?_
    exact SW_iret h (hret _ hf) (fun _ => (by decide)) rfl (dt t_A_end 8 rfl)
  · refine SW_iload_n h rfl (dt t_A_end 2 rfl) ?_
    refine SW_aload_n h rfl (dt t_A_end 3 rfl) ?_
    refine gR h cf10 o0 f10_2 j0_2 lX10_26 (dt t_A_end 4 rfl) ?_
    refine gI h cf5 o90 f5_1 lX10_135 (dt t_A_end 5 rfl) ?_
    refine SW_icmp_le (tgt := 17) h (fun _ => hx1) (fun _ => (okI ok 90 1 (IsO.n3 o90))) (dt t_A_end 6 rfl) rfl hf (fun hf => ?_) (fun hf => ?_)
    · refine SW_aload_n h rfl (dt t_A_end 9 rfl) ?_
      refine gR h cf10 o0 f10_2 j0_2 lX10_26 (dt t_A_end 10 rfl) ?_
      refine SW_iload_n h rfl (dt t_A_end 11 rfl) ?_
      refine pI h cf5 o90 f5_1 hx1 lX10_135 (dt t_A_end 12 rfl) (SW_bm hf (fun s2 ok2 hf => ?_))
      refine SW_iload_n h rfl (dt t_A_end 13 rfl) ?_
      exact SW_iret h (hret _ hf) (fun _ => hx1) rfl (dt t_A_end 14 rfl)
    · refine SW_iconst h (dt t_A_end 7 rfl) ?_
      exact SW_iret h (hret _ hf) (fun _ => (by decide)) rfl (dt t_A_end 8 rfl)
def b_A_fault : List (Nat × Instr × Nat) := [(0, .aload_n 0, 1), (1, .getfield 26, 3), (4, .getfield 149, 3), (7, .ifCond .ne 5, 3), (10, .iconst (-1), 1), (11, .ireturn, 1), (12, .iload_n 1, 1), (13, .lookupswitch 43 #[(0, 27), (1, 35)], 27), (40, .aload_n 0, 1), (41, .getfield 26, 3), (44, .getfield 153, 3), (47, .ireturn, 1), (48, .aload_n 0, 1), (49, .getfield 26, 3), (52, .getfield 156, 3), (55, .ireturn, 1), (56, .iconst (-1), 1), (57, .ireturn, 1)]
theorem t_A_fault : DT cX10_fault b_A_fault := DT.of (by decide +kernel)
def F_A_fault (x1 : Int) (σ : Mm) : Option (Int) :=
  if σ 90 2 = 0 then
    some ((-1))
  else
    if x1 = 0 then
      some (σ 90 3)
    else
      if x1 = 1 then
        some (σ 90 4)
      else
        some ((-1))
set_option maxRecDepth 100000 in
set_option maxHeartbeats 4000000 in
theorem c_A_fault (x1 : Int) (hx1 : r32 x1) {σ : Mm} {a : Int} (hf : F_A_fault x1 σ = some a) : CT yX10_fault cX10_fault 2 (some .int) 0 0 (fun ad => [.ref (ad 0), .int (i32 x1)]) σ (r32 a) (some (.int (i32 a))) σ := by
  refine MetJ 0 (by decide +kernel) rfl (fun _ => Nat.le_of_ble_eq_true rfl) ?_
  intro X h hR ok
  obtain ⟨res, er⟩ : ∃ z, z = a := ⟨_, rfl⟩
  have hret : ∀ y : Int, some y = some res → RX X 0 (r32 (y)) (some (.int (i32 (y)))) σ := fun y e => by cases e; cases er; exact hR
  rw [← er] at hf
  clear er hR
  unfold F_A_fault at hf
  show SW X 0 2 0 [some (.ref (xad X 0)), some (.int (i32 x1))] [] σ
  refine SW_aload_n h rfl (dt t_A_fault 0 rfl) ?_
  refine gR h cf10 o0 f10_2 j0_2 lX10_26 (dt t_A_fault 1 rfl) ?_
  refine gZ h cf5 o90 f5_2 lX10_149 (dt t_A_fault 2 rfl) ?_
  refine SW_if_ne (tgt := 12) h (fun _ => (okI ok 90 2 (IsO.n3 o90))) (dt t_A_fault 3 rfl) rfl hf (fun hf => ?_) (fun hf => ?_)
  · refine SW_iconst h (dt t_A_fault 4 rfl) ?_
    exact SW_iret h (hret _ hf) (fun _ => (by decide)) rfl (dt t_A_fault 5 rfl)
  · refine SW_iload_n h rfl (dt t_A_fault 6 rfl) ?_
    refine SW_ite hf (fun h1 hf => ?_) (fun h1 hf => ?_)
    · refine SW_look (off := 27) (tgt := 40) h (fun _ => hx1) (dt t_A_fault 7 rfl) (by decide) (by rw [h1]; rfl) rfl ?_
      refine SW_aload_n h rfl (dt t_A_fault 8 rfl) ?_
      refine gR h cf10 o0 f10_2 j0_2 lX10_26 (dt t_A_fault 9 rfl) ?_
      refine gI h cf5 o90 f5_3 lX10_153 (dt t_A_fault 10 rfl) ?_
      exact SW_iret h (hret _ hf) (fun _ => (okI ok 90 3 (IsO.n3 o90))) rfl (dt t_A_fault 11 rfl)
    · refine SW_ite hf (fun h2 hf => ?_) (fun h2 hf => ?_)
      · refine SW_look (off := 35) (tgt := 48) h (fun _ => hx1) (dt t_A_fault 7 rfl) (by decide) (by rw [h2]; rfl) rfl ?_
        refine SW_aload_n h rfl (dt t_A_fault 12 rfl) ?_
        refine gR h cf10 o0 f10_2 j0_2 lX10_26 (dt t_A_fault 13 rfl) ?_
        refine gI h cf5 o90 f5_4 lX10_156 (dt t_A_fault 14 rfl) ?_
        exact SW_iret h (hret _ hf) (fun _ => (okI ok 90 4 (IsO.n3 o90))) rfl (dt t_A_fault 15 rfl)
      · refine SW_look (off := 43) (tgt := 56) h (fun _ => hx1) (dt t_A_fault 7 rfl) (by decide) (by simp [Op.lookupswitch.offset, Ne.symm h1, Ne.symm h2]) rfl ?_
        refine SW_iconst h (dt t_A_fault 16 rfl) ?_
        exact SW_iret h (hret _ hf) (fun _ => (by decide)) rfl (dt t_A_fault 17 rfl)
def b_R_take : List (Nat × Instr × Nat) := [(0, .bipush 24, 2), (2, .istore_n 2, 1), (3, .iload_n 2, 1), (4, .ifCond .lt 45, 3), (7, .aload_n 0, 1), (8, .getfield 18, 3), (11, .sipush 300, 3), (14, .if_icmp .ge 29, 3), (17, .aload_n 0, 1), (18, .getfield 9, 3), (21, .aload_n 0, 1), (22, .getfield 18, 3), (25, .iload_n 1, 1), (26, .iload_n 2, 1), (27, .iushr, 1), (28, .sipush 255, 3), (31, .iand, 1), (32, .iastore, 1), (33, .aload_n 0, 1), (34, .dup, 1), (35, .getfield 18, 3), (38, .iconst 1, 1), (39, .iadd, 1), (40, .putfield 18, 3), (43, .iinc 2 (-8), 3), (46, .goto (-43), 3), (49, .return_, 1)]
theorem t_R_take : DT cX5_take b_R_take := DT.of (by decide +kernel)
def L_R_take_3 : Nat → Int → Int → Mm → Option (Mm)
  | 0, _, _, _ => none
  | n + 1, x1, x2, σ =>
    if x2 < 0 then
      some σ
    else
      bindM (fun  (t1 : Mm) =>
        if r32 (x2 + (-8)) then
          L_R_take_3 n x1 (x2 + (-8)) t1
        else none) fun J1 =>
      if 300 ≤ σ 90 1 then
        J1 σ
      else
        if 0 ≤ σ 90 1 ∧ σ 90 1 < 300 then
          bindM (st2 σ 91 ((σ 90 1).toNat) (iand (iushr x1 x2) 255)) fun s3 =>
          if r32 ((s3 90 1) + 1) then
            bindM (st2 s3 90 1 ((s3 90 1) + 1)) fun s6 =>
            J1 s6
          else none
        else none
set_option maxRecDepth 100000 in
set_option maxHeartbeats 4000000 in
theorem l_R_take_3 {X : Cx} (h : CX X 0 cX5_take 3 0 none RX5) (x1 : Int) (hx1 : r32 x1) {res : Mm} (hex : ∀  (σ : Mm) (hz : some σ = some res)  (ok : okM σ), SW X 0 3 49 [none, none, none] [] σ) : ∀ (n : Nat) (x2 : Int) (σ : Mm) (hx2 : r32 x2) (ok : okM σ) (hf : L_R_take_3 n x1 x2 σ = some res), SW X 0 3 3 [some (.ref (xad X 90)), some (.int (i32 x1)), some (.int (i32 x2))] [] σ := by
  intro n
  induction n with
  | zero => intro x2 σ hx2 ok hf; exact absurd hf (by simp [L_R_take_3])
  | succ n ih =>
    intro x2 σ hx2 ok hf
    rw [L_R_take_3] at hf
    refine SW_iload_n h rfl (dt t_R_take 2 rfl) ?_
    refine SW_if_lt (tgt := 49) h (fun _ => hx2) (dt t_R_take 3 rfl) rfl hf (fun hf => ?_) (fun hf => ?_)
    · exact SW_fgt [false, false, false] rfl (hex σ hf ok)
    · refine SW_aload_n h rfl (dt t_R_take 4 rfl) ?_
      refine gI h cf5 o90 f5_1 lX5_18 (dt t_R_take 5 rfl) ?_
      refine SW_sipush h (dt t_R_take 6 rfl) (by decide) ?_
      refine bJ hf (fun J1 e1 hf => ?_)
      have k1 : ∀  (t1 : Mm)  (ot1 : okM t1) (hf : J1 t1 = some res), SW X 0 3 43 [some (.ref (xad X 90)), some (.int (i32 x1)), some (.int (i32 x2))] [] t1 := by
        intro t1 ot1 hf
        rw [e1] at hf
        refine SW_iinc (lv2 := [some (.ref (xad X 90)), some (.int (i32 x1)), some (.int (i32 (x2 + (-8))))]) h (dt t_R_take 24 rfl) rfl (by decide) rfl ?_
        refine SW_goto (tgt := 3) h (dt t_R_take 25 rfl) rfl ?_
        refine SW_chk hf (fun h2 hf => ?_)
        exact SW_fgt [true, true, true] rfl (ih (x2 + (-8)) t1 h2 ot1 hf)
      refine SW_icmp_ge (tgt := 43) h (fun _ => (okI ok 90 1 (IsO.n3 o90))) (fun _ => (by decide)) (dt t_R_take 7 rfl) rfl hf (fun hf => ?_) (fun hf => ?_)
      · exact SW_fgt [true, true, true] rfl (k1 σ ok hf)
      · refine SW_aload_n h rfl (dt t_R_take 8 rfl) ?_
        refine gR h cf5 o90 f5_0 j90_0 lX5_9 (dt t_R_take 9 rfl) ?_
        refine SW_aload_n h rfl (dt t_R_take 10 rfl) ?_
        refine gI h cf5 o90 f5_1 lX5_18 (dt t_R_take 11 rfl) ?_
        refine SW_iload_n h rfl (dt t_R_take 12 rfl) ?_
        refine SW_iload_n h rfl (dt t_R_take 13 rfl) ?_
        refine SW_iushr h (dt t_R_take 14 rfl) ?_
        refine SW_sipush h (dt t_R_take 15 rfl) (by decide) ?_
        refine SW_iand h (dt t_R_take 16 rfl) ?_
        refine sI h a91 (r_iand _ _) (dt t_R_take 17 rfl) hf (fun hf => SW_bm hf (fun s3 ok3 hf => ?_))
        refine SW_aload_n h rfl (dt t_R_take 18 rfl) ?_
        refine SW_dup h rfl (dt t_R_take 19 rfl) ?_
        refine gI h cf5 o90 f5_1 lX5_18 (dt t_R_take 20 rfl) ?_
        refine SW_iconst h (dt t_R_take 21 rfl) ?_
        refine SW_iadd h (dt t_R_take 22 rfl) ?_
        refine SW_chk hf (fun h5 hf => ?_)
        refine pI h cf5 o90 f5_1 h5 lX5_18 (dt t_R_take 23 rfl) (SW_bm hf (fun s6 ok6 hf => ?_))
        exact SW_fgt [true, true, true] rfl (k1 s6 ok6 hf)
def F_R_take (x1 : Int) (σ : Mm) : Option (Mm) :=
  b0M (L_R_take_3 LF x1 24 σ) fun s7 =>
  some s7
set_option maxRecDepth 100000 in
set_option maxHeartbeats 4000000 in
theorem c_R_take (x1 : Int) (hx1 : r32 x1) {σ : Mm} {σ2 : Mm} (hf : F_R_take x1 σ = some σ2) : CT yX5_take cX5_take 3 none 0 0 (fun ad => [.ref (ad 90), .int (i32 x1)]) σ True none σ2 := by
  refine MetJ 1 (by decide +kernel) rfl (fun _ => Nat.le_of_ble_eq_true rfl) ?_
  intro X h hR ok
  obtain ⟨res, er⟩ : ∃ z, z = σ2 := ⟨_, rfl⟩
  have hret : ∀ y : Mm, some y = some res → RX X 0 True none y := fun y e => by cases e; cases er; exact hR
  rw [← er] at hf
  clear er hR
  unfold F_R_take at hf
  show SW X 0 3 0 [some (.ref (xad X 90)), some (.int (i32 x1)), none] [] σ
  refine SW_bipush h (dt t_R_take 0 rfl) (by decide) ?_
  refine SW_istore_n (lv2 := [some (.ref (xad X 90)), some (.int (i32 x1)), some (.int (i32 24))]) h (dt t_R_take 1 rfl) (by decide) rfl ?_
  obtain ⟨z7, e7, hk7⟩ := b0M_ex hf
  refine SW_fgt [true, true, true] rfl (l_R_take_3 h x1 hx1 (fun s7 hz7 ok7 => ?_) LF 24 σ (by decide) ok e7)
  have hf := hk7 s7 hz7
  exact SW_vret h (hret _ hf) rfl (dt t_R_take 26 rfl)
def b_A_feed : List (Nat × Instr × Nat) := [(0, .aload_n 0, 1), (1, .getfield 26, 3), (4, .getfield 135, 3), (7, .bipush 20, 2), (9, .iadd, 1), (10, .sipush 300, 3), (13, .if_icmp .le 5, 3), (16, .iconst (-1), 1), (17, .ireturn, 1), (18, .aload_n 0, 1), (19, .getfield 26, 3), (22, .iload_n 1, 1), (23, .invokevirtual 138, 3), (26, .aload_n 0, 1), (27, .getfield 26, 3), (30, .iload_n 2, 1), (31, .invokevirtual 138, 3), (34, .aload_n 0, 1), (35, .getfield 26, 3), (38, .iload_n 3, 1), (39, .invokevirtual 138, 3), (42, .aload_n 0, 1), (43, .getfield 26, 3), (46, .iload 4, 2), (48, .invokevirtual 138, 3), (51, .aload_n 0, 1), (52, .getfield 26, 3), (55, .iload 5, 2), (57, .invokevirtual 138, 3), (60, .aload_n 0, 1), (61, .getfield 26, 3), (64, .getfield 135, 3), (67, .ireturn, 1)]
theorem t_A_feed : DT cX10_feed b_A_feed := DT.of (by decide +kernel)
def F_A_feed (x1 : Int) (x2 : Int) (x3 : Int) (x4 : Int) (x5 : Int) (σ : Mm) : Option (Int × Mm) :=
  if r32 ((σ 90 1) + 20) then
    if (σ 90 1) + 20 ≤ 300 then
      b0M (F_R_take x1 σ) fun s2 =>
      b0M (F_R_take x2 s2) fun s3 =>
      b0M (F_R_take x3 s3) fun s4 =>
      b0M (F_R_take x4 s4) fun s5 =>
      b0M (F_R_take x5 s5) fun s6 =>
      some (s6 90 1, s6)
    else
      some ((-1), σ)
  else none
set_option maxRecDepth 100000 in
set_option maxHeartbeats 4000000 in
theorem c_A_feed (x1 : Int) (hx1 : r32 x1) (x2 : Int) (hx2 : r32 x2) (x3 : Int) (hx3 : r32 x3) (x4 : Int) (hx4 : r32 x4) (x5 : Int) (hx5 : r32 x5) {σ : Mm} {a : Int} {σ2 : Mm} (hf : F_A_feed x1 x2 x3 x4 x5 σ = some (a, σ2)) : CT yX10_feed cX10_feed 6 (some .int) 1 0 (fun ad => [.ref (ad 0), .int (i32 x1), .int (i32 x2), .int (i32 x3), .int (i32 x4), .int (i32 x5)]) σ (r32 a) (some (.int (i32 a))) σ2 := by
  refine MetJ 0 (by decide +kernel) rfl (fun _ => Nat.le_of_ble_eq_true rfl) ?_
  intro X h hR ok
  obtain ⟨res, er⟩ : ∃ z, z = (a, σ2) := ⟨_, rfl⟩
  have hret : ∀ y : Int × Mm, some y = some res → RX X 0 (r32 (y.1)) (some (.int (i32 (y.1)))) y.2 := fun y e => by cases e; cases er; exact hR
  rw [← er] at hf
  clear er hR
  unfold F_A_feed at hf
  show SW X 0 6 0 [some (.ref (xad X 0)), some (.int (i32 x1)), some (.int (i32 x2)), some (.int (i32 x3)), some (.int (i32 x4)), some (.int (i32 x5))] [] σ
  refine SW_aload_n h rfl (dt t_A_feed 0 rfl) ?_
  refine gR h cf10 o0 f10_2 j0_2 lX10_26 (dt t_A_feed 1 rfl) ?_
  refine gI h cf5 o90 f5_1 lX10_135 (dt t_A_feed 2 rfl) ?_
  refine SW_bipush h (dt t_A_feed 3 rfl) (by decide) ?_
  refine SW_iadd h (dt t_A_feed 4 rfl) ?_
  refine SW_sipush h (dt t_A_feed 5 rfl) (by decide) ?_
  refine SW_chk hf (fun h1 hf => ?_)
  refine SW_icmp_le (tgt := 18) h (fun _ => h1) (fun _ => (by decide)) (dt t_A_feed 6 rfl) rfl hf (fun hf => ?_) (fun hf => ?_)
  · refine SW_aload_n h rfl (dt t_A_feed 9 rfl) ?_
    refine gR h cf10 o0 f10_2 j0_2 lX10_26 (dt t_A_feed 10 rfl) ?_
    refine SW_iload_n h rfl (dt t_A_feed 11 rfl) ?_
    obtain ⟨s2, e2, hf⟩ := b0M_of hf
    refine cVv h [.int (i32 x1)] [] v_X5_take kX10_138 o90 (c_R_take x1 hx1 e2) rfl rfl (by decide) (by decide) rfl (Nat.le_of_ble_eq_true rfl) (dt t_A_feed 12 rfl) (fun h2 => ?_)
    refine SW_ok (fun ok2 => ?_)
    refine SW_aload_n h rfl (dt t_A_feed 13 rfl) ?_
    refine gR h cf10 o0 f10_2 j0_2 lX10_26 (dt t_A_feed 14 rfl) ?_
    refine SW_iload_n h rfl (dt t_A_feed 15 rfl) ?_
    obtain ⟨s3, e3, hf⟩ := b0M_of hf
    refine cVv h [.int (i32 x2)] [] v_X5_take kX10_138 o90 (c_R_take x2 hx2 e3) rfl rfl (by decide) (by decide) rfl (Nat.le_of_ble_eq_true rfl) (dt t_A_feed 16 rfl) (fun h3 => ?_)
    refine SW_ok (fun ok3 => ?_)
    refine SW_aload_n h rfl (dt t_A_feed 17 rfl) ?_
    refine gR h cf10 o0 f10_2 j0_2 lX10_26 (dt t_A_feed 18 rfl) ?_
    refine SW_iload_n h rfl (dt t_A_feed 19 rfl) ?_
    obtain ⟨s4, e4, hf⟩ := b0M_of hf
    refine cVv h [.int (i32 x3)] [] v_X5_take kX10_138 o90 (c_R_take x3 hx3 e4) rfl rfl (by decide) (by decide) rfl (Nat.le_of_ble_eq_true rfl) (dt t_A_feed 20 rfl) (fun h4 => ?_)
    refine SW_ok (fun ok4 => ?_)
    refine SW_aload_n h rfl (dt t_A_feed 21 rfl) ?_
    refine gR h cf10 o0 f10_2 j0_2 lX10_26 (dt t_A_feed 22 rfl) ?_
    refine SW_iload h rfl (dt t_A_feed 23 rfl) ?_
    obtain ⟨s5, e5, hf⟩ := b0M_of hf
    refine cVv h [.int (i32 x4)] [] v_X5_take kX10_138 o90 (c_R_take x4 hx4 e5) rfl rfl (by decide) (by decide) rfl (Nat.le_of_ble_eq_true rfl) (dt t_A_feed 24 rfl) (fun h5 => ?_)
    refine SW_ok (fun ok5 => ?_)
    refine SW_aload_n h rfl (dt t_A_feed 25 rfl) ?_
    refine gR h cf10 o0 f10_2 j0_2 lX10_26 (dt t_A_feed 26 rfl) ?_
    refine SW_iload h rfl (dt t_A_feed 27 rfl) ?_
    obtain ⟨s6, e6, hf⟩ := b0M_of hf
    refine cVv h [.int (i32 x5)] [] v_X5_take kX10_138 o90 (c_R_take x5 hx5 e6) rfl rfl (by decide) (by decide) rfl (Nat.le_of_ble_eq_true rfl) (dt t_A_feed 28 rfl) (fun h6 => ?_)
    refine SW_ok (fun ok6 => ?_)
    refine SW_aload_n h rfl (dt t_A_feed 29 rfl) ?_
    refine gR h cf10 o0 f10_2 j0_2 lX10_26 (dt t_A_feed 30 rfl) ?_
    refine gI h cf5 o90 f5_1 lX10_135 (dt t_A_feed 31 rfl) ?_
    exact SW_iret h (hret _ hf) (fun _ => (okI ok6 90 1 (IsO.n3 o90))) rfl (dt t_A_feed 32 rfl)
  · refine SW_iconst h (dt t_A_feed 7 rfl) ?_
    exact SW_iret h (hret _ hf) (fun _ => (by decide)) rfl (dt t_A_feed 8 rfl)
def b_H_save : List (Nat × Instr × Nat) := [(0, .aload_n 0, 1), (1, .getfield 22, 3), (4, .iconst 0, 1), (5, .aload_n 0, 1), (6, .getfield 29, 3), (9, .iconst 0, 1), (10, .sipush 165, 3), (13, .invokestatic 37, 3), (16, .return_, 1)]
theorem t_H_save : DT cX2_save b_H_save := DT.of (by decide +kernel)
def F_H_save  (σ : Mm) : Option (Mm) :=
  bindM (stR σ 9 (cpyI (σ 3) (σ 9) 0 0 165)) fun s1 =>
  some s1
set_option maxRecDepth 100000 in
set_option maxHeartbeats 4000000 in
theorem c_H_save  {σ : Mm} {σ2 : Mm} (hf : F_H_save  σ = some σ2) : CT yX2_save cX2_save 1 none 3 0 (fun ad => [.ref (ad 1)]) σ True none σ2 := by
  refine MetJ 0 (by decide +kernel) rfl (fun _ => Nat.le_of_ble_eq_true rfl) ?_
  intro X h hR ok
  obtain ⟨res, er⟩ : ∃ z, z = σ2 := ⟨_, rfl⟩
  have hret : ∀ y : Mm, some y = some res → RX X 0 True none y := fun y e => by cases e; cases er; exact hR
  rw [← er] at hf
  clear er hR
  unfold F_H_save at hf
  show SW X 0 1 0 [some (.ref (xad X 1))] [] σ
  refine SW_aload_n h rfl (dt t_H_save 0 rfl) ?_
  refine gR h cf2 o1 f2_1 j1_1 lX2_22 (dt t_H_save 1 rfl) ?_
  refine SW_iconst h (dt t_H_save 2 rfl) ?_
  refine SW_aload_n h rfl (dt t_H_save 3 rfl) ?_
  refine gR h cf2 o1 f2_3 j1_3 lX2_29 (dt t_H_save 4 rfl) ?_
  refine SW_iconst h (dt t_H_save 5 rfl) ?_
  refine SW_sipush h (dt t_H_save 6 rfl) (by decide) ?_
  refine SW_copy h kX2_37 a3 a9 (by decide) (by decide) (by decide) (by decide) (by decide) (Nat.le_of_ble_eq_true rfl) (dt t_H_save 7 rfl) (SW_bm hf (fun s1 ok1 hf => ?_))
  exact SW_vret h (hret _ hf) rfl (dt t_H_save 8 rfl)
def b_H_restore : List (Nat × Instr × Nat) := [(0, .aload_n 0, 1), (1, .getfield 29, 3), (4, .iconst 0, 1), (5, .aload_n 0, 1), (6, .getfield 22, 3), (9, .iconst 0, 1), (10, .sipush 165, 3), (13, .invokestatic 37, 3), (16, .return_, 1)]
theorem t_H_restore : DT cX2_restore b_H_restore := DT.of (by decide +kernel)
def F_H_restore  (σ : Mm) : Option (Mm) :=
  bindM (stR σ 3 (cpyI (σ 9) (σ 3) 0 0 165)) fun s1 =>
  some s1
set_option maxRecDepth 100000 in
set_option maxHeartbeats 4000000 in
theorem c_H_restore  {σ : Mm} {σ2 : Mm} (hf : F_H_restore  σ = some σ2) : CT yX2_restore cX2_restore 1 none 3 0 (fun ad => [.ref (ad 1)]) σ True none σ2 := by
  refine MetJ 0 (by decide +kernel) rfl (fun _ => Nat.le_of_ble_eq_true rfl) ?_
  intro X h hR ok
  obtain ⟨res, er⟩ : ∃ z, z = σ2 := ⟨_, rfl⟩
  have hret : ∀ y : Mm, some y = some res → RX X 0 True none y := fun y e => by cases e; cases er; exact hR
  rw [← er] at hf
  clear er hR
  unfold F_H_restore at hf
  show SW X 0 1 0 [some (.ref (xad X 1))] [] σ
  refine SW_aload_n h rfl (dt t_H_restore 0 rfl) ?_
  refine gR h cf2 o1 f2_3 j1_3 lX2_29 (dt t_H_restore 1 rfl) ?_
  refine SW_iconst h (dt t_H_restore 2 rfl) ?_
  refine SW_aload_n h rfl (dt t_H_restore 3 rfl) ?_
  refine gR h cf2 o1 f2_1 j1_1 lX2_22 (dt t_H_restore 4 rfl) ?_
  refine SW_iconst h (dt t_H_restore 5 rfl) ?_
  refine SW_sipush h (dt t_H_restore 6 rfl) (by decide) ?_
  refine SW_copy h kX2_37 a9 a3 (by decide) (by decide) (by decide) (by decide) (by decide) (Nat.le_of_ble_eq_true rfl) (dt t_H_restore 7 rfl) (SW_bm hf (fun s1 ok1 hf => ?_))
  exact SW_vret h (hret _ hf) rfl (dt t_H_restore 8 rfl)
def b_A_firstOff : List (Nat × Instr × Nat) := [(0, .iload_n 1, 1), (1, .iconst 1, 1), (2, .if_icmp .lt 20, 3), (5, .iload_n 1, 1), (6, .bipush 30, 2), (8, .if_icmp .gt 14, 3), (11, .aload_n 0, 1), (12, .getfield 10, 3), (15, .iload_n 2, 1), (16, .invokevirtual 101, 3), (19, .ifCond .ne 5, 3), (22, .iconst (-1), 1), (23, .ireturn, 1), (24, .iconst (-1), 1), (25, .istore_n 3, 1), (26, .aload_n 0, 1), (27, .getfield 10, 3), (30, .invokevirtual 231, 3), (33, .iconst 1, 1), (34, .istore 4, 2), (36, .iload 4, 2), (38, .iload_n 1, 1), (39, .if_icmp .gt 32, 3), (42, .iload_n 3, 1), (43, .iconst (-1), 1), (44, .if_icmp .ne 27, 3), (47, .aload_n 0, 1), (48, .getfield 10, 3), (51, .invokevirtual 122, 3), (54, .iload_n 2, 1), (55, .ishr, 1), (56, .iconst 1, 1), (57, .iand, 1), (58, .iconst 1, 1), (59, .if_icmp .ne 6, 3), (62, .iload 4, 2), (64, .istore_n 3, 1), (65, .iinc 4 1, 3), (68, .goto (-32), 3), (71, .aload_n 0, 1), (72, .getfield 10, 3), (75, .invokevirtual 234, 3), (78, .iload_n 3, 1), (79, .ireturn, 1)]
theorem t_A_firstOff : DT cX10_firstOff b_A_firstOff := DT.of (by decide +kernel)
def L_A_firstOff_36 : Nat → Int → Int → Int → Int → Mm → Option (Int × Mm)
  | 0, _, _, _, _, _ => none
  | n + 1, x1, x2, x3, x4, σ =>
    if x1 < x4 then
      some ((x3, σ))
    else
      if x3 = (-1) then
        b1M (F_H_passDay  σ) fun v3 s3 =>
        bindM (fun (x3_4 : Int) =>
          if r32 (x4 + 1) then
            L_A_firstOff_36 n x1 x2 x3_4 (x4 + 1) s3
          else none) fun J4 =>
        if iand (ishr v3 x2) 1 = 1 then
          J4 x4
        else
          J4 x3
      else
        some ((x3, σ))
set_option maxRecDepth 100000 in
set_option maxHeartbeats 4000000 in
theorem l_A_firstOff_36 {X : Cx} (h : CX X 0 cX10_firstOff 5 8 (some .int) RX10) (x1 : Int) (x2 : Int) (hx1 : r32 x1) (hx2 : r32 x2) {res : Int × Mm} (hex : ∀ (x3 : Int) (σ : Mm) (hz : some ((x3, σ)) = some res) (hx3 : r32 x3) (ok : okM σ), SW X 0 5 71 [some (.ref (xad X 0)), none, none, some (.int (i32 x3)), none] [] σ) : ∀ (n : Nat) (x3 : Int) (x4 : Int) (σ : Mm) (hx3 : r32 x3) (hx4 : r32 x4) (ok : okM σ) (hf : L_A_firstOff_36 n x1 x2 x3 x4 σ = some res), SW X 0 5 36 [some (.ref (xad X 0)), some (.int (i32 x1)), some (.int (i32 x2)), some (.int (i32 x3)), some (.int (i32 x4))] [] σ := by
  intro n
  induction n with
  | zero => intro x3 x4 σ hx3 hx4 ok hf; exact absurd hf (by simp [L_A_firstOff_36])
  | succ n ih =>
    intro x3 x4 σ hx3 hx4 ok hf
    rw [L_A_firstOff_36] at hf
    refine SW_iload h rfl (dt t_A_firstOff 20 rfl) ?_
    refine SW_iload_n h rfl (dt t_A_firstOff 21 rfl) ?_
    refine SW_icmp_gt (tgt := 71) h (fun _ => hx4) (fun _ => hx1) (dt t_A_firstOff 22 rfl) rfl hf (fun hf => ?_) (fun hf => ?_)
    · exact SW_fgt [true, false, false, true, false] rfl (hex x3 σ hf hx3 ok)
    · refine SW_iload_n h rfl (dt t_A_firstOff 23 rfl) ?_
      refine SW_iconst h (dt t_A_firstOff 24 rfl) ?_
      refine SW_icmp_ne (tgt := 71) h (fun _ => hx3) (fun _ => (by decide)) (dt t_A_firstOff 25 rfl) rfl hf (fun hf => ?_) (fun hf => ?_)
      · refine SW_aload_n h rfl (dt t_A_firstOff 26 rfl) ?_
        refine gR h cf10 o0 f10_0 j0_0 lX10_10 (dt t_A_firstOff 27 rfl) ?_
        obtain ⟨v3, s3, e3, hf⟩ := b1M_of hf
        refine cV h [] [] v_X2_passDay kX10_122 o1 (c_H_passDay  e3) rfl rfl (by decide) (by decide) rfl (Nat.le_of_ble_eq_true rfl) (dt t_A_firstOff 28 rfl) (fun h3 => ?_)
        refine SW_ok (fun ok3 => ?_)
        refine SW_iload_n h rfl (dt t_A_firstOff 29 rfl) ?_
        refine SW_ishr h (dt t_A_firstOff 30 rfl) ?_
        refine SW_iconst h (dt t_A_firstOff 31 rfl) ?_
        refine SW_iand h (dt t_A_firstOff 32 rfl) ?_
        refine SW_iconst h (dt t_A_firstOff 33 rfl) ?_
        refine bJ hf (fun J4 e4 hf => ?_)
        have k4 : ∀ (x3_4 : Int) (hx3_4 : r32 x3_4) (hf : J4 x3_4 = some res), SW X 0 5 65 [some (.ref (xad X 0)), some (.int (i32 x1)), some (.int (i32 x2)), some (.int (i32 x3_4)), some (.int (i32 x4))] [] s3 := by
          intro x3_4 hx3_4 hf
          rw [e4] at hf
          refine SW_iinc (lv2 := [some (.ref (xad X 0)), some (.int (i32 x1)), some (.int (i32 x2)), some (.int (i32 x3_4)), some (.int (i32 (x4 + 1)))]) h (dt t_A_firstOff 37 rfl) rfl (by decide) rfl ?_
          refine SW_goto (tgt := 36) h (dt t_A_firstOff 38 rfl) rfl ?_
          refine SW_chk hf (fun h5 hf => ?_)
          exact SW_fgt [true, true, true, true, true] rfl (ih x3_4 (x4 + 1) s3 hx3_4 h5 ok3 hf)
        refine SW_icmp_ne (tgt := 65) h (fun _ => (r_iand _ _)) (fun _ => (by decide)) (dt t_A_firstOff 34 rfl) rfl hf (fun hf => ?_) (fun hf => ?_)
        · refine SW_iload h rfl (dt t_A_firstOff 35 rfl) ?_
          refine SW_istore_n (lv2 := [some (.ref (xad X 0)), some (.int (i32 x1)), some (.int (i32 x2)), some (.int (i32 x4)), some (.int (i32 x4))]) h (dt t_A_firstOff 36 rfl) (by decide) rfl ?_
          exact SW_fgt [true, true, true, true, true] rfl (k4 x4 hx4 hf)
        · exact SW_fgt [true, true, true, true, true] rfl (k4 x3 hx3 hf)
      · exact SW_fgt [true, false, false, true, false] rfl (hex x3 σ hf hx3 ok)
def F_A_firstOff (x1 : Int) (x2 : Int) (σ : Mm) : Option (Int × Mm) :=
  if x1 < 1 then
    some ((-1), σ)
  else
    if 30 < x1 then
      some ((-1), σ)
    else
      b1 (F_H_has x2 σ) fun v1 =>
      if v1 = 0 then
        some ((-1), σ)
      else
        b0M (F_H_save  σ) fun s2 =>
        b1M (L_A_firstOff_36 LF x1 x2 ((-1)) 1 s2) fun x3_6 s6 =>
        b0M (F_H_restore  s6) fun s7 =>
        some (x3_6, s7)
set_option maxRecDepth 100000 in
set_option maxHeartbeats 4000000 in
theorem c_A_firstOff (x1 : Int) (hx1 : r32 x1) (x2 : Int) (hx2 : r32 x2) {σ : Mm} {a : Int} {σ2 : Mm} (hf : F_A_firstOff x1 x2 σ = some (a, σ2)) : CT yX10_firstOff cX10_firstOff 5 (some .int) 8 0 (fun ad => [.ref (ad 0), .int (i32 x1), .int (i32 x2)]) σ (r32 a) (some (.int (i32 a))) σ2 := by
  refine MetJ 2 (by decide +kernel) rfl (fun _ => Nat.le_of_ble_eq_true rfl) ?_
  intro X h hR ok
  obtain ⟨res, er⟩ : ∃ z, z = (a, σ2) := ⟨_, rfl⟩
  have hret : ∀ y : Int × Mm, some y = some res → RX X 0 (r32 (y.1)) (some (.int (i32 (y.1)))) y.2 := fun y e => by cases e; cases er; exact hR
  rw [← er] at hf
  clear er hR
  unfold F_A_firstOff at hf
  show SW X 0 5 0 [some (.ref (xad X 0)), some (.int (i32 x1)), some (.int (i32 x2)), none, none] [] σ
  refine SW_iload_n h rfl (dt t_A_firstOff 0 rfl) ?_
  refine SW_iconst h (dt t_A_firstOff 1 rfl) ?_
  refine SW_icmp_lt (tgt := 22) h (fun _ => hx1) (fun _ => (by decide)) (dt t_A_firstOff 2 rfl) rfl hf (fun hf => ?_) (fun hf => ?_)
  · refine SW_iconst h (dt t_A_firstOff 11 rfl) ?_
    exact SW_iret h (hret _ hf) (fun _ => (by decide)) rfl (dt t_A_firstOff 12 rfl)
  · refine SW_iload_n h rfl (dt t_A_firstOff 3 rfl) ?_
    refine SW_bipush h (dt t_A_firstOff 4 rfl) (by decide) ?_
    refine SW_icmp_gt (tgt := 22) h (fun _ => hx1) (fun _ => (by decide)) (dt t_A_firstOff 5 rfl) rfl hf (fun hf => ?_) (fun hf => ?_)
    · refine SW_iconst h (dt t_A_firstOff 11 rfl) ?_
      exact SW_iret h (hret _ hf) (fun _ => (by decide)) rfl (dt t_A_firstOff 12 rfl)
    · refine SW_aload_n h rfl (dt t_A_firstOff 6 rfl) ?_
      refine gR h cf10 o0 f10_0 j0_0 lX10_10 (dt t_A_firstOff 7 rfl) ?_
      refine SW_iload_n h rfl (dt t_A_firstOff 8 rfl) ?_
      obtain ⟨v1, e1, hf⟩ := b1_of hf
      refine cV h [.int (i32 x2)] [] v_X2_has kX10_101 o1 (c_H_has x2 hx2 e1) rfl rfl (by decide) (by decide) rfl (Nat.le_of_ble_eq_true rfl) (dt t_A_firstOff 9 rfl) (fun h1 => ?_)
      refine SW_if_ne (tgt := 24) h (fun _ => (r_zo h1)) (dt t_A_firstOff 10 rfl) rfl hf (fun hf => ?_) (fun hf => ?_)
      · refine SW_iconst h (dt t_A_firstOff 11 rfl) ?_
        exact SW_iret h (hret _ hf) (fun _ => (by decide)) rfl (dt t_A_firstOff 12 rfl)
      · refine SW_iconst h (dt t_A_firstOff 13 rfl) ?_
        refine SW_istore_n (lv2 := [some (.ref (xad X 0)), some (.int (i32 x1)), some (.int (i32 x2)), some (.int (i32 ((-1)))), none]) h (dt t_A_firstOff 14 rfl) (by decide) rfl ?_
        refine SW_aload_n h rfl (dt t_A_firstOff 15 rfl) ?_
        refine gR h cf10 o0 f10_0 j0_0 lX10_10 (dt t_A_firstOff 16 rfl) ?_
        obtain ⟨s2, e2, hf⟩ := b0M_of hf
        refine cVv h [] [] v_X2_save kX10_231 o1 (c_H_save  e2) rfl rfl (by decide) (by decide) rfl (Nat.le_of_ble_eq_true rfl) (dt t_A_firstOff 17 rfl) (fun h2 => ?_)
        refine SW_ok (fun ok2 => ?_)
        refine SW_iconst h (dt t_A_firstOff 18 rfl) ?_
        refine SW_istore (lv2 := [some (.ref (xad X 0)), some (.int (i32 x1)), some (.int (i32 x2)), some (.int (i32 ((-1)))), some (.int (i32 1))]) h (dt t_A_firstOff 19 rfl) (by decide) rfl ?_
        obtain ⟨z6, e6, hk6⟩ := b1M_ex hf
        refine SW_fgt [true, true, true, true, true] rfl (l_A_firstOff_36 h x1 x2 hx1 hx2 (fun x3_6 s6 hz6 hx3_6 ok6 => ?_) LF ((-1)) 1 s2 (by decide) (by decide) ok2 e6)
        have hf := hk6 x3_6 s6 hz6
        refine SW_aload_n h rfl (dt t_A_firstOff 39 rfl) ?_
        refine gR h cf10 o0 f10_0 j0_0 lX10_10 (dt t_A_firstOff 40 rfl) ?_
        obtain ⟨s7, e7, hf⟩ := b0M_of hf
        refine cVv h [] [] v_X2_restore kX10_234 o1 (c_H_restore  e7) rfl rfl (by decide) (by decide) rfl (Nat.le_of_ble_eq_true rfl) (dt t_A_firstOff 41 rfl) (fun h7 => ?_)
        refine SW_ok (fun ok7 => ?_)
        refine SW_iload_n h rfl (dt t_A_firstOff 42 rfl) ?_
        exact SW_iret h (hret _ hf) (fun _ => hx3_6) rfl (dt t_A_firstOff 43 rfl)
def b_A_isSet : List (Nat × Instr × Nat) := [(0, .iload_n 0, 1), (1, .ifCond .le 22, 3), (4, .iload_n 0, 1), (5, .sipush 1024, 3), (8, .if_icmp .ge 15, 3), (11, .iload_n 0, 1), (12, .invokestatic 278, 3), (15, .iload_n 1, 1), (16, .if_icmp .gt 7, 3), (19, .iconst 1, 1), (20, .goto 4, 3), (23, .iconst 0, 1), (24, .ireturn, 1)]
theorem t_A_isSet : DT cX10_isSet b_A_isSet := DT.of (by decide +kernel)
def F_A_isSet (x0 : Int) (x1 : Int) : Option (Int) :=
  if x0 ≤ 0 then
    some 0
  else
    if 1024 ≤ x0 then
      some 0
    else
      b1 (F_K_bitCount x0) fun v1 =>
      if x1 < v1 then
        some 0
      else
        some 1
set_option maxRecDepth 100000 in
set_option maxHeartbeats 4000000 in
theorem c_A_isSet (x0 : Int) (hx0 : r32 x0) (x1 : Int) (hx1 : r32 x1) {σ : Mm} {a : Int} (hf : F_A_isSet x0 x1 = some a) : CT yX10_isSet cX10_isSet 2 (some .boolean) 1 0 (fun ad => [.int (i32 x0), .int (i32 x1)]) σ (a = 0 ∨ a = 1) (some (.int (i32 a))) σ := by
  refine MetJ 0 (by decide +kernel) rfl (fun _ => Nat.le_of_ble_eq_true rfl) ?_
  intro X h hR ok
  obtain ⟨res, er⟩ : ∃ z, z = a := ⟨_, rfl⟩
  have hret : ∀ y : Int, some y = some res → RX X 0 (y = 0 ∨ y = 1) (some (.int (i32 (y)))) σ := fun y e => by cases e; cases er; exact hR
  rw [← er] at hf
  clear er hR
  unfold F_A_isSet at hf
  show SW X 0 2 0 [some (.int (i32 x0)), some (.int (i32 x1))] [] σ
  refine SW_iload_n h rfl (dt t_A_isSet 0 rfl) ?_
  refine SW_if_le (tgt := 23) h (fun _ => hx0) (dt t_A_isSet 1 rfl) rfl hf (fun hf => ?_) (fun hf => ?_)
  · refine SW_iconst h (dt t_A_isSet 11 rfl) ?_
    exact SW_zret h (hret _ hf) (by decide) rfl (dt t_A_isSet 12 rfl)
  · refine SW_iload_n h rfl (dt t_A_isSet 2 rfl) ?_
    refine SW_sipush h (dt t_A_isSet 3 rfl) (by decide) ?_
    refine SW_icmp_ge (tgt := 23) h (fun _ => hx0) (fun _ => (by decide)) (dt t_A_isSet 4 rfl) rfl hf (fun hf => ?_) (fun hf => ?_)
    · refine SW_iconst h (dt t_A_isSet 11 rfl) ?_
      exact SW_zret h (hret _ hf) (by decide) rfl (dt t_A_isSet 12 rfl)
    · refine SW_iload_n h rfl (dt t_A_isSet 5 rfl) ?_
      obtain ⟨v1, e1, hf⟩ := b1_of hf
      refine cS h [.int (i32 x0)] [] v_J6_bitCount_0f7a4 kX10_278 (c_K_bitCount x0 hx0 e1) rfl rfl (by decide) (by decide) rfl (Nat.le_of_ble_eq_true rfl) (dt t_A_isSet 6 rfl) (fun h1 => ?_)
      refine SW_iload_n h rfl (dt t_A_isSet 7 rfl) ?_
      refine SW_icmp_gt (tgt := 23) h (fun _ => h1) (fun _ => hx1) (dt t_A_isSet 8 rfl) rfl hf (fun hf => ?_) (fun hf => ?_)
      · refine SW_iconst h (dt t_A_isSet 11 rfl) ?_
        exact SW_zret h (hret _ hf) (by decide) rfl (dt t_A_isSet 12 rfl)
      · refine SW_iconst h (dt t_A_isSet 9 rfl) ?_
        refine SW_goto (tgt := 24) h (dt t_A_isSet 10 rfl) rfl ?_
        exact SW_zret h (hret _ hf) (by decide) rfl (dt t_A_isSet 12 rfl)
def b_A_isFigure : List (Nat × Instr × Nat) := [(0, .iload_n 0, 1), (1, .ifCond .lt 13, 3), (4, .iload_n 0, 1), (5, .bipush 10, 2), (7, .if_icmp .ge 7, 3), (10, .iconst 1, 1), (11, .goto 4, 3), (14, .iconst 0, 1), (15, .ireturn, 1)]
theorem t_A_isFigure : DT cX10_isFigure b_A_isFigure := DT.of (by decide +kernel)
def F_A_isFigure (x0 : Int) : Option (Int) :=
  if x0 < 0 then
    some 0
  else
    if 10 ≤ x0 then
      some 0
    else
      some 1
set_option maxRecDepth 100000 in
set_option maxHeartbeats 4000000 in
theorem c_A_isFigure (x0 : Int) (hx0 : r32 x0) {σ : Mm} {a : Int} (hf : F_A_isFigure x0 = some a) : CT yX10_isFigure cX10_isFigure 1 (some .boolean) 0 0 (fun ad => [.int (i32 x0)]) σ (a = 0 ∨ a = 1) (some (.int (i32 a))) σ := by
  refine MetJ 0 (by decide +kernel) rfl (fun _ => Nat.le_of_ble_eq_true rfl) ?_
  intro X h hR ok
  obtain ⟨res, er⟩ : ∃ z, z = a := ⟨_, rfl⟩
  have hret : ∀ y : Int, some y = some res → RX X 0 (y = 0 ∨ y = 1) (some (.int (i32 (y)))) σ := fun y e => by cases e; cases er; exact hR
  rw [← er] at hf
  clear er hR
  unfold F_A_isFigure at hf
  show SW X 0 1 0 [some (.int (i32 x0))] [] σ
  refine SW_iload_n h rfl (dt t_A_isFigure 0 rfl) ?_
  refine SW_if_lt (tgt := 14) h (fun _ => hx0) (dt t_A_isFigure 1 rfl) rfl hf (fun hf => ?_) (fun hf => ?_)
  · refine SW_iconst h (dt t_A_isFigure 7 rfl) ?_
    exact SW_zret h (hret _ hf) (by decide) rfl (dt t_A_isFigure 8 rfl)
  · refine SW_iload_n h rfl (dt t_A_isFigure 2 rfl) ?_
    refine SW_bipush h (dt t_A_isFigure 3 rfl) (by decide) ?_
    refine SW_icmp_ge (tgt := 14) h (fun _ => hx0) (fun _ => (by decide)) (dt t_A_isFigure 4 rfl) rfl hf (fun hf => ?_) (fun hf => ?_)
    · refine SW_iconst h (dt t_A_isFigure 7 rfl) ?_
      exact SW_zret h (hret _ hf) (by decide) rfl (dt t_A_isFigure 8 rfl)
    · refine SW_iconst h (dt t_A_isFigure 5 rfl) ?_
      refine SW_goto (tgt := 15) h (dt t_A_isFigure 6 rfl) rfl ?_
      exact SW_zret h (hret _ hf) (by decide) rfl (dt t_A_isFigure 8 rfl)
def b_G_ask : List (Nat × Instr × Nat) := [(0, .aload_n 0, 1), (1, .getfield 34, 3), (4, .getfield 93, 3), (7, .astore 4, 2), (9, .aload 4, 2), (11, .iconst 0, 1), (12, .iload_n 1, 1), (13, .iadd, 1), (14, .iaload, 1), (15, .istore 5, 2), (17, .aload 4, 2), (19, .iconst 0, 1), (20, .iload_n 2, 1), (21, .iadd, 1), (22, .iaload, 1), (23, .istore 6, 2), (25, .iconst 0, 1), (26, .istore 7, 2), (28, .iconst 0, 1), (29, .istore 8, 2), (31, .iload 8, 2), (33, .aload_n 0, 1), (34, .getfield 18, 3), (37, .iload_n 1, 1), (38, .iaload, 1), (39, .ifCond .le 8, 3), (42, .bipush 10, 2), (44, .goto 4, 3), (47, .iconst 1, 1), (48, .if_icmp .ge 181, 3), (51, .iconst 0, 1), (52, .istore 9, 2), (54, .iload 9, 2), (56, .aload_n 0, 1), (57, .getfield 18, 3), (60, .iload_n 2, 1), (61, .iaload, 1), (62, .ifCond .le 8, 3), (65, .bipush 10, 2), (67, .goto 4, 3), (70, .iconst 1, 1), (71, .if_icmp .ge 152, 3), (74, .iload_n 1, 1), (75, .iload_n 2, 1), (76, .if_icmp .ne 13, 3), (79, .iload 8, 2), (81, .iload 9, 2), (83, .if_icmp .eq 6, 3), (86, .goto 131, 3), (89, .aload 4, 2), (91, .iconst 0, 1), (92, .iload_n 1, 1), (93, .iadd, 1), (94, .aload_n 0, 1), (95, .getfield 18, 3), (98, .iload_n 1, 1), (99, .iaload, 1), (100, .ifCond .le 8, 3), (103, .iload 8, 2), (105, .goto 5, 3), (108, .iload 5, 2), (110, .iastore, 1), (111, .aload 4, 2), (113, .iconst 0, 1), (114, .iload_n 2, 1), (115, .iadd, 1), (116, .aload_n 0, 1), (117, .getfield 18, 3), (120, .iload_n 2, 1), (121, .iaload, 1), (122, .ifCond .le 8, 3), (125, .iload 9, 2), (127, .goto 9, 3), (130, .aload 4, 2), (132, .iconst 0, 1), (133, .iload_n 2, 1), (134, .iadd, 1), (135, .iaload, 1), (136, .iastore, 1), (137, .aload_n 0, 1), (138, .getfield 34, 3), (141, .getfield 96, 3), (144, .invokevirtual 100, 3), (147, .aload_n 0, 1), (148, .getfield 34, 3), (151, .getfield 96, 3), (154, .iload_n 1, 1), (155, .iload_n 2, 1), (156, .iload_n 3, 1), (157, .invokevirtual 105, 3), (160, .istore 10, 2), (162, .aload_n 0, 1), (163, .getfield 28, 3), (166, .iload 8, 2), (168, .bipush 10, 2), (170, .imul, 1), (171, .iload 9, 2), (173, .iadd, 1), (174, .iload 10, 2), (176, .sipush 1000, 3), (179, .if_icmp .ne 7, 3), (182, .iconst 0, 1), (183, .goto 5, 3), (186, .iload 10, 2), (188, .iastore, 1), (189, .iload 7, 2), (191, .ifCond .ne 19, 3), (194, .aload_n 0, 1), (195, .getfield 28, 3), (198, .iload 8, 2), (200, .bipush 10, 2), (202, .imul, 1), (203, .iload 9, 2), (205, .iadd, 1), (206, .iaload, 1), (207, .ifCond .eq 7, 3), (210, .iconst 1, 1), (211, .goto 4, 3), (214, .iconst 0, 1), (215, .istore 7, 2), (217, .iinc 9 1, 3), (220, .goto (-166), 3), (223, .iinc 8 1, 3), (226, .goto (-195), 3), (229, .aload 4, 2), (231, .iconst 0, 1), (232, .iload_n 1, 1), (233, .iadd, 1), (234, .iload 5, 2), (236, .iastore, 1), (237, .aload 4, 2), (239, .iconst 0, 1), (240, .iload_n 2, 1), (241, .iadd, 1), (242, .iload 6, 2), (244, .iastore, 1), (245, .iload 7, 2), (247, .ireturn, 1)]
theorem t_G_ask : DT cX1_ask b_G_ask := DT.of (by decide +kernel)
def L_G_ask_54 : Nat → Int → Int → Int → Int → Int → Int → Int → Mm → Option (Int × Mm)
  | 0, _, _, _, _, _, _, _, _ => none
  | n + 1, x1, x2, x3, x5, x7, x8, x9, σ =>
    if 0 ≤ x2 ∧ x2 < 10 then
      bindM ((if σ 124 x2.toNat ≤ 0 then 1 else 10 : Int)) fun v4 =>
      if v4 ≤ x9 then
        some ((x7, σ))
      else
        bindM (fun (x7_5 : Int) (t5 : Mm) =>
          if r32 (x9 + 1) then
            L_G_ask_54 n x1 x2 x3 x5 x7_5 x8 (x9 + 1) t5
          else none) fun J5 =>
        bindM (
          if 0 ≤ x1 ∧ x1 < 10 then
            bindM ((if σ 124 x1.toNat ≤ 0 then x5 else x8 : Int)) fun v8 =>
            if 0 ≤ 0 + x1 ∧ 0 + x1 < 165 then
              bindM (st2 σ 3 ((0 + x1).toNat) v8) fun s9 =>
              if 0 ≤ x2 ∧ x2 < 10 then
                bindM (fun (y10 : Int) =>
                  if 0 ≤ 0 + x2 ∧ 0 + x2 < 165 then
                    bindM (st2 s9 3 ((0 + x2).toNat) y10) fun s11 =>
                    b0M (F_J_fresh  s11) fun s12 =>
                    b1M (F_J_two x1 x2 x3 s12) fun v13 s13 =>
                    bindM ((if v13 = 1000 then 0 else v13 : Int)) fun v14 =>
                    if 0 ≤ (x8 * 10) + x9 ∧ (x8 * 10) + x9 < 100 then
                      bindM (st2 s13 127 (((x8 * 10) + x9).toNat) v14) fun s15 =>
                      bindM (fun (y16 : Int) =>
                        J5 y16 s15) fun J16 =>
                      bindM (
                        J16 1) fun J17 =>
                      if x7 = 0 then
                        if 0 ≤ (x8 * 10) + x9 ∧ (x8 * 10) + x9 < 100 then
                          if s15 127 (((x8 * 10) + x9).toNat) = 0 then
                            J16 0
                          else
                            J17
                        else none
                      else
                        J17
                    else none
                  else none) fun J10 =>
                if s9 124 x2.toNat ≤ 0 then
                  if 0 ≤ 0 + x2 ∧ 0 + x2 < 165 then
                    J10 (s9 3 ((0 + x2).toNat))
                  else none
                else
                  J10 x9
              else none
            else none
          else none) fun J7 =>
        if x1 = x2 then
          if x8 = x9 then
            J7
          else
            J5 x7 σ
        else
          J7
    else none
set_option maxRecDepth 100000 in
set_option maxHeartbeats 4000000 in
theorem l_G_ask_54 {X : Cx} (h : CX X 0 cX1_ask 11 6 (some .boolean) RX1) (x1 : Int) (x2 : Int) (x3 : Int) (x5 : Int) (x6 : Int) (x8 : Int) (hx1 : r32 x1) (hx2 : r32 x2) (hx3 : r32 x3) (hx5 : r32 x5) (hx6 : r32 x6) (hx8 : r32 x8) {res : Int × Mm} (hex : ∀ (x7 : Int) (σ : Mm) (hz : some ((x7, σ)) = some res) (hx7 : r32 x7) (ok : okM σ), SW X 0 11 223 [some (.ref (xad X 121)), some (.int (i32 x1)), some (.int (i32 x2)), some (.int (i32 x3)), some (.ref (xad X 3)), some (.int (i32 x5)), some (.int (i32 x6)), some (.int (i32 x7)), some (.int (i32 x8)), none, none] [] σ) : ∀ (n : Nat) (x7 : Int) (x9 : Int) (σ : Mm) (hx7 : r32 x7) (hx9 : r32 x9) (ok : okM σ) (hf : L_G_ask_54 n x1 x2 x3 x5 x7 x8 x9 σ = some res), SW X 0 11 54 [some (.ref (xad X 121)), some (.int (i32 x1)), some (.int (i32 x2)), some (.int (i32 x3)), some (.ref (xad X 3)), some (.int (i32 x5)), some (.int (i32 x6)), some (.int (i32 x7)), some (.int (i32 x8)), some (.int (i32 x9)), none] [] σ := by
  intro n
  induction n with
  | zero => intro x7 x9 σ hx7 hx9 ok hf; exact absurd hf (by simp [L_G_ask_54])
  | succ n ih =>
    intro x7 x9 σ hx7 hx9 ok hf
    rw [L_G_ask_54] at hf
    refine SW_iload h rfl (dt t_G_ask 32 rfl) ?_
    refine SW_aload_n h rfl (dt t_G_ask 33 rfl) ?_
    refine gR h cf1 o121 f1_4 j121_4 lX1_18 (dt t_G_ask 34 rfl) ?_
    refine SW_iload_n h rfl (dt t_G_ask 35 rfl) ?_
    refine aI h a124 (dt t_G_ask 36 rfl) hf (fun hf => ?_)
    refine bT hf (fun g4 e4 hf => ?_)
    have k4 : ∀ (v4 : Int) (h4 : r32 v4) (hf : g4 v4 = some res), SW X 0 11 71 [some (.ref (xad X 121)), some (.int (i32 x1)), some (.int (i32 x2)), some (.int (i32 x3)), some (.ref (xad X 3)), some (.int (i32 x5)), some (.int (i32 x6)), some (.int (i32 x7)), some (.int (i32 x8)), some (.int (i32 x9)), none] [.int (i32 v4), .int (i32 x9)] σ := by
      intro v4 h4 hf
      rw [e4] at hf
      refine SW_icmp_ge (tgt := 223) h (fun _ => hx9) (fun _ => h4) (dt t_G_ask 41 rfl) rfl hf (fun hf => ?_) (fun hf => ?_)
      · exact SW_fgt [true, true, true, true, true, true, true, true, true, false, false] rfl (hex x7 σ hf hx7 ok)
      · refine SW_iload_n h rfl (dt t_G_ask 42 rfl) ?_
        refine SW_iload_n h rfl (dt t_G_ask 43 rfl) ?_
        refine bJ hf (fun J5 e5 hf => ?_)
        have k5 : ∀ (x7_5 : Int) (t5 : Mm) (hx7_5 : r32 x7_5) (ot5 : okM t5) (hf : J5 x7_5 t5 = some res), SW X 0 11 217 [some (.ref (xad X 121)), some (.int (i32 x1)), some (.int (i32 x2)), some (.int (i32 x3)), some (.ref (xad X 3)), some (.int (i32 x5)), some (.int (i32 x6)), some (.int (i32 x7_5)), some (.int (i32 x8)), some (.int (i32 x9)), none] [] t5 := by
          intro x7_5 t5 hx7_5 ot5 hf
          rw [e5] at hf
          refine SW_iinc (lv2 := [some (.ref (xad X 121)), some (.int (i32 x1)), some (.int (i32 x2)), some (.int (i32 x3)), some (.ref (xad X 3)), some (.int (i32 x5)), some (.int (i32 x6)), some (.int (i32 x7_5)), some (.int (i32 x8)), some (.int (i32 (x9 + 1))), none]) h (dt t_G_ask 120 rfl) rfl (by decide) rfl ?_
          refine SW_goto (tgt := 54) h (dt t_G_ask 121 rfl) rfl ?_
          refine SW_chk hf (fun h6 hf => ?_)
          exact SW_fgt [true, true, true, true, true, true, true, true, true, true, false] rfl (ih x7_5 (x9 + 1) t5 hx7_5 h6 ot5 hf)
        refine bJ hf (fun J7 e7 hf => ?_)
        have k7 : ∀ (hf : J7 = some res), SW X 0 11 89 [some (.ref (xad X 121)), some (.int (i32 x1)), some (.int (i32 x2)), some (.int (i32 x3)), some (.ref (xad X 3)), some (.int (i32 x5)), some (.int (i32 x6)), some (.int (i32 x7)), some (.int (i32 x8)), some (.int (i32 x9)), none] [] σ := by
          intro hf
          rw [e7] at hf
          refine SW_aload h rfl (dt t_G_ask 49 rfl) ?_
          refine SW_iconst h (dt t_G_ask 50 rfl) ?_
          refine SW_iload_n h rfl (dt t_G_ask 51 rfl) ?_
          refine SW_iadd h (dt t_G_ask 52 rfl) ?_
          refine SW_aload_n h rfl (dt t_G_ask 53 rfl) ?_
          refine gR h cf1 o121 f1_4 j121_4 lX1_18 (dt t_G_ask 54 rfl) ?_
          refine SW_iload_n h rfl (dt t_G_ask 55 rfl) ?_
          refine aI h a124 (dt t_G_ask 56 rfl) hf (fun hf => ?_)
          refine bT hf (fun g8 e8 hf => ?_)
          have k8 : ∀ (v8 : Int) (h8 : r32 v8) (hf : g8 v8 = some res), SW X 0 11 110 [some (.ref (xad X 121)), some (.int (i32 x1)), some (.int (i32 x2)), some (.int (i32 x3)), some (.ref (xad X 3)), some (.int (i32 x5)), some (.int (i32 x6)), some (.int (i32 x7)), some (.int (i32 x8)), some (.int (i32 x9)), none] [.int (i32 v8), .int (i32 (0 + x1)), .ref (xad X 3)] σ := by
            intro v8 h8 hf
            rw [e8] at hf
            refine sI h a3 h8 (dt t_G_ask 61 rfl) hf (fun hf => SW_bm hf (fun s9 ok9 hf => ?_))
            refine SW_aload h rfl (dt t_G_ask 62 rfl) ?_
            refine SW_iconst h (dt t_G_ask 63 rfl) ?_
            refine SW_iload_n h rfl (dt t_G_ask 64 rfl) ?_
            refine SW_iadd h (dt t_G_ask 65 rfl) ?_
            refine SW_aload_n h rfl (dt t_G_ask 66 rfl) ?_
            refine gR h cf1 o121 f1_4 j121_4 lX1_18 (dt t_G_ask 67 rfl) ?_
            refine SW_iload_n h rfl (dt t_G_ask 68 rfl) ?_
            refine aI h a124 (dt t_G_ask 69 rfl) hf (fun hf => ?_)
            refine bJ hf (fun J10 e10 hf => ?_)
            have k10 : ∀ (y10 : Int) (hy10 : r32 y10) (hf : J10 y10 = some res), SW X 0 11 136 [some (.ref (xad X 121)), some (.int (i32 x1)), some (.int (i32 x2)), some (.int (i32 x3)), some (.ref (xad X 3)), some (.int (i32 x5)), some (.int (i32 x6)), some (.int (i32 x7)), some (.int (i32 x8)), some (.int (i32 x9)), none] [.int (i32 y10), .int (i32 (0 + x2)), .ref (xad X 3)] s9 := by
              intro y10 hy10 hf
              rw [e10] at hf
              refine sI h a3 hy10 (dt t_G_ask 78 rfl) hf (fun hf => SW_bm hf (fun s11 ok11 hf => ?_))
              refine SW_aload_n h rfl (dt t_G_ask 79 rfl) ?_
              refine gR h cf1 o121 f1_3 j121_3 lX1_34 (dt t_G_ask 80 rfl) ?_
              refine gR h cf2 o1 f2_0 j1_0 lX1_96 (dt t_G_ask 81 rfl) ?_
              obtain ⟨s12, e12, hf⟩ := b0M_of hf
              refine cVv h [] [] v_X4_fresh kX1_100 o2 (c_J_fresh  e12) rfl rfl (by decide) (by decide) rfl (Nat.le_of_ble_eq_true rfl) (dt t_G_ask 82 rfl) (fun h12 => ?_)
              refine SW_ok (fun ok12 => ?_)
              refine SW_aload_n h rfl (dt t_G_ask 83 rfl) ?_
              refine gR h cf1 o121 f1_3 j121_3 lX1_34 (dt t_G_ask 84 rfl) ?_
              refine gR h cf2 o1 f2_0 j1_0 lX1_96 (dt t_G_ask 85 rfl) ?_
              refine SW_iload_n h rfl (dt t_G_ask 86 rfl) ?_
              refine SW_iload_n h rfl (dt t_G_ask 87 rfl) ?_
              refine SW_iload_n h rfl (dt t_G_ask 88 rfl) ?_
              obtain ⟨v13, s13, e13, hf⟩ := b1M_of hf
              refine cV h [.int (i32 x1), .int (i32 x2), .int (i32 x3)] [] v_X4_two kX1_105 o2 (c_J_two x1 hx1 x2 hx2 x3 hx3 e13) rfl rfl (by decide) (by decide) rfl (Nat.le_of_ble_eq_true rfl) (dt t_G_ask 89 rfl) (fun h13 => ?_)
              refine SW_ok (fun ok13 => ?_)
              refine SW_istore (lv2 := [some (.ref (xad X 121)), some (.int (i32 x1)), some (.int (i32 x2)), some (.int (i32 x3)), some (.ref (xad X 3)), some (.int (i32 x5)), some (.int (i32 x6)), some (.int (i32 x7)), some (.int (i32 x8)), some (.int (i32 x9)), some (.int (i32 v13))]) h (dt t_G_ask 90 rfl) (by decide) rfl ?_
              refine SW_aload_n h rfl (dt t_G_ask 91 rfl) ?_
              refine gR h cf1 o121 f1_7 j121_7 lX1_28 (dt t_G_ask 92 rfl) ?_
              refine SW_iload h rfl (dt t_G_ask 93 rfl) ?_
              refine SW_bipush h (dt t_G_ask 94 rfl) (by decide) ?_
              refine SW_imul h (dt t_G_ask 95 rfl) ?_
              refine SW_iload h rfl (dt t_G_ask 96 rfl) ?_
              refine SW_iadd h (dt t_G_ask 97 rfl) ?_
              refine SW_iload h rfl (dt t_G_ask 98 rfl) ?_
              refine SW_sipush h (dt t_G_ask 99 rfl) (by decide) ?_
              refine bT hf (fun g14 e14 hf => ?_)
              have k14 : ∀ (v14 : Int) (h14 : r32 v14) (hf : g14 v14 = some res), SW X 0 11 188 [some (.ref (xad X 121)), some (.int (i32 x1)), some (.int (i32 x2)), some (.int (i32 x3)), some (.ref (xad X 3)), some (.int (i32 x5)), some (.int (i32 x6)), some (.int (i32 x7)), some (.int (i32 x8)), some (.int (i32 x9)), some (.int (i32 v13))] [.int (i32 v14), .int (i32 ((x8 * 10) + x9)), .ref (xad X 127)] s13 := by
                intro v14 h14 hf
                rw [e14] at hf
                refine sI h a127 h14 (dt t_G_ask 104 rfl) hf (fun hf => SW_bm hf (fun s15 ok15 hf => ?_))
                refine SW_iload h rfl (dt t_G_ask 105 rfl) ?_
                refine bJ hf (fun J16 e16 hf => ?_)
                have k16 : ∀ (y16 : Int) (hy16 : r32 y16) (hf : J16 y16 = some res), SW X 0 11 215 [some (.ref (xad X 121)), some (.int (i32 x1)), some (.int (i32 x2)), some (.int (i32 x3)), some (.ref (xad X 3)), some (.int (i32 x5)), some (.int (i32 x6)), none, some (.int (i32 x8)), some (.int (i32 x9)), none] [.int (i32 y16)] s15 := by
                  intro y16 hy16 hf
                  rw [e16] at hf
                  refine SW_istore (lv2 := [some (.ref (xad X 121)), some (.int (i32 x1)), some (.int (i32 x2)), some (.int (i32 x3)), some (.ref (xad X 3)), some (.int (i32 x5)), some (.int (i32 x6)), some (.int (i32 y16)), some (.int (i32 x8)), some (.int (i32 x9)), none]) h (dt t_G_ask 119 rfl) (by decide) rfl ?_
                  exact SW_fgt [true, true, true, true, true, true, true, true, true, true, false] rfl (k5 y16 s15 hy16 ok15 hf)
                refine bJ hf (fun J17 e17 hf => ?_)
                have k17 : ∀ (hf : J17 = some res), SW X 0 11 210 [some (.ref (xad X 121)), some (.int (i32 x1)), some (.int (i32 x2)), some (.int (i32 x3)), some (.ref (xad X 3)), some (.int (i32 x5)), some (.int (i32 x6)), none, some (.int (i32 x8)), some (.int (i32 x9)), none] [] s15 := by
                  intro hf
                  rw [e17] at hf
                  refine SW_iconst h (dt t_G_ask 116 rfl) ?_
                  refine SW_goto (tgt := 215) h (dt t_G_ask 117 rfl) rfl ?_
                  exact SW_fgt [true, true, true, true, true, true, true, false, true, true, false] rfl (k16 1 (by decide) hf)
                refine SW_if_ne (tgt := 210) h (fun _ => hx7) (dt t_G_ask 106 rfl) rfl hf (fun hf => ?_) (fun hf => ?_)
                · refine SW_aload_n h rfl (dt t_G_ask 107 rfl) ?_
                  refine gR h cf1 o121 f1_7 j121_7 lX1_28 (dt t_G_ask 108 rfl) ?_
                  refine SW_iload h rfl (dt t_G_ask 109 rfl) ?_
                  refine SW_bipush h (dt t_G_ask 110 rfl) (by decide) ?_
                  refine SW_imul h (dt t_G_ask 111 rfl) ?_
                  refine SW_iload h rfl (dt t_G_ask 112 rfl) ?_
                  refine SW_iadd h (dt t_G_ask 113 rfl) ?_
                  refine aI h a127 (dt t_G_ask 114 rfl) hf (fun hf => ?_)
                  refine SW_if_eq (tgt := 214) h (fun _ => (okI ok15 127 (((x8 * 10) + x9).toNat) (IsA.n3 a127 (by decide)))) (dt t_G_ask 115 rfl) rfl hf (fun hf => ?_) (fun hf => ?_)
                  · refine SW_iconst h (dt t_G_ask 118 rfl) ?_
                    exact SW_fgt [true, true, true, true, true, true, true, false, true, true, false] rfl (k16 0 (by decide) hf)
                  · exact SW_fgt [true, true, true, true, true, true, true, false, true, true, false] rfl (k17 hf)
                · exact SW_fgt [true, true, true, true, true, true, true, false, true, true, false] rfl (k17 hf)
              have hf := bIte hf
              refine SW_icmp_ne (tgt := 186) h (fun _ => h13) (fun _ => (by decide)) (dt t_G_ask 100 rfl) rfl hf (fun hf => ?_) (fun hf => ?_)
              · refine SW_iconst h (dt t_G_ask 101 rfl) ?_
                refine SW_goto (tgt := 188) h (dt t_G_ask 102 rfl) rfl ?_
                exact k14 0 (by decide) hf
              · refine SW_iload h rfl (dt t_G_ask 103 rfl) ?_
                exact k14 v13 h13 hf
            refine SW_if_le (tgt := 130) h (fun _ => (okI ok9 124 x2.toNat (IsA.n3 a124 (by decide)))) (dt t_G_ask 70 rfl) rfl hf (fun hf => ?_) (fun hf => ?_)
            · refine SW_aload h rfl (dt t_G_ask 73 rfl) ?_
              refine SW_iconst h (dt t_G_ask 74 rfl) ?_
              refine SW_iload_n h rfl (dt t_G_ask 75 rfl) ?_
              refine SW_iadd h (dt t_G_ask 76 rfl) ?_
              refine aI h a3 (dt t_G_ask 77 rfl) hf (fun hf => ?_)
              exact SW_fgt [true, true, true, true, true, true, true, true, true, true, false] rfl (k10 (s9 3 ((0 + x2).toNat)) (okI ok9 3 ((0 + x2).toNat) (IsA.n3 a3 (by decide))) hf)
            · refine SW_iload h rfl (dt t_G_ask 71 rfl) ?_
              refine SW_goto (tgt := 136) h (dt t_G_ask 72 rfl) rfl ?_
              exact SW_fgt [true, true, true, true, true, true, true, true, true, true, false] rfl (k10 x9 hx9 hf)
          have hf := bIte hf
          refine SW_if_le (tgt := 108) h (fun _ => (okI ok 124 x1.toNat (IsA.n3 a124 (by decide)))) (dt t_G_ask 57 rfl) rfl hf (fun hf => ?_) (fun hf => ?_)
          · refine SW_iload h rfl (dt t_G_ask 60 rfl) ?_
            exact k8 x5 hx5 hf
          · refine SW_iload h rfl (dt t_G_ask 58 rfl) ?_
            refine SW_goto (tgt := 110) h (dt t_G_ask 59 rfl) rfl ?_
            exact k8 x8 hx8 hf
        refine SW_icmp_ne (tgt := 89) h (fun _ => hx1) (fun _ => hx2) (dt t_G_ask 44 rfl) rfl hf (fun hf => ?_) (fun hf => ?_)
        · refine SW_iload h rfl (dt t_G_ask 45 rfl) ?_
          refine SW_iload h rfl (dt t_G_ask 46 rfl) ?_
          refine SW_icmp_eq (tgt := 89) h (fun _ => hx8) (fun _ => hx9) (dt t_G_ask 47 rfl) rfl hf (fun hf => ?_) (fun hf => ?_)
          · exact SW_fgt [true, true, true, true, true, true, true, true, true, true, false] rfl (k7 hf)
          · refine SW_goto (tgt := 217) h (dt t_G_ask 48 rfl) rfl ?_
            exact SW_fgt [true, true, true, true, true, true, true, true, true, true, false] rfl (k5 x7 σ hx7 ok hf)
        · exact SW_fgt [true, true, true, true, true, true, true, true, true, true, false] rfl (k7 hf)
    have hf := bIte hf
    refine SW_if_le (tgt := 70) h (fun _ => (okI ok 124 x2.toNat (IsA.n3 a124 (by decide)))) (dt t_G_ask 37 rfl) rfl hf (fun hf => ?_) (fun hf => ?_)
    · refine SW_iconst h (dt t_G_ask 40 rfl) ?_
      exact k4 1 (by decide) hf
    · refine SW_bipush h (dt t_G_ask 38 rfl) (by decide) ?_
      refine SW_goto (tgt := 71) h (dt t_G_ask 39 rfl) rfl ?_
      exact k4 10 (by decide) hf
def L_G_ask_31 : Nat → Int → Int → Int → Int → Int → Int → Mm → Option (Int × Mm)
  | 0, _, _, _, _, _, _, _ => none
  | n + 1, x1, x2, x3, x5, x7, x8, σ =>
    if 0 ≤ x1 ∧ x1 < 10 then
      bindM ((if σ 124 x1.toNat ≤ 0 then 1 else 10 : Int)) fun v3 =>
      if v3 ≤ x8 then
        some ((x7, σ))
      else
        b1M (L_G_ask_54 LF x1 x2 x3 x5 x7 x8 0 σ) fun x7_18 s18 =>
        if r32 (x8 + 1) then
          L_G_ask_31 n x1 x2 x3 x5 x7_18 (x8 + 1) s18
        else none
    else none
set_option maxRecDepth 100000 in
set_option maxHeartbeats 4000000 in
theorem l_G_ask_31 {X : Cx} (h : CX X 0 cX1_ask 11 6 (some .boolean) RX1) (x1 : Int) (x2 : Int) (x3 : Int) (x5 : Int) (x6 : Int) (hx1 : r32 x1) (hx2 : r32 x2) (hx3 : r32 x3) (hx5 : r32 x5) (hx6 : r32 x6) {res : Int × Mm} (hex : ∀ (x7 : Int) (σ : Mm) (hz : some ((x7, σ)) = some res) (hx7 : r32 x7) (ok : okM σ), SW X 0 11 229 [none, some (.int (i32 x1)), some (.int (i32 x2)), none, some (.ref (xad X 3)), some (.int (i32 x5)), some (.int (i32 x6)), some (.int (i32 x7)), none, none, none] [] σ) : ∀ (n : Nat) (x7 : Int) (x8 : Int) (σ : Mm) (hx7 : r32 x7) (hx8 : r32 x8) (ok : okM σ) (hf : L_G_ask_31 n x1 x2 x3 x5 x7 x8 σ = some res), SW X 0 11 31 [some (.ref (xad X 121)), some (.int (i32 x1)), some (.int (i32 x2)), some (.int (i32 x3)), some (.ref (xad X 3)), some (.int (i32 x5)), some (.int (i32 x6)), some (.int (i32 x7)), some (.int (i32 x8)), none, none] [] σ := by
  intro n
  induction n with
  | zero => intro x7 x8 σ hx7 hx8 ok hf; exact absurd hf (by simp [L_G_ask_31])
  | succ n ih =>
    intro x7 x8 σ hx7 hx8 ok hf
    rw [L_G_ask_31] at hf
    refine SW_iload h rfl (dt t_G_ask 20 rfl) ?_
    refine SW_aload_n h rfl (dt t_G_ask 21 rfl) ?_
    refine gR h cf1 o121 f1_4 j121_4 lX1_18 (dt t_G_ask 22 rfl) ?_
    refine SW_iload_n h rfl (dt t_G_ask 23 rfl) ?_
    refine aI h a124 (dt t_G_ask 24 rfl) hf (fun hf => ?_)
    refine bT hf (fun g3 e3 hf => ?_)
    have k3 : ∀ (v3 : Int) (h3 : r32 v3) (hf : g3 v3 = some res), SW X 0 11 48 [some (.ref (xad X 121)), some (.int (i32 x1)), some (.int (i32 x2)), some (.int (i32 x3)), some (.ref (xad X 3)), some (.int (i32 x5)), some (.int (i32 x6)), some (.int (i32 x7)), some (.int (i32 x8)), none, none] [.int (i32 v3), .int (i32 x8)] σ := by
      intro v3 h3 hf
      rw [e3] at hf
      refine SW_icmp_ge (tgt := 229) h (fun _ => hx8) (fun _ => h3) (dt t_G_ask 29 rfl) rfl hf (fun hf => ?_) (fun hf => ?_)
      · exact SW_fgt [false, true, true, false, true, true, true, true, false, false, false] rfl (hex x7 σ hf hx7 ok)
      · refine SW_iconst h (dt t_G_ask 30 rfl) ?_
        refine SW_istore (lv2 := [some (.ref (xad X 121)), some (.int (i32 x1)), some (.int (i32 x2)), some (.int (i32 x3)), some (.ref (xad X 3)), some (.int (i32 x5)), some (.int (i32 x6)), some (.int (i32 x7)), some (.int (i32 x8)), some (.int (i32 0)), none]) h (dt t_G_ask 31 rfl) (by decide) rfl ?_
        obtain ⟨z18, e18, hk18⟩ := b1M_ex hf
        refine SW_fgt [true, true, true, true, true, true, true, true, true, true, false] rfl (l_G_ask_54 h x1 x2 x3 x5 x6 x8 hx1 hx2 hx3 hx5 hx6 hx8 (fun x7_18 s18 hz18 hx7_18 ok18 => ?_) LF x7 0 σ hx7 (by decide) ok e18)
        have hf := hk18 x7_18 s18 hz18
        refine SW_iinc (lv2 := [some (.ref (xad X 121)), some (.int (i32 x1)), some (.int (i32 x2)), some (.int (i32 x3)), some (.ref (xad X 3)), some (.int (i32 x5)), some (.int (i32 x6)), some (.int (i32 x7_18)), some (.int (i32 (x8 + 1))), none, none]) h (dt t_G_ask 122 rfl) rfl (by decide) rfl ?_
        refine SW_goto (tgt := 31) h (dt t_G_ask 123 rfl) rfl ?_
        refine SW_chk hf (fun h19 hf => ?_)
        exact SW_fgt [true, true, true, true, true, true, true, true, true, false, false] rfl (ih x7_18 (x8 + 1) s18 hx7_18 h19 ok18 hf)
    have hf := bIte hf
    refine SW_if_le (tgt := 47) h (fun _ => (okI ok 124 x1.toNat (IsA.n3 a124 (by decide)))) (dt t_G_ask 25 rfl) rfl hf (fun hf => ?_) (fun hf => ?_)
    · refine SW_iconst h (dt t_G_ask 28 rfl) ?_
      exact k3 1 (by decide) hf
    · refine SW_bipush h (dt t_G_ask 26 rfl) (by decide) ?_
      refine SW_goto (tgt := 48) h (dt t_G_ask 27 rfl) rfl ?_
      exact k3 10 (by decide) hf
def F_G_ask (x1 : Int) (x2 : Int) (x3 : Int) (σ : Mm) : Option (Int × Mm) :=
  if 0 ≤ 0 + x1 ∧ 0 + x1 < 165 then
    bindM (σ 3 ((0 + x1).toNat)) fun v1 =>
    if 0 ≤ 0 + x2 ∧ 0 + x2 < 165 then
      bindM (σ 3 ((0 + x2).toNat)) fun v2 =>
      b1M (L_G_ask_31 LF x1 x2 x3 v1 0 0 σ) fun x7_20 s20 =>
      if 0 ≤ 0 + x1 ∧ 0 + x1 < 165 then
        bindM (st2 s20 3 ((0 + x1).toNat) v1) fun s21 =>
        if 0 ≤ 0 + x2 ∧ 0 + x2 < 165 then
          bindM (st2 s21 3 ((0 + x2).toNat) v2) fun s22 =>
          if x7_20 = 0 ∨ x7_20 = 1 then
            some (x7_20, s22)
          else none
        else none
      else none
    else none
  else none
set_option maxRecDepth 100000 in
set_option maxHeartbeats 4000000 in
theorem c_G_ask (x1 : Int) (hx1 : r32 x1) (x2 : Int) (hx2 : r32 x2) (x3 : Int) (hx3 : r32 x3) {σ : Mm} {a : Int} {σ2 : Mm} (hf : F_G_ask x1 x2 x3 σ = some (a, σ2)) : CT yX1_ask cX1_ask 11 (some .boolean) 6 0 (fun ad => [.ref (ad 121), .int (i32 x1), .int (i32 x2), .int (i32 x3)]) σ (a = 0 ∨ a = 1) (some (.int (i32 a))) σ2 := by
  refine MetJ 7 (by decide +kernel) rfl (fun _ => Nat.le_of_ble_eq_true rfl) ?_
  intro X h hR ok
  obtain ⟨res, er⟩ : ∃ z, z = (a, σ2) := ⟨_, rfl⟩
  have hret : ∀ y : Int × Mm, some y = some res → RX X 0 (y.1 = 0 ∨ y.1 = 1) (some (.int (i32 (y.1)))) y.2 := fun y e => by cases e; cases er; exact hR
  rw [← er] at hf
  clear er hR
  unfold F_G_ask at hf
  show SW X 0 11 0 [some (.ref (xad X 121)), some (.int (i32 x1)), some (.int (i32 x2)), some (.int (i32 x3)), none, none, none, none, none, none, none] [] σ
  refine SW_aload_n h rfl (dt t_G_ask 0 rfl) ?_
  refine gR h cf1 o121 f1_3 j121_3 lX1_34 (dt t_G_ask 1 rfl) ?_
  refine gR h cf2 o1 f2_1 j1_1 lX1_93 (dt t_G_ask 2 rfl) ?_
  refine SW_astore (lv2 := [some (.ref (xad X 121)), some (.int (i32 x1)), some (.int (i32 x2)), some (.int (i32 x3)), some (.ref (xad X 3)), none, none, none, none, none, none]) h (dt t_G_ask 3 rfl) (by decide) rfl ?_
  refine SW_aload h rfl (dt t_G_ask 4 rfl) ?_
  refine SW_iconst h (dt t_G_ask 5 rfl) ?_
  refine SW_iload_n h rfl (dt t_G_ask 6 rfl) ?_
  refine SW_iadd h (dt t_G_ask 7 rfl) ?_
  refine aI h a3 (dt t_G_ask 8 rfl) hf (fun hf => ?_)
  refine SW_vi hf (okI ok 3 ((0 + x1).toNat) (IsA.n3 a3 (by decide))) (fun v1 h1 hf => ?_)
  refine SW_istore (lv2 := [some (.ref (xad X 121)), some (.int (i32 x1)), some (.int (i32 x2)), some (.int (i32 x3)), some (.ref (xad X 3)), some (.int (i32 v1)), none, none, none, none, none]) h (dt t_G_ask 9 rfl) (by decide) rfl ?_
  refine SW_aload h rfl (dt t_G_ask 10 rfl) ?_
  refine SW_iconst h (dt t_G_ask 11 rfl) ?_
  refine SW_iload_n h rfl (dt t_G_ask 12 rfl) ?_
  refine SW_iadd h (dt t_G_ask 13 rfl) ?_
  refine aI h a3 (dt t_G_ask 14 rfl) hf (fun hf => ?_)
  refine SW_vi hf (okI ok 3 ((0 + x2).toNat) (IsA.n3 a3 (by decide))) (fun v2 h2 hf => ?_)
  refine SW_istore (lv2 := [some (.ref (xad X 121)), some (.int (i32 x1)), some (.int (i32 x2)), some (.int (i32 x3)), some (.ref (xad X 3)), some (.int (i32 v1)), some (.int (i32 v2)), none, none, none, none]) h (dt t_G_ask 15 rfl) (by decide) rfl ?_
  refine SW_iconst h (dt t_G_ask 16 rfl) ?_
  refine SW_istore (lv2 := [some (.ref (xad X 121)), some (.int (i32 x1)), some (.int (i32 x2)), some (.int (i32 x3)), some (.ref (xad X 3)), some (.int (i32 v1)), some (.int (i32 v2)), some (.int (i32 0)), none, none, none]) h (dt t_G_ask 17 rfl) (by decide) rfl ?_
  refine SW_iconst h (dt t_G_ask 18 rfl) ?_
  refine SW_istore (lv2 := [some (.ref (xad X 121)), some (.int (i32 x1)), some (.int (i32 x2)), some (.int (i32 x3)), some (.ref (xad X 3)), some (.int (i32 v1)), some (.int (i32 v2)), some (.int (i32 0)), some (.int (i32 0)), none, none]) h (dt t_G_ask 19 rfl) (by decide) rfl ?_
  obtain ⟨z20, e20, hk20⟩ := b1M_ex hf
  refine SW_fgt [true, true, true, true, true, true, true, true, true, false, false] rfl (l_G_ask_31 h x1 x2 x3 v1 v2 hx1 hx2 hx3 h1 h2 (fun x7_20 s20 hz20 hx7_20 ok20 => ?_) LF 0 0 σ (by decide) (by decide) ok e20)
  have hf := hk20 x7_20 s20 hz20
  refine SW_aload h rfl (dt t_G_ask 124 rfl) ?_
  refine SW_iconst h (dt t_G_ask 125 rfl) ?_
  refine SW_iload_n h rfl (dt t_G_ask 126 rfl) ?_
  refine SW_iadd h (dt t_G_ask 127 rfl) ?_
  refine SW_iload h rfl (dt t_G_ask 128 rfl) ?_
  refine sI h a3 h1 (dt t_G_ask 129 rfl) hf (fun hf => SW_bm hf (fun s21 ok21 hf => ?_))
  refine SW_aload h rfl (dt t_G_ask 130 rfl) ?_
  refine SW_iconst h (dt t_G_ask 131 rfl) ?_
  refine SW_iload_n h rfl (dt t_G_ask 132 rfl) ?_
  refine SW_iadd h (dt t_G_ask 133 rfl) ?_
  refine SW_iload h rfl (dt t_G_ask 134 rfl) ?_
  refine sI h a3 h2 (dt t_G_ask 135 rfl) hf (fun hf => SW_bm hf (fun s22 ok22 hf => ?_))
  refine SW_iload h rfl (dt t_G_ask 136 rfl) ?_
  refine SW_chk hf (fun h23 hf => ?_)
  exact SW_zret h (hret _ hf) h23 rfl (dt t_G_ask 137 rfl)
