def b_M_errs : List (Nat × Instr × Nat) := [(0, .aload_n 0, 1), (1, .getfield 251, 3), (4, .ifCond .ne 16, 3), (7, .aload_n 0, 1), (8, .iload_n 1, 1), (9, .putfield 251, 3), (12, .aload_n 0, 1), (13, .aload_n 0, 1), (14, .getfield 231, 3), (17, .putfield 254, 3), (20, .return_, 1)]
theorem t_M_errs : DT cX11_errs b_M_errs := DT.of (by decide +kernel)
def F_M_errs (x1 : Int) (σ : Mm) : Option (Mm) :=
  if σ 200 19 = 0 then
    bindM (st2 σ 200 19 x1) fun s2 =>
    bindM (st2 s2 200 20 (s2 200 16)) fun s4 =>
    some s4
  else
    some σ
set_option maxRecDepth 100000 in
set_option maxHeartbeats 4000000 in
theorem c_M_errs (x1 : Int) (hx1 : r32 x1) {σ : Mm} {σ2 : Mm} (hf : F_M_errs x1 σ = some σ2) : CT yX11_errs cX11_errs 2 none 0 1 (fun ad => [.ref (ad 200), .int (i32 x1)]) σ True none σ2 := by
  refine MetJ 0 (by decide +kernel) rfl (fun _ => Nat.le_of_ble_eq_true rfl) ?_
  intro X h hR ok
  obtain ⟨res, er⟩ : ∃ z, z = σ2 := ⟨_, rfl⟩
  have hret : ∀ y : Mm, some y = some res → RX X 1 True none y := fun y e => by cases e; cases er; exact hR
  rw [← er] at hf
  clear er hR
  unfold F_M_errs at hf
  show SW X 1 2 0 [some (.ref (xad X 200)), some (.int (i32 x1))] [] σ
  refine SW_aload_n h rfl (dt t_M_errs 0 rfl) ?_
  refine gI h cf11 o200 f11_19 lX11_251 (dt t_M_errs 1 rfl) ?_
  refine SW_if_ne (tgt := 20) h (fun _ => (okI ok 200 19 (IsO.n3 o200))) (dt t_M_errs 2 rfl) rfl hf (fun hf => ?_) (fun hf => ?_)
  · refine SW_aload_n h rfl (dt t_M_errs 3 rfl) ?_
    refine SW_iload_n h rfl (dt t_M_errs 4 rfl) ?_
    refine pI h cf11 o200 f11_19 hx1 lX11_251 (dt t_M_errs 5 rfl) (SW_bm hf (fun s2 ok2 hf => ?_))
    refine SW_aload_n h rfl (dt t_M_errs 6 rfl) ?_
    refine SW_aload_n h rfl (dt t_M_errs 7 rfl) ?_
    refine gI h cf11 o200 f11_16 lX11_231 (dt t_M_errs 8 rfl) ?_
    refine pI h cf11 o200 f11_20 (okI ok2 200 16 (IsO.n3 o200)) lX11_254 (dt t_M_errs 9 rfl) (SW_bm hf (fun s4 ok4 hf => ?_))
    exact SW_vret h (hret _ hf) rfl (dt t_M_errs 10 rfl)
  · exact SW_vret h (hret _ hf) rfl (dt t_M_errs 10 rfl)
def b_M_opensFrame : List (Nat × Instr × Nat) := [(0, .aload_n 0, 1), (1, .getfield 51, 3), (4, .aload_n 0, 1), (5, .getfield 260, 3), (8, .iload_n 1, 1), (9, .iastore, 1), (10, .aload_n 0, 1), (11, .dup, 1), (12, .getfield 260, 3), (15, .iconst 1, 1), (16, .iadd, 1), (17, .putfield 260, 3), (20, .return_, 1)]
theorem t_M_opensFrame : DT cX11_opensFrame b_M_opensFrame := DT.of (by decide +kernel)
def F_M_opensFrame (x1 : Int) (σ : Mm) : Option (Mm) :=
  if 0 ≤ σ 200 22 ∧ σ 200 22 < 40 then
    bindM (st2 σ 212 ((σ 200 22).toNat) x1) fun s1 =>
    if r32 ((s1 200 22) + 1) then
      bindM (st2 s1 200 22 ((s1 200 22) + 1)) fun s4 =>
      some s4
    else none
  else none
set_option maxRecDepth 100000 in
set_option maxHeartbeats 4000000 in
theorem c_M_opensFrame (x1 : Int) (hx1 : r32 x1) {σ : Mm} {σ2 : Mm} (hf : F_M_opensFrame x1 σ = some σ2) : CT yX11_opensFrame cX11_opensFrame 2 none 0 1 (fun ad => [.ref (ad 200), .int (i32 x1)]) σ True none σ2 := by
  refine MetJ 0 (by decide +kernel) rfl (fun _ => Nat.le_of_ble_eq_true rfl) ?_
  intro X h hR ok
  obtain ⟨res, er⟩ : ∃ z, z = σ2 := ⟨_, rfl⟩
  have hret : ∀ y : Mm, some y = some res → RX X 1 True none y := fun y e => by cases e; cases er; exact hR
  rw [← er] at hf
  clear er hR
  unfold F_M_opensFrame at hf
  show SW X 1 2 0 [some (.ref (xad X 200)), some (.int (i32 x1))] [] σ
  refine SW_aload_n h rfl (dt t_M_opensFrame 0 rfl) ?_
  refine gR h cf11 o200 f11_23 j200_23 lX11_51 (dt t_M_opensFrame 1 rfl) ?_
  refine SW_aload_n h rfl (dt t_M_opensFrame 2 rfl) ?_
  refine gI h cf11 o200 f11_22 lX11_260 (dt t_M_opensFrame 3 rfl) ?_
  refine SW_iload_n h rfl (dt t_M_opensFrame 4 rfl) ?_
  refine sI h a212 hx1 (dt t_M_opensFrame 5 rfl) hf (fun hf => SW_bm hf (fun s1 ok1 hf => ?_))
  refine SW_aload_n h rfl (dt t_M_opensFrame 6 rfl) ?_
  refine SW_dup h rfl (dt t_M_opensFrame 7 rfl) ?_
  refine gI h cf11 o200 f11_22 lX11_260 (dt t_M_opensFrame 8 rfl) ?_
  refine SW_iconst h (dt t_M_opensFrame 9 rfl) ?_
  refine SW_iadd h (dt t_M_opensFrame 10 rfl) ?_
  refine SW_chk hf (fun h3 hf => ?_)
  refine pI h cf11 o200 f11_22 h3 lX11_260 (dt t_M_opensFrame 11 rfl) (SW_bm hf (fun s4 ok4 hf => ?_))
  exact SW_vret h (hret _ hf) rfl (dt t_M_opensFrame 12 rfl)
def b_M_in : List (Nat × Instr × Nat) := [(0, .iload_n 0, 1), (1, .iload_n 1, 1), (2, .if_icmp .lt 12, 3), (5, .iload_n 0, 1), (6, .iload_n 2, 1), (7, .if_icmp .gt 7, 3), (10, .iconst 1, 1), (11, .goto 4, 3), (14, .iconst 0, 1), (15, .ireturn, 1)]
theorem t_M_in : DT cX11_in b_M_in := DT.of (by decide +kernel)
def F_M_in (x0 : Int) (x1 : Int) (x2 : Int) : Option (Int) :=
  if x0 < x1 then
    some 0
  else
    if x2 < x0 then
      some 0
    else
      some 1
set_option maxRecDepth 100000 in
set_option maxHeartbeats 4000000 in
theorem c_M_in (x0 : Int) (hx0 : r32 x0) (x1 : Int) (hx1 : r32 x1) (x2 : Int) (hx2 : r32 x2) {σ : Mm} {a : Int} (hf : F_M_in x0 x1 x2 = some a) : CT yX11_in cX11_in 3 (some .boolean) 0 1 (fun ad => [.int (i32 x0), .int (i32 x1), .int (i32 x2)]) σ (a = 0 ∨ a = 1) (some (.int (i32 a))) σ := by
  refine MetJ 0 (by decide +kernel) rfl (fun _ => Nat.le_of_ble_eq_true rfl) ?_
  intro X h hR ok
  obtain ⟨res, er⟩ : ∃ z, z = a := ⟨_, rfl⟩
  have hret : ∀ y : Int, some y = some res → RX X 1 (y = 0 ∨ y = 1) (some (.int (i32 (y)))) σ := fun y e => by cases e; cases er; exact hR
  rw [← er] at hf
  clear er hR
  unfold F_M_in at hf
  show SW X 1 3 0 [some (.int (i32 x0)), some (.int (i32 x1)), some (.int (i32 x2))] [] σ
  refine SW_iload_n h rfl (dt t_M_in 0 rfl) ?_
  refine SW_iload_n h rfl (dt t_M_in 1 rfl) ?_
  refine SW_icmp_lt (tgt := 14) h (fun _ => hx0) (fun _ => hx1) (dt t_M_in 2 rfl) rfl hf (fun hf => ?_) (fun hf => ?_)
  · refine SW_iconst h (dt t_M_in 8 rfl) ?_
    exact SW_zret h (hret _ hf) (by decide) rfl (dt t_M_in 9 rfl)
  · refine SW_iload_n h rfl (dt t_M_in 3 rfl) ?_
    refine SW_iload_n h rfl (dt t_M_in 4 rfl) ?_
    refine SW_icmp_gt (tgt := 14) h (fun _ => hx0) (fun _ => hx2) (dt t_M_in 5 rfl) rfl hf (fun hf => ?_) (fun hf => ?_)
    · refine SW_iconst h (dt t_M_in 8 rfl) ?_
      exact SW_zret h (hret _ hf) (by decide) rfl (dt t_M_in 9 rfl)
    · refine SW_iconst h (dt t_M_in 6 rfl) ?_
      refine SW_goto (tgt := 15) h (dt t_M_in 7 rfl) rfl ?_
      exact SW_zret h (hret _ hf) (by decide) rfl (dt t_M_in 9 rfl)
def b_M_isLetter : List (Nat × Instr × Nat) := [(0, .iload_n 0, 1), (1, .bipush 97, 2), (3, .bipush 122, 2), (5, .invokestatic 150, 3), (8, .ifCond .ne 14, 3), (11, .iload_n 0, 1), (12, .bipush 65, 2), (14, .bipush 90, 2), (16, .invokestatic 150, 3), (19, .ifCond .eq 7, 3), (22, .iconst 1, 1), (23, .goto 4, 3), (26, .iconst 0, 1), (27, .ireturn, 1)]
theorem t_M_isLetter : DT cX11_isLetter b_M_isLetter := DT.of (by decide +kernel)
def F_M_isLetter (x0 : Int) : Option (Int) :=
  b1 (F_M_in x0 97 122) fun v1 =>
  if v1 = 0 then
    b1 (F_M_in x0 65 90) fun v2 =>
    if v2 = 0 then
      some 0
    else
      some 1
  else
    some 1
set_option maxRecDepth 100000 in
set_option maxHeartbeats 4000000 in
theorem c_M_isLetter (x0 : Int) (hx0 : r32 x0) {σ : Mm} {a : Int} (hf : F_M_isLetter x0 = some a) : CT yX11_isLetter cX11_isLetter 1 (some .boolean) 1 1 (fun ad => [.int (i32 x0)]) σ (a = 0 ∨ a = 1) (some (.int (i32 a))) σ := by
  refine MetJ 0 (by decide +kernel) rfl (fun _ => Nat.le_of_ble_eq_true rfl) ?_
  intro X h hR ok
  obtain ⟨res, er⟩ : ∃ z, z = a := ⟨_, rfl⟩
  have hret : ∀ y : Int, some y = some res → RX X 1 (y = 0 ∨ y = 1) (some (.int (i32 (y)))) σ := fun y e => by cases e; cases er; exact hR
  rw [← er] at hf
  clear er hR
  unfold F_M_isLetter at hf
  show SW X 1 1 0 [some (.int (i32 x0))] [] σ
  refine SW_iload_n h rfl (dt t_M_isLetter 0 rfl) ?_
  refine SW_bipush h (dt t_M_isLetter 1 rfl) (by decide) ?_
  refine SW_bipush h (dt t_M_isLetter 2 rfl) (by decide) ?_
  obtain ⟨v1, e1, hf⟩ := b1_of hf
  refine cS h [.int (i32 x0), .int (i32 97), .int (i32 122)] [] v_X11_in kX11_150 (c_M_in x0 hx0 97 (by decide) 122 (by decide) e1) rfl rfl (by decide) (by decide) rfl (Nat.le_of_ble_eq_true rfl) (dt t_M_isLetter 3 rfl) (fun h1 => ?_)
  refine SW_if_ne (tgt := 22) h (fun _ => (r_zo h1)) (dt t_M_isLetter 4 rfl) rfl hf (fun hf => ?_) (fun hf => ?_)
  · refine SW_iload_n h rfl (dt t_M_isLetter 5 rfl) ?_
    refine SW_bipush h (dt t_M_isLetter 6 rfl) (by decide) ?_
    refine SW_bipush h (dt t_M_isLetter 7 rfl) (by decide) ?_
    obtain ⟨v2, e2, hf⟩ := b1_of hf
    refine cS h [.int (i32 x0), .int (i32 65), .int (i32 90)] [] v_X11_in kX11_150 (c_M_in x0 hx0 65 (by decide) 90 (by decide) e2) rfl rfl (by decide) (by decide) rfl (Nat.le_of_ble_eq_true rfl) (dt t_M_isLetter 8 rfl) (fun h2 => ?_)
    refine SW_if_eq (tgt := 26) h (fun _ => (r_zo h2)) (dt t_M_isLetter 9 rfl) rfl hf (fun hf => ?_) (fun hf => ?_)
    · refine SW_iconst h (dt t_M_isLetter 12 rfl) ?_
      exact SW_zret h (hret _ hf) (by decide) rfl (dt t_M_isLetter 13 rfl)
    · refine SW_iconst h (dt t_M_isLetter 10 rfl) ?_
      refine SW_goto (tgt := 27) h (dt t_M_isLetter 11 rfl) rfl ?_
      exact SW_zret h (hret _ hf) (by decide) rfl (dt t_M_isLetter 13 rfl)
  · refine SW_iconst h (dt t_M_isLetter 10 rfl) ?_
    refine SW_goto (tgt := 27) h (dt t_M_isLetter 11 rfl) rfl ?_
    exact SW_zret h (hret _ hf) (by decide) rfl (dt t_M_isLetter 13 rfl)
def b_M_wordOf : List (Nat × Instr × Nat) := [(0, .lload_n 0, 1), (1, .ldc2_w 171, 3), (4, .lcmp, 1), (5, .ifCond .ne 7, 3), (8, .iconst 0, 1), (9, .goto 337, 3), (12, .lload_n 0, 1), (13, .ldc2_w 173, 3), (16, .lcmp, 1), (17, .ifCond .ne 7, 3), (20, .iconst 1, 1), (21, .goto 325, 3), (24, .lload_n 0, 1), (25, .ldc2_w 175, 3), (28, .lcmp, 1), (29, .ifCond .ne 7, 3), (32, .iconst 2, 1), (33, .goto 313, 3), (36, .lload_n 0, 1), (37, .ldc2_w 177, 3), (40, .lcmp, 1), (41, .ifCond .ne 7, 3), (44, .iconst 3, 1), (45, .goto 301, 3), (48, .lload_n 0, 1), (49, .ldc2_w 179, 3), (52, .lcmp, 1), (53, .ifCond .ne 7, 3), (56, .iconst 4, 1), (57, .goto 289, 3), (60, .lload_n 0, 1), (61, .ldc2_w 181, 3), (64, .lcmp, 1), (65, .ifCond .ne 7, 3), (68, .iconst 5, 1), (69, .goto 277, 3), (72, .lload_n 0, 1), (73, .ldc2_w 183, 3), (76, .lcmp, 1), (77, .ifCond .ne 8, 3), (80, .bipush 6, 2), (82, .goto 264, 3), (85, .lload_n 0, 1), (86, .ldc2_w 185, 3), (89, .lcmp, 1), (90, .ifCond .ne 8, 3), (93, .bipush 7, 2), (95, .goto 251, 3), (98, .lload_n 0, 1), (99, .ldc2_w 187, 3), (102, .lcmp, 1), (103, .ifCond .ne 8, 3), (106, .bipush 8, 2), (108, .goto 238, 3), (111, .lload_n 0, 1), (112, .ldc2_w 189, 3), (115, .lcmp, 1), (116, .ifCond .ne 8, 3), (119, .bipush 9, 2), (121, .goto 225, 3), (124, .lload_n 0, 1), (125, .ldc2_w 191, 3), (128, .lcmp, 1), (129, .ifCond .ne 8, 3), (132, .bipush 10, 2), (134, .goto 212, 3), (137, .lload_n 0, 1), (138, .ldc2_w 193, 3), (141, .lcmp, 1), (142, .ifCond .ne 8, 3), (145, .bipush 11, 2), (147, .goto 199, 3), (150, .lload_n 0, 1), (151, .ldc2_w 195, 3), (154, .lcmp, 1), (155, .ifCond .ne 8, 3), (158, .bipush 12, 2), (160, .goto 186, 3), (163, .lload_n 0, 1), (164, .ldc2_w 197, 3), (167, .lcmp, 1), (168, .ifCond .ne 8, 3), (171, .bipush 13, 2), (173, .goto 173, 3), (176, .lload_n 0, 1), (177, .ldc2_w 199, 3), (180, .lcmp, 1), (181, .ifCond .ne 8, 3), (184, .bipush 14, 2), (186, .goto 160, 3), (189, .lload_n 0, 1), (190, .ldc2_w 201, 3), (193, .lcmp, 1), (194, .ifCond .ne 8, 3), (197, .bipush 15, 2), (199, .goto 147, 3), (202, .lload_n 0, 1), (203, .ldc2_w 203, 3), (206, .lcmp, 1), (207, .ifCond .ne 8, 3), (210, .bipush 16, 2), (212, .goto 134, 3), (215, .lload_n 0, 1), (216, .ldc2_w 205, 3), (219, .lcmp, 1), (220, .ifCond .ne 8, 3), (223, .bipush 17, 2), (225, .goto 121, 3), (228, .lload_n 0, 1), (229, .ldc2_w 207, 3), (232, .lcmp, 1), (233, .ifCond .ne 8, 3), (236, .bipush 18, 2), (238, .goto 108, 3), (241, .lload_n 0, 1), (242, .ldc2_w 209, 3), (245, .lcmp, 1), (246, .ifCond .ne 8, 3), (249, .bipush 19, 2), (251, .goto 95, 3), (254, .lload_n 0, 1), (255, .ldc2_w 211, 3), (258, .lcmp, 1), (259, .ifCond .ne 8, 3), (262, .bipush 20, 2), (264, .goto 82, 3), (267, .lload_n 0, 1), (268, .ldc2_w 213, 3), (271, .lcmp, 1), (272, .ifCond .ne 8, 3), (275, .bipush 21, 2), (277, .goto 69, 3), (280, .lload_n 0, 1), (281, .ldc2_w 215, 3), (284, .lcmp, 1), (285, .ifCond .ne 8, 3), (288, .bipush 22, 2), (290, .goto 56, 3), (293, .lload_n 0, 1), (294, .ldc2_w 217, 3), (297, .lcmp, 1), (298, .ifCond .ne 8, 3), (301, .bipush 23, 2), (303, .goto 43, 3), (306, .lload_n 0, 1), (307, .ldc2_w 219, 3), (310, .lcmp, 1), (311, .ifCond .ne 8, 3), (314, .bipush 24, 2), (316, .goto 30, 3), (319, .lload_n 0, 1), (320, .ldc2_w 221, 3), (323, .lcmp, 1), (324, .ifCond .ne 8, 3), (327, .bipush 25, 2), (329, .goto 17, 3), (332, .lload_n 0, 1), (333, .ldc2_w 223, 3), (336, .lcmp, 1), (337, .ifCond .ne 8, 3), (340, .bipush 26, 2), (342, .goto 4, 3), (345, .iconst (-1), 1), (346, .ireturn, 1)]
theorem t_M_wordOf : DT cX11_wordOf b_M_wordOf := DT.of (by decide +kernel)
def F_M_wordOf (x0 : Int) : Option (Int) :=
  if lcmpI x0 10378547 = 0 then
    some 0
  else
    if lcmpI x0 194982 = 0 then
      some 1
    else
      if lcmpI x0 11992036 = 0 then
        some 2
      else
        if lcmpI x0 207863 = 0 then
          some 3
        else
          if lcmpI x0 54317202414 = 0 then
            some 4
          else
            if lcmpI x0 13851822 = 0 then
              some 5
            else
              if lcmpI x0 55561898533 = 0 then
                some 6
              else
                if lcmpI x0 149625 = 0 then
                  some 7
                else
                  if lcmpI x0 14589224 = 0 then
                    some 8
                  else
                    if lcmpI x0 3375 = 0 then
                      some 9
                    else
                      if lcmpI x0 3058 = 0 then
                        some 10
                      else
                        if lcmpI x0 138148 = 0 then
                          some 11
                        else
                          if lcmpI x0 191476 = 0 then
                            some 12
                          else
                            if lcmpI x0 11992229 = 0 then
                              some 13
                            else
                              if lcmpI x0 11689203 = 0 then
                                some 14
                              else
                                if lcmpI x0 11688372 = 0 then
                                  some 15
                                else
                                  if lcmpI x0 849771060 = 0 then
                                    some 16
                                  else
                                    if lcmpI x0 14556333 = 0 then
                                      some 17
                                    else
                                      if lcmpI x0 9370604 = 0 then
                                        some 18
                                      else
                                        if lcmpI x0 798706030 = 0 then
                                          some 19
                                        else
                                          if lcmpI x0 566369460 = 0 then
                                            some 20
                                          else
                                            if lcmpI x0 11672820 = 0 then
                                              some 21
                                            else
                                              if lcmpI x0 141412 = 0 then
                                                some 22
                                              else
                                                if lcmpI x0 41500499109 = 0 then
                                                  some 23
                                                else
                                                  if lcmpI x0 56467327346 = 0 then
                                                    some 24
                                                  else
                                                    if lcmpI x0 14104932 = 0 then
                                                      some 25
                                                    else
                                                      if lcmpI x0 13303283 = 0 then
                                                        some 26
                                                      else
                                                        some ((-1))
set_option maxRecDepth 100000 in
set_option maxHeartbeats 4000000 in
theorem c_M_wordOf (x0 : Int) (hx0 : r64 x0) {σ : Mm} {a : Int} (hf : F_M_wordOf x0 = some a) : CT yX11_wordOf cX11_wordOf 2 (some .int) 0 1 (fun ad => [.long (i64 x0)]) σ (r32 a) (some (.int (i32 a))) σ := by
  refine MetJ 0 (by decide +kernel) rfl (fun _ => Nat.le_of_ble_eq_true rfl) ?_
  intro X h hR ok
  obtain ⟨res, er⟩ : ∃ z, z = a := ⟨_, rfl⟩
  have hret : ∀ y : Int, some y = some res → RX X 1 (r32 (y)) (some (.int (i32 (y)))) σ := fun y e => by cases e; cases er; exact hR
  rw [← er] at hf
  clear er hR
  unfold F_M_wordOf at hf
  show SW X 1 2 0 [some (.long (i64 x0)), none] [] σ
  refine SW_lload_n h rfl (dt t_M_wordOf 0 rfl) ?_
  refine SW_ldc2 (n := 10378547) h nX11_171 (by decide) (dt t_M_wordOf 1 rfl) ?_
  refine SW_lcmp h (fun _ => hx0) (fun _ => (by decide)) (dt t_M_wordOf 2 rfl) ?_
  refine SW_if_ne (tgt := 12) h (fun _ => (r_lcmp _ _)) (dt t_M_wordOf 3 rfl) rfl hf (fun hf => ?_) (fun hf => ?_)
  · refine SW_iconst h (dt t_M_wordOf 4 rfl) ?_
    refine SW_goto (tgt := 346) h (dt t_M_wordOf 5 rfl) rfl ?_
    exact SW_iret h (hret _ hf) (fun _ => (by decide)) rfl (dt t_M_wordOf 163 rfl)
  · refine SW_lload_n h rfl (dt t_M_wordOf 6 rfl) ?_
    refine SW_ldc2 (n := 194982) h nX11_173 (by decide) (dt t_M_wordOf 7 rfl) ?_
    refine SW_lcmp h (fun _ => hx0) (fun _ => (by decide)) (dt t_M_wordOf 8 rfl) ?_
    refine SW_if_ne (tgt := 24) h (fun _ => (r_lcmp _ _)) (dt t_M_wordOf 9 rfl) rfl hf (fun hf => ?_) (fun hf => ?_)
    · refine SW_iconst h (dt t_M_wordOf 10 rfl) ?_
      refine SW_goto (tgt := 346) h (dt t_M_wordOf 11 rfl) rfl ?_
      exact SW_iret h (hret _ hf) (fun _ => (by decide)) rfl (dt t_M_wordOf 163 rfl)
    · refine SW_lload_n h rfl (dt t_M_wordOf 12 rfl) ?_
      refine SW_ldc2 (n := 11992036) h nX11_175 (by decide) (dt t_M_wordOf 13 rfl) ?_
      refine SW_lcmp h (fun _ => hx0) (fun _ => (by decide)) (dt t_M_wordOf 14 rfl) ?_
      refine SW_if_ne (tgt := 36) h (fun _ => (r_lcmp _ _)) (dt t_M_wordOf 15 rfl) rfl hf (fun hf => ?_) (fun hf => ?_)
      · refine SW_iconst h (dt t_M_wordOf 16 rfl) ?_
        refine SW_goto (tgt := 346) h (dt t_M_wordOf 17 rfl) rfl ?_
        exact SW_iret h (hret _ hf) (fun _ => (by decide)) rfl (dt t_M_wordOf 163 rfl)
      · refine SW_lload_n h rfl (dt t_M_wordOf 18 rfl) ?_
        refine SW_ldc2 (n := 207863) h nX11_177 (by decide) (dt t_M_wordOf 19 rfl) ?_
        refine SW_lcmp h (fun _ => hx0) (fun _ => (by decide)) (dt t_M_wordOf 20 rfl) ?_
        refine SW_if_ne (tgt := 48) h (fun _ => (r_lcmp _ _)) (dt t_M_wordOf 21 rfl) rfl hf (fun hf => ?_) (fun hf => ?_)
        · refine SW_iconst h (dt t_M_wordOf 22 rfl) ?_
          refine SW_goto (tgt := 346) h (dt t_M_wordOf 23 rfl) rfl ?_
          exact SW_iret h (hret _ hf) (fun _ => (by decide)) rfl (dt t_M_wordOf 163 rfl)
        · refine SW_lload_n h rfl (dt t_M_wordOf 24 rfl) ?_
          refine SW_ldc2 (n := 54317202414) h nX11_179 (by decide) (dt t_M_wordOf 25 rfl) ?_
          refine SW_lcmp h (fun _ => hx0) (fun _ => (by decide)) (dt t_M_wordOf 26 rfl) ?_
          refine SW_if_ne (tgt := 60) h (fun _ => (r_lcmp _ _)) (dt t_M_wordOf 27 rfl) rfl hf (fun hf => ?_) (fun hf => ?_)
          · refine SW_iconst h (dt t_M_wordOf 28 rfl) ?_
            refine SW_goto (tgt := 346) h (dt t_M_wordOf 29 rfl) rfl ?_
            exact SW_iret h (hret _ hf) (fun _ => (by decide)) rfl (dt t_M_wordOf 163 rfl)
          · refine SW_lload_n h rfl (dt t_M_wordOf 30 rfl) ?_
            refine SW_ldc2 (n := 13851822) h nX11_181 (by decide) (dt t_M_wordOf 31 rfl) ?_
            refine SW_lcmp h (fun _ => hx0) (fun _ => (by decide)) (dt t_M_wordOf 32 rfl) ?_
            refine SW_if_ne (tgt := 72) h (fun _ => (r_lcmp _ _)) (dt t_M_wordOf 33 rfl) rfl hf (fun hf => ?_) (fun hf => ?_)
            · refine SW_iconst h (dt t_M_wordOf 34 rfl) ?_
              refine SW_goto (tgt := 346) h (dt t_M_wordOf 35 rfl) rfl ?_
              exact SW_iret h (hret _ hf) (fun _ => (by decide)) rfl (dt t_M_wordOf 163 rfl)
            · refine SW_lload_n h rfl (dt t_M_wordOf 36 rfl) ?_
              refine SW_ldc2 (n := 55561898533) h nX11_183 (by decide) (dt t_M_wordOf 37 rfl) ?_
              refine SW_lcmp h (fun _ => hx0) (fun _ => (by decide)) (dt t_M_wordOf 38 rfl) ?_
              refine SW_if_ne (tgt := 85) h (fun _ => (r_lcmp _ _)) (dt t_M_wordOf 39 rfl) rfl hf (fun hf => ?_) (fun hf => ?_)
              · refine SW_bipush h (dt t_M_wordOf 40 rfl) (by decide) ?_
                refine SW_goto (tgt := 346) h (dt t_M_wordOf 41 rfl) rfl ?_
                exact SW_iret h (hret _ hf) (fun _ => (by decide)) rfl (dt t_M_wordOf 163 rfl)
              · refine SW_lload_n h rfl (dt t_M_wordOf 42 rfl) ?_
                refine SW_ldc2 (n := 149625) h nX11_185 (by decide) (dt t_M_wordOf 43 rfl) ?_
                refine SW_lcmp h (fun _ => hx0) (fun _ => (by decide)) (dt t_M_wordOf 44 rfl) ?_
                refine SW_if_ne (tgt := 98) h (fun _ => (r_lcmp _ _)) (dt t_M_wordOf 45 rfl) rfl hf (fun hf => ?_) (fun hf => ?_)
                · refine SW_bipush h (dt t_M_wordOf 46 rfl) (by decide) ?_
                  refine SW_goto (tgt := 346) h (dt t_M_wordOf 47 rfl) rfl ?_
                  exact SW_iret h (hret _ hf) (fun _ => (by decide)) rfl (dt t_M_wordOf 163 rfl)
                · refine SW_lload_n h rfl (dt t_M_wordOf 48 rfl) ?_
                  refine SW_ldc2 (n := 14589224) h nX11_187 (by decide) (dt t_M_wordOf 49 rfl) ?_
                  refine SW_lcmp h (fun _ => hx0) (fun _ => (by decide)) (dt t_M_wordOf 50 rfl) ?_
                  refine SW_if_ne (tgt := 111) h (fun _ => (r_lcmp _ _)) (dt t_M_wordOf 51 rfl) rfl hf (fun hf => ?_) (fun hf => ?_)
                  · refine SW_bipush h (dt t_M_wordOf 52 rfl) (by decide) ?_
                    refine SW_goto (tgt := 346) h (dt t_M_wordOf 53 rfl) rfl ?_
                    exact SW_iret h (hret _ hf) (fun _ => (by decide)) rfl (dt t_M_wordOf 163 rfl)
                  · refine SW_lload_n h rfl (dt t_M_wordOf 54 rfl) ?_
                    refine SW_ldc2 (n := 3375) h nX11_189 (by decide) (dt t_M_wordOf 55 rfl) ?_
                    refine SW_lcmp h (fun _ => hx0) (fun _ => (by decide)) (dt t_M_wordOf 56 rfl) ?_
                    refine SW_if_ne (tgt := 124) h (fun _ => (r_lcmp _ _)) (dt t_M_wordOf 57 rfl) rfl hf (fun hf => ?_) (fun hf => ?_)
                    · refine SW_bipush h (dt t_M_wordOf 58 rfl) (by decide) ?_
                      refine SW_goto (tgt := 346) h (dt t_M_wordOf 59 rfl) rfl ?_
                      exact SW_iret h (hret _ hf) (fun _ => (by decide)) rfl (dt t_M_wordOf 163 rfl)
                    · refine SW_lload_n h rfl (dt t_M_wordOf 60 rfl) ?_
                      refine SW_ldc2 (n := 3058) h nX11_191 (by decide) (dt t_M_wordOf 61 rfl) ?_
                      refine SW_lcmp h (fun _ => hx0) (fun _ => (by decide)) (dt t_M_wordOf 62 rfl) ?_
                      refine SW_if_ne (tgt := 137) h (fun _ => (r_lcmp _ _)) (dt t_M_wordOf 63 rfl) rfl hf (fun hf => ?_) (fun hf => ?_)
                      · refine SW_bipush h (dt t_M_wordOf 64 rfl) (by decide) ?_
                        refine SW_goto (tgt := 346) h (dt t_M_wordOf 65 rfl) rfl ?_
                        exact SW_iret h (hret _ hf) (fun _ => (by decide)) rfl (dt t_M_wordOf 163 rfl)
                      · refine SW_lload_n h rfl (dt t_M_wordOf 66 rfl) ?_
                        refine SW_ldc2 (n := 138148) h nX11_193 (by decide) (dt t_M_wordOf 67 rfl) ?_
                        refine SW_lcmp h (fun _ => hx0) (fun _ => (by decide)) (dt t_M_wordOf 68 rfl) ?_
                        refine SW_if_ne (tgt := 150) h (fun _ => (r_lcmp _ _)) (dt t_M_wordOf 69 rfl) rfl hf (fun hf => ?_) (fun hf => ?_)
                        · refine SW_bipush h (dt t_M_wordOf 70 rfl) (by decide) ?_
                          refine SW_goto (tgt := 346) h (dt t_M_wordOf 71 rfl) rfl ?_
                          exact SW_iret h (hret _ hf) (fun _ => (by decide)) rfl (dt t_M_wordOf 163 rfl)
                        · refine SW_lload_n h rfl (dt t_M_wordOf 72 rfl) ?_
                          refine SW_ldc2 (n := 191476) h nX11_195 (by decide) (dt t_M_wordOf 73 rfl) ?_
                          refine SW_lcmp h (fun _ => hx0) (fun _ => (by decide)) (dt t_M_wordOf 74 rfl) ?_
                          refine SW_if_ne (tgt := 163) h (fun _ => (r_lcmp _ _)) (dt t_M_wordOf 75 rfl) rfl hf (fun hf => ?_) (fun hf => ?_)
                          · refine SW_bipush h (dt t_M_wordOf 76 rfl) (by decide) ?_
                            refine SW_goto (tgt := 346) h (dt t_M_wordOf 77 rfl) rfl ?_
                            exact SW_iret h (hret _ hf) (fun _ => (by decide)) rfl (dt t_M_wordOf 163 rfl)
                          · refine SW_lload_n h rfl (dt t_M_wordOf 78 rfl) ?_
                            refine SW_ldc2 (n := 11992229) h nX11_197 (by decide) (dt t_M_wordOf 79 rfl) ?_
                            refine SW_lcmp h (fun _ => hx0) (fun _ => (by decide)) (dt t_M_wordOf 80 rfl) ?_
                            refine SW_if_ne (tgt := 176) h (fun _ => (r_lcmp _ _)) (dt t_M_wordOf 81 rfl) rfl hf (fun hf => ?_) (fun hf => ?_)
                            · refine SW_bipush h (dt t_M_wordOf 82 rfl) (by decide) ?_
                              refine SW_goto (tgt := 346) h (dt t_M_wordOf 83 rfl) rfl ?_
                              exact SW_iret h (hret _ hf) (fun _ => (by decide)) rfl (dt t_M_wordOf 163 rfl)
                            · refine SW_lload_n h rfl (dt t_M_wordOf 84 rfl) ?_
                              refine SW_ldc2 (n := 11689203) h nX11_199 (by decide) (dt t_M_wordOf 85 rfl) ?_
                              refine SW_lcmp h (fun _ => hx0) (fun _ => (by decide)) (dt t_M_wordOf 86 rfl) ?_
                              refine SW_if_ne (tgt := 189) h (fun _ => (r_lcmp _ _)) (dt t_M_wordOf 87 rfl) rfl hf (fun hf => ?_) (fun hf => ?_)
                              · refine SW_bipush h (dt t_M_wordOf 88 rfl) (by decide) ?_
                                refine SW_goto (tgt := 346) h (dt t_M_wordOf 89 rfl) rfl ?_
                                exact SW_iret h (hret _ hf) (fun _ => (by decide)) rfl (dt t_M_wordOf 163 rfl)
                              · refine SW_lload_n h rfl (dt t_M_wordOf 90 rfl) ?_
                                refine SW_ldc2 (n := 11688372) h nX11_201 (by decide) (dt t_M_wordOf 91 rfl) ?_
                                refine SW_lcmp h (fun _ => hx0) (fun _ => (by decide)) (dt t_M_wordOf 92 rfl) ?_
                                refine SW_if_ne (tgt := 202) h (fun _ => (r_lcmp _ _)) (dt t_M_wordOf 93 rfl) rfl hf (fun hf => ?_) (fun hf => ?_)
                                · refine SW_bipush h (dt t_M_wordOf 94 rfl) (by decide) ?_
                                  refine SW_goto (tgt := 346) h (dt t_M_wordOf 95 rfl) rfl ?_
                                  exact SW_iret h (hret _ hf) (fun _ => (by decide)) rfl (dt t_M_wordOf 163 rfl)
                                · refine SW_lload_n h rfl (dt t_M_wordOf 96 rfl) ?_
                                  refine SW_ldc2 (n := 849771060) h nX11_203 (by decide) (dt t_M_wordOf 97 rfl) ?_
                                  refine SW_lcmp h (fun _ => hx0) (fun _ => (by decide)) (dt t_M_wordOf 98 rfl) ?_
                                  refine SW_if_ne (tgt := 215) h (fun _ => (r_lcmp _ _)) (dt t_M_wordOf 99 rfl) rfl hf (fun hf => ?_) (fun hf => ?_)
                                  · refine SW_bipush h (dt t_M_wordOf 100 rfl) (by decide) ?_
                                    refine SW_goto (tgt := 346) h (dt t_M_wordOf 101 rfl) rfl ?_
                                    exact SW_iret h (hret _ hf) (fun _ => (by decide)) rfl (dt t_M_wordOf 163 rfl)
                                  · refine SW_lload_n h rfl (dt t_M_wordOf 102 rfl) ?_
                                    refine SW_ldc2 (n := 14556333) h nX11_205 (by decide) (dt t_M_wordOf 103 rfl) ?_
                                    refine SW_lcmp h (fun _ => hx0) (fun _ => (by decide)) (dt t_M_wordOf 104 rfl) ?_
                                    refine SW_if_ne (tgt := 228) h (fun _ => (r_lcmp _ _)) (dt t_M_wordOf 105 rfl) rfl hf (fun hf => ?_) (fun hf => ?_)
                                    · refine SW_bipush h (dt t_M_wordOf 106 rfl) (by decide) ?_
                                      refine SW_goto (tgt := 346) h (dt t_M_wordOf 107 rfl) rfl ?_
                                      exact SW_iret h (hret _ hf) (fun _ => (by decide)) rfl (dt t_M_wordOf 163 rfl)
                                    · refine SW_lload_n h rfl (dt t_M_wordOf 108 rfl) ?_
                                      refine SW_ldc2 (n := 9370604) h nX11_207 (by decide) (dt t_M_wordOf 109 rfl) ?_
                                      refine SW_lcmp h (fun _ => hx0) (fun _ => (by decide)) (dt t_M_wordOf 110 rfl) ?_
                                      refine SW_if_ne (tgt := 241) h (fun _ => (r_lcmp _ _)) (dt t_M_wordOf 111 rfl) rfl hf (fun hf => ?_) (fun hf => ?_)
                                      · refine SW_bipush h (dt t_M_wordOf 112 rfl) (by decide) ?_
                                        refine SW_goto (tgt := 346) h (dt t_M_wordOf 113 rfl) rfl ?_
                                        exact SW_iret h (hret _ hf) (fun _ => (by decide)) rfl (dt t_M_wordOf 163 rfl)
                                      · refine SW_lload_n h rfl (dt t_M_wordOf 114 rfl) ?_
                                        refine SW_ldc2 (n := 798706030) h nX11_209 (by decide) (dt t_M_wordOf 115 rfl) ?_
                                        refine SW_lcmp h (fun _ => hx0) (fun _ => (by decide)) (dt t_M_wordOf 116 rfl) ?_
                                        refine SW_if_ne (tgt := 254) h (fun _ => (r_lcmp _ _)) (dt t_M_wordOf 117 rfl) rfl hf (fun hf => ?_) (fun hf => ?_)
                                        · refine SW_bipush h (dt t_M_wordOf 118 rfl) (by decide) ?_
                                          refine SW_goto (tgt := 346) h (dt t_M_wordOf 119 rfl) rfl ?_
                                          exact SW_iret h (hret _ hf) (fun _ => (by decide)) rfl (dt t_M_wordOf 163 rfl)
                                        · refine SW_lload_n h rfl (dt t_M_wordOf 120 rfl) ?_
                                          refine SW_ldc2 (n := 566369460) h nX11_211 (by decide) (dt t_M_wordOf 121 rfl) ?_
                                          refine SW_lcmp h (fun _ => hx0) (fun _ => (by decide)) (dt t_M_wordOf 122 rfl) ?_
                                          refine SW_if_ne (tgt := 267) h (fun _ => (r_lcmp _ _)) (dt t_M_wordOf 123 rfl) rfl hf (fun hf => ?_) (fun hf => ?_)
                                          · refine SW_bipush h (dt t_M_wordOf 124 rfl) (by decide) ?_
                                            refine SW_goto (tgt := 346) h (dt t_M_wordOf 125 rfl) rfl ?_
                                            exact SW_iret h (hret _ hf) (fun _ => (by decide)) rfl (dt t_M_wordOf 163 rfl)
                                          · refine SW_lload_n h rfl (dt t_M_wordOf 126 rfl) ?_
                                            refine SW_ldc2 (n := 11672820) h nX11_213 (by decide) (dt t_M_wordOf 127 rfl) ?_
                                            refine SW_lcmp h (fun _ => hx0) (fun _ => (by decide)) (dt t_M_wordOf 128 rfl) ?_
                                            refine SW_if_ne (tgt := 280) h (fun _ => (r_lcmp _ _)) (dt t_M_wordOf 129 rfl) rfl hf (fun hf => ?_) (fun hf => ?_)
                                            · refine SW_bipush h (dt t_M_wordOf 130 rfl) (by decide) ?_
                                              refine SW_goto (tgt := 346) h (dt t_M_wordOf 131 rfl) rfl ?_
                                              exact SW_iret h (hret _ hf) (fun _ => (by decide)) rfl (dt t_M_wordOf 163 rfl)
                                            · refine SW_lload_n h rfl (dt t_M_wordOf 132 rfl) ?_
                                              refine SW_ldc2 (n := 141412) h nX11_215 (by decide) (dt t_M_wordOf 133 rfl) ?_
                                              refine SW_lcmp h (fun _ => hx0) (fun _ => (by decide)) (dt t_M_wordOf 134 rfl) ?_
                                              refine SW_if_ne (tgt := 293) h (fun _ => (r_lcmp _ _)) (dt t_M_wordOf 135 rfl) rfl hf (fun hf => ?_) (fun hf => ?_)
                                              · refine SW_bipush h (dt t_M_wordOf 136 rfl) (by decide) ?_
                                                refine SW_goto (tgt := 346) h (dt t_M_wordOf 137 rfl) rfl ?_
                                                exact SW_iret h (hret _ hf) (fun _ => (by decide)) rfl (dt t_M_wordOf 163 rfl)
                                              · refine SW_lload_n h rfl (dt t_M_wordOf 138 rfl) ?_
                                                refine SW_ldc2 (n := 41500499109) h nX11_217 (by decide) (dt t_M_wordOf 139 rfl) ?_
                                                refine SW_lcmp h (fun _ => hx0) (fun _ => (by decide)) (dt t_M_wordOf 140 rfl) ?_
                                                refine SW_if_ne (tgt := 306) h (fun _ => (r_lcmp _ _)) (dt t_M_wordOf 141 rfl) rfl hf (fun hf => ?_) (fun hf => ?_)
                                                · refine SW_bipush h (dt t_M_wordOf 142 rfl) (by decide) ?_
                                                  refine SW_goto (tgt := 346) h (dt t_M_wordOf 143 rfl) rfl ?_
                                                  exact SW_iret h (hret _ hf) (fun _ => (by decide)) rfl (dt t_M_wordOf 163 rfl)
                                                · refine SW_lload_n h rfl (dt t_M_wordOf 144 rfl) ?_
                                                  refine SW_ldc2 (n := 56467327346) h nX11_219 (by decide) (dt t_M_wordOf 145 rfl) ?_
                                                  refine SW_lcmp h (fun _ => hx0) (fun _ => (by decide)) (dt t_M_wordOf 146 rfl) ?_
                                                  refine SW_if_ne (tgt := 319) h (fun _ => (r_lcmp _ _)) (dt t_M_wordOf 147 rfl) rfl hf (fun hf => ?_) (fun hf => ?_)
                                                  · refine SW_bipush h (dt t_M_wordOf 148 rfl) (by decide) ?_
                                                    refine SW_goto (tgt := 346) h (dt t_M_wordOf 149 rfl) rfl ?_
                                                    exact SW_iret h (hret _ hf) (fun _ => (by decide)) rfl (dt t_M_wordOf 163 rfl)
                                                  · refine SW_lload_n h rfl (dt t_M_wordOf 150 rfl) ?_
                                                    refine SW_ldc2 (n := 14104932) h nX11_221 (by decide) (dt t_M_wordOf 151 rfl) ?_
                                                    refine SW_lcmp h (fun _ => hx0) (fun _ => (by decide)) (dt t_M_wordOf 152 rfl) ?_
                                                    refine SW_if_ne (tgt := 332) h (fun _ => (r_lcmp _ _)) (dt t_M_wordOf 153 rfl) rfl hf (fun hf => ?_) (fun hf => ?_)
                                                    · refine SW_bipush h (dt t_M_wordOf 154 rfl) (by decide) ?_
                                                      refine SW_goto (tgt := 346) h (dt t_M_wordOf 155 rfl) rfl ?_
                                                      exact SW_iret h (hret _ hf) (fun _ => (by decide)) rfl (dt t_M_wordOf 163 rfl)
                                                    · refine SW_lload_n h rfl (dt t_M_wordOf 156 rfl) ?_
                                                      refine SW_ldc2 (n := 13303283) h nX11_223 (by decide) (dt t_M_wordOf 157 rfl) ?_
                                                      refine SW_lcmp h (fun _ => hx0) (fun _ => (by decide)) (dt t_M_wordOf 158 rfl) ?_
                                                      refine SW_if_ne (tgt := 345) h (fun _ => (r_lcmp _ _)) (dt t_M_wordOf 159 rfl) rfl hf (fun hf => ?_) (fun hf => ?_)
                                                      · refine SW_bipush h (dt t_M_wordOf 160 rfl) (by decide) ?_
                                                        refine SW_goto (tgt := 346) h (dt t_M_wordOf 161 rfl) rfl ?_
                                                        exact SW_iret h (hret _ hf) (fun _ => (by decide)) rfl (dt t_M_wordOf 163 rfl)
                                                      · refine SW_iconst h (dt t_M_wordOf 162 rfl) ?_
                                                        exact SW_iret h (hret _ hf) (fun _ => (by decide)) rfl (dt t_M_wordOf 163 rfl)
def b_M_next : List (Nat × Instr × Nat) := [(0, .aload_n 0, 1), (1, .getfield 225, 3), (4, .aload_n 0, 1), (5, .getfield 228, 3), (8, .if_icmp .ge 44, 3), (11, .aload_n 0, 1), (12, .getfield 16, 3), (15, .aload_n 0, 1), (16, .getfield 225, 3), (19, .baload, 1), (20, .bipush 32, 2), (22, .if_icmp .eq 17, 3), (25, .aload_n 0, 1), (26, .getfield 16, 3), (29, .aload_n 0, 1), (30, .getfield 225, 3), (33, .baload, 1), (34, .bipush 10, 2), (36, .if_icmp .ne 16, 3), (39, .aload_n 0, 1), (40, .dup, 1), (41, .getfield 225, 3), (44, .iconst 1, 1), (45, .iadd, 1), (46, .putfield 225, 3), (49, .goto (-49), 3), (52, .aload_n 0, 1), (53, .aload_n 0, 1), (54, .getfield 225, 3), (57, .putfield 231, 3), (60, .aload_n 0, 1), (61, .getfield 225, 3), (64, .aload_n 0, 1), (65, .getfield 228, 3), (68, .if_icmp .ne 9, 3), (71, .aload_n 0, 1), (72, .iconst 0, 1), (73, .putfield 234, 3), (76, .return_, 1), (77, .aload_n 0, 1), (78, .getfield 16, 3), (81, .aload_n 0, 1), (82, .getfield 225, 3), (85, .baload, 1), (86, .istore_n 1, 1), (87, .iload_n 1, 1), (88, .invokestatic 237, 3), (91, .ifCond .eq 120, 3), (94, .lconst 0, 1), (95, .lstore_n 2, 1), (96, .iconst 0, 1), (97, .istore 4, 2), (99, .aload_n 0, 1), (100, .getfield 225, 3), (103, .aload_n 0, 1), (104, .getfield 228, 3), (107, .if_icmp .ge 66, 3), (110, .aload_n 0, 1), (111, .getfield 16, 3), (114, .aload_n 0, 1), (115, .getfield 225, 3), (118, .baload, 1), (119, .invokestatic 237, 3), (122, .ifCond .eq 51, 3), (125, .iload 4, 2), (127, .bipush 8, 2), (129, .if_icmp .ge 26, 3), (132, .ldc2_w 241, 3), (135, .lload_n 2, 1), (136, .lmul, 1), (137, .aload_n 0, 1), (138, .getfield 16, 3), (141, .aload_n 0, 1), (142, .getfield 225, 3), (145, .baload, 1), (146, .i2l, 1), (147, .ladd, 1), (148, .ldc2_w 241, 3), (151, .lsub, 1), (152, .goto 4, 3), (155, .lload_n 2, 1), (156, .lstore_n 2, 1), (157, .iinc 4 1, 3), (160, .aload_n 0, 1), (161, .dup, 1), (162, .getfield 225, 3), (165, .iconst 1, 1), (166, .iadd, 1), (167, .putfield 225, 3), (170, .goto (-71), 3), (173, .aload_n 0, 1), (174, .iload 4, 2), (176, .bipush 7, 2), (178, .if_icmp .le 7, 3), (181, .iconst (-1), 1), (182, .goto 7, 3), (185, .lload_n 2, 1), (186, .invokestatic 243, 3), (189, .putfield 247, 3), (192, .aload_n 0, 1), (193, .aload_n 0, 1), (194, .getfield 247, 3), (197, .ifCond .ge 7, 3), (200, .iconst 4, 1), (201, .goto 4, 3), (204, .iconst 1, 1), (205, .putfield 234, 3), (208, .goto 237, 3), (211, .iload_n 1, 1), (212, .bipush 48, 2), (214, .bipush 57, 2), (216, .invokestatic 150, 3), (219, .ifCond .eq 96, 3), (222, .aload_n 0, 1), (223, .iconst 2, 1), (224, .putfield 234, 3), (227, .aload_n 0, 1), (228, .iconst 0, 1), (229, .putfield 247, 3), (232, .aload_n 0, 1), (233, .getfield 225, 3), (236, .aload_n 0, 1), (237, .getfield 228, 3), (240, .if_icmp .ge 205, 3), (243, .aload_n 0, 1), (244, .getfield 16, 3), (247, .aload_n 0, 1), (248, .getfield 225, 3), (251, .baload, 1), (252, .bipush 48, 2), (254, .bipush 57, 2), (256, .invokestatic 150, 3), (259, .ifCond .eq 186, 3), (262, .aload_n 0, 1), (263, .aload_n 0, 1), (264, .getfield 247, 3), (267, .ldc 250, 2), (269, .if_icmp .le 10, 3), (272, .aload_n 0, 1), (273, .getfield 247, 3), (276, .goto 23, 3), (279, .bipush 10, 2), (281, .aload_n 0, 1), (282, .getfield 247, 3), (285, .imul, 1), (286, .aload_n 0, 1), (287, .getfield 16, 3), (290, .aload_n 0, 1), (291, .getfield 225, 3), (294, .baload, 1), (295, .iadd, 1), (296, .bipush 48, 2), (298, .isub, 1), (299, .putfield 247, 3), (302, .aload_n 0, 1), (303, .dup, 1), (304, .getfield 225, 3), (307, .iconst 1, 1), (308, .iadd, 1), (309, .putfield 225, 3), (312, .goto (-80), 3), (315, .aload_n 0, 1), (316, .dup, 1), (317, .getfield 225, 3), (320, .iconst 1, 1), (321, .iadd, 1), (322, .putfield 225, 3), (325, .aload_n 0, 1), (326, .iload_n 1, 1), (327, .putfield 247, 3), (330, .aload_n 0, 1), (331, .iload_n 1, 1), (332, .bipush 59, 2), (334, .bipush 62, 2), (336, .invokestatic 150, 3), (339, .ifCond .ne 32, 3), (342, .iload_n 1, 1), (343, .bipush 40, 2), (345, .bipush 45, 2), (347, .invokestatic 150, 3), (350, .ifCond .ne 21, 3), (353, .iload_n 1, 1), (354, .bipush 47, 2), (356, .if_icmp .eq 15, 3), (359, .iload_n 1, 1), (360, .bipush 35, 2), (362, .if_icmp .eq 9, 3), (365, .iload_n 1, 1), (366, .bipush 37, 2), (368, .if_icmp .ne 7, 3), (371, .iconst 3, 1), (372, .goto 4, 3), (375, .iconst 4, 1), (376, .putfield 234, 3), (379, .iload_n 1, 1), (380, .bipush 60, 2), (382, .if_icmp .eq 9, 3), (385, .iload_n 1, 1), (386, .bipush 62, 2), (388, .if_icmp .ne 57, 3), (391, .aload_n 0, 1), (392, .getfield 225, 3), (395, .aload_n 0, 1), (396, .getfield 228, 3), (399, .if_icmp .ge 46, 3), (402, .aload_n 0, 1), (403, .getfield 16, 3), (406, .aload_n 0, 1), (407, .getfield 225, 3), (410, .baload, 1), (411, .bipush 61, 2), (413, .if_icmp .ne 32, 3), (416, .aload_n 0, 1), (417, .iload_n 1, 1), (418, .bipush 60, 2), (420, .if_icmp .ne 9, 3), (423, .sipush 300, 3), (426, .goto 6, 3), (429, .sipush 301, 3), (432, .putfield 247, 3), (435, .aload_n 0, 1), (436, .dup, 1), (437, .getfield 225, 3), (440, .iconst 1, 1), (441, .iadd, 1), (442, .putfield 225, 3), (445, .return_, 1)]
theorem t_M_next : DT cX11_next b_M_next := DT.of (by decide +kernel)
def L_M_next_0 : Nat → Mm → Option (Mm)
  | 0, _ => none
  | n + 1, σ =>
    if σ 200 14 ≤ σ 200 15 then
      some σ
    else
      if 0 ≤ σ 200 15 ∧ σ 200 15 < 300 then
        bindM (
          if r32 ((σ 200 15) + 1) then
            bindM (st2 σ 200 15 ((σ 200 15) + 1)) fun s4 =>
            L_M_next_0 n s4
          else none) fun J1 =>
        if σ 203 ((σ 200 15).toNat) = 32 then
          J1
        else
          if 0 ≤ σ 200 15 ∧ σ 200 15 < 300 then
            if σ 203 ((σ 200 15).toNat) = 10 then
              J1
            else
              some σ
          else none
      else none
set_option maxRecDepth 100000 in
set_option maxHeartbeats 4000000 in
theorem l_M_next_0 {X : Cx} (h : CX X 1 cX11_next 5 2 none RX11)   {res : Mm} (hex : ∀  (σ : Mm) (hz : some σ = some res)  (ok : okM σ), SW X 1 5 52 [some (.ref (xad X 200)), none, none, none, none] [] σ) : ∀ (n : Nat)  (σ : Mm)  (ok : okM σ) (hf : L_M_next_0 n σ = some res), SW X 1 5 0 [some (.ref (xad X 200)), none, none, none, none] [] σ := by
  intro n
  induction n with
  | zero => intro σ ok hf; exact absurd hf (by simp [L_M_next_0])
  | succ n ih =>
    intro σ ok hf
    rw [L_M_next_0] at hf
    refine SW_aload_n h rfl (dt t_M_next 0 rfl) ?_
    refine gI h cf11 o200 f11_15 lX11_225 (dt t_M_next 1 rfl) ?_
    refine SW_aload_n h rfl (dt t_M_next 2 rfl) ?_
    refine gI h cf11 o200 f11_14 lX11_228 (dt t_M_next 3 rfl) ?_
    refine SW_icmp_ge (tgt := 52) h (fun _ => (okI ok 200 15 (IsO.n3 o200))) (fun _ => (okI ok 200 14 (IsO.n3 o200))) (dt t_M_next 4 rfl) rfl hf (fun hf => ?_) (fun hf => ?_)
    · exact SW_fgt [true, false, false, false, false] rfl (hex σ hf ok)
    · refine SW_aload_n h rfl (dt t_M_next 5 rfl) ?_
      refine gR h cf11 o200 f11_2 j200_2 lX11_16 (dt t_M_next 6 rfl) ?_
      refine SW_aload_n h rfl (dt t_M_next 7 rfl) ?_
      refine gI h cf11 o200 f11_15 lX11_225 (dt t_M_next 8 rfl) ?_
      refine aB h a203 (dt t_M_next 9 rfl) hf (fun hf => ?_)
      refine SW_bipush h (dt t_M_next 10 rfl) (by decide) ?_
      refine bJ hf (fun J1 e1 hf => ?_)
      have k1 : ∀ (hf : J1 = some res), SW X 1 5 39 [some (.ref (xad X 200)), none, none, none, none] [] σ := by
        intro hf
        rw [e1] at hf
        refine SW_aload_n h rfl (dt t_M_next 19 rfl) ?_
        refine SW_dup h rfl (dt t_M_next 20 rfl) ?_
        refine gI h cf11 o200 f11_15 lX11_225 (dt t_M_next 21 rfl) ?_
        refine SW_iconst h (dt t_M_next 22 rfl) ?_
        refine SW_iadd h (dt t_M_next 23 rfl) ?_
        refine SW_chk hf (fun h3 hf => ?_)
        refine pI h cf11 o200 f11_15 h3 lX11_225 (dt t_M_next 24 rfl) (SW_bm hf (fun s4 ok4 hf => ?_))
        refine SW_goto (tgt := 0) h (dt t_M_next 25 rfl) rfl ?_
        exact SW_fgt [true, false, false, false, false] rfl (ih s4 ok4 hf)
      refine SW_icmp_eq (tgt := 39) h (fun _ => (okI ok 203 ((σ 200 15).toNat) (IsA.n3 a203 (by decide)))) (fun _ => (by decide)) (dt t_M_next 11 rfl) rfl hf (fun hf => ?_) (fun hf => ?_)
      · exact SW_fgt [true, false, false, false, false] rfl (k1 hf)
      · refine SW_aload_n h rfl (dt t_M_next 12 rfl) ?_
        refine gR h cf11 o200 f11_2 j200_2 lX11_16 (dt t_M_next 13 rfl) ?_
        refine SW_aload_n h rfl (dt t_M_next 14 rfl) ?_
        refine gI h cf11 o200 f11_15 lX11_225 (dt t_M_next 15 rfl) ?_
        refine aB h a203 (dt t_M_next 16 rfl) hf (fun hf => ?_)
        refine SW_bipush h (dt t_M_next 17 rfl) (by decide) ?_
        refine SW_icmp_ne (tgt := 52) h (fun _ => (okI ok 203 ((σ 200 15).toNat) (IsA.n3 a203 (by decide)))) (fun _ => (by decide)) (dt t_M_next 18 rfl) rfl hf (fun hf => ?_) (fun hf => ?_)
        · exact SW_fgt [true, false, false, false, false] rfl (k1 hf)
        · exact SW_fgt [true, false, false, false, false] rfl (hex σ hf ok)
def L_M_next_232 : Nat → Mm → Option (Mm)
  | 0, _ => none
  | n + 1, σ =>
    if σ 200 14 ≤ σ 200 15 then
      some σ
    else
      if 0 ≤ σ 200 15 ∧ σ 200 15 < 300 then
        b1 (F_M_in (σ 203 ((σ 200 15).toNat)) 48 57) fun v35 =>
        if v35 = 0 then
          some σ
        else
          bindM (fun (y36 : Int) =>
            bindM (st2 σ 200 18 y36) fun s38 =>
            if r32 ((s38 200 15) + 1) then
              bindM (st2 s38 200 15 ((s38 200 15) + 1)) fun s41 =>
              L_M_next_232 n s41
            else none) fun J36 =>
          if σ 200 18 ≤ 99999 then
            if 0 ≤ σ 200 15 ∧ σ 200 15 < 300 then
              if r32 (((10 * (σ 200 18)) + (σ 203 ((σ 200 15).toNat))) - 48) then
                J36 (((10 * (σ 200 18)) + (σ 203 ((σ 200 15).toNat))) - 48)
              else none
            else none
          else
            J36 (σ 200 18)
      else none
set_option maxRecDepth 100000 in
set_option maxHeartbeats 4000000 in
theorem l_M_next_232 {X : Cx} (h : CX X 1 cX11_next 5 2 none RX11)   {res : Mm} (hex : ∀  (σ : Mm) (hz : some σ = some res)  (ok : okM σ), SW X 1 5 445 [none, none, none, none, none] [] σ) : ∀ (n : Nat)  (σ : Mm)  (ok : okM σ) (hf : L_M_next_232 n σ = some res), SW X 1 5 232 [some (.ref (xad X 200)), none, none, none, none] [] σ := by
  intro n
  induction n with
  | zero => intro σ ok hf; exact absurd hf (by simp [L_M_next_232])
  | succ n ih =>
    intro σ ok hf
    rw [L_M_next_232] at hf
    refine SW_aload_n h rfl (dt t_M_next 119 rfl) ?_
    refine gI h cf11 o200 f11_15 lX11_225 (dt t_M_next 120 rfl) ?_
    refine SW_aload_n h rfl (dt t_M_next 121 rfl) ?_
    refine gI h cf11 o200 f11_14 lX11_228 (dt t_M_next 122 rfl) ?_
    refine SW_icmp_ge (tgt := 445) h (fun _ => (okI ok 200 15 (IsO.n3 o200))) (fun _ => (okI ok 200 14 (IsO.n3 o200))) (dt t_M_next 123 rfl) rfl hf (fun hf => ?_) (fun hf => ?_)
    · exact SW_fgt [false, false, false, false, false] rfl (hex σ hf ok)
    · refine SW_aload_n h rfl (dt t_M_next 124 rfl) ?_
      refine gR h cf11 o200 f11_2 j200_2 lX11_16 (dt t_M_next 125 rfl) ?_
      refine SW_aload_n h rfl (dt t_M_next 126 rfl) ?_
      refine gI h cf11 o200 f11_15 lX11_225 (dt t_M_next 127 rfl) ?_
      refine aB h a203 (dt t_M_next 128 rfl) hf (fun hf => ?_)
      refine SW_bipush h (dt t_M_next 129 rfl) (by decide) ?_
      refine SW_bipush h (dt t_M_next 130 rfl) (by decide) ?_
      obtain ⟨v35, e35, hf⟩ := b1_of hf
      refine cS h [.int (i32 (σ 203 ((σ 200 15).toNat))), .int (i32 48), .int (i32 57)] [] v_X11_in kX11_150 (c_M_in (σ 203 ((σ 200 15).toNat)) (okI ok 203 ((σ 200 15).toNat) (IsA.n3 a203 (by decide))) 48 (by decide) 57 (by decide) e35) rfl rfl (by decide) (by decide) rfl (Nat.le_of_ble_eq_true rfl) (dt t_M_next 131 rfl) (fun h35 => ?_)
      refine SW_if_eq (tgt := 445) h (fun _ => (r_zo h35)) (dt t_M_next 132 rfl) rfl hf (fun hf => ?_) (fun hf => ?_)
      · exact SW_fgt [false, false, false, false, false] rfl (hex σ hf ok)
      · refine SW_aload_n h rfl (dt t_M_next 133 rfl) ?_
        refine SW_aload_n h rfl (dt t_M_next 134 rfl) ?_
        refine gI h cf11 o200 f11_18 lX11_247 (dt t_M_next 135 rfl) ?_
        refine SW_ldc (n := 99999) h nX11_250 (by decide) (dt t_M_next 136 rfl) ?_
        refine bJ hf (fun J36 e36 hf => ?_)
        have k36 : ∀ (y36 : Int) (hy36 : r32 y36) (hf : J36 y36 = some res), SW X 1 5 299 [some (.ref (xad X 200)), none, none, none, none] [.int (i32 y36), .ref (xad X 200)] σ := by
          intro y36 hy36 hf
          rw [e36] at hf
          refine pI h cf11 o200 f11_18 hy36 lX11_247 (dt t_M_next 153 rfl) (SW_bm hf (fun s38 ok38 hf => ?_))
          refine SW_aload_n h rfl (dt t_M_next 154 rfl) ?_
          refine SW_dup h rfl (dt t_M_next 155 rfl) ?_
          refine gI h cf11 o200 f11_15 lX11_225 (dt t_M_next 156 rfl) ?_
          refine SW_iconst h (dt t_M_next 157 rfl) ?_
          refine SW_iadd h (dt t_M_next 158 rfl) ?_
          refine SW_chk hf (fun h40 hf => ?_)
          refine pI h cf11 o200 f11_15 h40 lX11_225 (dt t_M_next 159 rfl) (SW_bm hf (fun s41 ok41 hf => ?_))
          refine SW_goto (tgt := 232) h (dt t_M_next 160 rfl) rfl ?_
          exact SW_fgt [true, false, false, false, false] rfl (ih s41 ok41 hf)
        refine SW_icmp_le (tgt := 279) h (fun _ => (okI ok 200 18 (IsO.n3 o200))) (fun _ => (by decide)) (dt t_M_next 137 rfl) rfl hf (fun hf => ?_) (fun hf => ?_)
        · refine SW_bipush h (dt t_M_next 141 rfl) (by decide) ?_
          refine SW_aload_n h rfl (dt t_M_next 142 rfl) ?_
          refine gI h cf11 o200 f11_18 lX11_247 (dt t_M_next 143 rfl) ?_
          refine SW_imul h (dt t_M_next 144 rfl) ?_
          refine SW_aload_n h rfl (dt t_M_next 145 rfl) ?_
          refine gR h cf11 o200 f11_2 j200_2 lX11_16 (dt t_M_next 146 rfl) ?_
          refine SW_aload_n h rfl (dt t_M_next 147 rfl) ?_
          refine gI h cf11 o200 f11_15 lX11_225 (dt t_M_next 148 rfl) ?_
          refine aB h a203 (dt t_M_next 149 rfl) hf (fun hf => ?_)
          refine SW_iadd h (dt t_M_next 150 rfl) ?_
          refine SW_bipush h (dt t_M_next 151 rfl) (by decide) ?_
          refine SW_isub h (dt t_M_next 152 rfl) ?_
          refine SW_chk hf (fun h42 hf => ?_)
          exact SW_fgt [true, false, false, false, false] rfl (k36 (((10 * (σ 200 18)) + (σ 203 ((σ 200 15).toNat))) - 48) h42 hf)
        · refine SW_aload_n h rfl (dt t_M_next 138 rfl) ?_
          refine gI h cf11 o200 f11_18 lX11_247 (dt t_M_next 139 rfl) ?_
          refine SW_goto (tgt := 299) h (dt t_M_next 140 rfl) rfl ?_
          exact SW_fgt [true, false, false, false, false] rfl (k36 (σ 200 18) (okI ok 200 18 (IsO.n3 o200)) hf)
def L_M_next_99 : Nat → Int → Int → Mm → Option (Int × Int × Mm)
  | 0, _, _, _ => none
  | n + 1, x2, x4, σ =>
    if σ 200 14 ≤ σ 200 15 then
      some ((x2, x4, σ))
    else
      if 0 ≤ σ 200 15 ∧ σ 200 15 < 300 then
        b1 (F_M_isLetter (σ 203 ((σ 200 15).toNat))) fun v44 =>
        if v44 = 0 then
          some ((x2, x4, σ))
        else
          bindM (fun (y45 : Int) =>
            if r32 ((σ 200 15) + 1) then
              bindM (st2 σ 200 15 ((σ 200 15) + 1)) fun s48 =>
              if r32 (x4 + 1) then
                L_M_next_99 n y45 (x4 + 1) s48
              else none
            else none) fun J45 =>
          if 8 ≤ x4 then
            J45 x2
          else
            if 0 ≤ σ 200 15 ∧ σ 200 15 < 300 then
              if r64 (((64 * x2) + (σ 203 ((σ 200 15).toNat))) - 64) then
                J45 (((64 * x2) + (σ 203 ((σ 200 15).toNat))) - 64)
              else none
            else none
      else none
set_option maxRecDepth 100000 in
set_option maxHeartbeats 4000000 in
theorem l_M_next_99 {X : Cx} (h : CX X 1 cX11_next 5 2 none RX11)   {res : Int × Int × Mm} (hex : ∀ (x2 : Int) (x4 : Int) (σ : Mm) (hz : some ((x2, x4, σ)) = some res) (hx2 : r64 x2) (hx4 : r32 x4) (ok : okM σ), SW X 1 5 173 [some (.ref (xad X 200)), none, some (.long (i64 x2)), none, some (.int (i32 x4))] [] σ) : ∀ (n : Nat) (x2 : Int) (x4 : Int) (σ : Mm) (hx2 : r64 x2) (hx4 : r32 x4) (ok : okM σ) (hf : L_M_next_99 n x2 x4 σ = some res), SW X 1 5 99 [some (.ref (xad X 200)), none, some (.long (i64 x2)), none, some (.int (i32 x4))] [] σ := by
  intro n
  induction n with
  | zero => intro x2 x4 σ hx2 hx4 ok hf; exact absurd hf (by simp [L_M_next_99])
  | succ n ih =>
    intro x2 x4 σ hx2 hx4 ok hf
    rw [L_M_next_99] at hf
    refine SW_aload_n h rfl (dt t_M_next 52 rfl) ?_
    refine gI h cf11 o200 f11_15 lX11_225 (dt t_M_next 53 rfl) ?_
    refine SW_aload_n h rfl (dt t_M_next 54 rfl) ?_
    refine gI h cf11 o200 f11_14 lX11_228 (dt t_M_next 55 rfl) ?_
    refine SW_icmp_ge (tgt := 173) h (fun _ => (okI ok 200 15 (IsO.n3 o200))) (fun _ => (okI ok 200 14 (IsO.n3 o200))) (dt t_M_next 56 rfl) rfl hf (fun hf => ?_) (fun hf => ?_)
    · exact SW_fgt [true, false, true, false, true] rfl (hex x2 x4 σ hf hx2 hx4 ok)
    · refine SW_aload_n h rfl (dt t_M_next 57 rfl) ?_
      refine gR h cf11 o200 f11_2 j200_2 lX11_16 (dt t_M_next 58 rfl) ?_
      refine SW_aload_n h rfl (dt t_M_next 59 rfl) ?_
      refine gI h cf11 o200 f11_15 lX11_225 (dt t_M_next 60 rfl) ?_
      refine aB h a203 (dt t_M_next 61 rfl) hf (fun hf => ?_)
      obtain ⟨v44, e44, hf⟩ := b1_of hf
      refine cS h [.int (i32 (σ 203 ((σ 200 15).toNat)))] [] v_X11_isLetter kX11_237 (c_M_isLetter (σ 203 ((σ 200 15).toNat)) (okI ok 203 ((σ 200 15).toNat) (IsA.n3 a203 (by decide))) e44) rfl rfl (by decide) (by decide) rfl (Nat.le_of_ble_eq_true rfl) (dt t_M_next 62 rfl) (fun h44 => ?_)
      refine SW_if_eq (tgt := 173) h (fun _ => (r_zo h44)) (dt t_M_next 63 rfl) rfl hf (fun hf => ?_) (fun hf => ?_)
      · exact SW_fgt [true, false, true, false, true] rfl (hex x2 x4 σ hf hx2 hx4 ok)
      · refine SW_iload h rfl (dt t_M_next 64 rfl) ?_
        refine SW_bipush h (dt t_M_next 65 rfl) (by decide) ?_
        refine bJ hf (fun J45 e45 hf => ?_)
        have k45 : ∀ (y45 : Int) (hy45 : r64 y45) (hf : J45 y45 = some res), SW X 1 5 156 [some (.ref (xad X 200)), none, none, none, some (.int (i32 x4))] [.long (i64 y45)] σ := by
          intro y45 hy45 hf
          rw [e45] at hf
          refine SW_lstore_n (lv2 := [some (.ref (xad X 200)), none, some (.long (i64 y45)), none, some (.int (i32 x4))]) h (dt t_M_next 81 rfl) (by decide) rfl ?_
          refine SW_iinc (lv2 := [some (.ref (xad X 200)), none, some (.long (i64 y45)), none, some (.int (i32 (x4 + 1)))]) h (dt t_M_next 82 rfl) rfl (by decide) rfl ?_
          refine SW_aload_n h rfl (dt t_M_next 83 rfl) ?_
          refine SW_dup h rfl (dt t_M_next 84 rfl) ?_
          refine gI h cf11 o200 f11_15 lX11_225 (dt t_M_next 85 rfl) ?_
          refine SW_iconst h (dt t_M_next 86 rfl) ?_
          refine SW_iadd h (dt t_M_next 87 rfl) ?_
          refine SW_chk hf (fun h47 hf => ?_)
          refine pI h cf11 o200 f11_15 h47 lX11_225 (dt t_M_next 88 rfl) (SW_bm hf (fun s48 ok48 hf => ?_))
          refine SW_goto (tgt := 99) h (dt t_M_next 89 rfl) rfl ?_
          refine SW_chk hf (fun h49 hf => ?_)
          exact SW_fgt [true, false, true, false, true] rfl (ih y45 (x4 + 1) s48 hy45 h49 ok48 hf)
        refine SW_icmp_ge (tgt := 155) h (fun _ => hx4) (fun _ => (by decide)) (dt t_M_next 66 rfl) rfl hf (fun hf => ?_) (fun hf => ?_)
        · refine SW_lload_n h rfl (dt t_M_next 80 rfl) ?_
          exact SW_fgt [true, false, false, false, true] rfl (k45 x2 hx2 hf)
        · refine SW_ldc2 (n := 64) h nX11_241 (by decide) (dt t_M_next 67 rfl) ?_
          refine SW_lload_n h rfl (dt t_M_next 68 rfl) ?_
          refine SW_lmul h (dt t_M_next 69 rfl) ?_
          refine SW_aload_n h rfl (dt t_M_next 70 rfl) ?_
          refine gR h cf11 o200 f11_2 j200_2 lX11_16 (dt t_M_next 71 rfl) ?_
          refine SW_aload_n h rfl (dt t_M_next 72 rfl) ?_
          refine gI h cf11 o200 f11_15 lX11_225 (dt t_M_next 73 rfl) ?_
          refine aB h a203 (dt t_M_next 74 rfl) hf (fun hf => ?_)
          refine SW_i2l h (fun _ => (okI ok 203 ((σ 200 15).toNat) (IsA.n3 a203 (by decide)))) (dt t_M_next 75 rfl) ?_
          refine SW_ladd h (dt t_M_next 76 rfl) ?_
          refine SW_ldc2 (n := 64) h nX11_241 (by decide) (dt t_M_next 77 rfl) ?_
          refine SW_lsub h (dt t_M_next 78 rfl) ?_
          refine SW_goto (tgt := 156) h (dt t_M_next 79 rfl) rfl ?_
          refine SW_chk hf (fun h50 hf => ?_)
          exact SW_fgt [true, false, false, false, true] rfl (k45 (((64 * x2) + (σ 203 ((σ 200 15).toNat))) - 64) h50 hf)
def F_M_next  (σ : Mm) : Option (Mm) :=
  b0M (L_M_next_0 LF σ) fun s5 =>
  bindM (st2 s5 200 16 (s5 200 15)) fun s7 =>
  if s7 200 15 = s7 200 14 then
    bindM (st2 s7 200 17 0) fun s9 =>
    some s9
  else
    if 0 ≤ s7 200 15 ∧ s7 200 15 < 300 then
      bindM (s7 203 ((s7 200 15).toNat)) fun v10 =>
      b1 (F_M_isLetter v10) fun v11 =>
      if v11 = 0 then
        b1 (F_M_in v10 48 57) fun v12 =>
        if v12 = 0 then
          if r32 ((s7 200 15) + 1) then
            bindM (st2 s7 200 15 ((s7 200 15) + 1)) fun s15 =>
            bindM (st2 s15 200 18 v10) fun s17 =>
            b1 (F_M_in v10 59 62) fun v18 =>
            bindM (fun (y19 : Int) =>
              bindM (st2 s17 200 17 y19) fun s21 =>
              bindM (
                if s21 200 14 ≤ s21 200 15 then
                  some s21
                else
                  if 0 ≤ s21 200 15 ∧ s21 200 15 < 300 then
                    if s21 203 ((s21 200 15).toNat) = 61 then
                      bindM ((if v10 = 60 then 300 else 301 : Int)) fun v23 =>
                      bindM (st2 s21 200 18 v23) fun s25 =>
                      if r32 ((s25 200 15) + 1) then
                        bindM (st2 s25 200 15 ((s25 200 15) + 1)) fun s28 =>
                        some s28
                      else none
                    else
                      some s21
                  else none) fun J22 =>
              if v10 = 60 then
                J22
              else
                if v10 = 62 then
                  J22
                else
                  some s21) fun J19 =>
            bindM (
              J19 3) fun J29 =>
            if v18 = 0 then
              b1 (F_M_in v10 40 45) fun v30 =>
              if v30 = 0 then
                if v10 = 47 then
                  J29
                else
                  if v10 = 35 then
                    J29
                  else
                    if v10 = 37 then
                      J29
                    else
                      J19 4
              else
                J29
            else
              J29
          else none
        else
          bindM (st2 s7 200 17 2) fun s32 =>
          bindM (st2 s32 200 18 0) fun s34 =>
          b0M (L_M_next_232 LF s34) fun s43 =>
          some s43
      else
        b2M (L_M_next_99 LF 0 0 s7) fun x2_51 x4_51 s51 =>
        bindM (fun (y52 : Int) =>
          bindM (st2 s51 200 18 y52) fun s54 =>
          bindM ((if 0 ≤ s54 200 18 then 1 else 4 : Int)) fun v55 =>
          bindM (st2 s54 200 17 v55) fun s57 =>
          some s57) fun J52 =>
        if x4_51 ≤ 7 then
          b1 (F_M_wordOf x2_51) fun v58 =>
          J52 v58
        else
          J52 ((-1))
    else none
set_option maxRecDepth 100000 in
set_option maxHeartbeats 4000000 in
theorem c_M_next  {σ : Mm} {σ2 : Mm} (hf : F_M_next  σ = some σ2) : CT yX11_next cX11_next 5 none 2 1 (fun ad => [.ref (ad 200)]) σ True none σ2 := by
  refine MetJ 4 (by decide +kernel) rfl (fun _ => Nat.le_of_ble_eq_true rfl) ?_
  intro X h hR ok
  obtain ⟨res, er⟩ : ∃ z, z = σ2 := ⟨_, rfl⟩
  have hret : ∀ y : Mm, some y = some res → RX X 1 True none y := fun y e => by cases e; cases er; exact hR
  rw [← er] at hf
  clear er hR
  unfold F_M_next at hf
  show SW X 1 5 0 [some (.ref (xad X 200)), none, none, none, none] [] σ
  obtain ⟨z5, e5, hk5⟩ := b0M_ex hf
  refine SW_fgt [true, false, false, false, false] rfl (l_M_next_0 h (fun s5 hz5 ok5 => ?_) LF σ ok e5)
  have hf := hk5 s5 hz5
  refine SW_aload_n h rfl (dt t_M_next 26 rfl) ?_
  refine SW_aload_n h rfl (dt t_M_next 27 rfl) ?_
  refine gI h cf11 o200 f11_15 lX11_225 (dt t_M_next 28 rfl) ?_
  refine pI h cf11 o200 f11_16 (okI ok5 200 15 (IsO.n3 o200)) lX11_231 (dt t_M_next 29 rfl) (SW_bm hf (fun s7 ok7 hf => ?_))
  refine SW_aload_n h rfl (dt t_M_next 30 rfl) ?_
  refine gI h cf11 o200 f11_15 lX11_225 (dt t_M_next 31 rfl) ?_
  refine SW_aload_n h rfl (dt t_M_next 32 rfl) ?_
  refine gI h cf11 o200 f11_14 lX11_228 (dt t_M_next 33 rfl) ?_
  refine SW_icmp_ne (tgt := 77) h (fun _ => (okI ok7 200 15 (IsO.n3 o200))) (fun _ => (okI ok7 200 14 (IsO.n3 o200))) (dt t_M_next 34 rfl) rfl hf (fun hf => ?_) (fun hf => ?_)
  · refine SW_aload_n h rfl (dt t_M_next 35 rfl) ?_
    refine SW_iconst h (dt t_M_next 36 rfl) ?_
    refine pI h cf11 o200 f11_17 (by decide) lX11_234 (dt t_M_next 37 rfl) (SW_bm hf (fun s9 ok9 hf => ?_))
    exact SW_vret h (hret _ hf) rfl (dt t_M_next 38 rfl)
  · refine SW_aload_n h rfl (dt t_M_next 39 rfl) ?_
    refine gR h cf11 o200 f11_2 j200_2 lX11_16 (dt t_M_next 40 rfl) ?_
    refine SW_aload_n h rfl (dt t_M_next 41 rfl) ?_
    refine gI h cf11 o200 f11_15 lX11_225 (dt t_M_next 42 rfl) ?_
    refine aB h a203 (dt t_M_next 43 rfl) hf (fun hf => ?_)
    refine SW_vi hf (okI ok7 203 ((s7 200 15).toNat) (IsA.n3 a203 (by decide))) (fun v10 h10 hf => ?_)
    refine SW_istore_n (lv2 := [some (.ref (xad X 200)), some (.int (i32 v10)), none, none, none]) h (dt t_M_next 44 rfl) (by decide) rfl ?_
    refine SW_iload_n h rfl (dt t_M_next 45 rfl) ?_
    obtain ⟨v11, e11, hf⟩ := b1_of hf
    refine cS h [.int (i32 v10)] [] v_X11_isLetter kX11_237 (c_M_isLetter v10 h10 e11) rfl rfl (by decide) (by decide) rfl (Nat.le_of_ble_eq_true rfl) (dt t_M_next 46 rfl) (fun h11 => ?_)
    refine SW_if_eq (tgt := 211) h (fun _ => (r_zo h11)) (dt t_M_next 47 rfl) rfl hf (fun hf => ?_) (fun hf => ?_)
    · refine SW_iload_n h rfl (dt t_M_next 108 rfl) ?_
      refine SW_bipush h (dt t_M_next 109 rfl) (by decide) ?_
      refine SW_bipush h (dt t_M_next 110 rfl) (by decide) ?_
      obtain ⟨v12, e12, hf⟩ := b1_of hf
      refine cS h [.int (i32 v10), .int (i32 48), .int (i32 57)] [] v_X11_in kX11_150 (c_M_in v10 h10 48 (by decide) 57 (by decide) e12) rfl rfl (by decide) (by decide) rfl (Nat.le_of_ble_eq_true rfl) (dt t_M_next 111 rfl) (fun h12 => ?_)
      refine SW_if_eq (tgt := 315) h (fun _ => (r_zo h12)) (dt t_M_next 112 rfl) rfl hf (fun hf => ?_) (fun hf => ?_)
      · refine SW_aload_n h rfl (dt t_M_next 161 rfl) ?_
        refine SW_dup h rfl (dt t_M_next 162 rfl) ?_
        refine gI h cf11 o200 f11_15 lX11_225 (dt t_M_next 163 rfl) ?_
        refine SW_iconst h (dt t_M_next 164 rfl) ?_
        refine SW_iadd h (dt t_M_next 165 rfl) ?_
        refine SW_chk hf (fun h14 hf => ?_)
        refine pI h cf11 o200 f11_15 h14 lX11_225 (dt t_M_next 166 rfl) (SW_bm hf (fun s15 ok15 hf => ?_))
        refine SW_aload_n h rfl (dt t_M_next 167 rfl) ?_
        refine SW_iload_n h rfl (dt t_M_next 168 rfl) ?_
        refine pI h cf11 o200 f11_18 h10 lX11_247 (dt t_M_next 169 rfl) (SW_bm hf (fun s17 ok17 hf => ?_))
        refine SW_aload_n h rfl (dt t_M_next 170 rfl) ?_
        refine SW_iload_n h rfl (dt t_M_next 171 rfl) ?_
        refine SW_bipush h (dt t_M_next 172 rfl) (by decide) ?_
        refine SW_bipush h (dt t_M_next 173 rfl) (by decide) ?_
        obtain ⟨v18, e18, hf⟩ := b1_of hf
        refine cS h [.int (i32 v10), .int (i32 59), .int (i32 62)] [.ref (xad X 200)] v_X11_in kX11_150 (c_M_in v10 h10 59 (by decide) 62 (by decide) e18) rfl rfl (by decide) (by decide) rfl (Nat.le_of_ble_eq_true rfl) (dt t_M_next 174 rfl) (fun h18 => ?_)
        refine bJ hf (fun J19 e19 hf => ?_)
        have k19 : ∀ (y19 : Int) (hy19 : r32 y19) (hf : J19 y19 = some res), SW X 1 5 376 [some (.ref (xad X 200)), some (.int (i32 v10)), none, none, none] [.int (i32 y19), .ref (xad X 200)] s17 := by
          intro y19 hy19 hf
          rw [e19] at hf
          refine pI h cf11 o200 f11_17 hy19 lX11_234 (dt t_M_next 193 rfl) (SW_bm hf (fun s21 ok21 hf => ?_))
          refine SW_iload_n h rfl (dt t_M_next 194 rfl) ?_
          refine SW_bipush h (dt t_M_next 195 rfl) (by decide) ?_
          refine bJ hf (fun J22 e22 hf => ?_)
          have k22 : ∀ (hf : J22 = some res), SW X 1 5 391 [some (.ref (xad X 200)), some (.int (i32 v10)), none, none, none] [] s21 := by
            intro hf
            rw [e22] at hf
            refine SW_aload_n h rfl (dt t_M_next 200 rfl) ?_
            refine gI h cf11 o200 f11_15 lX11_225 (dt t_M_next 201 rfl) ?_
            refine SW_aload_n h rfl (dt t_M_next 202 rfl) ?_
            refine gI h cf11 o200 f11_14 lX11_228 (dt t_M_next 203 rfl) ?_
            refine SW_icmp_ge (tgt := 445) h (fun _ => (okI ok21 200 15 (IsO.n3 o200))) (fun _ => (okI ok21 200 14 (IsO.n3 o200))) (dt t_M_next 204 rfl) rfl hf (fun hf => ?_) (fun hf => ?_)
            · exact SW_vret h (hret _ hf) rfl (dt t_M_next 226 rfl)
            · refine SW_aload_n h rfl (dt t_M_next 205 rfl) ?_
              refine gR h cf11 o200 f11_2 j200_2 lX11_16 (dt t_M_next 206 rfl) ?_
              refine SW_aload_n h rfl (dt t_M_next 207 rfl) ?_
              refine gI h cf11 o200 f11_15 lX11_225 (dt t_M_next 208 rfl) ?_
              refine aB h a203 (dt t_M_next 209 rfl) hf (fun hf => ?_)
              refine SW_bipush h (dt t_M_next 210 rfl) (by decide) ?_
              refine SW_icmp_ne (tgt := 445) h (fun _ => (okI ok21 203 ((s21 200 15).toNat) (IsA.n3 a203 (by decide)))) (fun _ => (by decide)) (dt t_M_next 211 rfl) rfl hf (fun hf => ?_) (fun hf => ?_)
              · refine SW_aload_n h rfl (dt t_M_next 212 rfl) ?_
                refine SW_iload_n h rfl (dt t_M_next 213 rfl) ?_
                refine SW_bipush h (dt t_M_next 214 rfl) (by decide) ?_
                refine bT hf (fun g23 e23 hf => ?_)
                have k23 : ∀ (v23 : Int) (h23 : r32 v23) (hf : g23 v23 = some res), SW X 1 5 432 [some (.ref (xad X 200)), some (.int (i32 v10)), none, none, none] [.int (i32 v23), .ref (xad X 200)] s21 := by
                  intro v23 h23 hf
                  rw [e23] at hf
                  refine pI h cf11 o200 f11_18 h23 lX11_247 (dt t_M_next 219 rfl) (SW_bm hf (fun s25 ok25 hf => ?_))
                  refine SW_aload_n h rfl (dt t_M_next 220 rfl) ?_
                  refine SW_dup h rfl (dt t_M_next 221 rfl) ?_
                  refine gI h cf11 o200 f11_15 lX11_225 (dt t_M_next 222 rfl) ?_
                  refine SW_iconst h (dt t_M_next 223 rfl) ?_
                  refine SW_iadd h (dt t_M_next 224 rfl) ?_
                  refine SW_chk hf (fun h27 hf => ?_)
                  refine pI h cf11 o200 f11_15 h27 lX11_225 (dt t_M_next 225 rfl) (SW_bm hf (fun s28 ok28 hf => ?_))
                  exact SW_vret h (hret _ hf) rfl (dt t_M_next 226 rfl)
                have hf := bIte hf
                refine SW_icmp_ne (tgt := 429) h (fun _ => h10) (fun _ => (by decide)) (dt t_M_next 215 rfl) rfl hf (fun hf => ?_) (fun hf => ?_)
                · refine SW_sipush h (dt t_M_next 216 rfl) (by decide) ?_
                  refine SW_goto (tgt := 432) h (dt t_M_next 217 rfl) rfl ?_
                  exact k23 300 (by decide) hf
                · refine SW_sipush h (dt t_M_next 218 rfl) (by decide) ?_
                  exact k23 301 (by decide) hf
              · exact SW_vret h (hret _ hf) rfl (dt t_M_next 226 rfl)
          refine SW_icmp_eq (tgt := 391) h (fun _ => h10) (fun _ => (by decide)) (dt t_M_next 196 rfl) rfl hf (fun hf => ?_) (fun hf => ?_)
          · exact SW_fgt [true, true, false, false, false] rfl (k22 hf)
          · refine SW_iload_n h rfl (dt t_M_next 197 rfl) ?_
            refine SW_bipush h (dt t_M_next 198 rfl) (by decide) ?_
            refine SW_icmp_ne (tgt := 445) h (fun _ => h10) (fun _ => (by decide)) (dt t_M_next 199 rfl) rfl hf (fun hf => ?_) (fun hf => ?_)
            · exact SW_fgt [true, true, false, false, false] rfl (k22 hf)
            · exact SW_vret h (hret _ hf) rfl (dt t_M_next 226 rfl)
        refine bJ hf (fun J29 e29 hf => ?_)
        have k29 : ∀ (hf : J29 = some res), SW X 1 5 371 [some (.ref (xad X 200)), some (.int (i32 v10)), none, none, none] [.ref (xad X 200)] s17 := by
          intro hf
          rw [e29] at hf
          refine SW_iconst h (dt t_M_next 190 rfl) ?_
          refine SW_goto (tgt := 376) h (dt t_M_next 191 rfl) rfl ?_
          exact SW_fgt [true, true, false, false, false] rfl (k19 3 (by decide) hf)
        refine SW_if_ne (tgt := 371) h (fun _ => (r_zo h18)) (dt t_M_next 175 rfl) rfl hf (fun hf => ?_) (fun hf => ?_)
        · refine SW_iload_n h rfl (dt t_M_next 176 rfl) ?_
          refine SW_bipush h (dt t_M_next 177 rfl) (by decide) ?_
          refine SW_bipush h (dt t_M_next 178 rfl) (by decide) ?_
          obtain ⟨v30, e30, hf⟩ := b1_of hf
          refine cS h [.int (i32 v10), .int (i32 40), .int (i32 45)] [.ref (xad X 200)] v_X11_in kX11_150 (c_M_in v10 h10 40 (by decide) 45 (by decide) e30) rfl rfl (by decide) (by decide) rfl (Nat.le_of_ble_eq_true rfl) (dt t_M_next 179 rfl) (fun h30 => ?_)
          refine SW_if_ne (tgt := 371) h (fun _ => (r_zo h30)) (dt t_M_next 180 rfl) rfl hf (fun hf => ?_) (fun hf => ?_)
          · refine SW_iload_n h rfl (dt t_M_next 181 rfl) ?_
            refine SW_bipush h (dt t_M_next 182 rfl) (by decide) ?_
            refine SW_icmp_eq (tgt := 371) h (fun _ => h10) (fun _ => (by decide)) (dt t_M_next 183 rfl) rfl hf (fun hf => ?_) (fun hf => ?_)
            · exact SW_fgt [true, true, false, false, false] rfl (k29 hf)
            · refine SW_iload_n h rfl (dt t_M_next 184 rfl) ?_
              refine SW_bipush h (dt t_M_next 185 rfl) (by decide) ?_
              refine SW_icmp_eq (tgt := 371) h (fun _ => h10) (fun _ => (by decide)) (dt t_M_next 186 rfl) rfl hf (fun hf => ?_) (fun hf => ?_)
              · exact SW_fgt [true, true, false, false, false] rfl (k29 hf)
              · refine SW_iload_n h rfl (dt t_M_next 187 rfl) ?_
                refine SW_bipush h (dt t_M_next 188 rfl) (by decide) ?_
                refine SW_icmp_ne (tgt := 375) h (fun _ => h10) (fun _ => (by decide)) (dt t_M_next 189 rfl) rfl hf (fun hf => ?_) (fun hf => ?_)
                · exact SW_fgt [true, true, false, false, false] rfl (k29 hf)
                · refine SW_iconst h (dt t_M_next 192 rfl) ?_
                  exact SW_fgt [true, true, false, false, false] rfl (k19 4 (by decide) hf)
          · exact SW_fgt [true, true, false, false, false] rfl (k29 hf)
        · exact SW_fgt [true, true, false, false, false] rfl (k29 hf)
      · refine SW_aload_n h rfl (dt t_M_next 113 rfl) ?_
        refine SW_iconst h (dt t_M_next 114 rfl) ?_
        refine pI h cf11 o200 f11_17 (by decide) lX11_234 (dt t_M_next 115 rfl) (SW_bm hf (fun s32 ok32 hf => ?_))
        refine SW_aload_n h rfl (dt t_M_next 116 rfl) ?_
        refine SW_iconst h (dt t_M_next 117 rfl) ?_
        refine pI h cf11 o200 f11_18 (by decide) lX11_247 (dt t_M_next 118 rfl) (SW_bm hf (fun s34 ok34 hf => ?_))
        obtain ⟨z43, e43, hk43⟩ := b0M_ex hf
        refine SW_fgt [true, false, false, false, false] rfl (l_M_next_232 h (fun s43 hz43 ok43 => ?_) LF s34 ok34 e43)
        have hf := hk43 s43 hz43
        exact SW_vret h (hret _ hf) rfl (dt t_M_next 226 rfl)
    · refine SW_lc0 h (dt t_M_next 48 rfl) ?_
      refine SW_lstore_n (lv2 := [some (.ref (xad X 200)), some (.int (i32 v10)), some (.long (i64 0)), none, none]) h (dt t_M_next 49 rfl) (by decide) rfl ?_
      refine SW_iconst h (dt t_M_next 50 rfl) ?_
      refine SW_istore (lv2 := [some (.ref (xad X 200)), some (.int (i32 v10)), some (.long (i64 0)), none, some (.int (i32 0))]) h (dt t_M_next 51 rfl) (by decide) rfl ?_
      obtain ⟨z51, e51, hk51⟩ := b2M_ex hf
      refine SW_fgt [true, false, true, false, true] rfl (l_M_next_99 h (fun x2_51 x4_51 s51 hz51 hx2_51 hx4_51 ok51 => ?_) LF 0 0 s7 (by decide) (by decide) ok7 e51)
      have hf := hk51 x2_51 x4_51 s51 hz51
      refine SW_aload_n h rfl (dt t_M_next 90 rfl) ?_
      refine SW_iload h rfl (dt t_M_next 91 rfl) ?_
      refine SW_bipush h (dt t_M_next 92 rfl) (by decide) ?_
      refine bJ hf (fun J52 e52 hf => ?_)
      have k52 : ∀ (y52 : Int) (hy52 : r32 y52) (hf : J52 y52 = some res), SW X 1 5 189 [some (.ref (xad X 200)), none, none, none, none] [.int (i32 y52), .ref (xad X 200)] s51 := by
        intro y52 hy52 hf
        rw [e52] at hf
        refine pI h cf11 o200 f11_18 hy52 lX11_247 (dt t_M_next 98 rfl) (SW_bm hf (fun s54 ok54 hf => ?_))
        refine SW_aload_n h rfl (dt t_M_next 99 rfl) ?_
        refine SW_aload_n h rfl (dt t_M_next 100 rfl) ?_
        refine gI h cf11 o200 f11_18 lX11_247 (dt t_M_next 101 rfl) ?_
        refine bT hf (fun g55 e55 hf => ?_)
        have k55 : ∀ (v55 : Int) (h55 : r32 v55) (hf : g55 v55 = some res), SW X 1 5 205 [some (.ref (xad X 200)), none, none, none, none] [.int (i32 v55), .ref (xad X 200)] s54 := by
          intro v55 h55 hf
          rw [e55] at hf
          refine pI h cf11 o200 f11_17 h55 lX11_234 (dt t_M_next 106 rfl) (SW_bm hf (fun s57 ok57 hf => ?_))
          refine SW_goto (tgt := 445) h (dt t_M_next 107 rfl) rfl ?_
          exact SW_vret h (hret _ hf) rfl (dt t_M_next 226 rfl)
        have hf := bIte hf
        refine SW_if_ge (tgt := 204) h (fun _ => (okI ok54 200 18 (IsO.n3 o200))) (dt t_M_next 102 rfl) rfl hf (fun hf => ?_) (fun hf => ?_)
        · refine SW_iconst h (dt t_M_next 105 rfl) ?_
          exact k55 1 (by decide) hf
        · refine SW_iconst h (dt t_M_next 103 rfl) ?_
          refine SW_goto (tgt := 205) h (dt t_M_next 104 rfl) rfl ?_
          exact k55 4 (by decide) hf
      refine SW_icmp_le (tgt := 185) h (fun _ => hx4_51) (fun _ => (by decide)) (dt t_M_next 93 rfl) rfl hf (fun hf => ?_) (fun hf => ?_)
      · refine SW_lload_n h rfl (dt t_M_next 96 rfl) ?_
        obtain ⟨v58, e58, hf⟩ := b1_of hf
        refine cS h [.long (i64 x2_51)] [.ref (xad X 200)] v_X11_wordOf kX11_243 (c_M_wordOf x2_51 hx2_51 e58) rfl rfl (by decide) (by decide) rfl (Nat.le_of_ble_eq_true rfl) (dt t_M_next 97 rfl) (fun h58 => ?_)
        exact SW_fgt [true, false, false, false, false] rfl (k52 v58 h58 hf)
      · refine SW_iconst h (dt t_M_next 94 rfl) ?_
        refine SW_goto (tgt := 189) h (dt t_M_next 95 rfl) rfl ?_
        exact SW_fgt [true, false, false, false, false] rfl (k52 ((-1)) (by decide) hf)
def b_M_opensSign : List (Nat × Instr × Nat) := [(0, .aload_n 0, 1), (1, .getfield 263, 3), (4, .bipush 8, 2), (6, .if_icmp .ne 10, 3), (9, .aload_n 0, 1), (10, .iconst 3, 1), (11, .invokevirtual 266, 3), (14, .iconst 0, 1), (15, .ireturn, 1), (16, .aload_n 0, 1), (17, .dup, 1), (18, .getfield 263, 3), (21, .iconst 1, 1), (22, .iadd, 1), (23, .putfield 263, 3), (26, .aload_n 0, 1), (27, .iload_n 1, 1), (28, .invokevirtual 269, 3), (31, .aload_n 0, 1), (32, .invokevirtual 272, 3), (35, .iconst 1, 1), (36, .ireturn, 1)]
theorem t_M_opensSign : DT cX11_opensSign b_M_opensSign := DT.of (by decide +kernel)
def F_M_opensSign (x1 : Int) (σ : Mm) : Option (Int × Mm) :=
  if σ 200 21 = 8 then
    b0M (F_M_errs 3 σ) fun s1 =>
    some (0, s1)
  else
    if r32 ((σ 200 21) + 1) then
      bindM (st2 σ 200 21 ((σ 200 21) + 1)) fun s4 =>
      b0M (F_M_opensFrame x1 s4) fun s5 =>
      b0M (F_M_next  s5) fun s6 =>
      some (1, s6)
    else none
set_option maxRecDepth 100000 in
set_option maxHeartbeats 4000000 in
theorem c_M_opensSign (x1 : Int) (hx1 : r32 x1) {σ : Mm} {a : Int} {σ2 : Mm} (hf : F_M_opensSign x1 σ = some (a, σ2)) : CT yX11_opensSign cX11_opensSign 2 (some .boolean) 3 1 (fun ad => [.ref (ad 200), .int (i32 x1)]) σ (a = 0 ∨ a = 1) (some (.int (i32 a))) σ2 := by
  refine MetJ 0 (by decide +kernel) rfl (fun _ => Nat.le_of_ble_eq_true rfl) ?_
  intro X h hR ok
  obtain ⟨res, er⟩ : ∃ z, z = (a, σ2) := ⟨_, rfl⟩
  have hret : ∀ y : Int × Mm, some y = some res → RX X 1 (y.1 = 0 ∨ y.1 = 1) (some (.int (i32 (y.1)))) y.2 := fun y e => by cases e; cases er; exact hR
  rw [← er] at hf
  clear er hR
  unfold F_M_opensSign at hf
  show SW X 1 2 0 [some (.ref (xad X 200)), some (.int (i32 x1))] [] σ
  refine SW_aload_n h rfl (dt t_M_opensSign 0 rfl) ?_
  refine gI h cf11 o200 f11_21 lX11_263 (dt t_M_opensSign 1 rfl) ?_
  refine SW_bipush h (dt t_M_opensSign 2 rfl) (by decide) ?_
  refine SW_icmp_ne (tgt := 16) h (fun _ => (okI ok 200 21 (IsO.n3 o200))) (fun _ => (by decide)) (dt t_M_opensSign 3 rfl) rfl hf (fun hf => ?_) (fun hf => ?_)
  · refine SW_aload_n h rfl (dt t_M_opensSign 4 rfl) ?_
    refine SW_iconst h (dt t_M_opensSign 5 rfl) ?_
    obtain ⟨s1, e1, hf⟩ := b0M_of hf
    refine cVv h [.int (i32 3)] [] v_X11_errs kX11_266 o200 (c_M_errs 3 (by decide) e1) rfl rfl (by decide) (by decide) rfl (Nat.le_of_ble_eq_true rfl) (dt t_M_opensSign 6 rfl) (fun h1 => ?_)
    refine SW_ok (fun ok1 => ?_)
    refine SW_iconst h (dt t_M_opensSign 7 rfl) ?_
    exact SW_zret h (hret _ hf) (by decide) rfl (dt t_M_opensSign 8 rfl)
  · refine SW_aload_n h rfl (dt t_M_opensSign 9 rfl) ?_
    refine SW_dup h rfl (dt t_M_opensSign 10 rfl) ?_
    refine gI h cf11 o200 f11_21 lX11_263 (dt t_M_opensSign 11 rfl) ?_
    refine SW_iconst h (dt t_M_opensSign 12 rfl) ?_
    refine SW_iadd h (dt t_M_opensSign 13 rfl) ?_
    refine SW_chk hf (fun h3 hf => ?_)
    refine pI h cf11 o200 f11_21 h3 lX11_263 (dt t_M_opensSign 14 rfl) (SW_bm hf (fun s4 ok4 hf => ?_))
    refine SW_aload_n h rfl (dt t_M_opensSign 15 rfl) ?_
    refine SW_iload_n h rfl (dt t_M_opensSign 16 rfl) ?_
    obtain ⟨s5, e5, hf⟩ := b0M_of hf
    refine cVv h [.int (i32 x1)] [] v_X11_opensFrame kX11_269 o200 (c_M_opensFrame x1 hx1 e5) rfl rfl (by decide) (by decide) rfl (Nat.le_of_ble_eq_true rfl) (dt t_M_opensSign 17 rfl) (fun h5 => ?_)
    refine SW_ok (fun ok5 => ?_)
    refine SW_aload_n h rfl (dt t_M_opensSign 18 rfl) ?_
    obtain ⟨s6, e6, hf⟩ := b0M_of hf
    refine cVv h [] [] v_X11_next kX11_272 o200 (c_M_next  e6) rfl rfl (by decide) (by decide) rfl (Nat.le_of_ble_eq_true rfl) (dt t_M_opensSign 19 rfl) (fun h6 => ?_)
    refine SW_ok (fun ok6 => ?_)
    refine SW_iconst h (dt t_M_opensSign 20 rfl) ?_
    exact SW_zret h (hret _ hf) (by decide) rfl (dt t_M_opensSign 21 rfl)
def b_M_asks : List (Nat × Instr × Nat) := [(0, .aload_n 0, 1), (1, .bipush 12, 2), (3, .invokevirtual 289, 3), (6, .ifCond .eq 12, 3), (9, .aload_n 0, 1), (10, .iconst 3, 1), (11, .invokevirtual 292, 3), (14, .istore_n 1, 1), (15, .goto 13, 3), (18, .aload_n 0, 1), (19, .iconst 4, 1), (20, .invokevirtual 269, 3), (23, .aload_n 0, 1), (24, .iconst 1, 1), (25, .putfield 295, 3), (28, .return_, 1)]
theorem t_M_asks : DT cX11_asks b_M_asks := DT.of (by decide +kernel)
def F_M_asks  (σ : Mm) : Option (Mm) :=
  b1 (F_M_isWord 12 σ) fun v1 =>
  if v1 = 0 then
    b0M (F_M_opensFrame 4 σ) fun s2 =>
    bindM (st2 s2 200 28 1) fun s4 =>
    some s4
  else
    b1M (F_M_opensSign 3 σ) fun v5 s5 =>
    some s5
set_option maxRecDepth 100000 in
set_option maxHeartbeats 4000000 in
theorem c_M_asks  {σ : Mm} {σ2 : Mm} (hf : F_M_asks  σ = some σ2) : CT yX11_asks cX11_asks 2 none 4 1 (fun ad => [.ref (ad 200)]) σ True none σ2 := by
  refine MetJ 1 (by decide +kernel) rfl (fun _ => Nat.le_of_ble_eq_true rfl) ?_
  intro X h hR ok
  obtain ⟨res, er⟩ : ∃ z, z = σ2 := ⟨_, rfl⟩
  have hret : ∀ y : Mm, some y = some res → RX X 1 True none y := fun y e => by cases e; cases er; exact hR
  rw [← er] at hf
  clear er hR
  unfold F_M_asks at hf
  show SW X 1 2 0 [some (.ref (xad X 200)), none] [] σ
  refine SW_aload_n h rfl (dt t_M_asks 0 rfl) ?_
  refine SW_bipush h (dt t_M_asks 1 rfl) (by decide) ?_
  obtain ⟨v1, e1, hf⟩ := b1_of hf
  refine cV h [.int (i32 12)] [] v_X11_isWord kX11_289 o200 (c_M_isWord 12 (by decide) e1) rfl rfl (by decide) (by decide) rfl (Nat.le_of_ble_eq_true rfl) (dt t_M_asks 2 rfl) (fun h1 => ?_)
  refine SW_if_eq (tgt := 18) h (fun _ => (r_zo h1)) (dt t_M_asks 3 rfl) rfl hf (fun hf => ?_) (fun hf => ?_)
  · refine SW_aload_n h rfl (dt t_M_asks 9 rfl) ?_
    refine SW_iconst h (dt t_M_asks 10 rfl) ?_
    obtain ⟨s2, e2, hf⟩ := b0M_of hf
    refine cVv h [.int (i32 4)] [] v_X11_opensFrame kX11_269 o200 (c_M_opensFrame 4 (by decide) e2) rfl rfl (by decide) (by decide) rfl (Nat.le_of_ble_eq_true rfl) (dt t_M_asks 11 rfl) (fun h2 => ?_)
    refine SW_ok (fun ok2 => ?_)
    refine SW_aload_n h rfl (dt t_M_asks 12 rfl) ?_
    refine SW_iconst h (dt t_M_asks 13 rfl) ?_
    refine pI h cf11 o200 f11_28 (by decide) lX11_295 (dt t_M_asks 14 rfl) (SW_bm hf (fun s4 ok4 hf => ?_))
    exact SW_vret h (hret _ hf) rfl (dt t_M_asks 15 rfl)
  · refine SW_aload_n h rfl (dt t_M_asks 4 rfl) ?_
    refine SW_iconst h (dt t_M_asks 5 rfl) ?_
    obtain ⟨v5, s5, e5, hf⟩ := b1M_of hf
    refine cV h [.int (i32 3)] [] v_X11_opensSign kX11_292 o200 (c_M_opensSign 3 (by decide) e5) rfl rfl (by decide) (by decide) rfl (Nat.le_of_ble_eq_true rfl) (dt t_M_asks 6 rfl) (fun h5 => ?_)
    refine SW_ok (fun ok5 => ?_)
    refine SW_istore_n (lv2 := [some (.ref (xad X 200)), some (.int (i32 v5))]) h (dt t_M_asks 7 rfl) (by decide) rfl ?_
    refine SW_goto (tgt := 28) h (dt t_M_asks 8 rfl) rfl ?_
    exact SW_vret h (hret _ hf) rfl (dt t_M_asks 15 rfl)
def b_M_rank : List (Nat × Instr × Nat) := [(0, .iload_n 0, 1), (1, .sipush 407, 3), (4, .if_icmp .ne 7, 3), (7, .iconst 1, 1), (8, .goto 31, 3), (11, .iload_n 0, 1), (12, .sipush 406, 3), (15, .if_icmp .ne 7, 3), (18, .iconst 2, 1), (19, .goto 20, 3), (22, .iload_n 0, 1), (23, .bipush 43, 2), (25, .if_icmp .eq 9, 3), (28, .iload_n 0, 1), (29, .bipush 45, 2), (31, .if_icmp .ne 7, 3), (34, .iconst 3, 1), (35, .goto 4, 3), (38, .iconst 4, 1), (39, .ireturn, 1)]
theorem t_M_rank : DT cX11_rank b_M_rank := DT.of (by decide +kernel)
def F_M_rank (x0 : Int) : Option (Int) :=
  if x0 = 407 then
    some 1
  else
    if x0 = 406 then
      some 2
    else
      if x0 = 43 then
        some 3
      else
        if x0 = 45 then
          some 3
        else
          some 4
set_option maxRecDepth 100000 in
set_option maxHeartbeats 4000000 in
theorem c_M_rank (x0 : Int) (hx0 : r32 x0) {σ : Mm} {a : Int} (hf : F_M_rank x0 = some a) : CT yX11_rank cX11_rank 1 (some .int) 0 1 (fun ad => [.int (i32 x0)]) σ (r32 a) (some (.int (i32 a))) σ := by
  refine MetJ 0 (by decide +kernel) rfl (fun _ => Nat.le_of_ble_eq_true rfl) ?_
  intro X h hR ok
  obtain ⟨res, er⟩ : ∃ z, z = a := ⟨_, rfl⟩
  have hret : ∀ y : Int, some y = some res → RX X 1 (r32 (y)) (some (.int (i32 (y)))) σ := fun y e => by cases e; cases er; exact hR
  rw [← er] at hf
  clear er hR
  unfold F_M_rank at hf
  show SW X 1 1 0 [some (.int (i32 x0))] [] σ
  refine SW_iload_n h rfl (dt t_M_rank 0 rfl) ?_
  refine SW_sipush h (dt t_M_rank 1 rfl) (by decide) ?_
  refine SW_icmp_ne (tgt := 11) h (fun _ => hx0) (fun _ => (by decide)) (dt t_M_rank 2 rfl) rfl hf (fun hf => ?_) (fun hf => ?_)
  · refine SW_iconst h (dt t_M_rank 3 rfl) ?_
    refine SW_goto (tgt := 39) h (dt t_M_rank 4 rfl) rfl ?_
    exact SW_iret h (hret _ hf) (fun _ => (by decide)) rfl (dt t_M_rank 19 rfl)
  · refine SW_iload_n h rfl (dt t_M_rank 5 rfl) ?_
    refine SW_sipush h (dt t_M_rank 6 rfl) (by decide) ?_
    refine SW_icmp_ne (tgt := 22) h (fun _ => hx0) (fun _ => (by decide)) (dt t_M_rank 7 rfl) rfl hf (fun hf => ?_) (fun hf => ?_)
    · refine SW_iconst h (dt t_M_rank 8 rfl) ?_
      refine SW_goto (tgt := 39) h (dt t_M_rank 9 rfl) rfl ?_
      exact SW_iret h (hret _ hf) (fun _ => (by decide)) rfl (dt t_M_rank 19 rfl)
    · refine SW_iload_n h rfl (dt t_M_rank 10 rfl) ?_
      refine SW_bipush h (dt t_M_rank 11 rfl) (by decide) ?_
      refine SW_icmp_eq (tgt := 34) h (fun _ => hx0) (fun _ => (by decide)) (dt t_M_rank 12 rfl) rfl hf (fun hf => ?_) (fun hf => ?_)
      · refine SW_iconst h (dt t_M_rank 16 rfl) ?_
        refine SW_goto (tgt := 39) h (dt t_M_rank 17 rfl) rfl ?_
        exact SW_iret h (hret _ hf) (fun _ => (by decide)) rfl (dt t_M_rank 19 rfl)
      · refine SW_iload_n h rfl (dt t_M_rank 13 rfl) ?_
        refine SW_bipush h (dt t_M_rank 14 rfl) (by decide) ?_
        refine SW_icmp_ne (tgt := 38) h (fun _ => hx0) (fun _ => (by decide)) (dt t_M_rank 15 rfl) rfl hf (fun hf => ?_) (fun hf => ?_)
        · refine SW_iconst h (dt t_M_rank 16 rfl) ?_
          refine SW_goto (tgt := 39) h (dt t_M_rank 17 rfl) rfl ?_
          exact SW_iret h (hret _ hf) (fun _ => (by decide)) rfl (dt t_M_rank 19 rfl)
        · refine SW_iconst h (dt t_M_rank 18 rfl) ?_
          exact SW_iret h (hret _ hf) (fun _ => (by decide)) rfl (dt t_M_rank 19 rfl)
def b_M_works : List (Nat × Instr × Nat) := [(0, .aload_n 0, 1), (1, .getfield 275, 3), (4, .ifCond .le 66, 3), (7, .aload_n 0, 1), (8, .getfield 60, 3), (11, .aload_n 0, 1), (12, .getfield 275, 3), (15, .iconst 1, 1), (16, .isub, 1), (17, .iaload, 1), (18, .aload_n 0, 1), (19, .getfield 260, 3), (22, .if_icmp .ne 48, 3), (25, .aload_n 0, 1), (26, .getfield 57, 3), (29, .aload_n 0, 1), (30, .getfield 275, 3), (33, .iconst 1, 1), (34, .isub, 1), (35, .iaload, 1), (36, .invokestatic 278, 3), (39, .iload_n 1, 1), (40, .if_icmp .lt 30, 3), (43, .aload_n 0, 1), (44, .dup, 1), (45, .getfield 275, 3), (48, .iconst 1, 1), (49, .isub, 1), (50, .putfield 275, 3), (53, .aload_n 0, 1), (54, .aload_n 0, 1), (55, .getfield 57, 3), (58, .aload_n 0, 1), (59, .getfield 275, 3), (62, .iaload, 1), (63, .iconst 0, 1), (64, .invokevirtual 282, 3), (67, .goto (-67), 3), (70, .return_, 1)]
theorem t_M_works : DT cX11_works b_M_works := DT.of (by decide +kernel)
def L_M_works_0 : Nat → Int → Mm → Option (Mm)
  | 0, _, _ => none
  | n + 1, x1, σ =>
    if σ 200 25 ≤ 0 then
      some σ
    else
      if 0 ≤ (σ 200 25) - 1 ∧ (σ 200 25) - 1 < 80 then
        if σ 215 (((σ 200 25) - 1).toNat) = σ 200 22 then
          if 0 ≤ (σ 200 25) - 1 ∧ (σ 200 25) - 1 < 80 then
            b1 (F_M_rank (σ 214 (((σ 200 25) - 1).toNat))) fun v1 =>
            if v1 < x1 then
              some σ
            else
              if r32 ((σ 200 25) - 1) then
                bindM (st2 σ 200 25 ((σ 200 25) - 1)) fun s4 =>
                if 0 ≤ s4 200 25 ∧ s4 200 25 < 80 then
                  b0M (F_M_emits (s4 214 ((s4 200 25).toNat)) 0 s4) fun s5 =>
                  L_M_works_0 n x1 s5
                else none
              else none
          else none
        else
          some σ
      else none
set_option maxRecDepth 100000 in
set_option maxHeartbeats 4000000 in
theorem l_M_works_0 {X : Cx} (h : CX X 1 cX11_works 2 1 none RX11) (x1 : Int) (hx1 : r32 x1) {res : Mm} (hex : ∀  (σ : Mm) (hz : some σ = some res)  (ok : okM σ), SW X 1 2 70 [none, none] [] σ) : ∀ (n : Nat)  (σ : Mm)  (ok : okM σ) (hf : L_M_works_0 n x1 σ = some res), SW X 1 2 0 [some (.ref (xad X 200)), some (.int (i32 x1))] [] σ := by
  intro n
  induction n with
  | zero => intro σ ok hf; exact absurd hf (by simp [L_M_works_0])
  | succ n ih =>
    intro σ ok hf
    rw [L_M_works_0] at hf
    refine SW_aload_n h rfl (dt t_M_works 0 rfl) ?_
    refine gI h cf11 o200 f11_25 lX11_275 (dt t_M_works 1 rfl) ?_
    refine SW_if_le (tgt := 70) h (fun _ => (okI ok 200 25 (IsO.n3 o200))) (dt t_M_works 2 rfl) rfl hf (fun hf => ?_) (fun hf => ?_)
    · exact SW_fgt [false, false] rfl (hex σ hf ok)
    · refine SW_aload_n h rfl (dt t_M_works 3 rfl) ?_
      refine gR h cf11 o200 f11_27 j200_27 lX11_60 (dt t_M_works 4 rfl) ?_
      refine SW_aload_n h rfl (dt t_M_works 5 rfl) ?_
      refine gI h cf11 o200 f11_25 lX11_275 (dt t_M_works 6 rfl) ?_
      refine SW_iconst h (dt t_M_works 7 rfl) ?_
      refine SW_isub h (dt t_M_works 8 rfl) ?_
      refine aI h a215 (dt t_M_works 9 rfl) hf (fun hf => ?_)
      refine SW_aload_n h rfl (dt t_M_works 10 rfl) ?_
      refine gI h cf11 o200 f11_22 lX11_260 (dt t_M_works 11 rfl) ?_
      refine SW_icmp_ne (tgt := 70) h (fun _ => (okI ok 215 (((σ 200 25) - 1).toNat) (IsA.n3 a215 (by decide)))) (fun _ => (okI ok 200 22 (IsO.n3 o200))) (dt t_M_works 12 rfl) rfl hf (fun hf => ?_) (fun hf => ?_)
      · refine SW_aload_n h rfl (dt t_M_works 13 rfl) ?_
        refine gR h cf11 o200 f11_26 j200_26 lX11_57 (dt t_M_works 14 rfl) ?_
        refine SW_aload_n h rfl (dt t_M_works 15 rfl) ?_
        refine gI h cf11 o200 f11_25 lX11_275 (dt t_M_works 16 rfl) ?_
        refine SW_iconst h (dt t_M_works 17 rfl) ?_
        refine SW_isub h (dt t_M_works 18 rfl) ?_
        refine aI h a214 (dt t_M_works 19 rfl) hf (fun hf => ?_)
        obtain ⟨v1, e1, hf⟩ := b1_of hf
        refine cS h [.int (i32 (σ 214 (((σ 200 25) - 1).toNat)))] [] v_X11_rank kX11_278 (c_M_rank (σ 214 (((σ 200 25) - 1).toNat)) (okI ok 214 (((σ 200 25) - 1).toNat) (IsA.n3 a214 (by decide))) e1) rfl rfl (by decide) (by decide) rfl (Nat.le_of_ble_eq_true rfl) (dt t_M_works 20 rfl) (fun h1 => ?_)
        refine SW_iload_n h rfl (dt t_M_works 21 rfl) ?_
        refine SW_icmp_lt (tgt := 70) h (fun _ => h1) (fun _ => hx1) (dt t_M_works 22 rfl) rfl hf (fun hf => ?_) (fun hf => ?_)
        · exact SW_fgt [false, false] rfl (hex σ hf ok)
        · refine SW_aload_n h rfl (dt t_M_works 23 rfl) ?_
          refine SW_dup h rfl (dt t_M_works 24 rfl) ?_
          refine gI h cf11 o200 f11_25 lX11_275 (dt t_M_works 25 rfl) ?_
          refine SW_iconst h (dt t_M_works 26 rfl) ?_
          refine SW_isub h (dt t_M_works 27 rfl) ?_
          refine SW_chk hf (fun h3 hf => ?_)
          refine pI h cf11 o200 f11_25 h3 lX11_275 (dt t_M_works 28 rfl) (SW_bm hf (fun s4 ok4 hf => ?_))
          refine SW_aload_n h rfl (dt t_M_works 29 rfl) ?_
          refine SW_aload_n h rfl (dt t_M_works 30 rfl) ?_
          refine gR h cf11 o200 f11_26 j200_26 lX11_57 (dt t_M_works 31 rfl) ?_
          refine SW_aload_n h rfl (dt t_M_works 32 rfl) ?_
          refine gI h cf11 o200 f11_25 lX11_275 (dt t_M_works 33 rfl) ?_
          refine aI h a214 (dt t_M_works 34 rfl) hf (fun hf => ?_)
          refine SW_iconst h (dt t_M_works 35 rfl) ?_
          obtain ⟨s5, e5, hf⟩ := b0M_of hf
          refine cVv h [.int (i32 (s4 214 ((s4 200 25).toNat))), .int (i32 0)] [] v_X11_emits kX11_282 o200 (c_M_emits (s4 214 ((s4 200 25).toNat)) (okI ok4 214 ((s4 200 25).toNat) (IsA.n3 a214 (by decide))) 0 (by decide) e5) rfl rfl (by decide) (by decide) rfl (Nat.le_of_ble_eq_true rfl) (dt t_M_works 36 rfl) (fun h5 => ?_)
          refine SW_ok (fun ok5 => ?_)
          refine SW_goto (tgt := 0) h (dt t_M_works 37 rfl) rfl ?_
          exact SW_fgt [true, true] rfl (ih s5 ok5 hf)
      · exact SW_fgt [false, false] rfl (hex σ hf ok)
def F_M_works (x1 : Int) (σ : Mm) : Option (Mm) :=
  b0M (L_M_works_0 LF x1 σ) fun s6 =>
  some s6
set_option maxRecDepth 100000 in
set_option maxHeartbeats 4000000 in
theorem c_M_works (x1 : Int) (hx1 : r32 x1) {σ : Mm} {σ2 : Mm} (hf : F_M_works x1 σ = some σ2) : CT yX11_works cX11_works 2 none 1 1 (fun ad => [.ref (ad 200), .int (i32 x1)]) σ True none σ2 := by
  refine MetJ 0 (by decide +kernel) rfl (fun _ => Nat.le_of_ble_eq_true rfl) ?_
  intro X h hR ok
  obtain ⟨res, er⟩ : ∃ z, z = σ2 := ⟨_, rfl⟩
  have hret : ∀ y : Mm, some y = some res → RX X 1 True none y := fun y e => by cases e; cases er; exact hR
  rw [← er] at hf
  clear er hR
  unfold F_M_works at hf
  show SW X 1 2 0 [some (.ref (xad X 200)), some (.int (i32 x1))] [] σ
  obtain ⟨z6, e6, hk6⟩ := b0M_ex hf
  refine SW_fgt [true, true] rfl (l_M_works_0 h x1 hx1 (fun s6 hz6 ok6 => ?_) LF σ ok e6)
  have hf := hk6 s6 hz6
  exact SW_vret h (hret _ hf) rfl (dt t_M_works 38 rfl)
def b_M_waitsFor : List (Nat × Instr × Nat) := [(0, .aload_n 0, 1), (1, .iload_n 1, 1), (2, .invokestatic 278, 3), (5, .invokevirtual 286, 3), (8, .aload_n 0, 1), (9, .getfield 57, 3), (12, .aload_n 0, 1), (13, .getfield 275, 3), (16, .iload_n 1, 1), (17, .iastore, 1), (18, .aload_n 0, 1), (19, .getfield 60, 3), (22, .aload_n 0, 1), (23, .getfield 275, 3), (26, .aload_n 0, 1), (27, .getfield 260, 3), (30, .iastore, 1), (31, .aload_n 0, 1), (32, .dup, 1), (33, .getfield 275, 3), (36, .iconst 1, 1), (37, .iadd, 1), (38, .putfield 275, 3), (41, .aload_n 0, 1), (42, .invokevirtual 272, 3), (45, .return_, 1)]
theorem t_M_waitsFor : DT cX11_waitsFor b_M_waitsFor := DT.of (by decide +kernel)
def F_M_waitsFor (x1 : Int) (σ : Mm) : Option (Mm) :=
  b1 (F_M_rank x1) fun v1 =>
  b0M (F_M_works v1 σ) fun s2 =>
  if 0 ≤ s2 200 25 ∧ s2 200 25 < 80 then
    bindM (st2 s2 214 ((s2 200 25).toNat) x1) fun s3 =>
    if 0 ≤ s3 200 25 ∧ s3 200 25 < 80 then
      bindM (st2 s3 215 ((s3 200 25).toNat) (s3 200 22)) fun s4 =>
      if r32 ((s4 200 25) + 1) then
        bindM (st2 s4 200 25 ((s4 200 25) + 1)) fun s7 =>
        b0M (F_M_next  s7) fun s8 =>
        some s8
      else none
    else none
  else none
set_option maxRecDepth 100000 in
set_option maxHeartbeats 4000000 in
theorem c_M_waitsFor (x1 : Int) (hx1 : r32 x1) {σ : Mm} {σ2 : Mm} (hf : F_M_waitsFor x1 σ = some σ2) : CT yX11_waitsFor cX11_waitsFor 2 none 3 1 (fun ad => [.ref (ad 200), .int (i32 x1)]) σ True none σ2 := by
  refine MetJ 0 (by decide +kernel) rfl (fun _ => Nat.le_of_ble_eq_true rfl) ?_
  intro X h hR ok
  obtain ⟨res, er⟩ : ∃ z, z = σ2 := ⟨_, rfl⟩
  have hret : ∀ y : Mm, some y = some res → RX X 1 True none y := fun y e => by cases e; cases er; exact hR
  rw [← er] at hf
  clear er hR
  unfold F_M_waitsFor at hf
  show SW X 1 2 0 [some (.ref (xad X 200)), some (.int (i32 x1))] [] σ
  refine SW_aload_n h rfl (dt t_M_waitsFor 0 rfl) ?_
  refine SW_iload_n h rfl (dt t_M_waitsFor 1 rfl) ?_
  obtain ⟨v1, e1, hf⟩ := b1_of hf
  refine cS h [.int (i32 x1)] [.ref (xad X 200)] v_X11_rank kX11_278 (c_M_rank x1 hx1 e1) rfl rfl (by decide) (by decide) rfl (Nat.le_of_ble_eq_true rfl) (dt t_M_waitsFor 2 rfl) (fun h1 => ?_)
  obtain ⟨s2, e2, hf⟩ := b0M_of hf
  refine cVv h [.int (i32 v1)] [] v_X11_works kX11_286 o200 (c_M_works v1 h1 e2) rfl rfl (by decide) (by decide) rfl (Nat.le_of_ble_eq_true rfl) (dt t_M_waitsFor 3 rfl) (fun h2 => ?_)
  refine SW_ok (fun ok2 => ?_)
  refine SW_aload_n h rfl (dt t_M_waitsFor 4 rfl) ?_
  refine gR h cf11 o200 f11_26 j200_26 lX11_57 (dt t_M_waitsFor 5 rfl) ?_
  refine SW_aload_n h rfl (dt t_M_waitsFor 6 rfl) ?_
  refine gI h cf11 o200 f11_25 lX11_275 (dt t_M_waitsFor 7 rfl) ?_
  refine SW_iload_n h rfl (dt t_M_waitsFor 8 rfl) ?_
  refine sI h a214 hx1 (dt t_M_waitsFor 9 rfl) hf (fun hf => SW_bm hf (fun s3 ok3 hf => ?_))
  refine SW_aload_n h rfl (dt t_M_waitsFor 10 rfl) ?_
  refine gR h cf11 o200 f11_27 j200_27 lX11_60 (dt t_M_waitsFor 11 rfl) ?_
  refine SW_aload_n h rfl (dt t_M_waitsFor 12 rfl) ?_
  refine gI h cf11 o200 f11_25 lX11_275 (dt t_M_waitsFor 13 rfl) ?_
  refine SW_aload_n h rfl (dt t_M_waitsFor 14 rfl) ?_
  refine gI h cf11 o200 f11_22 lX11_260 (dt t_M_waitsFor 15 rfl) ?_
  refine sI h a215 (okI ok3 200 22 (IsO.n3 o200)) (dt t_M_waitsFor 16 rfl) hf (fun hf => SW_bm hf (fun s4 ok4 hf => ?_))
  refine SW_aload_n h rfl (dt t_M_waitsFor 17 rfl) ?_
  refine SW_dup h rfl (dt t_M_waitsFor 18 rfl) ?_
  refine gI h cf11 o200 f11_25 lX11_275 (dt t_M_waitsFor 19 rfl) ?_
  refine SW_iconst h (dt t_M_waitsFor 20 rfl) ?_
  refine SW_iadd h (dt t_M_waitsFor 21 rfl) ?_
  refine SW_chk hf (fun h6 hf => ?_)
  refine pI h cf11 o200 f11_25 h6 lX11_275 (dt t_M_waitsFor 22 rfl) (SW_bm hf (fun s7 ok7 hf => ?_))
  refine SW_aload_n h rfl (dt t_M_waitsFor 23 rfl) ?_
  obtain ⟨s8, e8, hf⟩ := b0M_of hf
  refine cVv h [] [] v_X11_next kX11_272 o200 (c_M_next  e8) rfl rfl (by decide) (by decide) rfl (Nat.le_of_ble_eq_true rfl) (dt t_M_waitsFor 24 rfl) (fun h8 => ?_)
  refine SW_ok (fun ok8 => ?_)
  exact SW_vret h (hret _ hf) rfl (dt t_M_waitsFor 25 rfl)
def b_M_isSign : List (Nat × Instr × Nat) := [(0, .aload_n 0, 1), (1, .getfield 234, 3), (4, .iconst 3, 1), (5, .if_icmp .ne 15, 3), (8, .aload_n 0, 1), (9, .getfield 247, 3), (12, .iload_n 1, 1), (13, .if_icmp .ne 7, 3), (16, .iconst 1, 1), (17, .goto 4, 3), (20, .iconst 0, 1), (21, .ireturn, 1)]
theorem t_M_isSign : DT cX11_isSign b_M_isSign := DT.of (by decide +kernel)
def F_M_isSign (x1 : Int) (σ : Mm) : Option (Int) :=
  if σ 200 17 = 3 then
    if σ 200 18 = x1 then
      some 1
    else
      some 0
  else
    some 0
set_option maxRecDepth 100000 in
set_option maxHeartbeats 4000000 in
theorem c_M_isSign (x1 : Int) (hx1 : r32 x1) {σ : Mm} {a : Int} (hf : F_M_isSign x1 σ = some a) : CT yX11_isSign cX11_isSign 2 (some .boolean) 0 1 (fun ad => [.ref (ad 200), .int (i32 x1)]) σ (a = 0 ∨ a = 1) (some (.int (i32 a))) σ := by
  refine MetJ 0 (by decide +kernel) rfl (fun _ => Nat.le_of_ble_eq_true rfl) ?_
  intro X h hR ok
  obtain ⟨res, er⟩ : ∃ z, z = a := ⟨_, rfl⟩
  have hret : ∀ y : Int, some y = some res → RX X 1 (y = 0 ∨ y = 1) (some (.int (i32 (y)))) σ := fun y e => by cases e; cases er; exact hR
  rw [← er] at hf
  clear er hR
  unfold F_M_isSign at hf
  show SW X 1 2 0 [some (.ref (xad X 200)), some (.int (i32 x1))] [] σ
  refine SW_aload_n h rfl (dt t_M_isSign 0 rfl) ?_
  refine gI h cf11 o200 f11_17 lX11_234 (dt t_M_isSign 1 rfl) ?_
  refine SW_iconst h (dt t_M_isSign 2 rfl) ?_
  refine SW_icmp_ne (tgt := 20) h (fun _ => (okI ok 200 17 (IsO.n3 o200))) (fun _ => (by decide)) (dt t_M_isSign 3 rfl) rfl hf (fun hf => ?_) (fun hf => ?_)
  · refine SW_aload_n h rfl (dt t_M_isSign 4 rfl) ?_
    refine gI h cf11 o200 f11_18 lX11_247 (dt t_M_isSign 5 rfl) ?_
    refine SW_iload_n h rfl (dt t_M_isSign 6 rfl) ?_
    refine SW_icmp_ne (tgt := 20) h (fun _ => (okI ok 200 18 (IsO.n3 o200))) (fun _ => hx1) (dt t_M_isSign 7 rfl) rfl hf (fun hf => ?_) (fun hf => ?_)
    · refine SW_iconst h (dt t_M_isSign 8 rfl) ?_
      refine SW_goto (tgt := 21) h (dt t_M_isSign 9 rfl) rfl ?_
      exact SW_zret h (hret _ hf) (by decide) rfl (dt t_M_isSign 11 rfl)
    · refine SW_iconst h (dt t_M_isSign 10 rfl) ?_
      exact SW_zret h (hret _ hf) (by decide) rfl (dt t_M_isSign 11 rfl)
  · refine SW_iconst h (dt t_M_isSign 10 rfl) ?_
    exact SW_zret h (hret _ hf) (by decide) rfl (dt t_M_isSign 11 rfl)
def b_M_clauseIsOver : List (Nat × Instr × Nat) := [(0, .aload_n 0, 1), (1, .iconst 1, 1), (2, .invokevirtual 286, 3), (5, .aload_n 0, 1), (6, .iconst 0, 1), (7, .putfield 260, 3), (10, .aload_n 0, 1), (11, .sipush 408, 3), (14, .iconst 0, 1), (15, .invokevirtual 282, 3), (18, .aload_n 0, 1), (19, .dup, 1), (20, .getfield 332, 3), (23, .iconst 1, 1), (24, .iadd, 1), (25, .putfield 332, 3), (28, .aload_n 0, 1), (29, .invokevirtual 272, 3), (32, .aload_n 0, 1), (33, .iconst 4, 1), (34, .putfield 295, 3), (37, .return_, 1)]
theorem t_M_clauseIsOver : DT cX11_clauseIsOver b_M_clauseIsOver := DT.of (by decide +kernel)
def F_M_clauseIsOver  (σ : Mm) : Option (Mm) :=
  b0M (F_M_works 1 σ) fun s1 =>
  bindM (st2 s1 200 22 0) fun s3 =>
  b0M (F_M_emits 408 0 s3) fun s4 =>
  if r32 ((s4 200 29) + 1) then
    bindM (st2 s4 200 29 ((s4 200 29) + 1)) fun s7 =>
    b0M (F_M_next  s7) fun s8 =>
    bindM (st2 s8 200 28 4) fun s10 =>
    some s10
  else none
set_option maxRecDepth 100000 in
set_option maxHeartbeats 4000000 in
theorem c_M_clauseIsOver  {σ : Mm} {σ2 : Mm} (hf : F_M_clauseIsOver  σ = some σ2) : CT yX11_clauseIsOver cX11_clauseIsOver 1 none 3 1 (fun ad => [.ref (ad 200)]) σ True none σ2 := by
  refine MetJ 0 (by decide +kernel) rfl (fun _ => Nat.le_of_ble_eq_true rfl) ?_
  intro X h hR ok
  obtain ⟨res, er⟩ : ∃ z, z = σ2 := ⟨_, rfl⟩
  have hret : ∀ y : Mm, some y = some res → RX X 1 True none y := fun y e => by cases e; cases er; exact hR
  rw [← er] at hf
  clear er hR
  unfold F_M_clauseIsOver at hf
  show SW X 1 1 0 [some (.ref (xad X 200))] [] σ
  refine SW_aload_n h rfl (dt t_M_clauseIsOver 0 rfl) ?_
  refine SW_iconst h (dt t_M_clauseIsOver 1 rfl) ?_
  obtain ⟨s1, e1, hf⟩ := b0M_of hf
  refine cVv h [.int (i32 1)] [] v_X11_works kX11_286 o200 (c_M_works 1 (by decide) e1) rfl rfl (by decide) (by decide) rfl (Nat.le_of_ble_eq_true rfl) (dt t_M_clauseIsOver 2 rfl) (fun h1 => ?_)
  refine SW_ok (fun ok1 => ?_)
  refine SW_aload_n h rfl (dt t_M_clauseIsOver 3 rfl) ?_
  refine SW_iconst h (dt t_M_clauseIsOver 4 rfl) ?_
  refine pI h cf11 o200 f11_22 (by decide) lX11_260 (dt t_M_clauseIsOver 5 rfl) (SW_bm hf (fun s3 ok3 hf => ?_))
  refine SW_aload_n h rfl (dt t_M_clauseIsOver 6 rfl) ?_
  refine SW_sipush h (dt t_M_clauseIsOver 7 rfl) (by decide) ?_
  refine SW_iconst h (dt t_M_clauseIsOver 8 rfl) ?_
  obtain ⟨s4, e4, hf⟩ := b0M_of hf
  refine cVv h [.int (i32 408), .int (i32 0)] [] v_X11_emits kX11_282 o200 (c_M_emits 408 (by decide) 0 (by decide) e4) rfl rfl (by decide) (by decide) rfl (Nat.le_of_ble_eq_true rfl) (dt t_M_clauseIsOver 9 rfl) (fun h4 => ?_)
  refine SW_ok (fun ok4 => ?_)
  refine SW_aload_n h rfl (dt t_M_clauseIsOver 10 rfl) ?_
  refine SW_dup h rfl (dt t_M_clauseIsOver 11 rfl) ?_
  refine gI h cf11 o200 f11_29 lX11_332 (dt t_M_clauseIsOver 12 rfl) ?_
  refine SW_iconst h (dt t_M_clauseIsOver 13 rfl) ?_
  refine SW_iadd h (dt t_M_clauseIsOver 14 rfl) ?_
  refine SW_chk hf (fun h6 hf => ?_)
  refine pI h cf11 o200 f11_29 h6 lX11_332 (dt t_M_clauseIsOver 15 rfl) (SW_bm hf (fun s7 ok7 hf => ?_))
  refine SW_aload_n h rfl (dt t_M_clauseIsOver 16 rfl) ?_
  obtain ⟨s8, e8, hf⟩ := b0M_of hf
  refine cVv h [] [] v_X11_next kX11_272 o200 (c_M_next  e8) rfl rfl (by decide) (by decide) rfl (Nat.le_of_ble_eq_true rfl) (dt t_M_clauseIsOver 17 rfl) (fun h8 => ?_)
  refine SW_ok (fun ok8 => ?_)
  refine SW_aload_n h rfl (dt t_M_clauseIsOver 18 rfl) ?_
  refine SW_iconst h (dt t_M_clauseIsOver 19 rfl) ?_
  refine pI h cf11 o200 f11_28 (by decide) lX11_295 (dt t_M_clauseIsOver 20 rfl) (SW_bm hf (fun s10 ok10 hf => ?_))
  exact SW_vret h (hret _ hf) rfl (dt t_M_clauseIsOver 21 rfl)
def b_M_asksOn : List (Nat × Instr × Nat) := [(0, .aload_n 0, 1), (1, .bipush 10, 2), (3, .invokevirtual 289, 3), (6, .ifCond .ne 12, 3), (9, .aload_n 0, 1), (10, .bipush 11, 2), (12, .invokevirtual 289, 3), (15, .ifCond .eq 33, 3), (18, .aload_n 0, 1), (19, .aload_n 0, 1), (20, .bipush 10, 2), (22, .invokevirtual 289, 3), (25, .ifCond .eq 9, 3), (28, .sipush 407, 3), (31, .goto 6, 3), (34, .sipush 406, 3), (37, .invokevirtual 320, 3), (40, .aload_n 0, 1), (41, .iconst 0, 1), (42, .putfield 295, 3), (45, .goto 32, 3), (48, .aload_n 0, 1), (49, .invokevirtual 317, 3), (52, .iconst 2, 1), (53, .if_icmp .ne 19, 3), (56, .aload_n 0, 1), (57, .bipush 59, 2), (59, .invokevirtual 298, 3), (62, .ifCond .eq 10, 3), (65, .aload_n 0, 1), (66, .invokevirtual 329, 3), (69, .goto 8, 3), (72, .aload_n 0, 1), (73, .iconst 1, 1), (74, .invokevirtual 266, 3), (77, .return_, 1)]
theorem t_M_asksOn : DT cX11_asksOn b_M_asksOn := DT.of (by decide +kernel)
def F_M_asksOn  (σ : Mm) : Option (Mm) :=
  b1 (F_M_isWord 10 σ) fun v1 =>
  bindM (
    b1 (F_M_isWord 10 σ) fun v3 =>
    bindM ((if v3 = 0 then 406 else 407 : Int)) fun v4 =>
    b0M (F_M_waitsFor v4 σ) fun s5 =>
    bindM (st2 s5 200 28 0) fun s7 =>
    some s7) fun J2 =>
  if v1 = 0 then
    b1 (F_M_isWord 11 σ) fun v8 =>
    if v8 = 0 then
      b1 (F_M_top  σ) fun v9 =>
      bindM (
        b0M (F_M_errs 1 σ) fun s11 =>
        some s11) fun J10 =>
      if v9 = 2 then
        b1 (F_M_isSign 59 σ) fun v12 =>
        if v12 = 0 then
          J10
        else
          b0M (F_M_clauseIsOver  σ) fun s13 =>
          some s13
      else
        J10
    else
      J2
  else
    J2
set_option maxRecDepth 100000 in
set_option maxHeartbeats 4000000 in
theorem c_M_asksOn  {σ : Mm} {σ2 : Mm} (hf : F_M_asksOn  σ = some σ2) : CT yX11_asksOn cX11_asksOn 1 none 4 1 (fun ad => [.ref (ad 200)]) σ True none σ2 := by
  refine MetJ 0 (by decide +kernel) rfl (fun _ => Nat.le_of_ble_eq_true rfl) ?_
  intro X h hR ok
  obtain ⟨res, er⟩ : ∃ z, z = σ2 := ⟨_, rfl⟩
  have hret : ∀ y : Mm, some y = some res → RX X 1 True none y := fun y e => by cases e; cases er; exact hR
  rw [← er] at hf
  clear er hR
  unfold F_M_asksOn at hf
  show SW X 1 1 0 [some (.ref (xad X 200))] [] σ
  refine SW_aload_n h rfl (dt t_M_asksOn 0 rfl) ?_
  refine SW_bipush h (dt t_M_asksOn 1 rfl) (by decide) ?_
  obtain ⟨v1, e1, hf⟩ := b1_of hf
  refine cV h [.int (i32 10)] [] v_X11_isWord kX11_289 o200 (c_M_isWord 10 (by decide) e1) rfl rfl (by decide) (by decide) rfl (Nat.le_of_ble_eq_true rfl) (dt t_M_asksOn 2 rfl) (fun h1 => ?_)
  refine bJ hf (fun J2 e2 hf => ?_)
  have k2 : ∀ (hf : J2 = some res), SW X 1 1 18 [some (.ref (xad X 200))] [] σ := by
    intro hf
    rw [e2] at hf
    refine SW_aload_n h rfl (dt t_M_asksOn 8 rfl) ?_
    refine SW_aload_n h rfl (dt t_M_asksOn 9 rfl) ?_
    refine SW_bipush h (dt t_M_asksOn 10 rfl) (by decide) ?_
    obtain ⟨v3, e3, hf⟩ := b1_of hf
    refine cV h [.int (i32 10)] [.ref (xad X 200)] v_X11_isWord kX11_289 o200 (c_M_isWord 10 (by decide) e3) rfl rfl (by decide) (by decide) rfl (Nat.le_of_ble_eq_true rfl) (dt t_M_asksOn 11 rfl) (fun h3 => ?_)
    refine bT hf (fun g4 e4 hf => ?_)
    have k4 : ∀ (v4 : Int) (h4 : r32 v4) (hf : g4 v4 = some res), SW X 1 1 37 [some (.ref (xad X 200))] [.int (i32 v4), .ref (xad X 200)] σ := by
      intro v4 h4 hf
      rw [e4] at hf
      obtain ⟨s5, e5, hf⟩ := b0M_of hf
      refine cVv h [.int (i32 v4)] [] v_X11_waitsFor kX11_320 o200 (c_M_waitsFor v4 h4 e5) rfl rfl (by decide) (by decide) rfl (Nat.le_of_ble_eq_true rfl) (dt t_M_asksOn 16 rfl) (fun h5 => ?_)
      refine SW_ok (fun ok5 => ?_)
      refine SW_aload_n h rfl (dt t_M_asksOn 17 rfl) ?_
      refine SW_iconst h (dt t_M_asksOn 18 rfl) ?_
      refine pI h cf11 o200 f11_28 (by decide) lX11_295 (dt t_M_asksOn 19 rfl) (SW_bm hf (fun s7 ok7 hf => ?_))
      refine SW_goto (tgt := 77) h (dt t_M_asksOn 20 rfl) rfl ?_
      exact SW_vret h (hret _ hf) rfl (dt t_M_asksOn 35 rfl)
    have hf := bIte hf
    refine SW_if_eq (tgt := 34) h (fun _ => (r_zo h3)) (dt t_M_asksOn 12 rfl) rfl hf (fun hf => ?_) (fun hf => ?_)
    · refine SW_sipush h (dt t_M_asksOn 15 rfl) (by decide) ?_
      exact k4 406 (by decide) hf
    · refine SW_sipush h (dt t_M_asksOn 13 rfl) (by decide) ?_
      refine SW_goto (tgt := 37) h (dt t_M_asksOn 14 rfl) rfl ?_
      exact k4 407 (by decide) hf
  refine SW_if_ne (tgt := 18) h (fun _ => (r_zo h1)) (dt t_M_asksOn 3 rfl) rfl hf (fun hf => ?_) (fun hf => ?_)
  · refine SW_aload_n h rfl (dt t_M_asksOn 4 rfl) ?_
    refine SW_bipush h (dt t_M_asksOn 5 rfl) (by decide) ?_
    obtain ⟨v8, e8, hf⟩ := b1_of hf
    refine cV h [.int (i32 11)] [] v_X11_isWord kX11_289 o200 (c_M_isWord 11 (by decide) e8) rfl rfl (by decide) (by decide) rfl (Nat.le_of_ble_eq_true rfl) (dt t_M_asksOn 6 rfl) (fun h8 => ?_)
    refine SW_if_eq (tgt := 48) h (fun _ => (r_zo h8)) (dt t_M_asksOn 7 rfl) rfl hf (fun hf => ?_) (fun hf => ?_)
    · refine SW_aload_n h rfl (dt t_M_asksOn 21 rfl) ?_
      obtain ⟨v9, e9, hf⟩ := b1_of hf
      refine cV h [] [] v_X11_top kX11_317 o200 (c_M_top  e9) rfl rfl (by decide) (by decide) rfl (Nat.le_of_ble_eq_true rfl) (dt t_M_asksOn 22 rfl) (fun h9 => ?_)
      refine SW_iconst h (dt t_M_asksOn 23 rfl) ?_
      refine bJ hf (fun J10 e10 hf => ?_)
      have k10 : ∀ (hf : J10 = some res), SW X 1 1 72 [some (.ref (xad X 200))] [] σ := by
        intro hf
        rw [e10] at hf
        refine SW_aload_n h rfl (dt t_M_asksOn 32 rfl) ?_
        refine SW_iconst h (dt t_M_asksOn 33 rfl) ?_
        obtain ⟨s11, e11, hf⟩ := b0M_of hf
        refine cVv h [.int (i32 1)] [] v_X11_errs kX11_266 o200 (c_M_errs 1 (by decide) e11) rfl rfl (by decide) (by decide) rfl (Nat.le_of_ble_eq_true rfl) (dt t_M_asksOn 34 rfl) (fun h11 => ?_)
        refine SW_ok (fun ok11 => ?_)
        exact SW_vret h (hret _ hf) rfl (dt t_M_asksOn 35 rfl)
      refine SW_icmp_ne (tgt := 72) h (fun _ => h9) (fun _ => (by decide)) (dt t_M_asksOn 24 rfl) rfl hf (fun hf => ?_) (fun hf => ?_)
      · refine SW_aload_n h rfl (dt t_M_asksOn 25 rfl) ?_
        refine SW_bipush h (dt t_M_asksOn 26 rfl) (by decide) ?_
        obtain ⟨v12, e12, hf⟩ := b1_of hf
        refine cV h [.int (i32 59)] [] v_X11_isSign kX11_298 o200 (c_M_isSign 59 (by decide) e12) rfl rfl (by decide) (by decide) rfl (Nat.le_of_ble_eq_true rfl) (dt t_M_asksOn 27 rfl) (fun h12 => ?_)
        refine SW_if_eq (tgt := 72) h (fun _ => (r_zo h12)) (dt t_M_asksOn 28 rfl) rfl hf (fun hf => ?_) (fun hf => ?_)
        · exact SW_fgt [true] rfl (k10 hf)
        · refine SW_aload_n h rfl (dt t_M_asksOn 29 rfl) ?_
          obtain ⟨s13, e13, hf⟩ := b0M_of hf
          refine cVv h [] [] v_X11_clauseIsOver kX11_329 o200 (c_M_clauseIsOver  e13) rfl rfl (by decide) (by decide) rfl (Nat.le_of_ble_eq_true rfl) (dt t_M_asksOn 30 rfl) (fun h13 => ?_)
          refine SW_ok (fun ok13 => ?_)
          refine SW_goto (tgt := 77) h (dt t_M_asksOn 31 rfl) rfl ?_
          exact SW_vret h (hret _ hf) rfl (dt t_M_asksOn 35 rfl)
      · exact SW_fgt [true] rfl (k10 hf)
    · exact SW_fgt [true] rfl (k2 hf)
  · exact SW_fgt [true] rfl (k2 hf)
def b_M_copies : List (Nat × Instr × Nat) := [(0, .iconst 0, 1), (1, .istore_n 2, 1), (2, .iload_n 2, 1), (3, .sipush 5240, 3), (6, .if_icmp .ge 40, 3), (9, .iload_n 1, 1), (10, .ifCond .eq 18, 3), (13, .aload_n 0, 1), (14, .getfield 13, 3), (17, .iload_n 2, 1), (18, .aload_n 0, 1), (19, .getfield 7, 3), (22, .iload_n 2, 1), (23, .iaload, 1), (24, .iastore, 1), (25, .goto 15, 3), (28, .aload_n 0, 1), (29, .getfield 7, 3), (32, .iload_n 2, 1), (33, .aload_n 0, 1), (34, .getfield 13, 3), (37, .iload_n 2, 1), (38, .iaload, 1), (39, .iastore, 1), (40, .iinc 2 1, 3), (43, .goto (-41), 3), (46, .return_, 1)]
theorem t_M_copies : DT cX11_copies b_M_copies := DT.of (by decide +kernel)
def L_M_copies_2 : Nat → Int → Int → Mm → Option (Mm)
  | 0, _, _, _ => none
  | n + 1, x1, x2, σ =>
    if 5240 ≤ x2 then
      some σ
    else
      bindM (fun  (t1 : Mm) =>
        if r32 (x2 + 1) then
          L_M_copies_2 n x1 (x2 + 1) t1
        else none) fun J1 =>
      if x1 = 0 then
        if 0 ≤ x2 ∧ x2 < 5240 then
          if 0 ≤ x2 ∧ x2 < 5240 then
            bindM (st2 σ 201 x2.toNat (σ 202 x2.toNat)) fun s3 =>
            J1 s3
          else none
        else none
      else
        if 0 ≤ x2 ∧ x2 < 5240 then
          if 0 ≤ x2 ∧ x2 < 5240 then
            bindM (st2 σ 202 x2.toNat (σ 201 x2.toNat)) fun s4 =>
            J1 s4
          else none
        else none
set_option maxRecDepth 100000 in
set_option maxHeartbeats 4000000 in
theorem l_M_copies_2 {X : Cx} (h : CX X 1 cX11_copies 3 0 none RX11) (x1 : Int) (hx1 : r32 x1) {res : Mm} (hex : ∀  (σ : Mm) (hz : some σ = some res)  (ok : okM σ), SW X 1 3 46 [none, none, none] [] σ) : ∀ (n : Nat) (x2 : Int) (σ : Mm) (hx2 : r32 x2) (ok : okM σ) (hf : L_M_copies_2 n x1 x2 σ = some res), SW X 1 3 2 [some (.ref (xad X 200)), some (.int (i32 x1)), some (.int (i32 x2))] [] σ := by
  intro n
  induction n with
  | zero => intro x2 σ hx2 ok hf; exact absurd hf (by simp [L_M_copies_2])
  | succ n ih =>
    intro x2 σ hx2 ok hf
    rw [L_M_copies_2] at hf
    refine SW_iload_n h rfl (dt t_M_copies 2 rfl) ?_
    refine SW_sipush h (dt t_M_copies 3 rfl) (by decide) ?_
    refine SW_icmp_ge (tgt := 46) h (fun _ => hx2) (fun _ => (by decide)) (dt t_M_copies 4 rfl) rfl hf (fun hf => ?_) (fun hf => ?_)
    · exact SW_fgt [false, false, false] rfl (hex σ hf ok)
    · refine SW_iload_n h rfl (dt t_M_copies 5 rfl) ?_
      refine bJ hf (fun J1 e1 hf => ?_)
      have k1 : ∀  (t1 : Mm)  (ot1 : okM t1) (hf : J1 t1 = some res), SW X 1 3 40 [some (.ref (xad X 200)), some (.int (i32 x1)), some (.int (i32 x2))] [] t1 := by
        intro t1 ot1 hf
        rw [e1] at hf
        refine SW_iinc (lv2 := [some (.ref (xad X 200)), some (.int (i32 x1)), some (.int (i32 (x2 + 1)))]) h (dt t_M_copies 24 rfl) rfl (by decide) rfl ?_
        refine SW_goto (tgt := 2) h (dt t_M_copies 25 rfl) rfl ?_
        refine SW_chk hf (fun h2 hf => ?_)
        exact SW_fgt [true, true, true] rfl (ih (x2 + 1) t1 h2 ot1 hf)
      refine SW_if_eq (tgt := 28) h (fun _ => hx1) (dt t_M_copies 6 rfl) rfl hf (fun hf => ?_) (fun hf => ?_)
      · refine SW_aload_n h rfl (dt t_M_copies 16 rfl) ?_
        refine gR h cf11 o200 f11_0 j200_0 lX11_7 (dt t_M_copies 17 rfl) ?_
        refine SW_iload_n h rfl (dt t_M_copies 18 rfl) ?_
        refine SW_aload_n h rfl (dt t_M_copies 19 rfl) ?_
        refine gR h cf11 o200 f11_1 j200_1 lX11_13 (dt t_M_copies 20 rfl) ?_
        refine SW_iload_n h rfl (dt t_M_copies 21 rfl) ?_
        refine aI h a202 (dt t_M_copies 22 rfl) hf (fun hf => ?_)
        refine sI h a201 (okI ok 202 x2.toNat (IsA.n3 a202 (by decide))) (dt t_M_copies 23 rfl) hf (fun hf => SW_bm hf (fun s3 ok3 hf => ?_))
        exact SW_fgt [true, true, true] rfl (k1 s3 ok3 hf)
      · refine SW_aload_n h rfl (dt t_M_copies 7 rfl) ?_
        refine gR h cf11 o200 f11_1 j200_1 lX11_13 (dt t_M_copies 8 rfl) ?_
        refine SW_iload_n h rfl (dt t_M_copies 9 rfl) ?_
        refine SW_aload_n h rfl (dt t_M_copies 10 rfl) ?_
        refine gR h cf11 o200 f11_0 j200_0 lX11_7 (dt t_M_copies 11 rfl) ?_
        refine SW_iload_n h rfl (dt t_M_copies 12 rfl) ?_
        refine aI h a201 (dt t_M_copies 13 rfl) hf (fun hf => ?_)
        refine sI h a202 (okI ok 201 x2.toNat (IsA.n3 a201 (by decide))) (dt t_M_copies 14 rfl) hf (fun hf => SW_bm hf (fun s4 ok4 hf => ?_))
        refine SW_goto (tgt := 40) h (dt t_M_copies 15 rfl) rfl ?_
        exact SW_fgt [true, true, true] rfl (k1 s4 ok4 hf)
def F_M_copies (x1 : Int) (σ : Mm) : Option (Mm) :=
  b0M (L_M_copies_2 LF x1 0 σ) fun s5 =>
  some s5
set_option maxRecDepth 100000 in
set_option maxHeartbeats 4000000 in
theorem c_M_copies (x1 : Int) (hx1 : r32 x1) {σ : Mm} {σ2 : Mm} (hf : F_M_copies x1 σ = some σ2) : CT yX11_copies cX11_copies 3 none 0 1 (fun ad => [.ref (ad 200), .int (i32 x1)]) σ True none σ2 := by
  refine MetJ 1 (by decide +kernel) rfl (fun _ => Nat.le_of_ble_eq_true rfl) ?_
  intro X h hR ok
  obtain ⟨res, er⟩ : ∃ z, z = σ2 := ⟨_, rfl⟩
  have hret : ∀ y : Mm, some y = some res → RX X 1 True none y := fun y e => by cases e; cases er; exact hR
  rw [← er] at hf
  clear er hR
  unfold F_M_copies at hf
  show SW X 1 3 0 [some (.ref (xad X 200)), some (.int (i32 x1)), none] [] σ
  refine SW_iconst h (dt t_M_copies 0 rfl) ?_
  refine SW_istore_n (lv2 := [some (.ref (xad X 200)), some (.int (i32 x1)), some (.int (i32 0))]) h (dt t_M_copies 1 rfl) (by decide) rfl ?_
  obtain ⟨z5, e5, hk5⟩ := b0M_ex hf
  refine SW_fgt [true, true, true] rfl (l_M_copies_2 h x1 hx1 (fun s5 hz5 ok5 => ?_) LF 0 σ (by decide) ok e5)
  have hf := hk5 s5 hz5
  exact SW_vret h (hret _ hf) rfl (dt t_M_copies 26 rfl)
def b_M_back : List (Nat × Instr × Nat) := [(0, .aload_n 0, 1), (1, .iconst 0, 1), (2, .invokevirtual 146, 3), (5, .aload_n 0, 1), (6, .getfield 7, 3), (9, .sipush 180, 3), (12, .iaload, 1), (13, .ireturn, 1)]
theorem t_M_back : DT cX11_back b_M_back := DT.of (by decide +kernel)
def F_M_back  (σ : Mm) : Option (Int × Mm) :=
  b0M (F_M_copies 0 σ) fun s1 =>
  some (s1 201 180, s1)
set_option maxRecDepth 100000 in
set_option maxHeartbeats 4000000 in
theorem c_M_back  {σ : Mm} {a : Int} {σ2 : Mm} (hf : F_M_back  σ = some (a, σ2)) : CT yX11_back cX11_back 1 (some .int) 1 1 (fun ad => [.ref (ad 200)]) σ (r32 a) (some (.int (i32 a))) σ2 := by
  refine MetJ 0 (by decide +kernel) rfl (fun _ => Nat.le_of_ble_eq_true rfl) ?_
  intro X h hR ok
  obtain ⟨res, er⟩ : ∃ z, z = (a, σ2) := ⟨_, rfl⟩
  have hret : ∀ y : Int × Mm, some y = some res → RX X 1 (r32 (y.1)) (some (.int (i32 (y.1)))) y.2 := fun y e => by cases e; cases er; exact hR
  rw [← er] at hf
  clear er hR
  unfold F_M_back at hf
  show SW X 1 1 0 [some (.ref (xad X 200))] [] σ
  refine SW_aload_n h rfl (dt t_M_back 0 rfl) ?_
  refine SW_iconst h (dt t_M_back 1 rfl) ?_
  obtain ⟨s1, e1, hf⟩ := b0M_of hf
  refine cVv h [.int (i32 0)] [] v_X11_copies kX11_146 o200 (c_M_copies 0 (by decide) e1) rfl rfl (by decide) (by decide) rfl (Nat.le_of_ble_eq_true rfl) (dt t_M_back 2 rfl) (fun h1 => ?_)
  refine SW_ok (fun ok1 => ?_)
  refine SW_aload_n h rfl (dt t_M_back 3 rfl) ?_
  refine gR h cf11 o200 f11_0 j200_0 lX11_7 (dt t_M_back 4 rfl) ?_
  refine SW_sipush h (dt t_M_back 5 rfl) (by decide) ?_
  refine aIk h a201 (by decide) (dt t_M_back 6 rfl) ?_
  exact SW_iret h (hret _ hf) (fun _ => (okI ok1 201 180 (IsA.n3 a201 (by decide)))) rfl (dt t_M_back 7 rfl)
def b_M_nameNow : List (Nat × Instr × Nat) := [(0, .aload_n 0, 1), (1, .getfield 234, 3), (4, .iconst 1, 1), (5, .if_icmp .eq 5, 3), (8, .iconst (-1), 1), (9, .ireturn, 1), (10, .aload_n 0, 1), (11, .getfield 247, 3), (14, .bipush 7, 2), (16, .if_icmp .ne 7, 3), (19, .iconst 0, 1), (20, .goto 23, 3), (23, .aload_n 0, 1), (24, .getfield 247, 3), (27, .bipush 14, 2), (29, .if_icmp .le 13, 3), (32, .aload_n 0, 1), (33, .getfield 247, 3), (36, .bipush 14, 2), (38, .isub, 1), (39, .goto 4, 3), (42, .iconst (-1), 1), (43, .ireturn, 1)]
theorem t_M_nameNow : DT cX11_nameNow b_M_nameNow := DT.of (by decide +kernel)
def F_M_nameNow  (σ : Mm) : Option (Int) :=
  if σ 200 17 = 1 then
    if σ 200 18 = 7 then
      some 0
    else
      if σ 200 18 ≤ 14 then
        some ((-1))
      else
        if r32 ((σ 200 18) - 14) then
          some ((σ 200 18) - 14)
        else none
  else
    some ((-1))
set_option maxRecDepth 100000 in
set_option maxHeartbeats 4000000 in
theorem c_M_nameNow  {σ : Mm} {a : Int} (hf : F_M_nameNow  σ = some a) : CT yX11_nameNow cX11_nameNow 1 (some .int) 0 1 (fun ad => [.ref (ad 200)]) σ (r32 a) (some (.int (i32 a))) σ := by
  refine MetJ 0 (by decide +kernel) rfl (fun _ => Nat.le_of_ble_eq_true rfl) ?_
  intro X h hR ok
  obtain ⟨res, er⟩ : ∃ z, z = a := ⟨_, rfl⟩
  have hret : ∀ y : Int, some y = some res → RX X 1 (r32 (y)) (some (.int (i32 (y)))) σ := fun y e => by cases e; cases er; exact hR
  rw [← er] at hf
  clear er hR
  unfold F_M_nameNow at hf
  show SW X 1 1 0 [some (.ref (xad X 200))] [] σ
  refine SW_aload_n h rfl (dt t_M_nameNow 0 rfl) ?_
  refine gI h cf11 o200 f11_17 lX11_234 (dt t_M_nameNow 1 rfl) ?_
  refine SW_iconst h (dt t_M_nameNow 2 rfl) ?_
  refine SW_icmp_eq (tgt := 10) h (fun _ => (okI ok 200 17 (IsO.n3 o200))) (fun _ => (by decide)) (dt t_M_nameNow 3 rfl) rfl hf (fun hf => ?_) (fun hf => ?_)
  · refine SW_aload_n h rfl (dt t_M_nameNow 6 rfl) ?_
    refine gI h cf11 o200 f11_18 lX11_247 (dt t_M_nameNow 7 rfl) ?_
    refine SW_bipush h (dt t_M_nameNow 8 rfl) (by decide) ?_
    refine SW_icmp_ne (tgt := 23) h (fun _ => (okI ok 200 18 (IsO.n3 o200))) (fun _ => (by decide)) (dt t_M_nameNow 9 rfl) rfl hf (fun hf => ?_) (fun hf => ?_)
    · refine SW_iconst h (dt t_M_nameNow 10 rfl) ?_
      refine SW_goto (tgt := 43) h (dt t_M_nameNow 11 rfl) rfl ?_
      exact SW_iret h (hret _ hf) (fun _ => (by decide)) rfl (dt t_M_nameNow 22 rfl)
    · refine SW_aload_n h rfl (dt t_M_nameNow 12 rfl) ?_
      refine gI h cf11 o200 f11_18 lX11_247 (dt t_M_nameNow 13 rfl) ?_
      refine SW_bipush h (dt t_M_nameNow 14 rfl) (by decide) ?_
      refine SW_icmp_le (tgt := 42) h (fun _ => (okI ok 200 18 (IsO.n3 o200))) (fun _ => (by decide)) (dt t_M_nameNow 15 rfl) rfl hf (fun hf => ?_) (fun hf => ?_)
      · refine SW_iconst h (dt t_M_nameNow 21 rfl) ?_
        exact SW_iret h (hret _ hf) (fun _ => (by decide)) rfl (dt t_M_nameNow 22 rfl)
      · refine SW_aload_n h rfl (dt t_M_nameNow 16 rfl) ?_
        refine gI h cf11 o200 f11_18 lX11_247 (dt t_M_nameNow 17 rfl) ?_
        refine SW_bipush h (dt t_M_nameNow 18 rfl) (by decide) ?_
        refine SW_isub h (dt t_M_nameNow 19 rfl) ?_
        refine SW_goto (tgt := 43) h (dt t_M_nameNow 20 rfl) rfl ?_
        refine SW_chk hf (fun h1 hf => ?_)
        exact SW_iret h (hret _ hf) (fun _ => h1) rfl (dt t_M_nameNow 22 rfl)
  · refine SW_iconst h (dt t_M_nameNow 4 rfl) ?_
    exact SW_iret h (hret _ hf) (fun _ => (by decide)) rfl (dt t_M_nameNow 5 rfl)
def b_M_oneIsOver : List (Nat × Instr × Nat) := [(0, .aload_n 0, 1), (1, .invokevirtual 317, 3), (4, .bipush 7, 2), (6, .if_icmp .ne 34, 3), (9, .aload_n 0, 1), (10, .dup, 1), (11, .getfield 260, 3), (14, .iconst 1, 1), (15, .isub, 1), (16, .putfield 260, 3), (19, .aload_n 0, 1), (20, .dup, 1), (21, .getfield 263, 3), (24, .iconst 1, 1), (25, .isub, 1), (26, .putfield 263, 3), (29, .aload_n 0, 1), (30, .sipush 402, 3), (33, .iconst 0, 1), (34, .invokevirtual 282, 3), (37, .goto (-37), 3), (40, .aload_n 0, 1), (41, .iconst 2, 1), (42, .putfield 295, 3), (45, .return_, 1)]
theorem t_M_oneIsOver : DT cX11_oneIsOver b_M_oneIsOver := DT.of (by decide +kernel)
def L_M_oneIsOver_0 : Nat → Mm → Option (Mm)
  | 0, _ => none
  | n + 1, σ =>
    b1 (F_M_top  σ) fun v1 =>
    if v1 = 7 then
      if r32 ((σ 200 22) - 1) then
        bindM (st2 σ 200 22 ((σ 200 22) - 1)) fun s4 =>
        if r32 ((s4 200 21) - 1) then
          bindM (st2 s4 200 21 ((s4 200 21) - 1)) fun s7 =>
          b0M (F_M_emits 402 0 s7) fun s8 =>
          L_M_oneIsOver_0 n s8
        else none
      else none
    else
      some σ
set_option maxRecDepth 100000 in
set_option maxHeartbeats 4000000 in
theorem l_M_oneIsOver_0 {X : Cx} (h : CX X 1 cX11_oneIsOver 1 1 none RX11)   {res : Mm} (hex : ∀  (σ : Mm) (hz : some σ = some res)  (ok : okM σ), SW X 1 1 40 [some (.ref (xad X 200))] [] σ) : ∀ (n : Nat)  (σ : Mm)  (ok : okM σ) (hf : L_M_oneIsOver_0 n σ = some res), SW X 1 1 0 [some (.ref (xad X 200))] [] σ := by
  intro n
  induction n with
  | zero => intro σ ok hf; exact absurd hf (by simp [L_M_oneIsOver_0])
  | succ n ih =>
    intro σ ok hf
    rw [L_M_oneIsOver_0] at hf
    refine SW_aload_n h rfl (dt t_M_oneIsOver 0 rfl) ?_
    obtain ⟨v1, e1, hf⟩ := b1_of hf
    refine cV h [] [] v_X11_top kX11_317 o200 (c_M_top  e1) rfl rfl (by decide) (by decide) rfl (Nat.le_of_ble_eq_true rfl) (dt t_M_oneIsOver 1 rfl) (fun h1 => ?_)
    refine SW_bipush h (dt t_M_oneIsOver 2 rfl) (by decide) ?_
    refine SW_icmp_ne (tgt := 40) h (fun _ => h1) (fun _ => (by decide)) (dt t_M_oneIsOver 3 rfl) rfl hf (fun hf => ?_) (fun hf => ?_)
    · refine SW_aload_n h rfl (dt t_M_oneIsOver 4 rfl) ?_
      refine SW_dup h rfl (dt t_M_oneIsOver 5 rfl) ?_
      refine gI h cf11 o200 f11_22 lX11_260 (dt t_M_oneIsOver 6 rfl) ?_
      refine SW_iconst h (dt t_M_oneIsOver 7 rfl) ?_
      refine SW_isub h (dt t_M_oneIsOver 8 rfl) ?_
      refine SW_chk hf (fun h3 hf => ?_)
      refine pI h cf11 o200 f11_22 h3 lX11_260 (dt t_M_oneIsOver 9 rfl) (SW_bm hf (fun s4 ok4 hf => ?_))
      refine SW_aload_n h rfl (dt t_M_oneIsOver 10 rfl) ?_
      refine SW_dup h rfl (dt t_M_oneIsOver 11 rfl) ?_
      refine gI h cf11 o200 f11_21 lX11_263 (dt t_M_oneIsOver 12 rfl) ?_
      refine SW_iconst h (dt t_M_oneIsOver 13 rfl) ?_
      refine SW_isub h (dt t_M_oneIsOver 14 rfl) ?_
      refine SW_chk hf (fun h6 hf => ?_)
      refine pI h cf11 o200 f11_21 h6 lX11_263 (dt t_M_oneIsOver 15 rfl) (SW_bm hf (fun s7 ok7 hf => ?_))
      refine SW_aload_n h rfl (dt t_M_oneIsOver 16 rfl) ?_
      refine SW_sipush h (dt t_M_oneIsOver 17 rfl) (by decide) ?_
      refine SW_iconst h (dt t_M_oneIsOver 18 rfl) ?_
      obtain ⟨s8, e8, hf⟩ := b0M_of hf
      refine cVv h [.int (i32 402), .int (i32 0)] [] v_X11_emits kX11_282 o200 (c_M_emits 402 (by decide) 0 (by decide) e8) rfl rfl (by decide) (by decide) rfl (Nat.le_of_ble_eq_true rfl) (dt t_M_oneIsOver 19 rfl) (fun h8 => ?_)
      refine SW_ok (fun ok8 => ?_)
      refine SW_goto (tgt := 0) h (dt t_M_oneIsOver 20 rfl) rfl ?_
      exact SW_fgt [true] rfl (ih s8 ok8 hf)
    · exact SW_fgt [true] rfl (hex σ hf ok)
def F_M_oneIsOver  (σ : Mm) : Option (Mm) :=
  b0M (L_M_oneIsOver_0 LF σ) fun s9 =>
  bindM (st2 s9 200 28 2) fun s11 =>
  some s11
set_option maxRecDepth 100000 in
set_option maxHeartbeats 4000000 in
theorem c_M_oneIsOver  {σ : Mm} {σ2 : Mm} (hf : F_M_oneIsOver  σ = some σ2) : CT yX11_oneIsOver cX11_oneIsOver 1 none 1 1 (fun ad => [.ref (ad 200)]) σ True none σ2 := by
  refine MetJ 0 (by decide +kernel) rfl (fun _ => Nat.le_of_ble_eq_true rfl) ?_
  intro X h hR ok
  obtain ⟨res, er⟩ : ∃ z, z = σ2 := ⟨_, rfl⟩
  have hret : ∀ y : Mm, some y = some res → RX X 1 True none y := fun y e => by cases e; cases er; exact hR
  rw [← er] at hf
  clear er hR
  unfold F_M_oneIsOver at hf
  show SW X 1 1 0 [some (.ref (xad X 200))] [] σ
  obtain ⟨z9, e9, hk9⟩ := b0M_ex hf
  refine SW_fgt [true] rfl (l_M_oneIsOver_0 h (fun s9 hz9 ok9 => ?_) LF σ ok e9)
  have hf := hk9 s9 hz9
  refine SW_aload_n h rfl (dt t_M_oneIsOver 21 rfl) ?_
  refine SW_iconst h (dt t_M_oneIsOver 22 rfl) ?_
  refine pI h cf11 o200 f11_28 (by decide) lX11_295 (dt t_M_oneIsOver 23 rfl) (SW_bm hf (fun s11 ok11 hf => ?_))
  exact SW_vret h (hret _ hf) rfl (dt t_M_oneIsOver 24 rfl)
def b_M_mayName : List (Nat × Instr × Nat) := [(0, .iload_n 0, 1), (1, .ifCond .eq 23, 3), (4, .iload_n 1, 1), (5, .iconst 2, 1), (6, .if_icmp .ne 12, 3), (9, .iload_n 0, 1), (10, .bipush 8, 2), (12, .if_icmp .le 16, 3), (15, .goto 9, 3), (18, .iload_n 0, 1), (19, .bipush 9, 2), (21, .if_icmp .ge 7, 3), (24, .iconst 1, 1), (25, .goto 4, 3), (28, .iconst 0, 1), (29, .ireturn, 1)]
theorem t_M_mayName : DT cX11_mayName b_M_mayName := DT.of (by decide +kernel)
def F_M_mayName (x0 : Int) (x1 : Int) : Option (Int) :=
  if x0 = 0 then
    some 1
  else
    if x1 = 2 then
      if x0 ≤ 8 then
        some 0
      else
        some 1
    else
      if 9 ≤ x0 then
        some 0
      else
        some 1
set_option maxRecDepth 100000 in
set_option maxHeartbeats 4000000 in
theorem c_M_mayName (x0 : Int) (hx0 : r32 x0) (x1 : Int) (hx1 : r32 x1) {σ : Mm} {a : Int} (hf : F_M_mayName x0 x1 = some a) : CT yX11_mayName cX11_mayName 2 (some .boolean) 0 1 (fun ad => [.int (i32 x0), .int (i32 x1)]) σ (a = 0 ∨ a = 1) (some (.int (i32 a))) σ := by
  refine MetJ 0 (by decide +kernel) rfl (fun _ => Nat.le_of_ble_eq_true rfl) ?_
  intro X h hR ok
  obtain ⟨res, er⟩ : ∃ z, z = a := ⟨_, rfl⟩
  have hret : ∀ y : Int, some y = some res → RX X 1 (y = 0 ∨ y = 1) (some (.int (i32 (y)))) σ := fun y e => by cases e; cases er; exact hR
  rw [← er] at hf
  clear er hR
  unfold F_M_mayName at hf
  show SW X 1 2 0 [some (.int (i32 x0)), some (.int (i32 x1))] [] σ
  refine SW_iload_n h rfl (dt t_M_mayName 0 rfl) ?_
  refine SW_if_eq (tgt := 24) h (fun _ => hx0) (dt t_M_mayName 1 rfl) rfl hf (fun hf => ?_) (fun hf => ?_)
  · refine SW_iconst h (dt t_M_mayName 12 rfl) ?_
    refine SW_goto (tgt := 29) h (dt t_M_mayName 13 rfl) rfl ?_
    exact SW_zret h (hret _ hf) (by decide) rfl (dt t_M_mayName 15 rfl)
  · refine SW_iload_n h rfl (dt t_M_mayName 2 rfl) ?_
    refine SW_iconst h (dt t_M_mayName 3 rfl) ?_
    refine SW_icmp_ne (tgt := 18) h (fun _ => hx1) (fun _ => (by decide)) (dt t_M_mayName 4 rfl) rfl hf (fun hf => ?_) (fun hf => ?_)
    · refine SW_iload_n h rfl (dt t_M_mayName 5 rfl) ?_
      refine SW_bipush h (dt t_M_mayName 6 rfl) (by decide) ?_
      refine SW_icmp_le (tgt := 28) h (fun _ => hx0) (fun _ => (by decide)) (dt t_M_mayName 7 rfl) rfl hf (fun hf => ?_) (fun hf => ?_)
      · refine SW_iconst h (dt t_M_mayName 14 rfl) ?_
        exact SW_zret h (hret _ hf) (by decide) rfl (dt t_M_mayName 15 rfl)
      · refine SW_goto (tgt := 24) h (dt t_M_mayName 8 rfl) rfl ?_
        refine SW_iconst h (dt t_M_mayName 12 rfl) ?_
        refine SW_goto (tgt := 29) h (dt t_M_mayName 13 rfl) rfl ?_
        exact SW_zret h (hret _ hf) (by decide) rfl (dt t_M_mayName 15 rfl)
    · refine SW_iload_n h rfl (dt t_M_mayName 9 rfl) ?_
      refine SW_bipush h (dt t_M_mayName 10 rfl) (by decide) ?_
      refine SW_icmp_ge (tgt := 28) h (fun _ => hx0) (fun _ => (by decide)) (dt t_M_mayName 11 rfl) rfl hf (fun hf => ?_) (fun hf => ?_)
      · refine SW_iconst h (dt t_M_mayName 14 rfl) ?_
        exact SW_zret h (hret _ hf) (by decide) rfl (dt t_M_mayName 15 rfl)
      · refine SW_iconst h (dt t_M_mayName 12 rfl) ?_
        refine SW_goto (tgt := 29) h (dt t_M_mayName 13 rfl) rfl ?_
        exact SW_zret h (hret _ hf) (by decide) rfl (dt t_M_mayName 15 rfl)
