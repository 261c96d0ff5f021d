def b_R_readBehind : List (Nat × Instr × Nat) := [(0, .aload_n 0, 1), (1, .invokevirtual 171, 3), (4, .istore_n 1, 1), (5, .iload_n 1, 1), (6, .iconst (-1), 1), (7, .if_icmp .ne 9, 3), (10, .aload_n 0, 1), (11, .iconst 1, 1), (12, .invokevirtual 92, 3), (15, .ireturn, 1), (16, .iload_n 1, 1), (17, .sipush 20005, 3), (20, .if_icmp .lt 14, 3), (23, .iload_n 1, 1), (24, .sipush 20010, 3), (27, .if_icmp .gt 7, 3), (30, .iconst 1, 1), (31, .goto 4, 3), (34, .iconst 0, 1), (35, .istore_n 2, 1), (36, .iload_n 1, 1), (37, .sipush 20011, 3), (40, .if_icmp .eq 10, 3), (43, .iload_n 1, 1), (44, .sipush 20012, 3), (47, .if_icmp .ne 7, 3), (50, .iconst 1, 1), (51, .goto 4, 3), (54, .iconst 0, 1), (55, .istore_n 3, 1), (56, .iload_n 2, 1), (57, .ifCond .ne 7, 3), (60, .iload_n 3, 1), (61, .ifCond .eq 36, 3), (64, .aload_n 0, 1), (65, .getfield 126, 3), (68, .ifCond .ne 18, 3), (71, .aload_n 0, 1), (72, .getfield 135, 3), (75, .ifCond .gt 11, 3), (78, .aload_n 0, 1), (79, .getfield 138, 3), (82, .iload_n 3, 1), (83, .if_icmp .eq 9, 3), (86, .aload_n 0, 1), (87, .iconst 1, 1), (88, .invokevirtual 92, 3), (91, .ireturn, 1), (92, .aload_n 0, 1), (93, .iload_n 2, 1), (94, .putfield 138, 3), (97, .aload_n 0, 1), (98, .iload_n 1, 1), (99, .invokestatic 174, 3), (102, .invokevirtual 177, 3), (105, .aload_n 0, 1), (106, .iload_n 1, 1), (107, .invokevirtual 165, 3), (110, .aload_n 0, 1), (111, .invokevirtual 44, 3), (114, .iconst 0, 1), (115, .ireturn, 1)]
theorem t_R_readBehind : DT cX5_readBehind b_R_readBehind := DT.of (by decide +kernel)
def F_R_readBehind  (σ : Mm) : Option (Int × Mm) :=
  b1 (F_R_doneBy  σ) fun v1 =>
  if v1 = (-1) then
    b1M (F_R_fail 1 σ) fun v2 s2 =>
    some (v2, s2)
  else
    bindM (fun (y3 : Int) =>
      bindM (fun (y4 : Int) =>
        bindM (fun  (t5 : Mm) =>
          b1 (F_R_rank v1) fun v6 =>
          b0M (F_R_finish v6 t5) fun s7 =>
          b0M (F_R_hold v1 s7) fun s8 =>
          b0M (F_R_step  s8) fun s9 =>
          some (0, s9)) fun J5 =>
        bindM (
          bindM (
            b1M (F_R_fail 1 σ) fun v12 s12 =>
            some (v12, s12)) fun J11 =>
          if σ 90 14 = 0 then
            if 0 < σ 90 12 then
              J11
            else
              if σ 90 13 = y4 then
                if y3 = 0 ∨ y3 = 1 then
                  bindM (st2 σ 90 13 y3) fun s14 =>
                  J5 s14
                else none
              else
                J11
          else
            J11) fun J10 =>
        if y3 = 0 then
          if y4 = 0 then
            J5 σ
          else
            J10
        else
          J10) fun J4 =>
      bindM (
        J4 1) fun J15 =>
      if v1 = 20011 then
        J15
      else
        if v1 = 20012 then
          J15
        else
          J4 0) fun J3 =>
    bindM (
      J3 0) fun J16 =>
    if v1 < 20005 then
      J16
    else
      if 20010 < v1 then
        J16
      else
        J3 1
set_option maxRecDepth 100000 in
set_option maxHeartbeats 4000000 in
theorem c_R_readBehind  {σ : Mm} {a : Int} {σ2 : Mm} (hf : F_R_readBehind  σ = some (a, σ2)) : CT yX5_readBehind cX5_readBehind 4 (some .int) 10 0 (fun ad => [.ref (ad 90)]) σ (r32 a) (some (.int (i32 a))) σ2 := by
  refine MetJ 3 (by decide +kernel) rfl (fun _ => Nat.le_of_ble_eq_true rfl) ?_
  intro X h hR ok
  obtain ⟨res, er⟩ : ∃ z, z = (a, σ2) := ⟨_, rfl⟩
  have hret : ∀ y : Int × Mm, some y = some res → RX X 0 (r32 (y.1)) (some (.int (i32 (y.1)))) y.2 := fun y e => by cases e; cases er; exact hR
  rw [← er] at hf
  clear er hR
  unfold F_R_readBehind at hf
  show SW X 0 4 0 [some (.ref (xad X 90)), none, none, none] [] σ
  refine SW_aload_n h rfl (dt t_R_readBehind 0 rfl) ?_
  obtain ⟨v1, e1, hf⟩ := b1_of hf
  refine cV h [] [] v_X5_doneBy kX5_171 o90 (c_R_doneBy  e1) rfl rfl (by decide) (by decide) rfl (Nat.le_of_ble_eq_true rfl) (dt t_R_readBehind 1 rfl) (fun h1 => ?_)
  refine SW_istore_n (lv2 := [some (.ref (xad X 90)), some (.int (i32 v1)), none, none]) h (dt t_R_readBehind 2 rfl) (by decide) rfl ?_
  refine SW_iload_n h rfl (dt t_R_readBehind 3 rfl) ?_
  refine SW_iconst h (dt t_R_readBehind 4 rfl) ?_
  refine SW_icmp_ne (tgt := 16) h (fun _ => h1) (fun _ => (by decide)) (dt t_R_readBehind 5 rfl) rfl hf (fun hf => ?_) (fun hf => ?_)
  · refine SW_aload_n h rfl (dt t_R_readBehind 6 rfl) ?_
    refine SW_iconst h (dt t_R_readBehind 7 rfl) ?_
    obtain ⟨v2, s2, e2, hf⟩ := b1M_of hf
    refine cV h [.int (i32 1)] [] v_X5_fail kX5_92 o90 (c_R_fail 1 (by decide) e2) rfl rfl (by decide) (by decide) rfl (Nat.le_of_ble_eq_true rfl) (dt t_R_readBehind 8 rfl) (fun h2 => ?_)
    refine SW_ok (fun ok2 => ?_)
    exact SW_iret h (hret _ hf) (fun _ => h2) rfl (dt t_R_readBehind 9 rfl)
  · refine SW_iload_n h rfl (dt t_R_readBehind 10 rfl) ?_
    refine SW_sipush h (dt t_R_readBehind 11 rfl) (by decide) ?_
    refine bJ hf (fun J3 e3 hf => ?_)
    have k3 : ∀ (y3 : Int) (hy3 : r32 y3) (hf : J3 y3 = some res), SW X 0 4 35 [some (.ref (xad X 90)), some (.int (i32 v1)), none, none] [.int (i32 y3)] σ := by
      intro y3 hy3 hf
      rw [e3] at hf
      refine SW_istore_n (lv2 := [some (.ref (xad X 90)), some (.int (i32 v1)), some (.int (i32 y3)), none]) h (dt t_R_readBehind 19 rfl) (by decide) rfl ?_
      refine SW_iload_n h rfl (dt t_R_readBehind 20 rfl) ?_
      refine SW_sipush h (dt t_R_readBehind 21 rfl) (by decide) ?_
      refine bJ hf (fun J4 e4 hf => ?_)
      have k4 : ∀ (y4 : Int) (hy4 : r32 y4) (hf : J4 y4 = some res), SW X 0 4 55 [some (.ref (xad X 90)), some (.int (i32 v1)), some (.int (i32 y3)), none] [.int (i32 y4)] σ := by
        intro y4 hy4 hf
        rw [e4] at hf
        refine SW_istore_n (lv2 := [some (.ref (xad X 90)), some (.int (i32 v1)), some (.int (i32 y3)), some (.int (i32 y4))]) h (dt t_R_readBehind 29 rfl) (by decide) rfl ?_
        refine SW_iload_n h rfl (dt t_R_readBehind 30 rfl) ?_
        refine bJ hf (fun J5 e5 hf => ?_)
        have k5 : ∀  (t5 : Mm)  (ot5 : okM t5) (hf : J5 t5 = some res), SW X 0 4 97 [some (.ref (xad X 90)), some (.int (i32 v1)), none, none] [] t5 := by
          intro t5 ot5 hf
          rw [e5] at hf
          refine SW_aload_n h rfl (dt t_R_readBehind 51 rfl) ?_
          refine SW_iload_n h rfl (dt t_R_readBehind 52 rfl) ?_
          obtain ⟨v6, e6, hf⟩ := b1_of hf
          refine cS h [.int (i32 v1)] [.ref (xad X 90)] v_X5_rank kX5_174 (c_R_rank v1 h1 e6) rfl rfl (by decide) (by decide) rfl (Nat.le_of_ble_eq_true rfl) (dt t_R_readBehind 53 rfl) (fun h6 => ?_)
          obtain ⟨s7, e7, hf⟩ := b0M_of hf
          refine cVv h [.int (i32 v6)] [] v_X5_finish kX5_177 o90 (c_R_finish v6 h6 e7) rfl rfl (by decide) (by decide) rfl (Nat.le_of_ble_eq_true rfl) (dt t_R_readBehind 54 rfl) (fun h7 => ?_)
          refine SW_ok (fun ok7 => ?_)
          refine SW_aload_n h rfl (dt t_R_readBehind 55 rfl) ?_
          refine SW_iload_n h rfl (dt t_R_readBehind 56 rfl) ?_
          obtain ⟨s8, e8, hf⟩ := b0M_of hf
          refine cVv h [.int (i32 v1)] [] v_X5_hold kX5_165 o90 (c_R_hold v1 h1 e8) rfl rfl (by decide) (by decide) rfl (Nat.le_of_ble_eq_true rfl) (dt t_R_readBehind 57 rfl) (fun h8 => ?_)
          refine SW_ok (fun ok8 => ?_)
          refine SW_aload_n h rfl (dt t_R_readBehind 58 rfl) ?_
          obtain ⟨s9, e9, hf⟩ := b0M_of hf
          refine cVv h [] [] v_X5_step kX5_44 o90 (c_R_step  e9) rfl rfl (by decide) (by decide) rfl (Nat.le_of_ble_eq_true rfl) (dt t_R_readBehind 59 rfl) (fun h9 => ?_)
          refine SW_ok (fun ok9 => ?_)
          refine SW_iconst h (dt t_R_readBehind 60 rfl) ?_
          exact SW_iret h (hret _ hf) (fun _ => (by decide)) rfl (dt t_R_readBehind 61 rfl)
        refine bJ hf (fun J10 e10 hf => ?_)
        have k10 : ∀ (hf : J10 = some res), SW X 0 4 64 [some (.ref (xad X 90)), some (.int (i32 v1)), some (.int (i32 y3)), some (.int (i32 y4))] [] σ := by
          intro hf
          rw [e10] at hf
          refine SW_aload_n h rfl (dt t_R_readBehind 34 rfl) ?_
          refine gI h cf5 o90 f5_14 lX5_126 (dt t_R_readBehind 35 rfl) ?_
          refine bJ hf (fun J11 e11 hf => ?_)
          have k11 : ∀ (hf : J11 = some res), SW X 0 4 86 [some (.ref (xad X 90)), none, none, none] [] σ := by
            intro hf
            rw [e11] at hf
            refine SW_aload_n h rfl (dt t_R_readBehind 44 rfl) ?_
            refine SW_iconst h (dt t_R_readBehind 45 rfl) ?_
            obtain ⟨v12, s12, e12, hf⟩ := b1M_of hf
            refine cV h [.int (i32 1)] [] v_X5_fail kX5_92 o90 (c_R_fail 1 (by decide) e12) rfl rfl (by decide) (by decide) rfl (Nat.le_of_ble_eq_true rfl) (dt t_R_readBehind 46 rfl) (fun h12 => ?_)
            refine SW_ok (fun ok12 => ?_)
            exact SW_iret h (hret _ hf) (fun _ => h12) rfl (dt t_R_readBehind 47 rfl)
          refine SW_if_ne (tgt := 86) h (fun _ => (okI ok 90 14 (IsO.n3 o90))) (dt t_R_readBehind 36 rfl) rfl hf (fun hf => ?_) (fun hf => ?_)
          · refine SW_aload_n h rfl (dt t_R_readBehind 37 rfl) ?_
            refine gI h cf5 o90 f5_12 lX5_135 (dt t_R_readBehind 38 rfl) ?_
            refine SW_if_gt (tgt := 86) h (fun _ => (okI ok 90 12 (IsO.n3 o90))) (dt t_R_readBehind 39 rfl) rfl hf (fun hf => ?_) (fun hf => ?_)
            · exact SW_fgt [true, false, false, false] rfl (k11 hf)
            · refine SW_aload_n h rfl (dt t_R_readBehind 40 rfl) ?_
              refine gZ h cf5 o90 f5_13 lX5_138 (dt t_R_readBehind 41 rfl) ?_
              refine SW_iload_n h rfl (dt t_R_readBehind 42 rfl) ?_
              refine SW_icmp_eq (tgt := 92) h (fun _ => (okI ok 90 13 (IsO.n3 o90))) (fun _ => hy4) (dt t_R_readBehind 43 rfl) rfl hf (fun hf => ?_) (fun hf => ?_)
              · refine SW_aload_n h rfl (dt t_R_readBehind 48 rfl) ?_
                refine SW_iload_n h rfl (dt t_R_readBehind 49 rfl) ?_
                refine SW_chk hf (fun h13 hf => ?_)
                refine pZ h cf5 o90 f5_13 h13 lX5_138 (dt t_R_readBehind 50 rfl) (SW_bm hf (fun s14 ok14 hf => ?_))
                exact SW_fgt [true, true, false, false] rfl (k5 s14 ok14 hf)
              · exact SW_fgt [true, false, false, false] rfl (k11 hf)
          · exact SW_fgt [true, false, false, false] rfl (k11 hf)
        refine SW_if_ne (tgt := 64) h (fun _ => hy3) (dt t_R_readBehind 31 rfl) rfl hf (fun hf => ?_) (fun hf => ?_)
        · refine SW_iload_n h rfl (dt t_R_readBehind 32 rfl) ?_
          refine SW_if_eq (tgt := 97) h (fun _ => hy4) (dt t_R_readBehind 33 rfl) rfl hf (fun hf => ?_) (fun hf => ?_)
          · exact SW_fgt [true, true, false, false] rfl (k5 σ ok hf)
          · exact SW_fgt [true, true, true, true] rfl (k10 hf)
        · exact SW_fgt [true, true, true, true] rfl (k10 hf)
      refine bJ hf (fun J15 e15 hf => ?_)
      have k15 : ∀ (hf : J15 = some res), SW X 0 4 50 [some (.ref (xad X 90)), some (.int (i32 v1)), some (.int (i32 y3)), none] [] σ := by
        intro hf
        rw [e15] at hf
        refine SW_iconst h (dt t_R_readBehind 26 rfl) ?_
        refine SW_goto (tgt := 55) h (dt t_R_readBehind 27 rfl) rfl ?_
        exact SW_fgt [true, true, true, false] rfl (k4 1 (by decide) hf)
      refine SW_icmp_eq (tgt := 50) h (fun _ => h1) (fun _ => (by decide)) (dt t_R_readBehind 22 rfl) rfl hf (fun hf => ?_) (fun hf => ?_)
      · exact SW_fgt [true, true, true, false] rfl (k15 hf)
      · refine SW_iload_n h rfl (dt t_R_readBehind 23 rfl) ?_
        refine SW_sipush h (dt t_R_readBehind 24 rfl) (by decide) ?_
        refine SW_icmp_ne (tgt := 54) h (fun _ => h1) (fun _ => (by decide)) (dt t_R_readBehind 25 rfl) rfl hf (fun hf => ?_) (fun hf => ?_)
        · exact SW_fgt [true, true, true, false] rfl (k15 hf)
        · refine SW_iconst h (dt t_R_readBehind 28 rfl) ?_
          exact SW_fgt [true, true, true, false] rfl (k4 0 (by decide) hf)
    refine bJ hf (fun J16 e16 hf => ?_)
    have k16 : ∀ (hf : J16 = some res), SW X 0 4 34 [some (.ref (xad X 90)), some (.int (i32 v1)), none, none] [] σ := by
      intro hf
      rw [e16] at hf
      refine SW_iconst h (dt t_R_readBehind 18 rfl) ?_
      exact SW_fgt [true, true, false, false] rfl (k3 0 (by decide) hf)
    refine SW_icmp_lt (tgt := 34) h (fun _ => h1) (fun _ => (by decide)) (dt t_R_readBehind 12 rfl) rfl hf (fun hf => ?_) (fun hf => ?_)
    · exact SW_fgt [true, true, false, false] rfl (k16 hf)
    · refine SW_iload_n h rfl (dt t_R_readBehind 13 rfl) ?_
      refine SW_sipush h (dt t_R_readBehind 14 rfl) (by decide) ?_
      refine SW_icmp_gt (tgt := 34) h (fun _ => h1) (fun _ => (by decide)) (dt t_R_readBehind 15 rfl) rfl hf (fun hf => ?_) (fun hf => ?_)
      · exact SW_fgt [true, true, false, false] rfl (k16 hf)
      · refine SW_iconst h (dt t_R_readBehind 16 rfl) ?_
        refine SW_goto (tgt := 35) h (dt t_R_readBehind 17 rfl) rfl ?_
        exact SW_fgt [true, true, false, false] rfl (k3 1 (by decide) hf)
def b_R_readLaw : List (Nat × Instr × Nat) := [(0, .aload_n 0, 1), (1, .iload_n 1, 1), (2, .putfield 126, 3), (5, .aload_n 0, 1), (6, .iconst 0, 1), (7, .putfield 129, 3), (10, .aload_n 0, 1), (11, .iconst 0, 1), (12, .putfield 132, 3), (15, .aload_n 0, 1), (16, .iconst 0, 1), (17, .putfield 135, 3), (20, .aload_n 0, 1), (21, .iconst 0, 1), (22, .putfield 138, 3), (25, .aload_n 0, 1), (26, .getfield 22, 3), (29, .getfield 141, 3), (32, .iload_n 1, 1), (33, .aload_n 0, 1), (34, .getfield 22, 3), (37, .getfield 144, 3), (40, .iastore, 1), (41, .iconst 0, 1), (42, .istore_n 2, 1), (43, .iconst 0, 1), (44, .istore_n 3, 1), (45, .iload_n 3, 1), (46, .sipush 300, 3), (49, .if_icmp .gt 76, 3), (52, .iload_n 2, 1), (53, .iconst 2, 1), (54, .if_icmp .eq 71, 3), (57, .aload_n 0, 1), (58, .getfield 47, 3), (61, .bipush 41, 2), (63, .if_icmp .eq 21, 3), (66, .aload_n 0, 1), (67, .getfield 47, 3), (70, .bipush 44, 2), (72, .if_icmp .eq 12, 3), (75, .aload_n 0, 1), (76, .getfield 47, 3), (79, .bipush 59, 2), (81, .if_icmp .ne 7, 3), (84, .iconst 1, 1), (85, .goto 4, 3), (88, .iconst 0, 1), (89, .istore 4, 2), (91, .iload_n 2, 1), (92, .ifCond .ne 10, 3), (95, .aload_n 0, 1), (96, .invokevirtual 147, 3), (99, .goto 19, 3), (102, .iload 4, 2), (104, .ifCond .eq 10, 3), (107, .aload_n 0, 1), (108, .invokevirtual 150, 3), (111, .goto 7, 3), (114, .aload_n 0, 1), (115, .invokevirtual 153, 3), (118, .istore_n 2, 1), (119, .iinc 3 1, 3), (122, .goto (-77), 3), (125, .aload_n 0, 1), (126, .getfield 22, 3), (129, .getfield 156, 3), (132, .iload_n 1, 1), (133, .aload_n 0, 1), (134, .getfield 22, 3), (137, .getfield 144, 3), (140, .iastore, 1), (141, .return_, 1)]
theorem t_R_readLaw : DT cX5_readLaw b_R_readLaw := DT.of (by decide +kernel)
def L_R_readLaw_45 : Nat → Int → Int → Mm → Option (Mm)
  | 0, _, _, _ => none
  | n + 1, x2, x3, σ =>
    if 300 < x3 then
      some σ
    else
      if x2 = 2 then
        some σ
      else
        bindM (fun (y13 : Int) =>
          bindM (fun (y14 : Int) (t14 : Mm) =>
            if r32 (x3 + 1) then
              L_R_readLaw_45 n y14 (x3 + 1) t14
            else none) fun J14 =>
          if x2 = 0 then
            b1M (F_R_readOne  σ) fun v16 s16 =>
            J14 v16 s16
          else
            if y13 = 0 then
              b1M (F_R_readBehind  σ) fun v17 s17 =>
              J14 v17 s17
            else
              b1M (F_R_readEnd  σ) fun v18 s18 =>
              J14 v18 s18) fun J13 =>
        bindM (
          J13 1) fun J19 =>
        if σ 90 7 = 41 then
          J19
        else
          if σ 90 7 = 44 then
            J19
          else
            if σ 90 7 = 59 then
              J19
            else
              J13 0
set_option maxRecDepth 100000 in
set_option maxHeartbeats 4000000 in
theorem l_R_readLaw_45 {X : Cx} (h : CX X 0 cX5_readLaw 5 11 none RX5) (x1 : Int) (hx1 : r32 x1) {res : Mm} (hex : ∀  (σ : Mm) (hz : some σ = some res)  (ok : okM σ), SW X 0 5 125 [some (.ref (xad X 90)), some (.int (i32 x1)), none, none, none] [] σ) : ∀ (n : Nat) (x2 : Int) (x3 : Int) (σ : Mm) (hx2 : r32 x2) (hx3 : r32 x3) (ok : okM σ) (hf : L_R_readLaw_45 n x2 x3 σ = some res), SW X 0 5 45 [some (.ref (xad X 90)), some (.int (i32 x1)), some (.int (i32 x2)), some (.int (i32 x3)), none] [] σ := by
  intro n
  induction n with
  | zero => intro x2 x3 σ hx2 hx3 ok hf; exact absurd hf (by simp [L_R_readLaw_45])
  | succ n ih =>
    intro x2 x3 σ hx2 hx3 ok hf
    rw [L_R_readLaw_45] at hf
    refine SW_iload_n h rfl (dt t_R_readLaw 27 rfl) ?_
    refine SW_sipush h (dt t_R_readLaw 28 rfl) (by decide) ?_
    refine SW_icmp_gt (tgt := 125) h (fun _ => hx3) (fun _ => (by decide)) (dt t_R_readLaw 29 rfl) rfl hf (fun hf => ?_) (fun hf => ?_)
    · exact SW_fgt [true, true, false, false, false] rfl (hex σ hf ok)
    · refine SW_iload_n h rfl (dt t_R_readLaw 30 rfl) ?_
      refine SW_iconst h (dt t_R_readLaw 31 rfl) ?_
      refine SW_icmp_eq (tgt := 125) h (fun _ => hx2) (fun _ => (by decide)) (dt t_R_readLaw 32 rfl) rfl hf (fun hf => ?_) (fun hf => ?_)
      · exact SW_fgt [true, true, false, false, false] rfl (hex σ hf ok)
      · refine SW_aload_n h rfl (dt t_R_readLaw 33 rfl) ?_
        refine gI h cf5 o90 f5_7 lX5_47 (dt t_R_readLaw 34 rfl) ?_
        refine SW_bipush h (dt t_R_readLaw 35 rfl) (by decide) ?_
        refine bJ hf (fun J13 e13 hf => ?_)
        have k13 : ∀ (y13 : Int) (hy13 : r32 y13) (hf : J13 y13 = some res), SW X 0 5 89 [some (.ref (xad X 90)), some (.int (i32 x1)), some (.int (i32 x2)), some (.int (i32 x3)), none] [.int (i32 y13)] σ := by
          intro y13 hy13 hf
          rw [e13] at hf
          refine SW_istore (lv2 := [some (.ref (xad X 90)), some (.int (i32 x1)), some (.int (i32 x2)), some (.int (i32 x3)), some (.int (i32 y13))]) h (dt t_R_readLaw 48 rfl) (by decide) rfl ?_
          refine SW_iload_n h rfl (dt t_R_readLaw 49 rfl) ?_
          refine bJ hf (fun J14 e14 hf => ?_)
          have k14 : ∀ (y14 : Int) (t14 : Mm) (hy14 : r32 y14) (ot14 : okM t14) (hf : J14 y14 t14 = some res), SW X 0 5 118 [some (.ref (xad X 90)), some (.int (i32 x1)), none, some (.int (i32 x3)), none] [.int (i32 y14)] t14 := by
            intro y14 t14 hy14 ot14 hf
            rw [e14] at hf
            refine SW_istore_n (lv2 := [some (.ref (xad X 90)), some (.int (i32 x1)), some (.int (i32 y14)), some (.int (i32 x3)), none]) h (dt t_R_readLaw 61 rfl) (by decide) rfl ?_
            refine SW_iinc (lv2 := [some (.ref (xad X 90)), some (.int (i32 x1)), some (.int (i32 y14)), some (.int (i32 (x3 + 1))), none]) h (dt t_R_readLaw 62 rfl) rfl (by decide) rfl ?_
            refine SW_goto (tgt := 45) h (dt t_R_readLaw 63 rfl) rfl ?_
            refine SW_chk hf (fun h15 hf => ?_)
            exact SW_fgt [true, true, true, true, false] rfl (ih y14 (x3 + 1) t14 hy14 h15 ot14 hf)
          refine SW_if_ne (tgt := 102) h (fun _ => hx2) (dt t_R_readLaw 50 rfl) rfl hf (fun hf => ?_) (fun hf => ?_)
          · refine SW_aload_n h rfl (dt t_R_readLaw 51 rfl) ?_
            obtain ⟨v16, s16, e16, hf⟩ := b1M_of hf
            refine cV h [] [] v_X5_readOne kX5_147 o90 (c_R_readOne  e16) rfl rfl (by decide) (by decide) rfl (Nat.le_of_ble_eq_true rfl) (dt t_R_readLaw 52 rfl) (fun h16 => ?_)
            refine SW_ok (fun ok16 => ?_)
            refine SW_goto (tgt := 118) h (dt t_R_readLaw 53 rfl) rfl ?_
            exact SW_fgt [true, true, false, true, false] rfl (k14 v16 s16 h16 ok16 hf)
          · refine SW_iload h rfl (dt t_R_readLaw 54 rfl) ?_
            refine SW_if_eq (tgt := 114) h (fun _ => hy13) (dt t_R_readLaw 55 rfl) rfl hf (fun hf => ?_) (fun hf => ?_)
            · refine SW_aload_n h rfl (dt t_R_readLaw 59 rfl) ?_
              obtain ⟨v17, s17, e17, hf⟩ := b1M_of hf
              refine cV h [] [] v_X5_readBehind kX5_153 o90 (c_R_readBehind  e17) rfl rfl (by decide) (by decide) rfl (Nat.le_of_ble_eq_true rfl) (dt t_R_readLaw 60 rfl) (fun h17 => ?_)
              refine SW_ok (fun ok17 => ?_)
              exact SW_fgt [true, true, false, true, false] rfl (k14 v17 s17 h17 ok17 hf)
            · refine SW_aload_n h rfl (dt t_R_readLaw 56 rfl) ?_
              obtain ⟨v18, s18, e18, hf⟩ := b1M_of hf
              refine cV h [] [] v_X5_readEnd kX5_150 o90 (c_R_readEnd  e18) rfl rfl (by decide) (by decide) rfl (Nat.le_of_ble_eq_true rfl) (dt t_R_readLaw 57 rfl) (fun h18 => ?_)
              refine SW_ok (fun ok18 => ?_)
              refine SW_goto (tgt := 118) h (dt t_R_readLaw 58 rfl) rfl ?_
              exact SW_fgt [true, true, false, true, false] rfl (k14 v18 s18 h18 ok18 hf)
        refine bJ hf (fun J19 e19 hf => ?_)
        have k19 : ∀ (hf : J19 = some res), SW X 0 5 84 [some (.ref (xad X 90)), some (.int (i32 x1)), some (.int (i32 x2)), some (.int (i32 x3)), none] [] σ := by
          intro hf
          rw [e19] at hf
          refine SW_iconst h (dt t_R_readLaw 45 rfl) ?_
          refine SW_goto (tgt := 89) h (dt t_R_readLaw 46 rfl) rfl ?_
          exact SW_fgt [true, true, true, true, false] rfl (k13 1 (by decide) hf)
        refine SW_icmp_eq (tgt := 84) h (fun _ => (okI ok 90 7 (IsO.n3 o90))) (fun _ => (by decide)) (dt t_R_readLaw 36 rfl) rfl hf (fun hf => ?_) (fun hf => ?_)
        · exact SW_fgt [true, true, true, true, false] rfl (k19 hf)
        · refine SW_aload_n h rfl (dt t_R_readLaw 37 rfl) ?_
          refine gI h cf5 o90 f5_7 lX5_47 (dt t_R_readLaw 38 rfl) ?_
          refine SW_bipush h (dt t_R_readLaw 39 rfl) (by decide) ?_
          refine SW_icmp_eq (tgt := 84) h (fun _ => (okI ok 90 7 (IsO.n3 o90))) (fun _ => (by decide)) (dt t_R_readLaw 40 rfl) rfl hf (fun hf => ?_) (fun hf => ?_)
          · exact SW_fgt [true, true, true, true, false] rfl (k19 hf)
          · refine SW_aload_n h rfl (dt t_R_readLaw 41 rfl) ?_
            refine gI h cf5 o90 f5_7 lX5_47 (dt t_R_readLaw 42 rfl) ?_
            refine SW_bipush h (dt t_R_readLaw 43 rfl) (by decide) ?_
            refine SW_icmp_ne (tgt := 88) h (fun _ => (okI ok 90 7 (IsO.n3 o90))) (fun _ => (by decide)) (dt t_R_readLaw 44 rfl) rfl hf (fun hf => ?_) (fun hf => ?_)
            · exact SW_fgt [true, true, true, true, false] rfl (k19 hf)
            · refine SW_iconst h (dt t_R_readLaw 47 rfl) ?_
              exact SW_fgt [true, true, true, true, false] rfl (k13 0 (by decide) hf)
def F_R_readLaw (x1 : Int) (σ : Mm) : Option (Mm) :=
  bindM (st2 σ 90 14 x1) fun s2 =>
  bindM (st2 s2 90 10 0) fun s4 =>
  bindM (st2 s4 90 11 0) fun s6 =>
  bindM (st2 s6 90 12 0) fun s8 =>
  bindM (st2 s8 90 13 0) fun s9 =>
  if 0 ≤ s9 90 15 ∧ IsO 0 9 (s9 90 15).toNat then
    if 0 ≤ s9 90 15 ∧ IsO 0 9 (s9 90 15).toNat then
      if 0 ≤ x1 ∧ x1 < 3 then
        bindM (st2 s9 (((s9 90 15).toNat) + 8) x1.toNat (s9 ((s9 90 15).toNat) 4)) fun s12 =>
        b0M (L_R_readLaw_45 LF 0 0 s12) fun s20 =>
        if 0 ≤ s20 90 15 ∧ IsO 0 9 (s20 90 15).toNat then
          if 0 ≤ s20 90 15 ∧ IsO 0 9 (s20 90 15).toNat then
            if 0 ≤ x1 ∧ x1 < 3 then
              bindM (st2 s20 (((s20 90 15).toNat) + 12) x1.toNat (s20 ((s20 90 15).toNat) 4)) fun s23 =>
              some s23
            else none
          else none
        else none
      else none
    else none
  else none
set_option maxRecDepth 100000 in
set_option maxHeartbeats 4000000 in
theorem c_R_readLaw (x1 : Int) (hx1 : r32 x1) {σ : Mm} {σ2 : Mm} (hf : F_R_readLaw x1 σ = some σ2) : CT yX5_readLaw cX5_readLaw 5 none 11 0 (fun ad => [.ref (ad 90), .int (i32 x1)]) σ True none σ2 := by
  refine MetJ 3 (by decide +kernel) rfl (fun _ => Nat.le_of_ble_eq_true rfl) ?_
  intro X h hR ok
  obtain ⟨res, er⟩ : ∃ z, z = σ2 := ⟨_, rfl⟩
  have hret : ∀ y : Mm, some y = some res → RX X 0 True none y := fun y e => by cases e; cases er; exact hR
  rw [← er] at hf
  clear er hR
  unfold F_R_readLaw at hf
  show SW X 0 5 0 [some (.ref (xad X 90)), some (.int (i32 x1)), none, none, none] [] σ
  refine SW_aload_n h rfl (dt t_R_readLaw 0 rfl) ?_
  refine SW_iload_n h rfl (dt t_R_readLaw 1 rfl) ?_
  refine pI h cf5 o90 f5_14 hx1 lX5_126 (dt t_R_readLaw 2 rfl) (SW_bm hf (fun s2 ok2 hf => ?_))
  refine SW_aload_n h rfl (dt t_R_readLaw 3 rfl) ?_
  refine SW_iconst h (dt t_R_readLaw 4 rfl) ?_
  refine pI h cf5 o90 f5_10 (by decide) lX5_129 (dt t_R_readLaw 5 rfl) (SW_bm hf (fun s4 ok4 hf => ?_))
  refine SW_aload_n h rfl (dt t_R_readLaw 6 rfl) ?_
  refine SW_iconst h (dt t_R_readLaw 7 rfl) ?_
  refine pI h cf5 o90 f5_11 (by decide) lX5_132 (dt t_R_readLaw 8 rfl) (SW_bm hf (fun s6 ok6 hf => ?_))
  refine SW_aload_n h rfl (dt t_R_readLaw 9 rfl) ?_
  refine SW_iconst h (dt t_R_readLaw 10 rfl) ?_
  refine pI h cf5 o90 f5_12 (by decide) lX5_135 (dt t_R_readLaw 11 rfl) (SW_bm hf (fun s8 ok8 hf => ?_))
  refine SW_aload_n h rfl (dt t_R_readLaw 12 rfl) ?_
  refine SW_iconst h (dt t_R_readLaw 13 rfl) ?_
  refine pZ h cf5 o90 f5_13 (by decide) lX5_138 (dt t_R_readLaw 14 rfl) (SW_bm hf (fun s9 ok9 hf => ?_))
  refine SW_aload_n h rfl (dt t_R_readLaw 15 rfl) ?_
  refine gD h cf5 o90 f5_15 lX5_22 (dt t_R_readLaw 16 rfl) ?_
  refine SW_isO hf (fun h10 hf => ?_)
  refine gR h cf9 h10 f9_1 (dy9_1 h10).1 lX5_141 (dt t_R_readLaw 17 rfl) ?_
  refine SW_iload_n h rfl (dt t_R_readLaw 18 rfl) ?_
  refine SW_aload_n h rfl (dt t_R_readLaw 19 rfl) ?_
  refine gD h cf5 o90 f5_15 lX5_22 (dt t_R_readLaw 20 rfl) ?_
  refine SW_isO hf (fun h11 hf => ?_)
  refine gI h cf9 h11 f9_4 lX5_144 (dt t_R_readLaw 21 rfl) ?_
  refine sI h (dy9_1 h10).2 (okI ok9 ((s9 90 15).toNat) 4 (IsO.n3 h11)) (dt t_R_readLaw 22 rfl) hf (fun hf => SW_bm hf (fun s12 ok12 hf => ?_))
  refine SW_iconst h (dt t_R_readLaw 23 rfl) ?_
  refine SW_istore_n (lv2 := [some (.ref (xad X 90)), some (.int (i32 x1)), some (.int (i32 0)), none, none]) h (dt t_R_readLaw 24 rfl) (by decide) rfl ?_
  refine SW_iconst h (dt t_R_readLaw 25 rfl) ?_
  refine SW_istore_n (lv2 := [some (.ref (xad X 90)), some (.int (i32 x1)), some (.int (i32 0)), some (.int (i32 0)), none]) h (dt t_R_readLaw 26 rfl) (by decide) rfl ?_
  obtain ⟨z20, e20, hk20⟩ := b0M_ex hf
  refine SW_fgt [true, true, true, true, false] rfl (l_R_readLaw_45 h x1 hx1 (fun s20 hz20 ok20 => ?_) LF 0 0 s12 (by decide) (by decide) ok12 e20)
  have hf := hk20 s20 hz20
  refine SW_aload_n h rfl (dt t_R_readLaw 64 rfl) ?_
  refine gD h cf5 o90 f5_15 lX5_22 (dt t_R_readLaw 65 rfl) ?_
  refine SW_isO hf (fun h21 hf => ?_)
  refine gR h cf9 h21 f9_2 (dy9_2 h21).1 lX5_156 (dt t_R_readLaw 66 rfl) ?_
  refine SW_iload_n h rfl (dt t_R_readLaw 67 rfl) ?_
  refine SW_aload_n h rfl (dt t_R_readLaw 68 rfl) ?_
  refine gD h cf5 o90 f5_15 lX5_22 (dt t_R_readLaw 69 rfl) ?_
  refine SW_isO hf (fun h22 hf => ?_)
  refine gI h cf9 h22 f9_4 lX5_144 (dt t_R_readLaw 70 rfl) ?_
  refine sI h (dy9_2 h21).2 (okI ok20 ((s20 90 15).toNat) 4 (IsO.n3 h22)) (dt t_R_readLaw 71 rfl) hf (fun hf => SW_bm hf (fun s23 ok23 hf => ?_))
  exact SW_vret h (hret _ hf) rfl (dt t_R_readLaw 72 rfl)
def b_R_readClause : List (Nat × Instr × Nat) := [(0, .aload_n 0, 1), (1, .getfield 47, 3), (4, .sipush 300, 3), (7, .isub, 1), (8, .istore_n 1, 1), (9, .iload_n 1, 1), (10, .ifCond .lt 25, 3), (13, .iload_n 1, 1), (14, .bipush 9, 2), (16, .if_icmp .gt 19, 3), (19, .iload_n 1, 1), (20, .bipush 6, 2), (22, .if_icmp .eq 13, 3), (25, .iload_n 1, 1), (26, .bipush 8, 2), (28, .if_icmp .eq 7, 3), (31, .iconst 1, 1), (32, .goto 4, 3), (35, .iconst 0, 1), (36, .istore_n 2, 1), (37, .iload_n 2, 1), (38, .ifCond .ne 10, 3), (41, .aload_n 0, 1), (42, .iconst 1, 1), (43, .invokevirtual 92, 3), (46, .pop, 1), (47, .return_, 1), (48, .iload_n 1, 1), (49, .iconst 2, 1), (50, .if_icmp .gt 21, 3), (53, .aload_n 0, 1), (54, .getfield 22, 3), (57, .iload_n 1, 1), (58, .invokevirtual 95, 3), (61, .ifCond .eq 10, 3), (64, .aload_n 0, 1), (65, .iconst 4, 1), (66, .invokevirtual 92, 3), (69, .pop, 1), (70, .return_, 1), (71, .aload_n 0, 1), (72, .getfield 22, 3), (75, .getfield 98, 3), (78, .bipush 24, 2), (80, .if_icmp .lt 11, 3), (83, .aload_n 0, 1), (84, .bipush 6, 2), (86, .invokevirtual 92, 3), (89, .pop, 1), (90, .return_, 1), (91, .aload_n 0, 1), (92, .getfield 22, 3), (95, .iload_n 1, 1), (96, .invokevirtual 101, 3), (99, .aload_n 0, 1), (100, .invokevirtual 44, 3), (103, .iload_n 1, 1), (104, .tableswitch 99 3 9 #[44, 51, 62, 99, 75, 99, 88], 44), (148, .aload_n 0, 1), (149, .invokevirtual 105, 3), (152, .goto 56, 3), (155, .aload_n 0, 1), (156, .iconst 0, 1), (157, .bipush 11, 2), (159, .iconst (-1), 1), (160, .invokevirtual 108, 3), (163, .goto 45, 3), (166, .aload_n 0, 1), (167, .iconst 0, 1), (168, .bipush 9, 2), (170, .sipush 306, 3), (173, .invokevirtual 108, 3), (176, .goto 32, 3), (179, .aload_n 0, 1), (180, .iconst 0, 1), (181, .bipush 9, 2), (183, .sipush 308, 3), (186, .invokevirtual 108, 3), (189, .goto 19, 3), (192, .aload_n 0, 1), (193, .iconst 1, 1), (194, .bipush 60, 2), (196, .iconst (-1), 1), (197, .invokevirtual 108, 3), (200, .goto 8, 3), (203, .aload_n 0, 1), (204, .iload_n 1, 1), (205, .invokevirtual 112, 3), (208, .return_, 1)]
theorem t_R_readClause : DT cX5_readClause b_R_readClause := DT.of (by decide +kernel)
def F_R_readClause  (σ : Mm) : Option (Mm) :=
  bindM ((σ 90 7) - 300) fun v1 =>
  if r32 v1 then
    bindM (fun (y3 : Int) =>
      if y3 = 0 then
        b1M (F_R_fail 1 σ) fun v4 s4 =>
        some s4
      else
        bindM (
          if 0 ≤ σ 90 15 ∧ IsO 0 9 (σ 90 15).toNat then
            if σ ((σ 90 15).toNat) 5 < 24 then
              if 0 ≤ σ 90 15 ∧ IsO 0 9 (σ 90 15).toNat then
                b0M (F_T_begin ((σ 90 15).toNat) v1 σ) fun s8 =>
                b0M (F_R_step  s8) fun s9 =>
                if v1 = 3 then
                  b0M (F_R_readRow  s9) fun s11 =>
                  some s11
                else
                  if v1 = 4 then
                    b0M (F_R_readOrder 0 11 ((-1)) s9) fun s13 =>
                    some s13
                  else
                    if v1 = 5 then
                      b0M (F_R_readOrder 0 9 306 s9) fun s15 =>
                      some s15
                    else
                      if v1 = 6 then
                        b0M (F_R_readLaw v1 s9) fun s17 =>
                        some s17
                      else
                        if v1 = 7 then
                          b0M (F_R_readOrder 0 9 308 s9) fun s19 =>
                          some s19
                        else
                          if v1 = 8 then
                            b0M (F_R_readLaw v1 s9) fun s21 =>
                            some s21
                          else
                            if v1 = 9 then
                              b0M (F_R_readOrder 1 60 ((-1)) s9) fun s23 =>
                              some s23
                            else
                              b0M (F_R_readLaw v1 s9) fun s24 =>
                              some s24
              else none
            else
              b1M (F_R_fail 6 σ) fun v25 s25 =>
              some s25
          else none) fun J5 =>
        if 2 < v1 then
          J5
        else
          if 0 ≤ σ 90 15 ∧ IsO 0 9 (σ 90 15).toNat then
            b1 (F_T_has ((σ 90 15).toNat) v1 σ) fun v27 =>
            if v27 = 0 then
              J5
            else
              b1M (F_R_fail 4 σ) fun v28 s28 =>
              some s28
          else none) fun J3 =>
    bindM (
      J3 0) fun J29 =>
    if v1 < 0 then
      J29
    else
      if 9 < v1 then
        J29
      else
        if v1 = 6 then
          J29
        else
          if v1 = 8 then
            J29
          else
            J3 1
  else none
set_option maxRecDepth 100000 in
set_option maxHeartbeats 4000000 in
theorem c_R_readClause  {σ : Mm} {σ2 : Mm} (hf : F_R_readClause  σ = some σ2) : CT yX5_readClause cX5_readClause 3 none 12 0 (fun ad => [.ref (ad 90)]) σ True none σ2 := by
  refine MetJ 2 (by decide +kernel) rfl (fun _ => Nat.le_of_ble_eq_true rfl) ?_
  intro X h hR ok
  obtain ⟨res, er⟩ : ∃ z, z = σ2 := ⟨_, rfl⟩
  have hret : ∀ y : Mm, some y = some res → RX X 0 True none y := fun y e => by cases e; cases er; exact hR
  rw [← er] at hf
  clear er hR
  unfold F_R_readClause at hf
  show SW X 0 3 0 [some (.ref (xad X 90)), none, none] [] σ
  refine SW_aload_n h rfl (dt t_R_readClause 0 rfl) ?_
  refine gI h cf5 o90 f5_7 lX5_47 (dt t_R_readClause 1 rfl) ?_
  refine SW_sipush h (dt t_R_readClause 2 rfl) (by decide) ?_
  refine SW_isub h (dt t_R_readClause 3 rfl) ?_
  refine SW_vu hf (fun v1 hf => ?_)
  refine SW_istore_n (lv2 := [some (.ref (xad X 90)), some (.int (i32 v1)), none]) h (dt t_R_readClause 4 rfl) (by decide) rfl ?_
  refine SW_iload_n h rfl (dt t_R_readClause 5 rfl) ?_
  refine SW_chk hf (fun h2 hf => ?_)
  refine bJ hf (fun J3 e3 hf => ?_)
  have k3 : ∀ (y3 : Int) (hy3 : r32 y3) (hf : J3 y3 = some res), SW X 0 3 36 [some (.ref (xad X 90)), some (.int (i32 v1)), none] [.int (i32 y3)] σ := by
    intro y3 hy3 hf
    rw [e3] at hf
    refine SW_istore_n (lv2 := [some (.ref (xad X 90)), some (.int (i32 v1)), some (.int (i32 y3))]) h (dt t_R_readClause 19 rfl) (by decide) rfl ?_
    refine SW_iload_n h rfl (dt t_R_readClause 20 rfl) ?_
    refine SW_if_ne (tgt := 48) h (fun _ => hy3) (dt t_R_readClause 21 rfl) rfl hf (fun hf => ?_) (fun hf => ?_)
    · refine SW_aload_n h rfl (dt t_R_readClause 22 rfl) ?_
      refine SW_iconst h (dt t_R_readClause 23 rfl) ?_
      obtain ⟨v4, s4, e4, hf⟩ := b1M_of hf
      refine cV h [.int (i32 1)] [] v_X5_fail kX5_92 o90 (c_R_fail 1 (by decide) e4) rfl rfl (by decide) (by decide) rfl (Nat.le_of_ble_eq_true rfl) (dt t_R_readClause 24 rfl) (fun h4 => ?_)
      refine SW_ok (fun ok4 => ?_)
      refine SW_pop h rfl (dt t_R_readClause 25 rfl) ?_
      exact SW_vret h (hret _ hf) rfl (dt t_R_readClause 26 rfl)
    · refine SW_iload_n h rfl (dt t_R_readClause 27 rfl) ?_
      refine SW_iconst h (dt t_R_readClause 28 rfl) ?_
      refine bJ hf (fun J5 e5 hf => ?_)
      have k5 : ∀ (hf : J5 = some res), SW X 0 3 71 [some (.ref (xad X 90)), some (.int (i32 v1)), none] [] σ := by
        intro hf
        rw [e5] at hf
        refine SW_aload_n h rfl (dt t_R_readClause 40 rfl) ?_
        refine gD h cf5 o90 f5_15 lX5_22 (dt t_R_readClause 41 rfl) ?_
        refine SW_isO hf (fun h6 hf => ?_)
        refine gI h cf9 h6 f9_5 lX5_98 (dt t_R_readClause 42 rfl) ?_
        refine SW_bipush h (dt t_R_readClause 43 rfl) (by decide) ?_
        refine SW_icmp_lt (tgt := 91) h (fun _ => (okI ok ((σ 90 15).toNat) 5 (IsO.n3 h6))) (fun _ => (by decide)) (dt t_R_readClause 44 rfl) rfl hf (fun hf => ?_) (fun hf => ?_)
        · refine SW_aload_n h rfl (dt t_R_readClause 50 rfl) ?_
          refine gD h cf5 o90 f5_15 lX5_22 (dt t_R_readClause 51 rfl) ?_
          refine SW_isO hf (fun h7 hf => ?_)
          refine SW_iload_n h rfl (dt t_R_readClause 52 rfl) ?_
          obtain ⟨s8, e8, hf⟩ := b0M_of hf
          refine cVv h [.int (i32 v1)] [] v_X9_begin kX5_101 h7 (c_T_begin ((σ 90 15).toNat) h7 v1 h2 e8) rfl rfl (by decide) (by decide) rfl (Nat.le_of_ble_eq_true rfl) (dt t_R_readClause 53 rfl) (fun h8 => ?_)
          refine SW_ok (fun ok8 => ?_)
          refine SW_aload_n h rfl (dt t_R_readClause 54 rfl) ?_
          obtain ⟨s9, e9, hf⟩ := b0M_of hf
          refine cVv h [] [] v_X5_step kX5_44 o90 (c_R_step  e9) rfl rfl (by decide) (by decide) rfl (Nat.le_of_ble_eq_true rfl) (dt t_R_readClause 55 rfl) (fun h9 => ?_)
          refine SW_ok (fun ok9 => ?_)
          refine SW_iload_n h rfl (dt t_R_readClause 56 rfl) ?_
          refine SW_ite hf (fun h10 hf => ?_) (fun h10 hf => ?_)
          · refine SW_tabIn (tgt := 148) h 0 (fun _ => h2) (dt t_R_readClause 57 rfl) (h10.trans rfl) (by decide) rfl rfl ?_
            refine SW_aload_n h rfl (dt t_R_readClause 58 rfl) ?_
            obtain ⟨s11, e11, hf⟩ := b0M_of hf
            refine cVv h [] [] v_X5_readRow kX5_105 o90 (c_R_readRow  e11) rfl rfl (by decide) (by decide) rfl (Nat.le_of_ble_eq_true rfl) (dt t_R_readClause 59 rfl) (fun h11 => ?_)
            refine SW_ok (fun ok11 => ?_)
            refine SW_goto (tgt := 208) h (dt t_R_readClause 60 rfl) rfl ?_
            exact SW_vret h (hret _ hf) rfl (dt t_R_readClause 88 rfl)
          · refine SW_ite hf (fun h12 hf => ?_) (fun h12 hf => ?_)
            · refine SW_tabIn (tgt := 155) h 1 (fun _ => h2) (dt t_R_readClause 57 rfl) (h12.trans rfl) (by decide) rfl rfl ?_
              refine SW_aload_n h rfl (dt t_R_readClause 61 rfl) ?_
              refine SW_iconst h (dt t_R_readClause 62 rfl) ?_
              refine SW_bipush h (dt t_R_readClause 63 rfl) (by decide) ?_
              refine SW_iconst h (dt t_R_readClause 64 rfl) ?_
              obtain ⟨s13, e13, hf⟩ := b0M_of hf
              refine cVv h [.int (i32 0), .int (i32 11), .int (i32 ((-1)))] [] v_X5_readOrder kX5_108 o90 (c_R_readOrder 0 (by decide) 11 (by decide) ((-1)) (by decide) e13) rfl rfl (by decide) (by decide) rfl (Nat.le_of_ble_eq_true rfl) (dt t_R_readClause 65 rfl) (fun h13 => ?_)
              refine SW_ok (fun ok13 => ?_)
              refine SW_goto (tgt := 208) h (dt t_R_readClause 66 rfl) rfl ?_
              exact SW_vret h (hret _ hf) rfl (dt t_R_readClause 88 rfl)
            · refine SW_ite hf (fun h14 hf => ?_) (fun h14 hf => ?_)
              · refine SW_tabIn (tgt := 166) h 2 (fun _ => h2) (dt t_R_readClause 57 rfl) (h14.trans rfl) (by decide) rfl rfl ?_
                refine SW_aload_n h rfl (dt t_R_readClause 67 rfl) ?_
                refine SW_iconst h (dt t_R_readClause 68 rfl) ?_
                refine SW_bipush h (dt t_R_readClause 69 rfl) (by decide) ?_
                refine SW_sipush h (dt t_R_readClause 70 rfl) (by decide) ?_
                obtain ⟨s15, e15, hf⟩ := b0M_of hf
                refine cVv h [.int (i32 0), .int (i32 9), .int (i32 306)] [] v_X5_readOrder kX5_108 o90 (c_R_readOrder 0 (by decide) 9 (by decide) 306 (by decide) e15) rfl rfl (by decide) (by decide) rfl (Nat.le_of_ble_eq_true rfl) (dt t_R_readClause 71 rfl) (fun h15 => ?_)
                refine SW_ok (fun ok15 => ?_)
                refine SW_goto (tgt := 208) h (dt t_R_readClause 72 rfl) rfl ?_
                exact SW_vret h (hret _ hf) rfl (dt t_R_readClause 88 rfl)
              · refine SW_ite hf (fun h16 hf => ?_) (fun h16 hf => ?_)
                · refine SW_tabIn (tgt := 203) h 3 (fun _ => h2) (dt t_R_readClause 57 rfl) (h16.trans rfl) (by decide) rfl rfl ?_
                  refine SW_aload_n h rfl (dt t_R_readClause 85 rfl) ?_
                  refine SW_iload_n h rfl (dt t_R_readClause 86 rfl) ?_
                  obtain ⟨s17, e17, hf⟩ := b0M_of hf
                  refine cVv h [.int (i32 v1)] [] v_X5_readLaw kX5_112 o90 (c_R_readLaw v1 h2 e17) rfl rfl (by decide) (by decide) rfl (Nat.le_of_ble_eq_true rfl) (dt t_R_readClause 87 rfl) (fun h17 => ?_)
                  refine SW_ok (fun ok17 => ?_)
                  exact SW_vret h (hret _ hf) rfl (dt t_R_readClause 88 rfl)
                · refine SW_ite hf (fun h18 hf => ?_) (fun h18 hf => ?_)
                  · refine SW_tabIn (tgt := 179) h 4 (fun _ => h2) (dt t_R_readClause 57 rfl) (h18.trans rfl) (by decide) rfl rfl ?_
                    refine SW_aload_n h rfl (dt t_R_readClause 73 rfl) ?_
                    refine SW_iconst h (dt t_R_readClause 74 rfl) ?_
                    refine SW_bipush h (dt t_R_readClause 75 rfl) (by decide) ?_
                    refine SW_sipush h (dt t_R_readClause 76 rfl) (by decide) ?_
                    obtain ⟨s19, e19, hf⟩ := b0M_of hf
                    refine cVv h [.int (i32 0), .int (i32 9), .int (i32 308)] [] v_X5_readOrder kX5_108 o90 (c_R_readOrder 0 (by decide) 9 (by decide) 308 (by decide) e19) rfl rfl (by decide) (by decide) rfl (Nat.le_of_ble_eq_true rfl) (dt t_R_readClause 77 rfl) (fun h19 => ?_)
                    refine SW_ok (fun ok19 => ?_)
                    refine SW_goto (tgt := 208) h (dt t_R_readClause 78 rfl) rfl ?_
                    exact SW_vret h (hret _ hf) rfl (dt t_R_readClause 88 rfl)
                  · refine SW_ite hf (fun h20 hf => ?_) (fun h20 hf => ?_)
                    · refine SW_tabIn (tgt := 203) h 5 (fun _ => h2) (dt t_R_readClause 57 rfl) (h20.trans rfl) (by decide) rfl rfl ?_
                      refine SW_aload_n h rfl (dt t_R_readClause 85 rfl) ?_
                      refine SW_iload_n h rfl (dt t_R_readClause 86 rfl) ?_
                      obtain ⟨s21, e21, hf⟩ := b0M_of hf
                      refine cVv h [.int (i32 v1)] [] v_X5_readLaw kX5_112 o90 (c_R_readLaw v1 h2 e21) rfl rfl (by decide) (by decide) rfl (Nat.le_of_ble_eq_true rfl) (dt t_R_readClause 87 rfl) (fun h21 => ?_)
                      refine SW_ok (fun ok21 => ?_)
                      exact SW_vret h (hret _ hf) rfl (dt t_R_readClause 88 rfl)
                    · refine SW_ite hf (fun h22 hf => ?_) (fun h22 hf => ?_)
                      · refine SW_tabIn (tgt := 192) h 6 (fun _ => h2) (dt t_R_readClause 57 rfl) (h22.trans rfl) (by decide) rfl rfl ?_
                        refine SW_aload_n h rfl (dt t_R_readClause 79 rfl) ?_
                        refine SW_iconst h (dt t_R_readClause 80 rfl) ?_
                        refine SW_bipush h (dt t_R_readClause 81 rfl) (by decide) ?_
                        refine SW_iconst h (dt t_R_readClause 82 rfl) ?_
                        obtain ⟨s23, e23, hf⟩ := b0M_of hf
                        refine cVv h [.int (i32 1), .int (i32 60), .int (i32 ((-1)))] [] v_X5_readOrder kX5_108 o90 (c_R_readOrder 1 (by decide) 60 (by decide) ((-1)) (by decide) e23) rfl rfl (by decide) (by decide) rfl (Nat.le_of_ble_eq_true rfl) (dt t_R_readClause 83 rfl) (fun h23 => ?_)
                        refine SW_ok (fun ok23 => ?_)
                        refine SW_goto (tgt := 208) h (dt t_R_readClause 84 rfl) rfl ?_
                        exact SW_vret h (hret _ hf) rfl (dt t_R_readClause 88 rfl)
                      · refine SW_tabOut (tgt := 203) h (fun _ => h2) (dt t_R_readClause 57 rfl) (by omega) rfl ?_
                        refine SW_aload_n h rfl (dt t_R_readClause 85 rfl) ?_
                        refine SW_iload_n h rfl (dt t_R_readClause 86 rfl) ?_
                        obtain ⟨s24, e24, hf⟩ := b0M_of hf
                        refine cVv h [.int (i32 v1)] [] v_X5_readLaw kX5_112 o90 (c_R_readLaw v1 h2 e24) rfl rfl (by decide) (by decide) rfl (Nat.le_of_ble_eq_true rfl) (dt t_R_readClause 87 rfl) (fun h24 => ?_)
                        refine SW_ok (fun ok24 => ?_)
                        exact SW_vret h (hret _ hf) rfl (dt t_R_readClause 88 rfl)
        · refine SW_aload_n h rfl (dt t_R_readClause 45 rfl) ?_
          refine SW_bipush h (dt t_R_readClause 46 rfl) (by decide) ?_
          obtain ⟨v25, s25, e25, hf⟩ := b1M_of hf
          refine cV h [.int (i32 6)] [] v_X5_fail kX5_92 o90 (c_R_fail 6 (by decide) e25) rfl rfl (by decide) (by decide) rfl (Nat.le_of_ble_eq_true rfl) (dt t_R_readClause 47 rfl) (fun h25 => ?_)
          refine SW_ok (fun ok25 => ?_)
          refine SW_pop h rfl (dt t_R_readClause 48 rfl) ?_
          exact SW_vret h (hret _ hf) rfl (dt t_R_readClause 49 rfl)
      refine SW_icmp_gt (tgt := 71) h (fun _ => h2) (fun _ => (by decide)) (dt t_R_readClause 29 rfl) rfl hf (fun hf => ?_) (fun hf => ?_)
      · exact SW_fgt [true, true, false] rfl (k5 hf)
      · refine SW_aload_n h rfl (dt t_R_readClause 30 rfl) ?_
        refine gD h cf5 o90 f5_15 lX5_22 (dt t_R_readClause 31 rfl) ?_
        refine SW_isO hf (fun h26 hf => ?_)
        refine SW_iload_n h rfl (dt t_R_readClause 32 rfl) ?_
        obtain ⟨v27, e27, hf⟩ := b1_of hf
        refine cV h [.int (i32 v1)] [] v_X9_has kX5_95 h26 (c_T_has ((σ 90 15).toNat) h26 v1 h2 e27) rfl rfl (by decide) (by decide) rfl (Nat.le_of_ble_eq_true rfl) (dt t_R_readClause 33 rfl) (fun h27 => ?_)
        refine SW_if_eq (tgt := 71) h (fun _ => (r_zo h27)) (dt t_R_readClause 34 rfl) rfl hf (fun hf => ?_) (fun hf => ?_)
        · exact SW_fgt [true, true, false] rfl (k5 hf)
        · refine SW_aload_n h rfl (dt t_R_readClause 35 rfl) ?_
          refine SW_iconst h (dt t_R_readClause 36 rfl) ?_
          obtain ⟨v28, s28, e28, hf⟩ := b1M_of hf
          refine cV h [.int (i32 4)] [] v_X5_fail kX5_92 o90 (c_R_fail 4 (by decide) e28) rfl rfl (by decide) (by decide) rfl (Nat.le_of_ble_eq_true rfl) (dt t_R_readClause 37 rfl) (fun h28 => ?_)
          refine SW_ok (fun ok28 => ?_)
          refine SW_pop h rfl (dt t_R_readClause 38 rfl) ?_
          exact SW_vret h (hret _ hf) rfl (dt t_R_readClause 39 rfl)
  refine bJ hf (fun J29 e29 hf => ?_)
  have k29 : ∀ (hf : J29 = some res), SW X 0 3 35 [some (.ref (xad X 90)), some (.int (i32 v1)), none] [] σ := by
    intro hf
    rw [e29] at hf
    refine SW_iconst h (dt t_R_readClause 18 rfl) ?_
    exact SW_fgt [true, true, false] rfl (k3 0 (by decide) hf)
  refine SW_if_lt (tgt := 35) h (fun _ => h2) (dt t_R_readClause 6 rfl) rfl hf (fun hf => ?_) (fun hf => ?_)
  · exact SW_fgt [true, true, false] rfl (k29 hf)
  · refine SW_iload_n h rfl (dt t_R_readClause 7 rfl) ?_
    refine SW_bipush h (dt t_R_readClause 8 rfl) (by decide) ?_
    refine SW_icmp_gt (tgt := 35) h (fun _ => h2) (fun _ => (by decide)) (dt t_R_readClause 9 rfl) rfl hf (fun hf => ?_) (fun hf => ?_)
    · exact SW_fgt [true, true, false] rfl (k29 hf)
    · refine SW_iload_n h rfl (dt t_R_readClause 10 rfl) ?_
      refine SW_bipush h (dt t_R_readClause 11 rfl) (by decide) ?_
      refine SW_icmp_eq (tgt := 35) h (fun _ => h2) (fun _ => (by decide)) (dt t_R_readClause 12 rfl) rfl hf (fun hf => ?_) (fun hf => ?_)
      · exact SW_fgt [true, true, false] rfl (k29 hf)
      · refine SW_iload_n h rfl (dt t_R_readClause 13 rfl) ?_
        refine SW_bipush h (dt t_R_readClause 14 rfl) (by decide) ?_
        refine SW_icmp_eq (tgt := 35) h (fun _ => h2) (fun _ => (by decide)) (dt t_R_readClause 15 rfl) rfl hf (fun hf => ?_) (fun hf => ?_)
        · exact SW_fgt [true, true, false] rfl (k29 hf)
        · refine SW_iconst h (dt t_R_readClause 16 rfl) ?_
          refine SW_goto (tgt := 36) h (dt t_R_readClause 17 rfl) rfl ?_
          exact SW_fgt [true, true, false] rfl (k3 1 (by decide) hf)
def b_R_read : List (Nat × Instr × Nat) := [(0, .aload_n 0, 1), (1, .aload_n 1, 1), (2, .putfield 22, 3), (5, .aload_n 0, 1), (6, .getfield 22, 3), (9, .invokevirtual 26, 3), (12, .aload_n 0, 1), (13, .iconst 1, 1), (14, .putfield 31, 3), (17, .aload_n 0, 1), (18, .iconst 0, 1), (19, .putfield 35, 3), (22, .aload_n 0, 1), (23, .iconst (-1), 1), (24, .putfield 38, 3), (27, .aload_n 0, 1), (28, .iconst 0, 1), (29, .putfield 41, 3), (32, .aload_n 0, 1), (33, .invokevirtual 44, 3), (36, .iconst 0, 1), (37, .istore_n 2, 1), (38, .iload_n 2, 1), (39, .bipush 24, 2), (41, .if_icmp .gt 27, 3), (44, .aload_n 0, 1), (45, .getfield 47, 3), (48, .ifCond .eq 20, 3), (51, .aload_n 0, 1), (52, .getfield 35, 3), (55, .ifCond .ne 13, 3), (58, .aload_n 0, 1), (59, .invokevirtual 50, 3), (62, .iinc 2 1, 3), (65, .goto (-27), 3), (68, .aload_n 0, 1), (69, .iconst 0, 1), (70, .putfield 18, 3), (73, .aload_n 0, 1), (74, .getfield 35, 3), (77, .ifCond .ne 7, 3), (80, .iconst 1, 1), (81, .goto 4, 3), (84, .iconst 0, 1), (85, .ireturn, 1)]
theorem t_R_read : DT cX5_read b_R_read := DT.of (by decide +kernel)
def L_R_read_38 : Nat → Int → Mm → Option (Mm)
  | 0, _, _ => none
  | n + 1, x2, σ =>
    if 24 < x2 then
      some σ
    else
      if σ 90 7 = 0 then
        some σ
      else
        if σ 90 3 = 0 then
          b0M (F_R_readClause  σ) fun s12 =>
          if r32 (x2 + 1) then
            L_R_read_38 n (x2 + 1) s12
          else none
        else
          some σ
set_option maxRecDepth 100000 in
set_option maxHeartbeats 4000000 in
theorem l_R_read_38 {X : Cx} (h : CX X 0 cX5_read 3 13 (some .boolean) RX5)   {res : Mm} (hex : ∀  (σ : Mm) (hz : some σ = some res)  (ok : okM σ), SW X 0 3 68 [some (.ref (xad X 90)), none, none] [] σ) : ∀ (n : Nat) (x2 : Int) (σ : Mm) (hx2 : r32 x2) (ok : okM σ) (hf : L_R_read_38 n x2 σ = some res), SW X 0 3 38 [some (.ref (xad X 90)), none, some (.int (i32 x2))] [] σ := by
  intro n
  induction n with
  | zero => intro x2 σ hx2 ok hf; exact absurd hf (by simp [L_R_read_38])
  | succ n ih =>
    intro x2 σ hx2 ok hf
    rw [L_R_read_38] at hf
    refine SW_iload_n h rfl (dt t_R_read 22 rfl) ?_
    refine SW_bipush h (dt t_R_read 23 rfl) (by decide) ?_
    refine SW_icmp_gt (tgt := 68) h (fun _ => hx2) (fun _ => (by decide)) (dt t_R_read 24 rfl) rfl hf (fun hf => ?_) (fun hf => ?_)
    · exact SW_fgt [true, false, false] rfl (hex σ hf ok)
    · refine SW_aload_n h rfl (dt t_R_read 25 rfl) ?_
      refine gI h cf5 o90 f5_7 lX5_47 (dt t_R_read 26 rfl) ?_
      refine SW_if_eq (tgt := 68) h (fun _ => (okI ok 90 7 (IsO.n3 o90))) (dt t_R_read 27 rfl) rfl hf (fun hf => ?_) (fun hf => ?_)
      · exact SW_fgt [true, false, false] rfl (hex σ hf ok)
      · refine SW_aload_n h rfl (dt t_R_read 28 rfl) ?_
        refine gI h cf5 o90 f5_3 lX5_35 (dt t_R_read 29 rfl) ?_
        refine SW_if_ne (tgt := 68) h (fun _ => (okI ok 90 3 (IsO.n3 o90))) (dt t_R_read 30 rfl) rfl hf (fun hf => ?_) (fun hf => ?_)
        · refine SW_aload_n h rfl (dt t_R_read 31 rfl) ?_
          obtain ⟨s12, e12, hf⟩ := b0M_of hf
          refine cVv h [] [] v_X5_readClause kX5_50 o90 (c_R_readClause  e12) rfl rfl (by decide) (by decide) rfl (Nat.le_of_ble_eq_true rfl) (dt t_R_read 32 rfl) (fun h12 => ?_)
          refine SW_ok (fun ok12 => ?_)
          refine SW_iinc (lv2 := [some (.ref (xad X 90)), none, some (.int (i32 (x2 + 1)))]) h (dt t_R_read 33 rfl) rfl (by decide) rfl ?_
          refine SW_goto (tgt := 38) h (dt t_R_read 34 rfl) rfl ?_
          refine SW_chk hf (fun h13 hf => ?_)
          exact SW_fgt [true, false, true] rfl (ih (x2 + 1) s12 h13 ok12 hf)
        · exact SW_fgt [true, false, false] rfl (hex σ hf ok)
def F_R_read (r1 : Nat) (σ : Mm) : Option (Int × Mm) :=
  bindM (st2 σ 90 15 (((r1 : Nat) : Int))) fun s1 =>
  if 0 ≤ s1 90 15 ∧ IsO 0 9 (s1 90 15).toNat then
    b0M (F_T_clear ((s1 90 15).toNat) s1) fun s3 =>
    bindM (st2 s3 90 2 1) fun s4 =>
    bindM (st2 s4 90 3 0) fun s6 =>
    bindM (st2 s6 90 4 ((-1))) fun s8 =>
    bindM (st2 s8 90 5 0) fun s10 =>
    b0M (F_R_step  s10) fun s11 =>
    b0M (L_R_read_38 LF 0 s11) fun s14 =>
    bindM (st2 s14 90 1 0) fun s16 =>
    if s16 90 3 = 0 then
      some (1, s16)
    else
      some (0, s16)
  else none
set_option maxRecDepth 100000 in
set_option maxHeartbeats 4000000 in
theorem c_R_read (r1 : Nat) (q1 : IsO 0 9 r1) {σ : Mm} {a : Int} {σ2 : Mm} (hf : F_R_read r1 σ = some (a, σ2)) : CT yX5_read cX5_read 3 (some .boolean) 13 0 (fun ad => [.ref (ad 90), .ref (ad r1)]) σ (a = 0 ∨ a = 1) (some (.int (i32 a))) σ2 := by
  refine MetJ 1 (by decide +kernel) rfl (fun _ => Nat.le_of_ble_eq_true rfl) ?_
  intro X h hR ok
  obtain ⟨res, er⟩ : ∃ z, z = (a, σ2) := ⟨_, rfl⟩
  have hret : ∀ y : Int × Mm, some y = some res → RX X 0 (y.1 = 0 ∨ y.1 = 1) (some (.int (i32 (y.1)))) y.2 := fun y e => by cases e; cases er; exact hR
  rw [← er] at hf
  clear er hR
  unfold F_R_read at hf
  show SW X 0 3 0 [some (.ref (xad X 90)), some (.ref (xad X r1)), none] [] σ
  refine SW_aload_n h rfl (dt t_R_read 0 rfl) ?_
  refine SW_aload_n h rfl (dt t_R_read 1 rfl) ?_
  refine pD h cf5 o90 f5_15 (lt_of_isO q1) lX5_22 (dt t_R_read 2 rfl) (SW_bm hf (fun s1 ok1 hf => ?_))
  refine SW_aload_n h rfl (dt t_R_read 3 rfl) ?_
  refine gD h cf5 o90 f5_15 lX5_22 (dt t_R_read 4 rfl) ?_
  refine SW_isO hf (fun h2 hf => ?_)
  obtain ⟨s3, e3, hf⟩ := b0M_of hf
  refine cVv h [] [] v_X9_clear kX5_26 h2 (c_T_clear ((s1 90 15).toNat) h2 e3) rfl rfl (by decide) (by decide) rfl (Nat.le_of_ble_eq_true rfl) (dt t_R_read 5 rfl) (fun h3 => ?_)
  refine SW_ok (fun ok3 => ?_)
  refine SW_aload_n h rfl (dt t_R_read 6 rfl) ?_
  refine SW_iconst h (dt t_R_read 7 rfl) ?_
  refine pZ h cf5 o90 f5_2 (by decide) lX5_31 (dt t_R_read 8 rfl) (SW_bm hf (fun s4 ok4 hf => ?_))
  refine SW_aload_n h rfl (dt t_R_read 9 rfl) ?_
  refine SW_iconst h (dt t_R_read 10 rfl) ?_
  refine pI h cf5 o90 f5_3 (by decide) lX5_35 (dt t_R_read 11 rfl) (SW_bm hf (fun s6 ok6 hf => ?_))
  refine SW_aload_n h rfl (dt t_R_read 12 rfl) ?_
  refine SW_iconst h (dt t_R_read 13 rfl) ?_
  refine pI h cf5 o90 f5_4 (by decide) lX5_38 (dt t_R_read 14 rfl) (SW_bm hf (fun s8 ok8 hf => ?_))
  refine SW_aload_n h rfl (dt t_R_read 15 rfl) ?_
  refine SW_iconst h (dt t_R_read 16 rfl) ?_
  refine pI h cf5 o90 f5_5 (by decide) lX5_41 (dt t_R_read 17 rfl) (SW_bm hf (fun s10 ok10 hf => ?_))
  refine SW_aload_n h rfl (dt t_R_read 18 rfl) ?_
  obtain ⟨s11, e11, hf⟩ := b0M_of hf
  refine cVv h [] [] v_X5_step kX5_44 o90 (c_R_step  e11) rfl rfl (by decide) (by decide) rfl (Nat.le_of_ble_eq_true rfl) (dt t_R_read 19 rfl) (fun h11 => ?_)
  refine SW_ok (fun ok11 => ?_)
  refine SW_iconst h (dt t_R_read 20 rfl) ?_
  refine SW_istore_n (lv2 := [some (.ref (xad X 90)), some (.ref (xad X r1)), some (.int (i32 0))]) h (dt t_R_read 21 rfl) (by decide) rfl ?_
  obtain ⟨z14, e14, hk14⟩ := b0M_ex hf
  refine SW_fgt [true, false, true] rfl (l_R_read_38 h (fun s14 hz14 ok14 => ?_) LF 0 s11 (by decide) ok11 e14)
  have hf := hk14 s14 hz14
  refine SW_aload_n h rfl (dt t_R_read 35 rfl) ?_
  refine SW_iconst h (dt t_R_read 36 rfl) ?_
  refine pI h cf5 o90 f5_1 (by decide) lX5_18 (dt t_R_read 37 rfl) (SW_bm hf (fun s16 ok16 hf => ?_))
  refine SW_aload_n h rfl (dt t_R_read 38 rfl) ?_
  refine gI h cf5 o90 f5_3 lX5_35 (dt t_R_read 39 rfl) ?_
  refine SW_if_ne (tgt := 84) h (fun _ => (okI ok16 90 3 (IsO.n3 o90))) (dt t_R_read 40 rfl) rfl hf (fun hf => ?_) (fun hf => ?_)
  · refine SW_iconst h (dt t_R_read 41 rfl) ?_
    refine SW_goto (tgt := 85) h (dt t_R_read 42 rfl) rfl ?_
    exact SW_zret h (hret _ hf) (by decide) rfl (dt t_R_read 44 rfl)
  · refine SW_iconst h (dt t_R_read 43 rfl) ?_
    exact SW_zret h (hret _ hf) (by decide) rfl (dt t_R_read 44 rfl)
def b_A_text : List (Nat × Instr × Nat) := [(0, .aload_n 0, 1), (1, .getfield 142, 3), (4, .iconst 4, 1), (5, .if_icmp .lt 5, 3), (8, .iconst (-1), 1), (9, .ireturn, 1), (10, .aload_n 0, 1), (11, .getfield 26, 3), (14, .aload_n 0, 1), (15, .getfield 32, 3), (18, .aload_n 0, 1), (19, .getfield 142, 3), (22, .aaload, 1), (23, .invokevirtual 145, 3), (26, .ifCond .ne 5, 3), (29, .iconst (-1), 1), (30, .ireturn, 1), (31, .aload_n 0, 1), (32, .dup, 1), (33, .getfield 142, 3), (36, .iconst 1, 1), (37, .iadd, 1), (38, .putfield 142, 3), (41, .aload_n 0, 1), (42, .getfield 142, 3), (45, .iconst 1, 1), (46, .isub, 1), (47, .ireturn, 1)]
theorem t_A_text : DT cX10_text b_A_text := DT.of (by decide +kernel)
def F_A_text  (σ : Mm) : Option (Int × Mm) :=
  if σ 0 8 < 4 then
    if 0 ≤ σ 0 8 ∧ σ 0 8 < 4 then
      b1M (F_R_read (94 + (σ 0 8).toNat) σ) fun v2 s2 =>
      if v2 = 0 then
        some ((-1), s2)
      else
        if r32 ((s2 0 8) + 1) then
          bindM (st2 s2 0 8 ((s2 0 8) + 1)) fun s5 =>
          if r32 ((s5 0 8) - 1) then
            some ((s5 0 8) - 1, s5)
          else none
        else none
    else none
  else
    some ((-1), σ)
set_option maxRecDepth 100000 in
set_option maxHeartbeats 4000000 in
theorem c_A_text  {σ : Mm} {a : Int} {σ2 : Mm} (hf : F_A_text  σ = some (a, σ2)) : CT yX10_text cX10_text 1 (some .int) 14 0 (fun ad => [.ref (ad 0)]) σ (r32 a) (some (.int (i32 a))) σ2 := by
  refine MetJ 0 (by decide +kernel) rfl (fun _ => Nat.le_of_ble_eq_true rfl) ?_
  intro X h hR ok
  obtain ⟨res, er⟩ : ∃ z, z = (a, σ2) := ⟨_, rfl⟩
  have hret : ∀ y : Int × Mm, some y = some res → RX X 0 (r32 (y.1)) (some (.int (i32 (y.1)))) y.2 := fun y e => by cases e; cases er; exact hR
  rw [← er] at hf
  clear er hR
  unfold F_A_text at hf
  show SW X 0 1 0 [some (.ref (xad X 0))] [] σ
  refine SW_aload_n h rfl (dt t_A_text 0 rfl) ?_
  refine gI h cf10 o0 f10_8 lX10_142 (dt t_A_text 1 rfl) ?_
  refine SW_iconst h (dt t_A_text 2 rfl) ?_
  refine SW_icmp_lt (tgt := 10) h (fun _ => (okI ok 0 8 (IsO.n3 o0))) (fun _ => (by decide)) (dt t_A_text 3 rfl) rfl hf (fun hf => ?_) (fun hf => ?_)
  · refine SW_aload_n h rfl (dt t_A_text 6 rfl) ?_
    refine gR h cf10 o0 f10_2 j0_2 lX10_26 (dt t_A_text 7 rfl) ?_
    refine SW_aload_n h rfl (dt t_A_text 8 rfl) ?_
    refine gR h cf10 o0 f10_3 j0_3 lX10_32 (dt t_A_text 9 rfl) ?_
    refine SW_aload_n h rfl (dt t_A_text 10 rfl) ?_
    refine gI h cf10 o0 f10_8 lX10_142 (dt t_A_text 11 rfl) ?_
    refine aR h (by decide) a93 rfl (dt t_A_text 12 rfl) hf (fun h1 hf => ?_)
    obtain ⟨v2, s2, e2, hf⟩ := b1M_of hf
    refine cV h [.ref (xad X (94 + (σ 0 8).toNat))] [] v_X5_read kX10_145 o90 (c_R_read (94 + (σ 0 8).toNat) (mk_text h1) e2) rfl rfl (by decide) (by decide) rfl (Nat.le_of_ble_eq_true rfl) (dt t_A_text 13 rfl) (fun h2 => ?_)
    refine SW_ok (fun ok2 => ?_)
    refine SW_if_ne (tgt := 31) h (fun _ => (r_zo h2)) (dt t_A_text 14 rfl) rfl hf (fun hf => ?_) (fun hf => ?_)
    · refine SW_iconst h (dt t_A_text 15 rfl) ?_
      exact SW_iret h (hret _ hf) (fun _ => (by decide)) rfl (dt t_A_text 16 rfl)
    · refine SW_aload_n h rfl (dt t_A_text 17 rfl) ?_
      refine SW_dup h rfl (dt t_A_text 18 rfl) ?_
      refine gI h cf10 o0 f10_8 lX10_142 (dt t_A_text 19 rfl) ?_
      refine SW_iconst h (dt t_A_text 20 rfl) ?_
      refine SW_iadd h (dt t_A_text 21 rfl) ?_
      refine SW_chk hf (fun h4 hf => ?_)
      refine pI h cf10 o0 f10_8 h4 lX10_142 (dt t_A_text 22 rfl) (SW_bm hf (fun s5 ok5 hf => ?_))
      refine SW_aload_n h rfl (dt t_A_text 23 rfl) ?_
      refine gI h cf10 o0 f10_8 lX10_142 (dt t_A_text 24 rfl) ?_
      refine SW_iconst h (dt t_A_text 25 rfl) ?_
      refine SW_isub h (dt t_A_text 26 rfl) ?_
      refine SW_chk hf (fun h6 hf => ?_)
      exact SW_iret h (hret _ hf) (fun _ => h6) rfl (dt t_A_text 27 rfl)
  · refine SW_iconst h (dt t_A_text 4 rfl) ?_
    exact SW_iret h (hret _ hf) (fun _ => (by decide)) rfl (dt t_A_text 5 rfl)
def b_S_takeBack : List (Nat × Instr × Nat) := [(0, .aload_n 0, 1), (1, .getfield 26, 3), (4, .ifCond .ne 5, 3), (7, .iconst 0, 1), (8, .ireturn, 1), (9, .aload_n 0, 1), (10, .aload_n 0, 1), (11, .getfield 16, 3), (14, .bipush 30, 2), (16, .iadd, 1), (17, .iconst 1, 1), (18, .isub, 1), (19, .bipush 30, 2), (21, .irem, 1), (22, .putfield 16, 3), (25, .aload_n 0, 1), (26, .dup, 1), (27, .getfield 26, 3), (30, .iconst 1, 1), (31, .isub, 1), (32, .putfield 26, 3), (35, .aload_n 0, 1), (36, .getfield 11, 3), (39, .aload_n 0, 1), (40, .getfield 16, 3), (43, .aaload, 1), (44, .iconst 0, 1), (45, .aload_n 1, 1), (46, .iconst 0, 1), (47, .sipush 165, 3), (50, .invokestatic 20, 3), (53, .iconst 1, 1), (54, .ireturn, 1)]
theorem t_S_takeBack : DT cX8_takeBack b_S_takeBack := DT.of (by decide +kernel)
def F_S_takeBack (r0 : Nat) (σ : Mm) : Option (Int × Mm) :=
  if σ r0 2 = 0 then
    some (0, σ)
  else
    if r32 (((σ r0 1) + 30) - 1) then
      bindM (st2 σ r0 1 ((((σ r0 1) + 30) - 1).tmod 30)) fun s3 =>
      if r32 ((s3 r0 2) - 1) then
        bindM (st2 s3 r0 2 ((s3 r0 2) - 1)) fun s6 =>
        if 0 ≤ s6 r0 1 ∧ s6 r0 1 < 30 then
          bindM (stR s6 3 (cpyI (s6 ((r0 + 1) + 1 + (s6 r0 1).toNat)) (s6 3) 0 0 165)) fun s8 =>
          some (1, s8)
        else none
      else none
    else none
set_option maxRecDepth 100000 in
set_option maxHeartbeats 4000000 in
theorem c_S_takeBack (r0 : Nat) (q0 : IsO 0 8 r0) {σ : Mm} {a : Int} {σ2 : Mm} (hf : F_S_takeBack r0 σ = some (a, σ2)) : CT yX8_takeBack cX8_takeBack 2 (some .boolean) 3 0 (fun ad => [.ref (ad r0), .ref (ad 3)]) σ (a = 0 ∨ a = 1) (some (.int (i32 a))) σ2 := by
  refine MetJ 0 (by decide +kernel) rfl (fun _ => Nat.le_of_ble_eq_true rfl) ?_
  intro X h hR ok
  obtain ⟨res, er⟩ : ∃ z, z = (a, σ2) := ⟨_, rfl⟩
  have hret : ∀ y : Int × Mm, some y = some res → RX X 0 (y.1 = 0 ∨ y.1 = 1) (some (.int (i32 (y.1)))) y.2 := fun y e => by cases e; cases er; exact hR
  rw [← er] at hf
  clear er hR
  unfold F_S_takeBack at hf
  show SW X 0 2 0 [some (.ref (xad X r0)), some (.ref (xad X 3))] [] σ
  refine SW_aload_n h rfl (dt t_S_takeBack 0 rfl) ?_
  refine gI h cf8 q0 f8_2 lX8_26 (dt t_S_takeBack 1 rfl) ?_
  refine SW_if_ne (tgt := 9) h (fun _ => (okI ok r0 2 (IsO.n3 q0))) (dt t_S_takeBack 2 rfl) rfl hf (fun hf => ?_) (fun hf => ?_)
  · refine SW_iconst h (dt t_S_takeBack 3 rfl) ?_
    exact SW_zret h (hret _ hf) (by decide) rfl (dt t_S_takeBack 4 rfl)
  · refine SW_aload_n h rfl (dt t_S_takeBack 5 rfl) ?_
    refine SW_aload_n h rfl (dt t_S_takeBack 6 rfl) ?_
    refine gI h cf8 q0 f8_1 lX8_16 (dt t_S_takeBack 7 rfl) ?_
    refine SW_bipush h (dt t_S_takeBack 8 rfl) (by decide) ?_
    refine SW_iadd h (dt t_S_takeBack 9 rfl) ?_
    refine SW_iconst h (dt t_S_takeBack 10 rfl) ?_
    refine SW_isub h (dt t_S_takeBack 11 rfl) ?_
    refine SW_bipush h (dt t_S_takeBack 12 rfl) (by decide) ?_
    refine SW_chk hf (fun h1 hf => ?_)
    refine SW_irem h (fun _ => h1) (fun _ => (by decide)) (by decide) (dt t_S_takeBack 13 rfl) ?_
    refine pI h cf8 q0 f8_1 (r_tmod h1 (by decide)) lX8_16 (dt t_S_takeBack 14 rfl) (SW_bm hf (fun s3 ok3 hf => ?_))
    refine SW_aload_n h rfl (dt t_S_takeBack 15 rfl) ?_
    refine SW_dup h rfl (dt t_S_takeBack 16 rfl) ?_
    refine gI h cf8 q0 f8_2 lX8_26 (dt t_S_takeBack 17 rfl) ?_
    refine SW_iconst h (dt t_S_takeBack 18 rfl) ?_
    refine SW_isub h (dt t_S_takeBack 19 rfl) ?_
    refine SW_chk hf (fun h5 hf => ?_)
    refine pI h cf8 q0 f8_2 h5 lX8_26 (dt t_S_takeBack 20 rfl) (SW_bm hf (fun s6 ok6 hf => ?_))
    refine SW_aload_n h rfl (dt t_S_takeBack 21 rfl) ?_
    refine gR h cf8 q0 f8_0 (dy8_0 q0).1 lX8_11 (dt t_S_takeBack 22 rfl) ?_
    refine SW_aload_n h rfl (dt t_S_takeBack 23 rfl) ?_
    refine gI h cf8 q0 f8_1 lX8_16 (dt t_S_takeBack 24 rfl) ?_
    refine aR h (by decide) (dy8_0 q0).2 (dy_ah (dy8_0 q0).2) (dt t_S_takeBack 25 rfl) hf (fun h7 hf => ?_)
    refine SW_iconst h (dt t_S_takeBack 26 rfl) ?_
    refine SW_aload_n h rfl (dt t_S_takeBack 27 rfl) ?_
    refine SW_iconst h (dt t_S_takeBack 28 rfl) ?_
    refine SW_sipush h (dt t_S_takeBack 29 rfl) (by decide) ?_
    refine SW_copy h kX8_20 (mk_ah (dy8_0 q0).2 h7) a3 (by decide) (by decide) (by decide) (by decide) (by decide) (Nat.le_of_ble_eq_true rfl) (dt t_S_takeBack 30 rfl) (SW_bm hf (fun s8 ok8 hf => ?_))
    refine SW_iconst h (dt t_S_takeBack 31 rfl) ?_
    exact SW_zret h (hret _ hf) (by decide) rfl (dt t_S_takeBack 32 rfl)
def b_A_undo : List (Nat × Instr × Nat) := [(0, .aload_n 0, 1), (1, .getfield 19, 3), (4, .aload_n 0, 1), (5, .getfield 10, 3), (8, .getfield 106, 3), (11, .invokevirtual 188, 3), (14, .ifCond .eq 13, 3), (17, .aload_n 0, 1), (18, .getfield 19, 3), (21, .getfield 192, 3), (24, .goto 4, 3), (27, .iconst (-1), 1), (28, .ireturn, 1)]
theorem t_A_undo : DT cX10_undo b_A_undo := DT.of (by decide +kernel)
def F_A_undo  (σ : Mm) : Option (Int × Mm) :=
  b1M (F_S_takeBack 58 σ) fun v1 s1 =>
  if v1 = 0 then
    some ((-1), s1)
  else
    some (s1 58 2, s1)
set_option maxRecDepth 100000 in
set_option maxHeartbeats 4000000 in
theorem c_A_undo  {σ : Mm} {a : Int} {σ2 : Mm} (hf : F_A_undo  σ = some (a, σ2)) : CT yX10_undo cX10_undo 1 (some .int) 4 0 (fun ad => [.ref (ad 0)]) σ (r32 a) (some (.int (i32 a))) σ2 := by
  refine MetJ 0 (by decide +kernel) rfl (fun _ => Nat.le_of_ble_eq_true rfl) ?_
  intro X h hR ok
  obtain ⟨res, er⟩ : ∃ z, z = (a, σ2) := ⟨_, rfl⟩
  have hret : ∀ y : Int × Mm, some y = some res → RX X 0 (r32 (y.1)) (some (.int (i32 (y.1)))) y.2 := fun y e => by cases e; cases er; exact hR
  rw [← er] at hf
  clear er hR
  unfold F_A_undo at hf
  show SW X 0 1 0 [some (.ref (xad X 0))] [] σ
  refine SW_aload_n h rfl (dt t_A_undo 0 rfl) ?_
  refine gR h cf10 o0 f10_1 j0_1 lX10_19 (dt t_A_undo 1 rfl) ?_
  refine SW_aload_n h rfl (dt t_A_undo 2 rfl) ?_
  refine gR h cf10 o0 f10_0 j0_0 lX10_10 (dt t_A_undo 3 rfl) ?_
  refine gR h cf2 o1 f2_1 j1_1 lX10_106 (dt t_A_undo 4 rfl) ?_
  obtain ⟨v1, s1, e1, hf⟩ := b1M_of hf
  refine cV h [.ref (xad X 3)] [] v_X8_takeBack kX10_188 o58 (c_S_takeBack 58 o58 e1) rfl rfl (by decide) (by decide) rfl (Nat.le_of_ble_eq_true rfl) (dt t_A_undo 5 rfl) (fun h1 => ?_)
  refine SW_ok (fun ok1 => ?_)
  refine SW_if_eq (tgt := 27) h (fun _ => (r_zo h1)) (dt t_A_undo 6 rfl) rfl hf (fun hf => ?_) (fun hf => ?_)
  · refine SW_iconst h (dt t_A_undo 11 rfl) ?_
    exact SW_iret h (hret _ hf) (fun _ => (by decide)) rfl (dt t_A_undo 12 rfl)
  · refine SW_aload_n h rfl (dt t_A_undo 7 rfl) ?_
    refine gR h cf10 o0 f10_1 j0_1 lX10_19 (dt t_A_undo 8 rfl) ?_
    refine gI h cf8 o58 f8_2 lX10_192 (dt t_A_undo 9 rfl) ?_
    refine SW_goto (tgt := 28) h (dt t_A_undo 10 rfl) rfl ?_
    exact SW_iret h (hret _ hf) (fun _ => (okI ok1 58 2 (IsO.n3 o58))) rfl (dt t_A_undo 12 rfl)
def b_A_worth : List (Nat × Instr × Nat) := [(0, .iload_n 1, 1), (1, .invokestatic 299, 3), (4, .ifCond .eq 14, 3), (7, .aload_n 0, 1), (8, .getfield 62, 3), (11, .iload_n 1, 1), (12, .invokevirtual 305, 3), (15, .goto 5, 3), (18, .ldc 105, 2), (20, .ireturn, 1)]
theorem t_A_worth : DT cX10_worth b_A_worth := DT.of (by decide +kernel)
def F_A_worth (x1 : Int) (σ : Mm) : Option (Int × Mm) :=
  b1 (F_A_isBank x1) fun v1 =>
  if v1 = 0 then
    some ((-1000000), σ)
  else
    b1M (F_B_worthOf x1 σ) fun v2 s2 =>
    some (v2, s2)
set_option maxRecDepth 100000 in
set_option maxHeartbeats 4000000 in
theorem c_A_worth (x1 : Int) (hx1 : r32 x1) {σ : Mm} {a : Int} {σ2 : Mm} (hf : F_A_worth x1 σ = some (a, σ2)) : CT yX10_worth cX10_worth 2 (some .int) 9 0 (fun ad => [.ref (ad 0), .int (i32 x1)]) σ (r32 a) (some (.int (i32 a))) σ2 := by
  refine MetJ 0 (by decide +kernel) rfl (fun _ => Nat.le_of_ble_eq_true rfl) ?_
  intro X h hR ok
  obtain ⟨res, er⟩ : ∃ z, z = (a, σ2) := ⟨_, rfl⟩
  have hret : ∀ y : Int × Mm, some y = some res → RX X 0 (r32 (y.1)) (some (.int (i32 (y.1)))) y.2 := fun y e => by cases e; cases er; exact hR
  rw [← er] at hf
  clear er hR
  unfold F_A_worth at hf
  show SW X 0 2 0 [some (.ref (xad X 0)), some (.int (i32 x1))] [] σ
  refine SW_iload_n h rfl (dt t_A_worth 0 rfl) ?_
  obtain ⟨v1, e1, hf⟩ := b1_of hf
  refine cS h [.int (i32 x1)] [] v_X10_isBank kX10_299 (c_A_isBank x1 hx1 e1) rfl rfl (by decide) (by decide) rfl (Nat.le_of_ble_eq_true rfl) (dt t_A_worth 1 rfl) (fun h1 => ?_)
  refine SW_if_eq (tgt := 18) h (fun _ => (r_zo h1)) (dt t_A_worth 2 rfl) rfl hf (fun hf => ?_) (fun hf => ?_)
  · refine SW_ldc (n := -1000000) h nX10_105 (by decide) (dt t_A_worth 8 rfl) ?_
    exact SW_iret h (hret _ hf) (fun _ => (by decide)) rfl (dt t_A_worth 9 rfl)
  · refine SW_aload_n h rfl (dt t_A_worth 3 rfl) ?_
    refine gR h cf10 o0 f10_6 j0_6 lX10_62 (dt t_A_worth 4 rfl) ?_
    refine SW_iload_n h rfl (dt t_A_worth 5 rfl) ?_
    obtain ⟨v2, s2, e2, hf⟩ := b1M_of hf
    refine cV h [.int (i32 x1)] [] v_X0_worthOf kX10_305 o129 (c_B_worthOf x1 hx1 e2) rfl rfl (by decide) (by decide) rfl (Nat.le_of_ble_eq_true rfl) (dt t_A_worth 6 rfl) (fun h2 => ?_)
    refine SW_ok (fun ok2 => ?_)
    refine SW_goto (tgt := 20) h (dt t_A_worth 7 rfl) rfl ?_
    exact SW_iret h (hret _ hf) (fun _ => h2) rfl (dt t_A_worth 9 rfl)
def b_H_draw : List (Nat × Instr × Nat) := [(0, .iload_n 1, 1), (1, .iconst 1, 1), (2, .if_icmp .ge 7, 3), (5, .iconst 0, 1), (6, .goto 12, 3), (9, .aload_n 0, 1), (10, .getfield 22, 3), (13, .bipush 42, 2), (15, .iaload, 1), (16, .iload_n 1, 1), (17, .irem, 1), (18, .istore_n 2, 1), (19, .aload_n 0, 1), (20, .getfield 22, 3), (23, .bipush 42, 2), (25, .aload_n 0, 1), (26, .getfield 22, 3), (29, .bipush 42, 2), (31, .iaload, 1), (32, .sipush 257, 3), (35, .imul, 1), (36, .sipush 151, 3), (39, .iadd, 1), (40, .sipush 30241, 3), (43, .irem, 1), (44, .iastore, 1), (45, .iload_n 2, 1), (46, .ireturn, 1)]
theorem t_H_draw : DT cX2_draw b_H_draw := DT.of (by decide +kernel)
def F_H_draw (x1 : Int) (σ : Mm) : Option (Int × Mm) :=
  bindM (fun (y1 : Int) =>
    if r32 (((σ 3 42) * 257) + 151) then
      bindM (st2 σ 3 42 ((((σ 3 42) * 257) + 151).tmod 30241)) fun s3 =>
      some (y1, s3)
    else none) fun J1 =>
  if 1 ≤ x1 then
    if ¬ x1 = 0 then
      if r32 ((σ 3 42).tmod x1) then
        J1 ((σ 3 42).tmod x1)
      else none
    else none
  else
    J1 0
set_option maxRecDepth 100000 in
set_option maxHeartbeats 4000000 in
theorem c_H_draw (x1 : Int) (hx1 : r32 x1) {σ : Mm} {a : Int} {σ2 : Mm} (hf : F_H_draw x1 σ = some (a, σ2)) : CT yX2_draw cX2_draw 3 (some .int) 0 0 (fun ad => [.ref (ad 1), .int (i32 x1)]) σ (r32 a) (some (.int (i32 a))) σ2 := by
  refine MetJ 1 (by decide +kernel) rfl (fun _ => Nat.le_of_ble_eq_true rfl) ?_
  intro X h hR ok
  obtain ⟨res, er⟩ : ∃ z, z = (a, σ2) := ⟨_, rfl⟩
  have hret : ∀ y : Int × Mm, some y = some res → RX X 0 (r32 (y.1)) (some (.int (i32 (y.1)))) y.2 := fun y e => by cases e; cases er; exact hR
  rw [← er] at hf
  clear er hR
  unfold F_H_draw at hf
  show SW X 0 3 0 [some (.ref (xad X 1)), some (.int (i32 x1)), none] [] σ
  refine SW_iload_n h rfl (dt t_H_draw 0 rfl) ?_
  refine SW_iconst h (dt t_H_draw 1 rfl) ?_
  refine bJ hf (fun J1 e1 hf => ?_)
  have k1 : ∀ (y1 : Int) (hy1 : r32 y1) (hf : J1 y1 = some res), SW X 0 3 18 [some (.ref (xad X 1)), none, none] [.int (i32 y1)] σ := by
    intro y1 hy1 hf
    rw [e1] at hf
    refine SW_istore_n (lv2 := [some (.ref (xad X 1)), none, some (.int (i32 y1))]) h (dt t_H_draw 11 rfl) (by decide) rfl ?_
    refine SW_aload_n h rfl (dt t_H_draw 12 rfl) ?_
    refine gR h cf2 o1 f2_1 j1_1 lX2_22 (dt t_H_draw 13 rfl) ?_
    refine SW_bipush h (dt t_H_draw 14 rfl) (by decide) ?_
    refine SW_aload_n h rfl (dt t_H_draw 15 rfl) ?_
    refine gR h cf2 o1 f2_1 j1_1 lX2_22 (dt t_H_draw 16 rfl) ?_
    refine SW_bipush h (dt t_H_draw 17 rfl) (by decide) ?_
    refine aIk h a3 (by decide) (dt t_H_draw 18 rfl) ?_
    refine SW_sipush h (dt t_H_draw 19 rfl) (by decide) ?_
    refine SW_imul h (dt t_H_draw 20 rfl) ?_
    refine SW_sipush h (dt t_H_draw 21 rfl) (by decide) ?_
    refine SW_iadd h (dt t_H_draw 22 rfl) ?_
    refine SW_sipush h (dt t_H_draw 23 rfl) (by decide) ?_
    refine SW_chk hf (fun h2 hf => ?_)
    refine SW_irem h (fun _ => h2) (fun _ => (by decide)) (by decide) (dt t_H_draw 24 rfl) ?_
    refine sIk h a3 (by decide) (r_tmod h2 (by decide)) (dt t_H_draw 25 rfl) (SW_bm hf (fun s3 ok3 hf => ?_))
    refine SW_iload_n h rfl (dt t_H_draw 26 rfl) ?_
    exact SW_iret h (hret _ hf) (fun _ => hy1) rfl (dt t_H_draw 27 rfl)
  refine SW_icmp_ge (tgt := 9) h (fun _ => hx1) (fun _ => (by decide)) (dt t_H_draw 2 rfl) rfl hf (fun hf => ?_) (fun hf => ?_)
  · refine SW_aload_n h rfl (dt t_H_draw 5 rfl) ?_
    refine gR h cf2 o1 f2_1 j1_1 lX2_22 (dt t_H_draw 6 rfl) ?_
    refine SW_bipush h (dt t_H_draw 7 rfl) (by decide) ?_
    refine aIk h a3 (by decide) (dt t_H_draw 8 rfl) ?_
    refine SW_iload_n h rfl (dt t_H_draw 9 rfl) ?_
    refine SW_chk hf (fun h4 hf => ?_)
    refine SW_irem h (fun _ => (okI ok 3 42 (IsA.n3 a3 (by decide)))) (fun _ => hx1) h4 (dt t_H_draw 10 rfl) ?_
    refine SW_chk hf (fun h5 hf => ?_)
    exact SW_fgt [true, false, false] rfl (k1 ((σ 3 42).tmod x1) h5 hf)
  · refine SW_iconst h (dt t_H_draw 3 rfl) ?_
    refine SW_goto (tgt := 18) h (dt t_H_draw 4 rfl) rfl ?_
    exact SW_fgt [true, false, false] rfl (k1 0 (by decide) hf)
def b_H_happen : List (Nat × Instr × Nat) := [(0, .aload_n 0, 1), (1, .bipush 6, 2), (3, .invokevirtual 88, 3), (6, .istore_n 1, 1), (7, .iload_n 1, 1), (8, .ifCond .ne 24, 3), (11, .aload_n 0, 1), (12, .bipush 10, 2), (14, .invokevirtual 88, 3), (17, .istore_n 2, 1), (18, .aload_n 0, 1), (19, .iload_n 2, 1), (20, .aload_n 0, 1), (21, .bipush 10, 2), (23, .invokevirtual 88, 3), (26, .invokevirtual 91, 3), (29, .pop, 1), (30, .iconst 0, 1), (31, .ireturn, 1), (32, .iload_n 1, 1), (33, .iconst 1, 1), (34, .if_icmp .ne 26, 3), (37, .aload_n 0, 1), (38, .bipush 10, 2), (40, .invokevirtual 88, 3), (43, .istore_n 2, 1), (44, .aload_n 0, 1), (45, .getfield 22, 3), (48, .iconst 0, 1), (49, .iload_n 2, 1), (50, .iadd, 1), (51, .aload_n 0, 1), (52, .bipush 10, 2), (54, .invokevirtual 88, 3), (57, .iastore, 1), (58, .iconst 0, 1), (59, .ireturn, 1), (60, .iload_n 1, 1), (61, .iconst 2, 1), (62, .if_icmp .ne 44, 3), (65, .aload_n 0, 1), (66, .getfield 33, 3), (69, .ifCond .ne 5, 3), (72, .iconst 0, 1), (73, .ireturn, 1), (74, .aload_n 0, 1), (75, .aload_n 0, 1), (76, .getfield 33, 3), (79, .invokevirtual 88, 3), (82, .istore_n 2, 1), (83, .aload_n 0, 1), (84, .iload_n 2, 1), (85, .invokevirtual 81, 3), (88, .aload_n 0, 1), (89, .getfield 25, 3), (92, .iload_n 2, 1), (93, .aaload, 1), (94, .getfield 43, 3), (97, .if_icmp .ne 7, 3), (100, .iconst 0, 1), (101, .goto 4, 3), (104, .iconst 1, 1), (105, .ireturn, 1), (106, .aload_n 0, 1), (107, .getfield 22, 3), (110, .bipush 40, 2), (112, .iaload, 1), (113, .sipush 999, 3), (116, .if_icmp .lt 7, 3), (119, .iconst 0, 1), (120, .goto 10, 3), (123, .aload_n 0, 1), (124, .invokevirtual 95, 3), (127, .invokestatic 99, 3), (130, .ireturn, 1)]
theorem t_H_happen : DT cX2_happen b_H_happen := DT.of (by decide +kernel)
def F_H_happen  (σ : Mm) : Option (Int × Mm) :=
  b1M (F_H_draw 6 σ) fun v1 s1 =>
  if v1 = 0 then
    b1M (F_H_draw 10 s1) fun v2 s2 =>
    b1M (F_H_draw 10 s2) fun v3 s3 =>
    b1M (F_H_turnTerms v2 v3 s3) fun v4 s4 =>
    some (0, s4)
  else
    if v1 = 1 then
      b1M (F_H_draw 10 s1) fun v5 s5 =>
      b1M (F_H_draw 10 s5) fun v6 s6 =>
      if 0 ≤ 0 + v5 ∧ 0 + v5 < 165 then
        bindM (st2 s6 3 ((0 + v5).toNat) v6) fun s7 =>
        some (0, s7)
      else none
    else
      if v1 = 2 then
        if s1 1 4 = 0 then
          some (0, s1)
        else
          b1M (F_H_draw (s1 1 4) s1) fun v8 s8 =>
          b1M (F_H_reckonRow v8 s8) fun v9 s9 =>
          if 0 ≤ v8 ∧ v8 < 12 then
            if v9 = s9 (10 + v8.toNat) 6 then
              some (0, s9)
            else
              some (1, s9)
          else none
      else
        if s1 3 40 < 999 then
          b1M (F_H_passDay  s1) fun v11 s11 =>
          b1 (F_K_bitCount v11) fun v12 =>
          some (v12, s11)
        else
          some (0, s1)
set_option maxRecDepth 100000 in
set_option maxHeartbeats 4000000 in
theorem c_H_happen  {σ : Mm} {a : Int} {σ2 : Mm} (hf : F_H_happen  σ = some (a, σ2)) : CT yX2_happen cX2_happen 3 (some .int) 8 0 (fun ad => [.ref (ad 1)]) σ (r32 a) (some (.int (i32 a))) σ2 := by
  refine MetJ 2 (by decide +kernel) rfl (fun _ => Nat.le_of_ble_eq_true rfl) ?_
  intro X h hR ok
  obtain ⟨res, er⟩ : ∃ z, z = (a, σ2) := ⟨_, rfl⟩
  have hret : ∀ y : Int × Mm, some y = some res → RX X 0 (r32 (y.1)) (some (.int (i32 (y.1)))) y.2 := fun y e => by cases e; cases er; exact hR
  rw [← er] at hf
  clear er hR
  unfold F_H_happen at hf
  show SW X 0 3 0 [some (.ref (xad X 1)), none, none] [] σ
  refine SW_aload_n h rfl (dt t_H_happen 0 rfl) ?_
  refine SW_bipush h (dt t_H_happen 1 rfl) (by decide) ?_
  obtain ⟨v1, s1, e1, hf⟩ := b1M_of hf
  refine cV h [.int (i32 6)] [] v_X2_draw kX2_88 o1 (c_H_draw 6 (by decide) e1) rfl rfl (by decide) (by decide) rfl (Nat.le_of_ble_eq_true rfl) (dt t_H_happen 2 rfl) (fun h1 => ?_)
  refine SW_ok (fun ok1 => ?_)
  refine SW_istore_n (lv2 := [some (.ref (xad X 1)), some (.int (i32 v1)), none]) h (dt t_H_happen 3 rfl) (by decide) rfl ?_
  refine SW_iload_n h rfl (dt t_H_happen 4 rfl) ?_
  refine SW_if_ne (tgt := 32) h (fun _ => h1) (dt t_H_happen 5 rfl) rfl hf (fun hf => ?_) (fun hf => ?_)
  · refine SW_aload_n h rfl (dt t_H_happen 6 rfl) ?_
    refine SW_bipush h (dt t_H_happen 7 rfl) (by decide) ?_
    obtain ⟨v2, s2, e2, hf⟩ := b1M_of hf
    refine cV h [.int (i32 10)] [] v_X2_draw kX2_88 o1 (c_H_draw 10 (by decide) e2) rfl rfl (by decide) (by decide) rfl (Nat.le_of_ble_eq_true rfl) (dt t_H_happen 8 rfl) (fun h2 => ?_)
    refine SW_ok (fun ok2 => ?_)
    refine SW_istore_n (lv2 := [some (.ref (xad X 1)), some (.int (i32 v1)), some (.int (i32 v2))]) h (dt t_H_happen 9 rfl) (by decide) rfl ?_
    refine SW_aload_n h rfl (dt t_H_happen 10 rfl) ?_
    refine SW_iload_n h rfl (dt t_H_happen 11 rfl) ?_
    refine SW_aload_n h rfl (dt t_H_happen 12 rfl) ?_
    refine SW_bipush h (dt t_H_happen 13 rfl) (by decide) ?_
    obtain ⟨v3, s3, e3, hf⟩ := b1M_of hf
    refine cV h [.int (i32 10)] [.int (i32 v2), .ref (xad X 1)] v_X2_draw kX2_88 o1 (c_H_draw 10 (by decide) e3) rfl rfl (by decide) (by decide) rfl (Nat.le_of_ble_eq_true rfl) (dt t_H_happen 14 rfl) (fun h3 => ?_)
    refine SW_ok (fun ok3 => ?_)
    obtain ⟨v4, s4, e4, hf⟩ := b1M_of hf
    refine cV h [.int (i32 v2), .int (i32 v3)] [] v_X2_turnTerms kX2_91 o1 (c_H_turnTerms v2 h2 v3 h3 e4) rfl rfl (by decide) (by decide) rfl (Nat.le_of_ble_eq_true rfl) (dt t_H_happen 15 rfl) (fun h4 => ?_)
    refine SW_ok (fun ok4 => ?_)
    refine SW_pop h rfl (dt t_H_happen 16 rfl) ?_
    refine SW_iconst h (dt t_H_happen 17 rfl) ?_
    exact SW_iret h (hret _ hf) (fun _ => (by decide)) rfl (dt t_H_happen 18 rfl)
  · refine SW_iload_n h rfl (dt t_H_happen 19 rfl) ?_
    refine SW_iconst h (dt t_H_happen 20 rfl) ?_
    refine SW_icmp_ne (tgt := 60) h (fun _ => h1) (fun _ => (by decide)) (dt t_H_happen 21 rfl) rfl hf (fun hf => ?_) (fun hf => ?_)
    · refine SW_aload_n h rfl (dt t_H_happen 22 rfl) ?_
      refine SW_bipush h (dt t_H_happen 23 rfl) (by decide) ?_
      obtain ⟨v5, s5, e5, hf⟩ := b1M_of hf
      refine cV h [.int (i32 10)] [] v_X2_draw kX2_88 o1 (c_H_draw 10 (by decide) e5) rfl rfl (by decide) (by decide) rfl (Nat.le_of_ble_eq_true rfl) (dt t_H_happen 24 rfl) (fun h5 => ?_)
      refine SW_ok (fun ok5 => ?_)
      refine SW_istore_n (lv2 := [some (.ref (xad X 1)), some (.int (i32 v1)), some (.int (i32 v5))]) h (dt t_H_happen 25 rfl) (by decide) rfl ?_
      refine SW_aload_n h rfl (dt t_H_happen 26 rfl) ?_
      refine gR h cf2 o1 f2_1 j1_1 lX2_22 (dt t_H_happen 27 rfl) ?_
      refine SW_iconst h (dt t_H_happen 28 rfl) ?_
      refine SW_iload_n h rfl (dt t_H_happen 29 rfl) ?_
      refine SW_iadd h (dt t_H_happen 30 rfl) ?_
      refine SW_aload_n h rfl (dt t_H_happen 31 rfl) ?_
      refine SW_bipush h (dt t_H_happen 32 rfl) (by decide) ?_
      obtain ⟨v6, s6, e6, hf⟩ := b1M_of hf
      refine cV h [.int (i32 10)] [.int (i32 (0 + v5)), .ref (xad X 3)] v_X2_draw kX2_88 o1 (c_H_draw 10 (by decide) e6) rfl rfl (by decide) (by decide) rfl (Nat.le_of_ble_eq_true rfl) (dt t_H_happen 33 rfl) (fun h6 => ?_)
      refine SW_ok (fun ok6 => ?_)
      refine sI h a3 h6 (dt t_H_happen 34 rfl) hf (fun hf => SW_bm hf (fun s7 ok7 hf => ?_))
      refine SW_iconst h (dt t_H_happen 35 rfl) ?_
      exact SW_iret h (hret _ hf) (fun _ => (by decide)) rfl (dt t_H_happen 36 rfl)
    · refine SW_iload_n h rfl (dt t_H_happen 37 rfl) ?_
      refine SW_iconst h (dt t_H_happen 38 rfl) ?_
      refine SW_icmp_ne (tgt := 106) h (fun _ => h1) (fun _ => (by decide)) (dt t_H_happen 39 rfl) rfl hf (fun hf => ?_) (fun hf => ?_)
      · refine SW_aload_n h rfl (dt t_H_happen 40 rfl) ?_
        refine gI h cf2 o1 f2_4 lX2_33 (dt t_H_happen 41 rfl) ?_
        refine SW_if_ne (tgt := 74) h (fun _ => (okI ok1 1 4 (IsO.n3 o1))) (dt t_H_happen 42 rfl) rfl hf (fun hf => ?_) (fun hf => ?_)
        · refine SW_iconst h (dt t_H_happen 43 rfl) ?_
          exact SW_iret h (hret _ hf) (fun _ => (by decide)) rfl (dt t_H_happen 44 rfl)
        · refine SW_aload_n h rfl (dt t_H_happen 45 rfl) ?_
          refine SW_aload_n h rfl (dt t_H_happen 46 rfl) ?_
          refine gI h cf2 o1 f2_4 lX2_33 (dt t_H_happen 47 rfl) ?_
          obtain ⟨v8, s8, e8, hf⟩ := b1M_of hf
          refine cV h [.int (i32 (s1 1 4))] [] v_X2_draw kX2_88 o1 (c_H_draw (s1 1 4) (okI ok1 1 4 (IsO.n3 o1)) e8) rfl rfl (by decide) (by decide) rfl (Nat.le_of_ble_eq_true rfl) (dt t_H_happen 48 rfl) (fun h8 => ?_)
          refine SW_ok (fun ok8 => ?_)
          refine SW_istore_n (lv2 := [some (.ref (xad X 1)), some (.int (i32 v1)), some (.int (i32 v8))]) h (dt t_H_happen 49 rfl) (by decide) rfl ?_
          refine SW_aload_n h rfl (dt t_H_happen 50 rfl) ?_
          refine SW_iload_n h rfl (dt t_H_happen 51 rfl) ?_
          obtain ⟨v9, s9, e9, hf⟩ := b1M_of hf
          refine cV h [.int (i32 v8)] [] v_X2_reckonRow kX2_81 o1 (c_H_reckonRow v8 h8 e9) rfl rfl (by decide) (by decide) rfl (Nat.le_of_ble_eq_true rfl) (dt t_H_happen 52 rfl) (fun h9 => ?_)
          refine SW_ok (fun ok9 => ?_)
          refine SW_aload_n h rfl (dt t_H_happen 53 rfl) ?_
          refine gR h cf2 o1 f2_2 j1_2 lX2_25 (dt t_H_happen 54 rfl) ?_
          refine SW_iload_n h rfl (dt t_H_happen 55 rfl) ?_
          refine aR h (by decide) a8 rfl (dt t_H_happen 56 rfl) hf (fun h10 hf => ?_)
          refine gI h cf6 (mk_row h10) f6_6 lX2_43 (dt t_H_happen 57 rfl) ?_
          refine SW_icmp_ne (tgt := 104) h (fun _ => h9) (fun _ => (okI ok9 (10 + v8.toNat) 6 (IsO.n3 (mk_row h10)))) (dt t_H_happen 58 rfl) rfl hf (fun hf => ?_) (fun hf => ?_)
          · refine SW_iconst h (dt t_H_happen 59 rfl) ?_
            refine SW_goto (tgt := 105) h (dt t_H_happen 60 rfl) rfl ?_
            exact SW_iret h (hret _ hf) (fun _ => (by decide)) rfl (dt t_H_happen 62 rfl)
          · refine SW_iconst h (dt t_H_happen 61 rfl) ?_
            exact SW_iret h (hret _ hf) (fun _ => (by decide)) rfl (dt t_H_happen 62 rfl)
      · refine SW_aload_n h rfl (dt t_H_happen 63 rfl) ?_
        refine gR h cf2 o1 f2_1 j1_1 lX2_22 (dt t_H_happen 64 rfl) ?_
        refine SW_bipush h (dt t_H_happen 65 rfl) (by decide) ?_
        refine aIk h a3 (by decide) (dt t_H_happen 66 rfl) ?_
        refine SW_sipush h (dt t_H_happen 67 rfl) (by decide) ?_
        refine SW_icmp_lt (tgt := 123) h (fun _ => (okI ok1 3 40 (IsA.n3 a3 (by decide)))) (fun _ => (by decide)) (dt t_H_happen 68 rfl) rfl hf (fun hf => ?_) (fun hf => ?_)
        · refine SW_aload_n h rfl (dt t_H_happen 71 rfl) ?_
          obtain ⟨v11, s11, e11, hf⟩ := b1M_of hf
          refine cV h [] [] v_X2_passDay kX2_95 o1 (c_H_passDay  e11) rfl rfl (by decide) (by decide) rfl (Nat.le_of_ble_eq_true rfl) (dt t_H_happen 72 rfl) (fun h11 => ?_)
          refine SW_ok (fun ok11 => ?_)
          obtain ⟨v12, e12, hf⟩ := b1_of hf
          refine cS h [.int (i32 v11)] [] v_J6_bitCount_0f7a4 kX2_99 (c_K_bitCount v11 h11 e12) rfl rfl (by decide) (by decide) rfl (Nat.le_of_ble_eq_true rfl) (dt t_H_happen 73 rfl) (fun h12 => ?_)
          exact SW_iret h (hret _ hf) (fun _ => h12) rfl (dt t_H_happen 74 rfl)
        · refine SW_iconst h (dt t_H_happen 69 rfl) ?_
          refine SW_goto (tgt := 130) h (dt t_H_happen 70 rfl) rfl ?_
          exact SW_iret h (hret _ hf) (fun _ => (by decide)) rfl (dt t_H_happen 74 rfl)
def b_A_year : List (Nat × Instr × Nat) := [(0, .iload_n 1, 1), (1, .ifCond .lt 21, 3), (4, .iload_n 1, 1), (5, .sipush 9999, 3), (8, .if_icmp .gt 14, 3), (11, .iload_n 2, 1), (12, .iconst 1, 1), (13, .if_icmp .lt 9, 3), (16, .iload_n 2, 1), (17, .bipush 30, 2), (19, .if_icmp .le 5, 3), (22, .iconst (-1), 1), (23, .ireturn, 1), (24, .aload_n 0, 1), (25, .getfield 19, 3), (28, .aload_n 0, 1), (29, .getfield 10, 3), (32, .getfield 106, 3), (35, .invokevirtual 110, 3), (38, .aload_n 0, 1), (39, .getfield 10, 3), (42, .getfield 106, 3), (45, .bipush 42, 2), (47, .iload_n 1, 1), (48, .iconst 3, 1), (49, .imul, 1), (50, .bipush 53, 2), (52, .iadd, 1), (53, .iastore, 1), (54, .iconst 0, 1), (55, .istore_n 3, 1), (56, .iconst 0, 1), (57, .istore 4, 2), (59, .iload 4, 2), (61, .iload_n 2, 1), (62, .if_icmp .ge 19, 3), (65, .iload_n 3, 1), (66, .aload_n 0, 1), (67, .getfield 10, 3), (70, .invokevirtual 132, 3), (73, .iadd, 1), (74, .istore_n 3, 1), (75, .iinc 4 1, 3), (78, .goto (-19), 3), (81, .iload_n 3, 1), (82, .ireturn, 1)]
theorem t_A_year : DT cX10_year b_A_year := DT.of (by decide +kernel)
def L_A_year_59 : Nat → Int → Int → Int → Mm → Option (Int × Mm)
  | 0, _, _, _, _ => none
  | n + 1, x2, x3, x4, σ =>
    if x2 ≤ x4 then
      some ((x3, σ))
    else
      b1M (F_H_happen  σ) fun v4 s4 =>
      if r32 (x3 + v4) then
        if r32 (x4 + 1) then
          L_A_year_59 n x2 (x3 + v4) (x4 + 1) s4
        else none
      else none
set_option maxRecDepth 100000 in
set_option maxHeartbeats 4000000 in
theorem l_A_year_59 {X : Cx} (h : CX X 0 cX10_year 5 9 (some .int) RX10) (x2 : Int) (hx2 : r32 x2) {res : Int × Mm} (hex : ∀ (x3 : Int) (σ : Mm) (hz : some ((x3, σ)) = some res) (hx3 : r32 x3) (ok : okM σ), SW X 0 5 81 [none, none, none, some (.int (i32 x3)), none] [] σ) : ∀ (n : Nat) (x3 : Int) (x4 : Int) (σ : Mm) (hx3 : r32 x3) (hx4 : r32 x4) (ok : okM σ) (hf : L_A_year_59 n x2 x3 x4 σ = some res), SW X 0 5 59 [some (.ref (xad X 0)), none, some (.int (i32 x2)), some (.int (i32 x3)), some (.int (i32 x4))] [] σ := by
  intro n
  induction n with
  | zero => intro x3 x4 σ hx3 hx4 ok hf; exact absurd hf (by simp [L_A_year_59])
  | succ n ih =>
    intro x3 x4 σ hx3 hx4 ok hf
    rw [L_A_year_59] at hf
    refine SW_iload h rfl (dt t_A_year 33 rfl) ?_
    refine SW_iload_n h rfl (dt t_A_year 34 rfl) ?_
    refine SW_icmp_ge (tgt := 81) h (fun _ => hx4) (fun _ => hx2) (dt t_A_year 35 rfl) rfl hf (fun hf => ?_) (fun hf => ?_)
    · exact SW_fgt [false, false, false, true, false] rfl (hex x3 σ hf hx3 ok)
    · refine SW_iload_n h rfl (dt t_A_year 36 rfl) ?_
      refine SW_aload_n h rfl (dt t_A_year 37 rfl) ?_
      refine gR h cf10 o0 f10_0 j0_0 lX10_10 (dt t_A_year 38 rfl) ?_
      obtain ⟨v4, s4, e4, hf⟩ := b1M_of hf
      refine cV h [] [.int (i32 x3)] v_X2_happen kX10_132 o1 (c_H_happen  e4) rfl rfl (by decide) (by decide) rfl (Nat.le_of_ble_eq_true rfl) (dt t_A_year 39 rfl) (fun h4 => ?_)
      refine SW_ok (fun ok4 => ?_)
      refine SW_iadd h (dt t_A_year 40 rfl) ?_
      refine SW_istore_n (lv2 := [some (.ref (xad X 0)), none, some (.int (i32 x2)), some (.int (i32 (x3 + v4))), some (.int (i32 x4))]) h (dt t_A_year 41 rfl) (by decide) rfl ?_
      refine SW_iinc (lv2 := [some (.ref (xad X 0)), none, some (.int (i32 x2)), some (.int (i32 (x3 + v4))), some (.int (i32 (x4 + 1)))]) h (dt t_A_year 42 rfl) rfl (by decide) rfl ?_
      refine SW_goto (tgt := 59) h (dt t_A_year 43 rfl) rfl ?_
      refine SW_chk hf (fun h5 hf => ?_)
      refine SW_chk hf (fun h6 hf => ?_)
      exact SW_fgt [true, false, true, true, true] rfl (ih (x3 + v4) (x4 + 1) s4 h5 h6 ok4 hf)
def F_A_year (x1 : Int) (x2 : Int) (σ : Mm) : Option (Int × Mm) :=
  if x1 < 0 then
    some ((-1), σ)
  else
    if 9999 < x1 then
      some ((-1), σ)
    else
      if x2 < 1 then
        some ((-1), σ)
      else
        if x2 ≤ 30 then
          b0M (F_S_keep 58 σ) fun s1 =>
          if r32 ((x1 * 3) + 53) then
            bindM (st2 s1 3 42 ((x1 * 3) + 53)) fun s3 =>
            b1M (L_A_year_59 LF x2 0 0 s3) fun x3_7 s7 =>
            some (x3_7, s7)
          else none
        else
          some ((-1), σ)
set_option maxRecDepth 100000 in
set_option maxHeartbeats 4000000 in
theorem c_A_year (x1 : Int) (hx1 : r32 x1) (x2 : Int) (hx2 : r32 x2) {σ : Mm} {a : Int} {σ2 : Mm} (hf : F_A_year x1 x2 σ = some (a, σ2)) : CT yX10_year cX10_year 5 (some .int) 9 0 (fun ad => [.ref (ad 0), .int (i32 x1), .int (i32 x2)]) σ (r32 a) (some (.int (i32 a))) σ2 := by
  refine MetJ 2 (by decide +kernel) rfl (fun _ => Nat.le_of_ble_eq_true rfl) ?_
  intro X h hR ok
  obtain ⟨res, er⟩ : ∃ z, z = (a, σ2) := ⟨_, rfl⟩
  have hret : ∀ y : Int × Mm, some y = some res → RX X 0 (r32 (y.1)) (some (.int (i32 (y.1)))) y.2 := fun y e => by cases e; cases er; exact hR
  rw [← er] at hf
  clear er hR
  unfold F_A_year at hf
  show SW X 0 5 0 [some (.ref (xad X 0)), some (.int (i32 x1)), some (.int (i32 x2)), none, none] [] σ
  refine SW_iload_n h rfl (dt t_A_year 0 rfl) ?_
  refine SW_if_lt (tgt := 22) h (fun _ => hx1) (dt t_A_year 1 rfl) rfl hf (fun hf => ?_) (fun hf => ?_)
  · refine SW_iconst h (dt t_A_year 11 rfl) ?_
    exact SW_iret h (hret _ hf) (fun _ => (by decide)) rfl (dt t_A_year 12 rfl)
  · refine SW_iload_n h rfl (dt t_A_year 2 rfl) ?_
    refine SW_sipush h (dt t_A_year 3 rfl) (by decide) ?_
    refine SW_icmp_gt (tgt := 22) h (fun _ => hx1) (fun _ => (by decide)) (dt t_A_year 4 rfl) rfl hf (fun hf => ?_) (fun hf => ?_)
    · refine SW_iconst h (dt t_A_year 11 rfl) ?_
      exact SW_iret h (hret _ hf) (fun _ => (by decide)) rfl (dt t_A_year 12 rfl)
    · refine SW_iload_n h rfl (dt t_A_year 5 rfl) ?_
      refine SW_iconst h (dt t_A_year 6 rfl) ?_
      refine SW_icmp_lt (tgt := 22) h (fun _ => hx2) (fun _ => (by decide)) (dt t_A_year 7 rfl) rfl hf (fun hf => ?_) (fun hf => ?_)
      · refine SW_iconst h (dt t_A_year 11 rfl) ?_
        exact SW_iret h (hret _ hf) (fun _ => (by decide)) rfl (dt t_A_year 12 rfl)
      · refine SW_iload_n h rfl (dt t_A_year 8 rfl) ?_
        refine SW_bipush h (dt t_A_year 9 rfl) (by decide) ?_
        refine SW_icmp_le (tgt := 24) h (fun _ => hx2) (fun _ => (by decide)) (dt t_A_year 10 rfl) rfl hf (fun hf => ?_) (fun hf => ?_)
        · refine SW_aload_n h rfl (dt t_A_year 13 rfl) ?_
          refine gR h cf10 o0 f10_1 j0_1 lX10_19 (dt t_A_year 14 rfl) ?_
          refine SW_aload_n h rfl (dt t_A_year 15 rfl) ?_
          refine gR h cf10 o0 f10_0 j0_0 lX10_10 (dt t_A_year 16 rfl) ?_
          refine gR h cf2 o1 f2_1 j1_1 lX10_106 (dt t_A_year 17 rfl) ?_
          obtain ⟨s1, e1, hf⟩ := b0M_of hf
          refine cVv h [.ref (xad X 3)] [] v_X8_keep kX10_110 o58 (c_S_keep 58 o58 e1) rfl rfl (by decide) (by decide) rfl (Nat.le_of_ble_eq_true rfl) (dt t_A_year 18 rfl) (fun h1 => ?_)
          refine SW_ok (fun ok1 => ?_)
          refine SW_aload_n h rfl (dt t_A_year 19 rfl) ?_
          refine gR h cf10 o0 f10_0 j0_0 lX10_10 (dt t_A_year 20 rfl) ?_
          refine gR h cf2 o1 f2_1 j1_1 lX10_106 (dt t_A_year 21 rfl) ?_
          refine SW_bipush h (dt t_A_year 22 rfl) (by decide) ?_
          refine SW_iload_n h rfl (dt t_A_year 23 rfl) ?_
          refine SW_iconst h (dt t_A_year 24 rfl) ?_
          refine SW_imul h (dt t_A_year 25 rfl) ?_
          refine SW_bipush h (dt t_A_year 26 rfl) (by decide) ?_
          refine SW_iadd h (dt t_A_year 27 rfl) ?_
          refine SW_chk hf (fun h2 hf => ?_)
          refine sIk h a3 (by decide) h2 (dt t_A_year 28 rfl) (SW_bm hf (fun s3 ok3 hf => ?_))
          refine SW_iconst h (dt t_A_year 29 rfl) ?_
          refine SW_istore_n (lv2 := [some (.ref (xad X 0)), some (.int (i32 x1)), some (.int (i32 x2)), some (.int (i32 0)), none]) h (dt t_A_year 30 rfl) (by decide) rfl ?_
          refine SW_iconst h (dt t_A_year 31 rfl) ?_
          refine SW_istore (lv2 := [some (.ref (xad X 0)), some (.int (i32 x1)), some (.int (i32 x2)), some (.int (i32 0)), some (.int (i32 0))]) h (dt t_A_year 32 rfl) (by decide) rfl ?_
          obtain ⟨z7, e7, hk7⟩ := b1M_ex hf
          refine SW_fgt [true, false, true, true, true] rfl (l_A_year_59 h x2 hx2 (fun x3_7 s7 hz7 hx3_7 ok7 => ?_) LF 0 0 s3 (by decide) (by decide) ok3 e7)
          have hf := hk7 x3_7 s7 hz7
          refine SW_iload_n h rfl (dt t_A_year 44 rfl) ?_
          exact SW_iret h (hret _ hf) (fun _ => hx3_7) rfl (dt t_A_year 45 rfl)
        · refine SW_iconst h (dt t_A_year 11 rfl) ?_
          exact SW_iret h (hret _ hf) (fun _ => (by decide)) rfl (dt t_A_year 12 rfl)
def b_M_about : List (Nat × Instr × Nat) := [(0, .iload_n 1, 1), (1, .tableswitch 118 0 8 #[51, 58, 67, 76, 85, 92, 99, 106, 113], 51), (52, .aload_n 0, 1), (53, .getfield 7, 3), (56, .iconst 0, 1), (57, .iaload, 1), (58, .ireturn, 1), (59, .aload_n 0, 1), (60, .getfield 7, 3), (63, .sipush 180, 3), (66, .iaload, 1), (67, .ireturn, 1), (68, .aload_n 0, 1), (69, .getfield 7, 3), (72, .sipush 181, 3), (75, .iaload, 1), (76, .ireturn, 1), (77, .aload_n 0, 1), (78, .getfield 7, 3), (81, .sipush 182, 3), (84, .iaload, 1), (85, .ireturn, 1), (86, .aload_n 0, 1), (87, .getfield 7, 3), (90, .iconst 1, 1), (91, .iaload, 1), (92, .ireturn, 1), (93, .aload_n 0, 1), (94, .getfield 7, 3), (97, .iconst 2, 1), (98, .iaload, 1), (99, .ireturn, 1), (100, .aload_n 0, 1), (101, .getfield 7, 3), (104, .iconst 3, 1), (105, .iaload, 1), (106, .ireturn, 1), (107, .aload_n 0, 1), (108, .getfield 7, 3), (111, .iconst 4, 1), (112, .iaload, 1), (113, .ireturn, 1), (114, .aload_n 0, 1), (115, .getfield 164, 3), (118, .ireturn, 1), (119, .bipush (-2), 2), (121, .ireturn, 1)]
theorem t_M_about : DT cX11_about b_M_about := DT.of (by decide +kernel)
def F_M_about (x1 : Int) (σ : Mm) : Option (Int) :=
  if x1 = 0 then
    some (σ 201 0)
  else
    if x1 = 1 then
      some (σ 201 180)
    else
      if x1 = 2 then
        some (σ 201 181)
      else
        if x1 = 3 then
          some (σ 201 182)
        else
          if x1 = 4 then
            some (σ 201 1)
          else
            if x1 = 5 then
              some (σ 201 2)
            else
              if x1 = 6 then
                some (σ 201 3)
              else
                if x1 = 7 then
                  some (σ 201 4)
                else
                  if x1 = 8 then
                    some (σ 200 3)
                  else
                    some ((-2))
set_option maxRecDepth 100000 in
set_option maxHeartbeats 4000000 in
theorem c_M_about (x1 : Int) (hx1 : r32 x1) {σ : Mm} {a : Int} (hf : F_M_about x1 σ = some a) : CT yX11_about cX11_about 2 (some .int) 0 1 (fun ad => [.ref (ad 200), .int (i32 x1)]) σ (r32 a) (some (.int (i32 a))) σ := by
  refine MetJ 0 (by decide +kernel) rfl (fun _ => Nat.le_of_ble_eq_true rfl) ?_
  intro X h hR ok
  obtain ⟨res, er⟩ : ∃ z, z = a := ⟨_, rfl⟩
  have hret : ∀ y : Int, some y = some res → RX X 1 (r32 (y)) (some (.int (i32 (y)))) σ := fun y e => by cases e; cases er; exact hR
  rw [← er] at hf
  clear er hR
  unfold F_M_about at hf
  show SW X 1 2 0 [some (.ref (xad X 200)), some (.int (i32 x1))] [] σ
  refine SW_iload_n h rfl (dt t_M_about 0 rfl) ?_
  refine SW_ite hf (fun h1 hf => ?_) (fun h1 hf => ?_)
  · refine SW_tabIn (tgt := 52) h 0 (fun _ => hx1) (dt t_M_about 1 rfl) (h1.trans rfl) (by decide) rfl rfl ?_
    refine SW_aload_n h rfl (dt t_M_about 2 rfl) ?_
    refine gR h cf11 o200 f11_0 j200_0 lX11_7 (dt t_M_about 3 rfl) ?_
    refine SW_iconst h (dt t_M_about 4 rfl) ?_
    refine aIk h a201 (by decide) (dt t_M_about 5 rfl) ?_
    exact SW_iret h (hret _ hf) (fun _ => (okI ok 201 0 (IsA.n3 a201 (by decide)))) rfl (dt t_M_about 6 rfl)
  · refine SW_ite hf (fun h2 hf => ?_) (fun h2 hf => ?_)
    · refine SW_tabIn (tgt := 59) h 1 (fun _ => hx1) (dt t_M_about 1 rfl) (h2.trans rfl) (by decide) rfl rfl ?_
      refine SW_aload_n h rfl (dt t_M_about 7 rfl) ?_
      refine gR h cf11 o200 f11_0 j200_0 lX11_7 (dt t_M_about 8 rfl) ?_
      refine SW_sipush h (dt t_M_about 9 rfl) (by decide) ?_
      refine aIk h a201 (by decide) (dt t_M_about 10 rfl) ?_
      exact SW_iret h (hret _ hf) (fun _ => (okI ok 201 180 (IsA.n3 a201 (by decide)))) rfl (dt t_M_about 11 rfl)
    · refine SW_ite hf (fun h3 hf => ?_) (fun h3 hf => ?_)
      · refine SW_tabIn (tgt := 68) h 2 (fun _ => hx1) (dt t_M_about 1 rfl) (h3.trans rfl) (by decide) rfl rfl ?_
        refine SW_aload_n h rfl (dt t_M_about 12 rfl) ?_
        refine gR h cf11 o200 f11_0 j200_0 lX11_7 (dt t_M_about 13 rfl) ?_
        refine SW_sipush h (dt t_M_about 14 rfl) (by decide) ?_
        refine aIk h a201 (by decide) (dt t_M_about 15 rfl) ?_
        exact SW_iret h (hret _ hf) (fun _ => (okI ok 201 181 (IsA.n3 a201 (by decide)))) rfl (dt t_M_about 16 rfl)
      · refine SW_ite hf (fun h4 hf => ?_) (fun h4 hf => ?_)
        · refine SW_tabIn (tgt := 77) h 3 (fun _ => hx1) (dt t_M_about 1 rfl) (h4.trans rfl) (by decide) rfl rfl ?_
          refine SW_aload_n h rfl (dt t_M_about 17 rfl) ?_
          refine gR h cf11 o200 f11_0 j200_0 lX11_7 (dt t_M_about 18 rfl) ?_
          refine SW_sipush h (dt t_M_about 19 rfl) (by decide) ?_
          refine aIk h a201 (by decide) (dt t_M_about 20 rfl) ?_
          exact SW_iret h (hret _ hf) (fun _ => (okI ok 201 182 (IsA.n3 a201 (by decide)))) rfl (dt t_M_about 21 rfl)
        · refine SW_ite hf (fun h5 hf => ?_) (fun h5 hf => ?_)
          · refine SW_tabIn (tgt := 86) h 4 (fun _ => hx1) (dt t_M_about 1 rfl) (h5.trans rfl) (by decide) rfl rfl ?_
            refine SW_aload_n h rfl (dt t_M_about 22 rfl) ?_
            refine gR h cf11 o200 f11_0 j200_0 lX11_7 (dt t_M_about 23 rfl) ?_
            refine SW_iconst h (dt t_M_about 24 rfl) ?_
            refine aIk h a201 (by decide) (dt t_M_about 25 rfl) ?_
            exact SW_iret h (hret _ hf) (fun _ => (okI ok 201 1 (IsA.n3 a201 (by decide)))) rfl (dt t_M_about 26 rfl)
          · refine SW_ite hf (fun h6 hf => ?_) (fun h6 hf => ?_)
            · refine SW_tabIn (tgt := 93) h 5 (fun _ => hx1) (dt t_M_about 1 rfl) (h6.trans rfl) (by decide) rfl rfl ?_
              refine SW_aload_n h rfl (dt t_M_about 27 rfl) ?_
              refine gR h cf11 o200 f11_0 j200_0 lX11_7 (dt t_M_about 28 rfl) ?_
              refine SW_iconst h (dt t_M_about 29 rfl) ?_
              refine aIk h a201 (by decide) (dt t_M_about 30 rfl) ?_
              exact SW_iret h (hret _ hf) (fun _ => (okI ok 201 2 (IsA.n3 a201 (by decide)))) rfl (dt t_M_about 31 rfl)
            · refine SW_ite hf (fun h7 hf => ?_) (fun h7 hf => ?_)
              · refine SW_tabIn (tgt := 100) h 6 (fun _ => hx1) (dt t_M_about 1 rfl) (h7.trans rfl) (by decide) rfl rfl ?_
                refine SW_aload_n h rfl (dt t_M_about 32 rfl) ?_
                refine gR h cf11 o200 f11_0 j200_0 lX11_7 (dt t_M_about 33 rfl) ?_
                refine SW_iconst h (dt t_M_about 34 rfl) ?_
                refine aIk h a201 (by decide) (dt t_M_about 35 rfl) ?_
                exact SW_iret h (hret _ hf) (fun _ => (okI ok 201 3 (IsA.n3 a201 (by decide)))) rfl (dt t_M_about 36 rfl)
              · refine SW_ite hf (fun h8 hf => ?_) (fun h8 hf => ?_)
                · refine SW_tabIn (tgt := 107) h 7 (fun _ => hx1) (dt t_M_about 1 rfl) (h8.trans rfl) (by decide) rfl rfl ?_
                  refine SW_aload_n h rfl (dt t_M_about 37 rfl) ?_
                  refine gR h cf11 o200 f11_0 j200_0 lX11_7 (dt t_M_about 38 rfl) ?_
                  refine SW_iconst h (dt t_M_about 39 rfl) ?_
                  refine aIk h a201 (by decide) (dt t_M_about 40 rfl) ?_
                  exact SW_iret h (hret _ hf) (fun _ => (okI ok 201 4 (IsA.n3 a201 (by decide)))) rfl (dt t_M_about 41 rfl)
                · refine SW_ite hf (fun h9 hf => ?_) (fun h9 hf => ?_)
                  · refine SW_tabIn (tgt := 114) h 8 (fun _ => hx1) (dt t_M_about 1 rfl) (h9.trans rfl) (by decide) rfl rfl ?_
                    refine SW_aload_n h rfl (dt t_M_about 42 rfl) ?_
                    refine gI h cf11 o200 f11_3 lX11_164 (dt t_M_about 43 rfl) ?_
                    exact SW_iret h (hret _ hf) (fun _ => (okI ok 200 3 (IsO.n3 o200))) rfl (dt t_M_about 44 rfl)
                  · refine SW_tabOut (tgt := 119) h (fun _ => hx1) (dt t_M_about 1 rfl) (by omega) rfl ?_
                    refine SW_bipush h (dt t_M_about 45 rfl) (by decide) ?_
                    exact SW_iret h (hret _ hf) (fun _ => (by decide)) rfl (dt t_M_about 46 rfl)
def b_M_addsRow : List (Nat × Instr × Nat) := [(0, .aload_n 0, 1), (1, .getfield 7, 3), (4, .iconst 0, 1), (5, .iaload, 1), (6, .istore_n 1, 1), (7, .iload_n 1, 1), (8, .bipush 12, 2), (10, .if_icmp .ne 5, 3), (13, .iconst (-1), 1), (14, .ireturn, 1), (15, .aload_n 0, 1), (16, .getfield 7, 3), (19, .bipush 10, 2), (21, .iload_n 1, 1), (22, .iadd, 1), (23, .aload_n 0, 1), (24, .getfield 154, 3), (27, .iastore, 1), (28, .aload_n 0, 1), (29, .getfield 7, 3), (32, .bipush 70, 2), (34, .iload_n 1, 1), (35, .iadd, 1), (36, .aload_n 0, 1), (37, .getfield 157, 3), (40, .iastore, 1), (41, .iconst 0, 1), (42, .istore_n 2, 1), (43, .iload_n 2, 1), (44, .iconst 4, 1), (45, .if_icmp .ge 40, 3), (48, .aload_n 0, 1), (49, .getfield 7, 3), (52, .bipush 22, 2), (54, .iconst 4, 1), (55, .iload_n 1, 1), (56, .imul, 1), (57, .iadd, 1), (58, .iload_n 2, 1), (59, .iadd, 1), (60, .iload_n 2, 1), (61, .aload_n 0, 1), (62, .getfield 154, 3), (65, .if_icmp .ge 12, 3), (68, .aload_n 0, 1), (69, .getfield 103, 3), (72, .iload_n 2, 1), (73, .iaload, 1), (74, .goto 4, 3), (77, .iconst 0, 1), (78, .iastore, 1), (79, .iinc 2 1, 3), (82, .goto (-39), 3), (85, .aload_n 0, 1), (86, .getfield 7, 3), (89, .iconst 0, 1), (90, .dup2, 1), (91, .iaload, 1), (92, .iconst 1, 1), (93, .iadd, 1), (94, .iastore, 1), (95, .iload_n 1, 1), (96, .ireturn, 1)]
theorem t_M_addsRow : DT cX11_addsRow b_M_addsRow := DT.of (by decide +kernel)
def L_M_addsRow_43 : Nat → Int → Int → Mm → Option (Mm)
  | 0, _, _, _ => none
  | n + 1, x1, x2, σ =>
    if 4 ≤ x2 then
      some σ
    else
      bindM (fun (y3 : Int) =>
        if 0 ≤ (22 + (4 * x1)) + x2 ∧ (22 + (4 * x1)) + x2 < 5240 then
          bindM (st2 σ 201 (((22 + (4 * x1)) + x2).toNat) y3) fun s4 =>
          if r32 (x2 + 1) then
            L_M_addsRow_43 n x1 (x2 + 1) s4
          else none
        else none) fun J3 =>
      if σ 200 48 ≤ x2 then
        J3 0
      else
        if 0 ≤ x2 ∧ x2 < 4 then
          J3 (σ 229 x2.toNat)
        else none
set_option maxRecDepth 100000 in
set_option maxHeartbeats 4000000 in
theorem l_M_addsRow_43 {X : Cx} (h : CX X 1 cX11_addsRow 3 0 (some .int) RX11) (x1 : Int) (hx1 : r32 x1) {res : Mm} (hex : ∀  (σ : Mm) (hz : some σ = some res)  (ok : okM σ), SW X 1 3 85 [some (.ref (xad X 200)), some (.int (i32 x1)), none] [] σ) : ∀ (n : Nat) (x2 : Int) (σ : Mm) (hx2 : r32 x2) (ok : okM σ) (hf : L_M_addsRow_43 n x1 x2 σ = some res), SW X 1 3 43 [some (.ref (xad X 200)), some (.int (i32 x1)), some (.int (i32 x2))] [] σ := by
  intro n
  induction n with
  | zero => intro x2 σ hx2 ok hf; exact absurd hf (by simp [L_M_addsRow_43])
  | succ n ih =>
    intro x2 σ hx2 ok hf
    rw [L_M_addsRow_43] at hf
    refine SW_iload_n h rfl (dt t_M_addsRow 28 rfl) ?_
    refine SW_iconst h (dt t_M_addsRow 29 rfl) ?_
    refine SW_icmp_ge (tgt := 85) h (fun _ => hx2) (fun _ => (by decide)) (dt t_M_addsRow 30 rfl) rfl hf (fun hf => ?_) (fun hf => ?_)
    · exact SW_fgt [true, true, false] rfl (hex σ hf ok)
    · refine SW_aload_n h rfl (dt t_M_addsRow 31 rfl) ?_
      refine gR h cf11 o200 f11_0 j200_0 lX11_7 (dt t_M_addsRow 32 rfl) ?_
      refine SW_bipush h (dt t_M_addsRow 33 rfl) (by decide) ?_
      refine SW_iconst h (dt t_M_addsRow 34 rfl) ?_
      refine SW_iload_n h rfl (dt t_M_addsRow 35 rfl) ?_
      refine SW_imul h (dt t_M_addsRow 36 rfl) ?_
      refine SW_iadd h (dt t_M_addsRow 37 rfl) ?_
      refine SW_iload_n h rfl (dt t_M_addsRow 38 rfl) ?_
      refine SW_iadd h (dt t_M_addsRow 39 rfl) ?_
      refine SW_iload_n h rfl (dt t_M_addsRow 40 rfl) ?_
      refine SW_aload_n h rfl (dt t_M_addsRow 41 rfl) ?_
      refine gI h cf11 o200 f11_48 lX11_154 (dt t_M_addsRow 42 rfl) ?_
      refine bJ hf (fun J3 e3 hf => ?_)
      have k3 : ∀ (y3 : Int) (hy3 : r32 y3) (hf : J3 y3 = some res), SW X 1 3 78 [some (.ref (xad X 200)), some (.int (i32 x1)), some (.int (i32 x2))] [.int (i32 y3), .int (i32 ((22 + (4 * x1)) + x2)), .ref (xad X 201)] σ := by
        intro y3 hy3 hf
        rw [e3] at hf
        refine sI h a201 hy3 (dt t_M_addsRow 50 rfl) hf (fun hf => SW_bm hf (fun s4 ok4 hf => ?_))
        refine SW_iinc (lv2 := [some (.ref (xad X 200)), some (.int (i32 x1)), some (.int (i32 (x2 + 1)))]) h (dt t_M_addsRow 51 rfl) rfl (by decide) rfl ?_
        refine SW_goto (tgt := 43) h (dt t_M_addsRow 52 rfl) rfl ?_
        refine SW_chk hf (fun h5 hf => ?_)
        exact SW_fgt [true, true, true] rfl (ih (x2 + 1) s4 h5 ok4 hf)
      refine SW_icmp_ge (tgt := 77) h (fun _ => hx2) (fun _ => (okI ok 200 48 (IsO.n3 o200))) (dt t_M_addsRow 43 rfl) rfl hf (fun hf => ?_) (fun hf => ?_)
      · refine SW_iconst h (dt t_M_addsRow 49 rfl) ?_
        exact SW_fgt [true, true, true] rfl (k3 0 (by decide) hf)
      · refine SW_aload_n h rfl (dt t_M_addsRow 44 rfl) ?_
        refine gR h cf11 o200 f11_47 j200_47 lX11_103 (dt t_M_addsRow 45 rfl) ?_
        refine SW_iload_n h rfl (dt t_M_addsRow 46 rfl) ?_
        refine aI h a229 (dt t_M_addsRow 47 rfl) hf (fun hf => ?_)
        refine SW_goto (tgt := 78) h (dt t_M_addsRow 48 rfl) rfl ?_
        exact SW_fgt [true, true, true] rfl (k3 (σ 229 x2.toNat) (okI ok 229 x2.toNat (IsA.n3 a229 (by decide))) hf)
def F_M_addsRow  (σ : Mm) : Option (Int × Mm) :=
  if σ 201 0 = 12 then
    some ((-1), σ)
  else
    if 0 ≤ 10 + (σ 201 0) ∧ 10 + (σ 201 0) < 5240 then
      bindM (st2 σ 201 ((10 + (σ 201 0)).toNat) (σ 200 48)) fun s1 =>
      if 0 ≤ 70 + (σ 201 0) ∧ 70 + (σ 201 0) < 5240 then
        bindM (st2 s1 201 ((70 + (σ 201 0)).toNat) (s1 200 49)) fun s2 =>
        b0M (L_M_addsRow_43 LF (σ 201 0) 0 s2) fun s6 =>
        if r32 ((s6 201 0) + 1) then
          bindM (st2 s6 201 0 ((s6 201 0) + 1)) fun s8 =>
          some (σ 201 0, s8)
        else none
      else none
    else none
set_option maxRecDepth 100000 in
set_option maxHeartbeats 4000000 in
theorem c_M_addsRow  {σ : Mm} {a : Int} {σ2 : Mm} (hf : F_M_addsRow  σ = some (a, σ2)) : CT yX11_addsRow cX11_addsRow 3 (some .int) 0 1 (fun ad => [.ref (ad 200)]) σ (r32 a) (some (.int (i32 a))) σ2 := by
  refine MetJ 2 (by decide +kernel) rfl (fun _ => Nat.le_of_ble_eq_true rfl) ?_
  intro X h hR ok
  obtain ⟨res, er⟩ : ∃ z, z = (a, σ2) := ⟨_, rfl⟩
  have hret : ∀ y : Int × Mm, some y = some res → RX X 1 (r32 (y.1)) (some (.int (i32 (y.1)))) y.2 := fun y e => by cases e; cases er; exact hR
  rw [← er] at hf
  clear er hR
  unfold F_M_addsRow at hf
  show SW X 1 3 0 [some (.ref (xad X 200)), none, none] [] σ
  refine SW_aload_n h rfl (dt t_M_addsRow 0 rfl) ?_
  refine gR h cf11 o200 f11_0 j200_0 lX11_7 (dt t_M_addsRow 1 rfl) ?_
  refine SW_iconst h (dt t_M_addsRow 2 rfl) ?_
  refine aIk h a201 (by decide) (dt t_M_addsRow 3 rfl) ?_
  refine SW_istore_n (lv2 := [some (.ref (xad X 200)), some (.int (i32 (σ 201 0))), none]) h (dt t_M_addsRow 4 rfl) (by decide) rfl ?_
  refine SW_iload_n h rfl (dt t_M_addsRow 5 rfl) ?_
  refine SW_bipush h (dt t_M_addsRow 6 rfl) (by decide) ?_
  refine SW_icmp_ne (tgt := 15) h (fun _ => (okI ok 201 0 (IsA.n3 a201 (by decide)))) (fun _ => (by decide)) (dt t_M_addsRow 7 rfl) rfl hf (fun hf => ?_) (fun hf => ?_)
  · refine SW_iconst h (dt t_M_addsRow 8 rfl) ?_
    exact SW_iret h (hret _ hf) (fun _ => (by decide)) rfl (dt t_M_addsRow 9 rfl)
  · refine SW_aload_n h rfl (dt t_M_addsRow 10 rfl) ?_
    refine gR h cf11 o200 f11_0 j200_0 lX11_7 (dt t_M_addsRow 11 rfl) ?_
    refine SW_bipush h (dt t_M_addsRow 12 rfl) (by decide) ?_
    refine SW_iload_n h rfl (dt t_M_addsRow 13 rfl) ?_
    refine SW_iadd h (dt t_M_addsRow 14 rfl) ?_
    refine SW_aload_n h rfl (dt t_M_addsRow 15 rfl) ?_
    refine gI h cf11 o200 f11_48 lX11_154 (dt t_M_addsRow 16 rfl) ?_
    refine sI h a201 (okI ok 200 48 (IsO.n3 o200)) (dt t_M_addsRow 17 rfl) hf (fun hf => SW_bm hf (fun s1 ok1 hf => ?_))
    refine SW_aload_n h rfl (dt t_M_addsRow 18 rfl) ?_
    refine gR h cf11 o200 f11_0 j200_0 lX11_7 (dt t_M_addsRow 19 rfl) ?_
    refine SW_bipush h (dt t_M_addsRow 20 rfl) (by decide) ?_
    refine SW_iload_n h rfl (dt t_M_addsRow 21 rfl) ?_
    refine SW_iadd h (dt t_M_addsRow 22 rfl) ?_
    refine SW_aload_n h rfl (dt t_M_addsRow 23 rfl) ?_
    refine gI h cf11 o200 f11_49 lX11_157 (dt t_M_addsRow 24 rfl) ?_
    refine sI h a201 (okI ok1 200 49 (IsO.n3 o200)) (dt t_M_addsRow 25 rfl) hf (fun hf => SW_bm hf (fun s2 ok2 hf => ?_))
    refine SW_iconst h (dt t_M_addsRow 26 rfl) ?_
    refine SW_istore_n (lv2 := [some (.ref (xad X 200)), some (.int (i32 (σ 201 0))), some (.int (i32 0))]) h (dt t_M_addsRow 27 rfl) (by decide) rfl ?_
    obtain ⟨z6, e6, hk6⟩ := b0M_ex hf
    refine SW_fgt [true, true, true] rfl (l_M_addsRow_43 h (σ 201 0) (okI ok 201 0 (IsA.n3 a201 (by decide))) (fun s6 hz6 ok6 => ?_) LF 0 s2 (by decide) ok2 e6)
    have hf := hk6 s6 hz6
    refine SW_aload_n h rfl (dt t_M_addsRow 53 rfl) ?_
    refine gR h cf11 o200 f11_0 j200_0 lX11_7 (dt t_M_addsRow 54 rfl) ?_
    refine SW_iconst h (dt t_M_addsRow 55 rfl) ?_
    refine SW_dup2 h rfl rfl (dt t_M_addsRow 56 rfl) ?_
    refine aIk h a201 (by decide) (dt t_M_addsRow 57 rfl) ?_
    refine SW_iconst h (dt t_M_addsRow 58 rfl) ?_
    refine SW_iadd h (dt t_M_addsRow 59 rfl) ?_
    refine SW_chk hf (fun h7 hf => ?_)
    refine sIk h a201 (by decide) h7 (dt t_M_addsRow 60 rfl) (SW_bm hf (fun s8 ok8 hf => ?_))
    refine SW_iload_n h rfl (dt t_M_addsRow 61 rfl) ?_
    exact SW_iret h (hret _ hf) (fun _ => (okI ok 201 0 (IsA.n3 a201 (by decide)))) rfl (dt t_M_addsRow 62 rfl)
def b_M_laysNow : List (Nat × Instr × Nat) := [(0, .aload_n 0, 1), (1, .aload_n 0, 1), (2, .getfield 7, 3), (5, .sipush 180, 3), (8, .iaload, 1), (9, .putfield 379, 3), (12, .aload_n 0, 1), (13, .aload_n 0, 1), (14, .getfield 7, 3), (17, .sipush 181, 3), (20, .iaload, 1), (21, .putfield 382, 3), (24, .iconst 0, 1), (25, .istore_n 1, 1), (26, .iload_n 1, 1), (27, .bipush 10, 2), (29, .if_icmp .ge 73, 3), (32, .aload_n 0, 1), (33, .getfield 91, 3), (36, .iload_n 1, 1), (37, .aload_n 0, 1), (38, .getfield 7, 3), (41, .sipush 140, 3), (44, .iload_n 1, 1), (45, .iadd, 1), (46, .iaload, 1), (47, .iastore, 1), (48, .aload_n 0, 1), (49, .getfield 94, 3), (52, .iload_n 1, 1), (53, .aload_n 0, 1), (54, .getfield 7, 3), (57, .sipush 150, 3), (60, .iload_n 1, 1), (61, .iadd, 1), (62, .iaload, 1), (63, .iastore, 1), (64, .aload_n 0, 1), (65, .getfield 97, 3), (68, .iload_n 1, 1), (69, .aload_n 0, 1), (70, .getfield 7, 3), (73, .sipush 160, 3), (76, .iload_n 1, 1), (77, .iadd, 1), (78, .iaload, 1), (79, .iastore, 1), (80, .aload_n 0, 1), (81, .getfield 100, 3), (84, .iload_n 1, 1), (85, .aload_n 0, 1), (86, .getfield 7, 3), (89, .sipush 170, 3), (92, .iload_n 1, 1), (93, .iadd, 1), (94, .iaload, 1), (95, .iastore, 1), (96, .iinc 1 1, 3), (99, .goto (-73), 3), (102, .return_, 1)]
theorem t_M_laysNow : DT cX11_laysNow b_M_laysNow := DT.of (by decide +kernel)
def L_M_laysNow_26 : Nat → Int → Mm → Option (Mm)
  | 0, _, _ => none
  | n + 1, x1, σ =>
    if 10 ≤ x1 then
      some σ
    else
      if 0 ≤ 140 + x1 ∧ 140 + x1 < 5240 then
        if 0 ≤ x1 ∧ x1 < 10 then
          bindM (st2 σ 225 x1.toNat (σ 201 ((140 + x1).toNat))) fun s5 =>
          if 0 ≤ 150 + x1 ∧ 150 + x1 < 5240 then
            if 0 ≤ x1 ∧ x1 < 10 then
              bindM (st2 s5 226 x1.toNat (s5 201 ((150 + x1).toNat))) fun s6 =>
              if 0 ≤ 160 + x1 ∧ 160 + x1 < 5240 then
                if 0 ≤ x1 ∧ x1 < 10 then
                  bindM (st2 s6 227 x1.toNat (s6 201 ((160 + x1).toNat))) fun s7 =>
                  if 0 ≤ 170 + x1 ∧ 170 + x1 < 5240 then
                    if 0 ≤ x1 ∧ x1 < 10 then
                      bindM (st2 s7 228 x1.toNat (s7 201 ((170 + x1).toNat))) fun s8 =>
                      if r32 (x1 + 1) then
                        L_M_laysNow_26 n (x1 + 1) s8
                      else none
                    else none
                  else none
                else none
              else none
            else none
          else none
        else none
      else none
set_option maxRecDepth 100000 in
set_option maxHeartbeats 4000000 in
theorem l_M_laysNow_26 {X : Cx} (h : CX X 1 cX11_laysNow 2 0 none RX11)   {res : Mm} (hex : ∀  (σ : Mm) (hz : some σ = some res)  (ok : okM σ), SW X 1 2 102 [none, none] [] σ) : ∀ (n : Nat) (x1 : Int) (σ : Mm) (hx1 : r32 x1) (ok : okM σ) (hf : L_M_laysNow_26 n x1 σ = some res), SW X 1 2 26 [some (.ref (xad X 200)), some (.int (i32 x1))] [] σ := by
  intro n
  induction n with
  | zero => intro x1 σ hx1 ok hf; exact absurd hf (by simp [L_M_laysNow_26])
  | succ n ih =>
    intro x1 σ hx1 ok hf
    rw [L_M_laysNow_26] at hf
    refine SW_iload_n h rfl (dt t_M_laysNow 14 rfl) ?_
    refine SW_bipush h (dt t_M_laysNow 15 rfl) (by decide) ?_
    refine SW_icmp_ge (tgt := 102) h (fun _ => hx1) (fun _ => (by decide)) (dt t_M_laysNow 16 rfl) rfl hf (fun hf => ?_) (fun hf => ?_)
    · exact SW_fgt [false, false] rfl (hex σ hf ok)
    · refine SW_aload_n h rfl (dt t_M_laysNow 17 rfl) ?_
      refine gR h cf11 o200 f11_41 j200_41 lX11_91 (dt t_M_laysNow 18 rfl) ?_
      refine SW_iload_n h rfl (dt t_M_laysNow 19 rfl) ?_
      refine SW_aload_n h rfl (dt t_M_laysNow 20 rfl) ?_
      refine gR h cf11 o200 f11_0 j200_0 lX11_7 (dt t_M_laysNow 21 rfl) ?_
      refine SW_sipush h (dt t_M_laysNow 22 rfl) (by decide) ?_
      refine SW_iload_n h rfl (dt t_M_laysNow 23 rfl) ?_
      refine SW_iadd h (dt t_M_laysNow 24 rfl) ?_
      refine aI h a201 (dt t_M_laysNow 25 rfl) hf (fun hf => ?_)
      refine sI h a225 (okI ok 201 ((140 + x1).toNat) (IsA.n3 a201 (by decide))) (dt t_M_laysNow 26 rfl) hf (fun hf => SW_bm hf (fun s5 ok5 hf => ?_))
      refine SW_aload_n h rfl (dt t_M_laysNow 27 rfl) ?_
      refine gR h cf11 o200 f11_42 j200_42 lX11_94 (dt t_M_laysNow 28 rfl) ?_
      refine SW_iload_n h rfl (dt t_M_laysNow 29 rfl) ?_
      refine SW_aload_n h rfl (dt t_M_laysNow 30 rfl) ?_
      refine gR h cf11 o200 f11_0 j200_0 lX11_7 (dt t_M_laysNow 31 rfl) ?_
      refine SW_sipush h (dt t_M_laysNow 32 rfl) (by decide) ?_
      refine SW_iload_n h rfl (dt t_M_laysNow 33 rfl) ?_
      refine SW_iadd h (dt t_M_laysNow 34 rfl) ?_
      refine aI h a201 (dt t_M_laysNow 35 rfl) hf (fun hf => ?_)
      refine sI h a226 (okI ok5 201 ((150 + x1).toNat) (IsA.n3 a201 (by decide))) (dt t_M_laysNow 36 rfl) hf (fun hf => SW_bm hf (fun s6 ok6 hf => ?_))
      refine SW_aload_n h rfl (dt t_M_laysNow 37 rfl) ?_
      refine gR h cf11 o200 f11_43 j200_43 lX11_97 (dt t_M_laysNow 38 rfl) ?_
      refine SW_iload_n h rfl (dt t_M_laysNow 39 rfl) ?_
      refine SW_aload_n h rfl (dt t_M_laysNow 40 rfl) ?_
      refine gR h cf11 o200 f11_0 j200_0 lX11_7 (dt t_M_laysNow 41 rfl) ?_
      refine SW_sipush h (dt t_M_laysNow 42 rfl) (by decide) ?_
      refine SW_iload_n h rfl (dt t_M_laysNow 43 rfl) ?_
      refine SW_iadd h (dt t_M_laysNow 44 rfl) ?_
      refine aI h a201 (dt t_M_laysNow 45 rfl) hf (fun hf => ?_)
      refine sI h a227 (okI ok6 201 ((160 + x1).toNat) (IsA.n3 a201 (by decide))) (dt t_M_laysNow 46 rfl) hf (fun hf => SW_bm hf (fun s7 ok7 hf => ?_))
      refine SW_aload_n h rfl (dt t_M_laysNow 47 rfl) ?_
      refine gR h cf11 o200 f11_44 j200_44 lX11_100 (dt t_M_laysNow 48 rfl) ?_
      refine SW_iload_n h rfl (dt t_M_laysNow 49 rfl) ?_
      refine SW_aload_n h rfl (dt t_M_laysNow 50 rfl) ?_
      refine gR h cf11 o200 f11_0 j200_0 lX11_7 (dt t_M_laysNow 51 rfl) ?_
      refine SW_sipush h (dt t_M_laysNow 52 rfl) (by decide) ?_
      refine SW_iload_n h rfl (dt t_M_laysNow 53 rfl) ?_
      refine SW_iadd h (dt t_M_laysNow 54 rfl) ?_
      refine aI h a201 (dt t_M_laysNow 55 rfl) hf (fun hf => ?_)
      refine sI h a228 (okI ok7 201 ((170 + x1).toNat) (IsA.n3 a201 (by decide))) (dt t_M_laysNow 56 rfl) hf (fun hf => SW_bm hf (fun s8 ok8 hf => ?_))
      refine SW_iinc (lv2 := [some (.ref (xad X 200)), some (.int (i32 (x1 + 1)))]) h (dt t_M_laysNow 57 rfl) rfl (by decide) rfl ?_
      refine SW_goto (tgt := 26) h (dt t_M_laysNow 58 rfl) rfl ?_
      refine SW_chk hf (fun h9 hf => ?_)
      exact SW_fgt [true, true] rfl (ih (x1 + 1) s8 h9 ok8 hf)
def F_M_laysNow  (σ : Mm) : Option (Mm) :=
  bindM (st2 σ 200 45 (σ 201 180)) fun s2 =>
  bindM (st2 s2 200 46 (s2 201 181)) fun s4 =>
  b0M (L_M_laysNow_26 LF 0 s4) fun s10 =>
  some s10
set_option maxRecDepth 100000 in
set_option maxHeartbeats 4000000 in
theorem c_M_laysNow  {σ : Mm} {σ2 : Mm} (hf : F_M_laysNow  σ = some σ2) : CT yX11_laysNow cX11_laysNow 2 none 0 1 (fun ad => [.ref (ad 200)]) σ True none σ2 := by
  refine MetJ 1 (by decide +kernel) rfl (fun _ => Nat.le_of_ble_eq_true rfl) ?_
  intro X h hR ok
  obtain ⟨res, er⟩ : ∃ z, z = σ2 := ⟨_, rfl⟩
  have hret : ∀ y : Mm, some y = some res → RX X 1 True none y := fun y e => by cases e; cases er; exact hR
  rw [← er] at hf
  clear er hR
  unfold F_M_laysNow at hf
  show SW X 1 2 0 [some (.ref (xad X 200)), none] [] σ
  refine SW_aload_n h rfl (dt t_M_laysNow 0 rfl) ?_
  refine SW_aload_n h rfl (dt t_M_laysNow 1 rfl) ?_
  refine gR h cf11 o200 f11_0 j200_0 lX11_7 (dt t_M_laysNow 2 rfl) ?_
  refine SW_sipush h (dt t_M_laysNow 3 rfl) (by decide) ?_
  refine aIk h a201 (by decide) (dt t_M_laysNow 4 rfl) ?_
  refine pI h cf11 o200 f11_45 (okI ok 201 180 (IsA.n3 a201 (by decide))) lX11_379 (dt t_M_laysNow 5 rfl) (SW_bm hf (fun s2 ok2 hf => ?_))
  refine SW_aload_n h rfl (dt t_M_laysNow 6 rfl) ?_
  refine SW_aload_n h rfl (dt t_M_laysNow 7 rfl) ?_
  refine gR h cf11 o200 f11_0 j200_0 lX11_7 (dt t_M_laysNow 8 rfl) ?_
  refine SW_sipush h (dt t_M_laysNow 9 rfl) (by decide) ?_
  refine aIk h a201 (by decide) (dt t_M_laysNow 10 rfl) ?_
  refine pI h cf11 o200 f11_46 (okI ok2 201 181 (IsA.n3 a201 (by decide))) lX11_382 (dt t_M_laysNow 11 rfl) (SW_bm hf (fun s4 ok4 hf => ?_))
  refine SW_iconst h (dt t_M_laysNow 12 rfl) ?_
  refine SW_istore_n (lv2 := [some (.ref (xad X 200)), some (.int (i32 0))]) h (dt t_M_laysNow 13 rfl) (by decide) rfl ?_
  obtain ⟨z10, e10, hk10⟩ := b0M_ex hf
  refine SW_fgt [true, true] rfl (l_M_laysNow_26 h (fun s10 hz10 ok10 => ?_) LF 0 s4 (by decide) ok4 e10)
  have hf := hk10 s10 hz10
  exact SW_vret h (hret _ hf) rfl (dt t_M_laysNow 59 rfl)
def b_M_laysRow : List (Nat × Instr × Nat) := [(0, .aload_n 0, 1), (1, .aload_n 0, 1), (2, .getfield 7, 3), (5, .bipush 10, 2), (7, .iload_n 1, 1), (8, .iadd, 1), (9, .iaload, 1), (10, .putfield 154, 3), (13, .aload_n 0, 1), (14, .aload_n 0, 1), (15, .getfield 7, 3), (18, .bipush 70, 2), (20, .iload_n 1, 1), (21, .iadd, 1), (22, .iaload, 1), (23, .putfield 157, 3), (26, .iconst 0, 1), (27, .istore_n 2, 1), (28, .iload_n 2, 1), (29, .iconst 4, 1), (30, .if_icmp .ge 28, 3), (33, .aload_n 0, 1), (34, .getfield 103, 3), (37, .iload_n 2, 1), (38, .aload_n 0, 1), (39, .getfield 7, 3), (42, .bipush 22, 2), (44, .iconst 4, 1), (45, .iload_n 1, 1), (46, .imul, 1), (47, .iadd, 1), (48, .iload_n 2, 1), (49, .iadd, 1), (50, .iaload, 1), (51, .iastore, 1), (52, .iinc 2 1, 3), (55, .goto (-27), 3), (58, .return_, 1)]
theorem t_M_laysRow : DT cX11_laysRow b_M_laysRow := DT.of (by decide +kernel)
def L_M_laysRow_28 : Nat → Int → Int → Mm → Option (Mm)
  | 0, _, _, _ => none
  | n + 1, x1, x2, σ =>
    if 4 ≤ x2 then
      some σ
    else
      if 0 ≤ (22 + (4 * x1)) + x2 ∧ (22 + (4 * x1)) + x2 < 5240 then
        if 0 ≤ x2 ∧ x2 < 4 then
          bindM (st2 σ 229 x2.toNat (σ 201 (((22 + (4 * x1)) + x2).toNat))) fun s5 =>
          if r32 (x2 + 1) then
            L_M_laysRow_28 n x1 (x2 + 1) s5
          else none
        else none
      else none
set_option maxRecDepth 100000 in
set_option maxHeartbeats 4000000 in
theorem l_M_laysRow_28 {X : Cx} (h : CX X 1 cX11_laysRow 3 0 none RX11) (x1 : Int) (hx1 : r32 x1) {res : Mm} (hex : ∀  (σ : Mm) (hz : some σ = some res)  (ok : okM σ), SW X 1 3 58 [none, none, none] [] σ) : ∀ (n : Nat) (x2 : Int) (σ : Mm) (hx2 : r32 x2) (ok : okM σ) (hf : L_M_laysRow_28 n x1 x2 σ = some res), SW X 1 3 28 [some (.ref (xad X 200)), some (.int (i32 x1)), some (.int (i32 x2))] [] σ := by
  intro n
  induction n with
  | zero => intro x2 σ hx2 ok hf; exact absurd hf (by simp [L_M_laysRow_28])
  | succ n ih =>
    intro x2 σ hx2 ok hf
    rw [L_M_laysRow_28] at hf
    refine SW_iload_n h rfl (dt t_M_laysRow 18 rfl) ?_
    refine SW_iconst h (dt t_M_laysRow 19 rfl) ?_
    refine SW_icmp_ge (tgt := 58) h (fun _ => hx2) (fun _ => (by decide)) (dt t_M_laysRow 20 rfl) rfl hf (fun hf => ?_) (fun hf => ?_)
    · exact SW_fgt [false, false, false] rfl (hex σ hf ok)
    · refine SW_aload_n h rfl (dt t_M_laysRow 21 rfl) ?_
      refine gR h cf11 o200 f11_47 j200_47 lX11_103 (dt t_M_laysRow 22 rfl) ?_
      refine SW_iload_n h rfl (dt t_M_laysRow 23 rfl) ?_
      refine SW_aload_n h rfl (dt t_M_laysRow 24 rfl) ?_
      refine gR h cf11 o200 f11_0 j200_0 lX11_7 (dt t_M_laysRow 25 rfl) ?_
      refine SW_bipush h (dt t_M_laysRow 26 rfl) (by decide) ?_
      refine SW_iconst h (dt t_M_laysRow 27 rfl) ?_
      refine SW_iload_n h rfl (dt t_M_laysRow 28 rfl) ?_
      refine SW_imul h (dt t_M_laysRow 29 rfl) ?_
      refine SW_iadd h (dt t_M_laysRow 30 rfl) ?_
      refine SW_iload_n h rfl (dt t_M_laysRow 31 rfl) ?_
      refine SW_iadd h (dt t_M_laysRow 32 rfl) ?_
      refine aI h a201 (dt t_M_laysRow 33 rfl) hf (fun hf => ?_)
      refine sI h a229 (okI ok 201 (((22 + (4 * x1)) + x2).toNat) (IsA.n3 a201 (by decide))) (dt t_M_laysRow 34 rfl) hf (fun hf => SW_bm hf (fun s5 ok5 hf => ?_))
      refine SW_iinc (lv2 := [some (.ref (xad X 200)), some (.int (i32 x1)), some (.int (i32 (x2 + 1)))]) h (dt t_M_laysRow 35 rfl) rfl (by decide) rfl ?_
      refine SW_goto (tgt := 28) h (dt t_M_laysRow 36 rfl) rfl ?_
      refine SW_chk hf (fun h6 hf => ?_)
      exact SW_fgt [true, true, true] rfl (ih (x2 + 1) s5 h6 ok5 hf)
def F_M_laysRow (x1 : Int) (σ : Mm) : Option (Mm) :=
  if 0 ≤ 10 + x1 ∧ 10 + x1 < 5240 then
    bindM (st2 σ 200 48 (σ 201 ((10 + x1).toNat))) fun s2 =>
    if 0 ≤ 70 + x1 ∧ 70 + x1 < 5240 then
      bindM (st2 s2 200 49 (s2 201 ((70 + x1).toNat))) fun s4 =>
      b0M (L_M_laysRow_28 LF x1 0 s4) fun s7 =>
      some s7
    else none
  else none
set_option maxRecDepth 100000 in
set_option maxHeartbeats 4000000 in
theorem c_M_laysRow (x1 : Int) (hx1 : r32 x1) {σ : Mm} {σ2 : Mm} (hf : F_M_laysRow x1 σ = some σ2) : CT yX11_laysRow cX11_laysRow 3 none 0 1 (fun ad => [.ref (ad 200), .int (i32 x1)]) σ True none σ2 := by
  refine MetJ 1 (by decide +kernel) rfl (fun _ => Nat.le_of_ble_eq_true rfl) ?_
  intro X h hR ok
  obtain ⟨res, er⟩ : ∃ z, z = σ2 := ⟨_, rfl⟩
  have hret : ∀ y : Mm, some y = some res → RX X 1 True none y := fun y e => by cases e; cases er; exact hR
  rw [← er] at hf
  clear er hR
  unfold F_M_laysRow at hf
  show SW X 1 3 0 [some (.ref (xad X 200)), some (.int (i32 x1)), none] [] σ
  refine SW_aload_n h rfl (dt t_M_laysRow 0 rfl) ?_
  refine SW_aload_n h rfl (dt t_M_laysRow 1 rfl) ?_
  refine gR h cf11 o200 f11_0 j200_0 lX11_7 (dt t_M_laysRow 2 rfl) ?_
  refine SW_bipush h (dt t_M_laysRow 3 rfl) (by decide) ?_
  refine SW_iload_n h rfl (dt t_M_laysRow 4 rfl) ?_
  refine SW_iadd h (dt t_M_laysRow 5 rfl) ?_
  refine aI h a201 (dt t_M_laysRow 6 rfl) hf (fun hf => ?_)
  refine pI h cf11 o200 f11_48 (okI ok 201 ((10 + x1).toNat) (IsA.n3 a201 (by decide))) lX11_154 (dt t_M_laysRow 7 rfl) (SW_bm hf (fun s2 ok2 hf => ?_))
  refine SW_aload_n h rfl (dt t_M_laysRow 8 rfl) ?_
  refine SW_aload_n h rfl (dt t_M_laysRow 9 rfl) ?_
  refine gR h cf11 o200 f11_0 j200_0 lX11_7 (dt t_M_laysRow 10 rfl) ?_
  refine SW_bipush h (dt t_M_laysRow 11 rfl) (by decide) ?_
  refine SW_iload_n h rfl (dt t_M_laysRow 12 rfl) ?_
  refine SW_iadd h (dt t_M_laysRow 13 rfl) ?_
  refine aI h a201 (dt t_M_laysRow 14 rfl) hf (fun hf => ?_)
  refine pI h cf11 o200 f11_49 (okI ok2 201 ((70 + x1).toNat) (IsA.n3 a201 (by decide))) lX11_157 (dt t_M_laysRow 15 rfl) (SW_bm hf (fun s4 ok4 hf => ?_))
  refine SW_iconst h (dt t_M_laysRow 16 rfl) ?_
  refine SW_istore_n (lv2 := [some (.ref (xad X 200)), some (.int (i32 x1)), some (.int (i32 0))]) h (dt t_M_laysRow 17 rfl) (by decide) rfl ?_
  obtain ⟨z7, e7, hk7⟩ := b0M_ex hf
  refine SW_fgt [true, true, true] rfl (l_M_laysRow_28 h x1 hx1 (fun s7 hz7 ok7 => ?_) LF 0 s4 (by decide) ok4 e7)
  have hf := hk7 s7 hz7
  exact SW_vret h (hret _ hf) rfl (dt t_M_laysRow 37 rfl)
