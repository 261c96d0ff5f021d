def b_A_about : List (Nat × Instr × Nat) := [(0, .iload_n 1, 1), (1, .tableswitch 126 0 8 #[51, 59, 70, 81, 92, 97, 102, 110, 118], 51), (52, .aload_n 0, 1), (53, .getfield 10, 3), (56, .getfield 81, 3), (59, .ireturn, 1), (60, .aload_n 0, 1), (61, .getfield 10, 3), (64, .getfield 106, 3), (67, .bipush 40, 2), (69, .iaload, 1), (70, .ireturn, 1), (71, .aload_n 0, 1), (72, .getfield 10, 3), (75, .getfield 106, 3), (78, .bipush 41, 2), (80, .iaload, 1), (81, .ireturn, 1), (82, .aload_n 0, 1), (83, .getfield 10, 3), (86, .getfield 106, 3), (89, .bipush 42, 2), (91, .iaload, 1), (92, .ireturn, 1), (93, .aload_n 0, 1), (94, .getfield 142, 3), (97, .ireturn, 1), (98, .aload_n 0, 1), (99, .getfield 73, 3), (102, .ireturn, 1), (103, .aload_n 0, 1), (104, .getfield 19, 3), (107, .getfield 192, 3), (110, .ireturn, 1), (111, .aload_n 0, 1), (112, .getfield 49, 3), (115, .getfield 255, 3), (118, .ireturn, 1), (119, .aload_n 0, 1), (120, .getfield 26, 3), (123, .getfield 135, 3), (126, .ireturn, 1), (127, .bipush (-2), 2), (129, .ireturn, 1)]
theorem t_A_about : DT cX10_about b_A_about := DT.of (by decide +kernel)
def F_A_about (x1 : Int) (σ : Mm) : Option (Int) :=
  if x1 = 0 then
    some (σ 1 4)
  else
    if x1 = 1 then
      some (σ 3 40)
    else
      if x1 = 2 then
        some (σ 3 41)
      else
        if x1 = 3 then
          some (σ 3 42)
        else
          if x1 = 4 then
            some (σ 0 8)
          else
            if x1 = 5 then
              some (σ 0 9)
            else
              if x1 = 6 then
                some (σ 58 2)
              else
                if x1 = 7 then
                  some (σ 121 2)
                else
                  if x1 = 8 then
                    some (σ 90 1)
                  else
                    some ((-2))
set_option maxRecDepth 100000 in
set_option maxHeartbeats 4000000 in
theorem c_A_about (x1 : Int) (hx1 : r32 x1) {σ : Mm} {a : Int} (hf : F_A_about x1 σ = some a) : CT yX10_about cX10_about 2 (some .int) 0 0 (fun ad => [.ref (ad 0), .int (i32 x1)]) σ (r32 a) (some (.int (i32 a))) σ := by
  refine MetJ 0 (by decide +kernel) rfl (fun _ => Nat.le_of_ble_eq_true rfl) ?_
  intro X h hR ok
  obtain ⟨res, er⟩ : ∃ z, z = a := ⟨_, rfl⟩
  have hret : ∀ y : Int, some y = some res → RX X 0 (r32 (y)) (some (.int (i32 (y)))) σ := fun y e => by cases e; cases er; exact hR
  rw [← er] at hf
  clear er hR
  unfold F_A_about at hf
  show SW X 0 2 0 [some (.ref (xad X 0)), some (.int (i32 x1))] [] σ
  refine SW_iload_n h rfl (dt t_A_about 0 rfl) ?_
  refine SW_ite hf (fun h1 hf => ?_) (fun h1 hf => ?_)
  · refine SW_tabIn (tgt := 52) h 0 (fun _ => hx1) (dt t_A_about 1 rfl) (h1.trans rfl) (by decide) rfl rfl ?_
    refine SW_aload_n h rfl (dt t_A_about 2 rfl) ?_
    refine gR h cf10 o0 f10_0 j0_0 lX10_10 (dt t_A_about 3 rfl) ?_
    refine gI h cf2 o1 f2_4 lX10_81 (dt t_A_about 4 rfl) ?_
    exact SW_iret h (hret _ hf) (fun _ => (okI ok 1 4 (IsO.n3 o1))) rfl (dt t_A_about 5 rfl)
  · refine SW_ite hf (fun h2 hf => ?_) (fun h2 hf => ?_)
    · refine SW_tabIn (tgt := 60) h 1 (fun _ => hx1) (dt t_A_about 1 rfl) (h2.trans rfl) (by decide) rfl rfl ?_
      refine SW_aload_n h rfl (dt t_A_about 6 rfl) ?_
      refine gR h cf10 o0 f10_0 j0_0 lX10_10 (dt t_A_about 7 rfl) ?_
      refine gR h cf2 o1 f2_1 j1_1 lX10_106 (dt t_A_about 8 rfl) ?_
      refine SW_bipush h (dt t_A_about 9 rfl) (by decide) ?_
      refine aIk h a3 (by decide) (dt t_A_about 10 rfl) ?_
      exact SW_iret h (hret _ hf) (fun _ => (okI ok 3 40 (IsA.n3 a3 (by decide)))) rfl (dt t_A_about 11 rfl)
    · refine SW_ite hf (fun h3 hf => ?_) (fun h3 hf => ?_)
      · refine SW_tabIn (tgt := 71) h 2 (fun _ => hx1) (dt t_A_about 1 rfl) (h3.trans rfl) (by decide) rfl rfl ?_
        refine SW_aload_n h rfl (dt t_A_about 12 rfl) ?_
        refine gR h cf10 o0 f10_0 j0_0 lX10_10 (dt t_A_about 13 rfl) ?_
        refine gR h cf2 o1 f2_1 j1_1 lX10_106 (dt t_A_about 14 rfl) ?_
        refine SW_bipush h (dt t_A_about 15 rfl) (by decide) ?_
        refine aIk h a3 (by decide) (dt t_A_about 16 rfl) ?_
        exact SW_iret h (hret _ hf) (fun _ => (okI ok 3 41 (IsA.n3 a3 (by decide)))) rfl (dt t_A_about 17 rfl)
      · refine SW_ite hf (fun h4 hf => ?_) (fun h4 hf => ?_)
        · refine SW_tabIn (tgt := 82) h 3 (fun _ => hx1) (dt t_A_about 1 rfl) (h4.trans rfl) (by decide) rfl rfl ?_
          refine SW_aload_n h rfl (dt t_A_about 18 rfl) ?_
          refine gR h cf10 o0 f10_0 j0_0 lX10_10 (dt t_A_about 19 rfl) ?_
          refine gR h cf2 o1 f2_1 j1_1 lX10_106 (dt t_A_about 20 rfl) ?_
          refine SW_bipush h (dt t_A_about 21 rfl) (by decide) ?_
          refine aIk h a3 (by decide) (dt t_A_about 22 rfl) ?_
          exact SW_iret h (hret _ hf) (fun _ => (okI ok 3 42 (IsA.n3 a3 (by decide)))) rfl (dt t_A_about 23 rfl)
        · refine SW_ite hf (fun h5 hf => ?_) (fun h5 hf => ?_)
          · refine SW_tabIn (tgt := 93) h 4 (fun _ => hx1) (dt t_A_about 1 rfl) (h5.trans rfl) (by decide) rfl rfl ?_
            refine SW_aload_n h rfl (dt t_A_about 24 rfl) ?_
            refine gI h cf10 o0 f10_8 lX10_142 (dt t_A_about 25 rfl) ?_
            exact SW_iret h (hret _ hf) (fun _ => (okI ok 0 8 (IsO.n3 o0))) rfl (dt t_A_about 26 rfl)
          · refine SW_ite hf (fun h6 hf => ?_) (fun h6 hf => ?_)
            · refine SW_tabIn (tgt := 98) h 5 (fun _ => hx1) (dt t_A_about 1 rfl) (h6.trans rfl) (by decide) rfl rfl ?_
              refine SW_aload_n h rfl (dt t_A_about 27 rfl) ?_
              refine gI h cf10 o0 f10_9 lX10_73 (dt t_A_about 28 rfl) ?_
              exact SW_iret h (hret _ hf) (fun _ => (okI ok 0 9 (IsO.n3 o0))) rfl (dt t_A_about 29 rfl)
            · refine SW_ite hf (fun h7 hf => ?_) (fun h7 hf => ?_)
              · refine SW_tabIn (tgt := 103) h 6 (fun _ => hx1) (dt t_A_about 1 rfl) (h7.trans rfl) (by decide) rfl rfl ?_
                refine SW_aload_n h rfl (dt t_A_about 30 rfl) ?_
                refine gR h cf10 o0 f10_1 j0_1 lX10_19 (dt t_A_about 31 rfl) ?_
                refine gI h cf8 o58 f8_2 lX10_192 (dt t_A_about 32 rfl) ?_
                exact SW_iret h (hret _ hf) (fun _ => (okI ok 58 2 (IsO.n3 o58))) rfl (dt t_A_about 33 rfl)
              · refine SW_ite hf (fun h8 hf => ?_) (fun h8 hf => ?_)
                · refine SW_tabIn (tgt := 111) h 7 (fun _ => hx1) (dt t_A_about 1 rfl) (h8.trans rfl) (by decide) rfl rfl ?_
                  refine SW_aload_n h rfl (dt t_A_about 34 rfl) ?_
                  refine gR h cf10 o0 f10_5 j0_5 lX10_49 (dt t_A_about 35 rfl) ?_
                  refine gI h cf1 o121 f1_2 lX10_255 (dt t_A_about 36 rfl) ?_
                  exact SW_iret h (hret _ hf) (fun _ => (okI ok 121 2 (IsO.n3 o121))) rfl (dt t_A_about 37 rfl)
                · refine SW_ite hf (fun h9 hf => ?_) (fun h9 hf => ?_)
                  · refine SW_tabIn (tgt := 119) h 8 (fun _ => hx1) (dt t_A_about 1 rfl) (h9.trans rfl) (by decide) rfl rfl ?_
                    refine SW_aload_n h rfl (dt t_A_about 38 rfl) ?_
                    refine gR h cf10 o0 f10_2 j0_2 lX10_26 (dt t_A_about 39 rfl) ?_
                    refine gI h cf5 o90 f5_1 lX10_135 (dt t_A_about 40 rfl) ?_
                    exact SW_iret h (hret _ hf) (fun _ => (okI ok 90 1 (IsO.n3 o90))) rfl (dt t_A_about 41 rfl)
                  · refine SW_tabOut (tgt := 127) h (fun _ => hx1) (dt t_A_about 1 rfl) (by omega) rfl ?_
                    refine SW_bipush h (dt t_A_about 42 rfl) (by decide) ?_
                    exact SW_iret h (hret _ hf) (fun _ => (by decide)) rfl (dt t_A_about 43 rfl)
def b_S_copy : List (Nat × Instr × Nat) := [(0, .aload_n 0, 1), (1, .aload_n 1, 1), (2, .getfield 16, 3), (5, .putfield 16, 3), (8, .aload_n 0, 1), (9, .aload_n 1, 1), (10, .getfield 26, 3), (13, .putfield 26, 3), (16, .iconst 1, 1), (17, .istore_n 2, 1), (18, .iload_n 2, 1), (19, .aload_n 0, 1), (20, .getfield 26, 3), (23, .if_icmp .gt 42, 3), (26, .aload_n 0, 1), (27, .getfield 16, 3), (30, .bipush 30, 2), (32, .iadd, 1), (33, .iload_n 2, 1), (34, .isub, 1), (35, .bipush 30, 2), (37, .irem, 1), (38, .istore_n 3, 1), (39, .aload_n 1, 1), (40, .getfield 11, 3), (43, .iload_n 3, 1), (44, .aaload, 1), (45, .iconst 0, 1), (46, .aload_n 0, 1), (47, .getfield 11, 3), (50, .iload_n 3, 1), (51, .aaload, 1), (52, .iconst 0, 1), (53, .sipush 165, 3), (56, .invokestatic 20, 3), (59, .iinc 2 1, 3), (62, .goto (-44), 3), (65, .return_, 1)]
theorem t_S_copy : DT cX8_copy b_S_copy := DT.of (by decide +kernel)
def L_S_copy_18 : Nat → Nat → Nat → Int → Mm → Option (Mm)
  | 0, _, _, _, _ => none
  | n + 1, r0, r1, x2, σ =>
    if σ r0 2 < x2 then
      some σ
    else
      if r32 (((σ r0 1) + 30) - x2) then
        bindM ((((σ r0 1) + 30) - x2).tmod 30) fun v6 =>
        if 0 ≤ v6 ∧ v6 < 30 then
          if 0 ≤ v6 ∧ v6 < 30 then
            bindM (stR σ ((r0 + 1) + 1 + v6.toNat) (cpyI (σ ((r1 + 1) + 1 + v6.toNat)) (σ ((r0 + 1) + 1 + v6.toNat)) 0 0 165)) fun s9 =>
            if r32 (x2 + 1) then
              L_S_copy_18 n r0 r1 (x2 + 1) s9
            else none
          else none
        else none
      else none
set_option maxRecDepth 100000 in
set_option maxHeartbeats 4000000 in
theorem l_S_copy_18 {X : Cx} (h : CX X 0 cX8_copy 4 3 none RX8) (r0 : Nat) (r1 : Nat) (q0 : IsO 0 8 r0) (q1 : IsO 0 8 r1) {res : Mm} (hex : ∀  (σ : Mm) (hz : some σ = some res)  (ok : okM σ), SW X 0 4 65 [none, none, none, none] [] σ) : ∀ (n : Nat) (x2 : Int) (σ : Mm) (hx2 : r32 x2) (ok : okM σ) (hf : L_S_copy_18 n r0 r1 x2 σ = some res), SW X 0 4 18 [some (.ref (xad X r0)), some (.ref (xad X r1)), some (.int (i32 x2)), none] [] σ := by
  intro n
  induction n with
  | zero => intro x2 σ hx2 ok hf; exact absurd hf (by simp [L_S_copy_18])
  | succ n ih =>
    intro x2 σ hx2 ok hf
    rw [L_S_copy_18] at hf
    refine SW_iload_n h rfl (dt t_S_copy 10 rfl) ?_
    refine SW_aload_n h rfl (dt t_S_copy 11 rfl) ?_
    refine gI h cf8 q0 f8_2 lX8_26 (dt t_S_copy 12 rfl) ?_
    refine SW_icmp_gt (tgt := 65) h (fun _ => hx2) (fun _ => (okI ok r0 2 (IsO.n3 q0))) (dt t_S_copy 13 rfl) rfl hf (fun hf => ?_) (fun hf => ?_)
    · exact SW_fgt [false, false, false, false] rfl (hex σ hf ok)
    · refine SW_aload_n h rfl (dt t_S_copy 14 rfl) ?_
      refine gI h cf8 q0 f8_1 lX8_16 (dt t_S_copy 15 rfl) ?_
      refine SW_bipush h (dt t_S_copy 16 rfl) (by decide) ?_
      refine SW_iadd h (dt t_S_copy 17 rfl) ?_
      refine SW_iload_n h rfl (dt t_S_copy 18 rfl) ?_
      refine SW_isub h (dt t_S_copy 19 rfl) ?_
      refine SW_bipush h (dt t_S_copy 20 rfl) (by decide) ?_
      refine SW_chk hf (fun h5 hf => ?_)
      refine SW_irem h (fun _ => h5) (fun _ => (by decide)) (by decide) (dt t_S_copy 21 rfl) ?_
      refine SW_vi hf (r_tmod h5 (by decide)) (fun v6 h6 hf => ?_)
      refine SW_istore_n (lv2 := [some (.ref (xad X r0)), some (.ref (xad X r1)), some (.int (i32 x2)), some (.int (i32 v6))]) h (dt t_S_copy 22 rfl) (by decide) rfl ?_
      refine SW_aload_n h rfl (dt t_S_copy 23 rfl) ?_
      refine gR h cf8 q1 f8_0 (dy8_0 q1).1 lX8_11 (dt t_S_copy 24 rfl) ?_
      refine SW_iload_n h rfl (dt t_S_copy 25 rfl) ?_
      refine aR h (by decide) (dy8_0 q1).2 (dy_ah (dy8_0 q1).2) (dt t_S_copy 26 rfl) hf (fun h7 hf => ?_)
      refine SW_iconst h (dt t_S_copy 27 rfl) ?_
      refine SW_aload_n h rfl (dt t_S_copy 28 rfl) ?_
      refine gR h cf8 q0 f8_0 (dy8_0 q0).1 lX8_11 (dt t_S_copy 29 rfl) ?_
      refine SW_iload_n h rfl (dt t_S_copy 30 rfl) ?_
      refine aR h (by decide) (dy8_0 q0).2 (dy_ah (dy8_0 q0).2) (dt t_S_copy 31 rfl) hf (fun h8 hf => ?_)
      refine SW_iconst h (dt t_S_copy 32 rfl) ?_
      refine SW_sipush h (dt t_S_copy 33 rfl) (by decide) ?_
      refine SW_copy h kX8_20 (mk_ah (dy8_0 q1).2 h7) (mk_ah (dy8_0 q0).2 h8) (by decide) (by decide) (by decide) (by decide) (by decide) (Nat.le_of_ble_eq_true rfl) (dt t_S_copy 34 rfl) (SW_bm hf (fun s9 ok9 hf => ?_))
      refine SW_iinc (lv2 := [some (.ref (xad X r0)), some (.ref (xad X r1)), some (.int (i32 (x2 + 1))), some (.int (i32 v6))]) h (dt t_S_copy 35 rfl) rfl (by decide) rfl ?_
      refine SW_goto (tgt := 18) h (dt t_S_copy 36 rfl) rfl ?_
      refine SW_chk hf (fun h10 hf => ?_)
      exact SW_fgt [true, true, true, false] rfl (ih (x2 + 1) s9 h10 ok9 hf)
def F_S_copy (r0 : Nat) (r1 : Nat) (σ : Mm) : Option (Mm) :=
  bindM (st2 σ r0 1 (σ r1 1)) fun s2 =>
  bindM (st2 s2 r0 2 (s2 r1 2)) fun s4 =>
  b0M (L_S_copy_18 LF r0 r1 1 s4) fun s11 =>
  some s11
set_option maxRecDepth 100000 in
set_option maxHeartbeats 4000000 in
theorem c_S_copy (r0 : Nat) (q0 : IsO 0 8 r0) (r1 : Nat) (q1 : IsO 0 8 r1) {σ : Mm} {σ2 : Mm} (hf : F_S_copy r0 r1 σ = some σ2) : CT yX8_copy cX8_copy 4 none 3 0 (fun ad => [.ref (ad r0), .ref (ad r1)]) σ True none σ2 := by
  refine MetJ 2 (by decide +kernel) rfl (fun _ => Nat.le_of_ble_eq_true rfl) ?_
  intro X h hR ok
  obtain ⟨res, er⟩ : ∃ z, z = σ2 := ⟨_, rfl⟩
  have hret : ∀ y : Mm, some y = some res → RX X 0 True none y := fun y e => by cases e; cases er; exact hR
  rw [← er] at hf
  clear er hR
  unfold F_S_copy at hf
  show SW X 0 4 0 [some (.ref (xad X r0)), some (.ref (xad X r1)), none, none] [] σ
  refine SW_aload_n h rfl (dt t_S_copy 0 rfl) ?_
  refine SW_aload_n h rfl (dt t_S_copy 1 rfl) ?_
  refine gI h cf8 q1 f8_1 lX8_16 (dt t_S_copy 2 rfl) ?_
  refine pI h cf8 q0 f8_1 (okI ok r1 1 (IsO.n3 q1)) lX8_16 (dt t_S_copy 3 rfl) (SW_bm hf (fun s2 ok2 hf => ?_))
  refine SW_aload_n h rfl (dt t_S_copy 4 rfl) ?_
  refine SW_aload_n h rfl (dt t_S_copy 5 rfl) ?_
  refine gI h cf8 q1 f8_2 lX8_26 (dt t_S_copy 6 rfl) ?_
  refine pI h cf8 q0 f8_2 (okI ok2 r1 2 (IsO.n3 q1)) lX8_26 (dt t_S_copy 7 rfl) (SW_bm hf (fun s4 ok4 hf => ?_))
  refine SW_iconst h (dt t_S_copy 8 rfl) ?_
  refine SW_istore_n (lv2 := [some (.ref (xad X r0)), some (.ref (xad X r1)), some (.int (i32 1)), none]) h (dt t_S_copy 9 rfl) (by decide) rfl ?_
  obtain ⟨z11, e11, hk11⟩ := b0M_ex hf
  refine SW_fgt [true, true, true, false] rfl (l_S_copy_18 h r0 r1 q0 q1 (fun s11 hz11 ok11 => ?_) LF 1 s4 (by decide) ok4 e11)
  have hf := hk11 s11 hz11
  exact SW_vret h (hret _ hf) rfl (dt t_S_copy 37 rfl)
def b_A_ruleBy : List (Nat × Instr × Nat) := [(0, .aload_n 0, 1), (1, .iload_n 1, 1), (2, .putfield 73, 3), (5, .aload_n 0, 1), (6, .getfield 10, 3), (9, .getfield 55, 3), (12, .iload_n 1, 1), (13, .ifCond .lt 8, 3), (16, .iload_n 1, 1), (17, .iconst 4, 1), (18, .if_icmp .lt 7, 3), (21, .aconst_null, 1), (22, .goto 9, 3), (25, .aload_n 0, 1), (26, .getfield 32, 3), (29, .iload_n 1, 1), (30, .aaload, 1), (31, .putfield 162, 3), (34, .return_, 1)]
theorem t_A_ruleBy : DT cX10_ruleBy b_A_ruleBy := DT.of (by decide +kernel)
def F_A_ruleBy (x1 : Int) (σ : Mm) : Option (Mm) :=
  bindM (st2 σ 0 9 x1) fun s2 =>
  bindM (
    bindM (st2 s2 2 6 ((-1))) fun s4 =>
    some s4) fun J3 =>
  if x1 < 0 then
    J3
  else
    if x1 < 4 then
      if 0 ≤ x1 ∧ x1 < 4 then
        bindM (st2 s2 2 6 (((94 + x1.toNat : Nat) : Int))) fun s6 =>
        some s6
      else none
    else
      J3
set_option maxRecDepth 100000 in
set_option maxHeartbeats 4000000 in
theorem c_A_ruleBy (x1 : Int) (hx1 : r32 x1) {σ : Mm} {σ2 : Mm} (hf : F_A_ruleBy x1 σ = some σ2) : CT yX10_ruleBy cX10_ruleBy 2 none 0 0 (fun ad => [.ref (ad 0), .int (i32 x1)]) σ True none σ2 := by
  refine MetJ 0 (by decide +kernel) rfl (fun _ => Nat.le_of_ble_eq_true rfl) ?_
  intro X h hR ok
  obtain ⟨res, er⟩ : ∃ z, z = σ2 := ⟨_, rfl⟩
  have hret : ∀ y : Mm, some y = some res → RX X 0 True none y := fun y e => by cases e; cases er; exact hR
  rw [← er] at hf
  clear er hR
  unfold F_A_ruleBy at hf
  show SW X 0 2 0 [some (.ref (xad X 0)), some (.int (i32 x1))] [] σ
  refine SW_aload_n h rfl (dt t_A_ruleBy 0 rfl) ?_
  refine SW_iload_n h rfl (dt t_A_ruleBy 1 rfl) ?_
  refine pI h cf10 o0 f10_9 hx1 lX10_73 (dt t_A_ruleBy 2 rfl) (SW_bm hf (fun s2 ok2 hf => ?_))
  refine SW_aload_n h rfl (dt t_A_ruleBy 3 rfl) ?_
  refine gR h cf10 o0 f10_0 j0_0 lX10_10 (dt t_A_ruleBy 4 rfl) ?_
  refine gR h cf2 o1 f2_0 j1_0 lX10_55 (dt t_A_ruleBy 5 rfl) ?_
  refine SW_iload_n h rfl (dt t_A_ruleBy 6 rfl) ?_
  refine bJ hf (fun J3 e3 hf => ?_)
  have k3 : ∀ (hf : J3 = some res), SW X 0 2 21 [none, none] [.ref (xad X 2)] s2 := by
    intro hf
    rw [e3] at hf
    refine SW_null h (dt t_A_ruleBy 11 rfl) ?_
    refine SW_goto (tgt := 31) h (dt t_A_ruleBy 12 rfl) rfl ?_
    refine pN h cf4 o2 f4_6 lX10_162 (dt t_A_ruleBy 17 rfl) (SW_bm hf (fun s4 ok4 hf => ?_))
    exact SW_vret h (hret _ hf) rfl (dt t_A_ruleBy 18 rfl)
  refine SW_if_lt (tgt := 21) h (fun _ => hx1) (dt t_A_ruleBy 7 rfl) rfl hf (fun hf => ?_) (fun hf => ?_)
  · exact SW_fgt [false, false] rfl (k3 hf)
  · refine SW_iload_n h rfl (dt t_A_ruleBy 8 rfl) ?_
    refine SW_iconst h (dt t_A_ruleBy 9 rfl) ?_
    refine SW_icmp_lt (tgt := 25) h (fun _ => hx1) (fun _ => (by decide)) (dt t_A_ruleBy 10 rfl) rfl hf (fun hf => ?_) (fun hf => ?_)
    · refine SW_aload_n h rfl (dt t_A_ruleBy 13 rfl) ?_
      refine gR h cf10 o0 f10_3 j0_3 lX10_32 (dt t_A_ruleBy 14 rfl) ?_
      refine SW_iload_n h rfl (dt t_A_ruleBy 15 rfl) ?_
      refine aR h (by decide) a93 rfl (dt t_A_ruleBy 16 rfl) hf (fun h5 hf => ?_)
      refine pD h cf4 o2 f4_6 (lt_of_isO (mk_text h5)) lX10_162 (dt t_A_ruleBy 17 rfl) (SW_bm hf (fun s6 ok6 hf => ?_))
      exact SW_vret h (hret _ hf) rfl (dt t_A_ruleBy 18 rfl)
    · exact SW_fgt [false, false] rfl (k3 hf)
def b_A_back : List (Nat × Instr × Nat) := [(0, .aload_n 0, 1), (1, .getfield 69, 3), (4, .getfield 317, 3), (7, .iconst 0, 1), (8, .aload_n 0, 1), (9, .getfield 10, 3), (12, .getfield 106, 3), (15, .iconst 0, 1), (16, .sipush 165, 3), (19, .invokestatic 318, 3), (22, .aload_n 0, 1), (23, .getfield 19, 3), (26, .aload_n 0, 1), (27, .getfield 69, 3), (30, .getfield 324, 3), (33, .invokevirtual 325, 3), (36, .aload_n 0, 1), (37, .getfield 69, 3), (40, .getfield 329, 3), (43, .iconst 0, 1), (44, .aload_n 0, 1), (45, .getfield 49, 3), (48, .getfield 260, 3), (51, .iconst 0, 1), (52, .bipush 6, 2), (54, .invokestatic 318, 3), (57, .aload_n 0, 1), (58, .getfield 69, 3), (61, .getfield 330, 3), (64, .iconst 0, 1), (65, .aload_n 0, 1), (66, .getfield 49, 3), (69, .getfield 263, 3), (72, .iconst 0, 1), (73, .bipush 6, 2), (75, .invokestatic 318, 3), (78, .aload_n 0, 1), (79, .getfield 69, 3), (82, .getfield 331, 3), (85, .iconst 0, 1), (86, .aload_n 0, 1), (87, .getfield 62, 3), (90, .getfield 302, 3), (93, .iconst 0, 1), (94, .bipush 36, 2), (96, .invokestatic 318, 3), (99, .aload_n 0, 1), (100, .getfield 49, 3), (103, .aload_n 0, 1), (104, .getfield 69, 3), (107, .getfield 332, 3), (110, .putfield 255, 3), (113, .aload_n 0, 1), (114, .getfield 10, 3), (117, .aload_n 0, 1), (118, .getfield 69, 3), (121, .getfield 333, 3), (124, .putfield 81, 3), (127, .aload_n 0, 1), (128, .aload_n 0, 1), (129, .getfield 69, 3), (132, .getfield 335, 3), (135, .putfield 142, 3), (138, .aload_n 0, 1), (139, .aload_n 0, 1), (140, .getfield 69, 3), (143, .getfield 337, 3), (146, .invokevirtual 159, 3), (149, .aload_n 0, 1), (150, .getfield 10, 3), (153, .getfield 106, 3), (156, .bipush 40, 2), (158, .iaload, 1), (159, .ireturn, 1)]
theorem t_A_back : DT cX10_back b_A_back := DT.of (by decide +kernel)
def F_A_back  (σ : Mm) : Option (Int × Mm) :=
  bindM (stR σ 3 (cpyI (σ 134) (σ 3) 0 0 165)) fun s1 =>
  b0M (F_S_copy 58 135 s1) fun s2 =>
  bindM (stR s2 122 (cpyI (s2 167) (s2 122) 0 0 6)) fun s3 =>
  bindM (stR s3 123 (cpyI (s3 168) (s3 123) 0 0 6)) fun s4 =>
  bindM (stR s4 130 (cpyI (s4 169) (s4 130) 0 0 36)) fun s5 =>
  bindM (st2 s5 121 2 (s5 133 5)) fun s7 =>
  bindM (st2 s7 1 4 (s7 133 6)) fun s9 =>
  bindM (st2 s9 0 8 (s9 133 7)) fun s11 =>
  b0M (F_A_ruleBy (s11 133 8) s11) fun s12 =>
  some (s12 3 40, s12)
set_option maxRecDepth 100000 in
set_option maxHeartbeats 4000000 in
theorem c_A_back  {σ : Mm} {a : Int} {σ2 : Mm} (hf : F_A_back  σ = some (a, σ2)) : CT yX10_back cX10_back 1 (some .int) 4 0 (fun ad => [.ref (ad 0)]) σ (r32 a) (some (.int (i32 a))) σ2 := by
  refine MetJ 0 (by decide +kernel) rfl (fun _ => Nat.le_of_ble_eq_true rfl) ?_
  intro X h hR ok
  obtain ⟨res, er⟩ : ∃ z, z = (a, σ2) := ⟨_, rfl⟩
  have hret : ∀ y : Int × Mm, some y = some res → RX X 0 (r32 (y.1)) (some (.int (i32 (y.1)))) y.2 := fun y e => by cases e; cases er; exact hR
  rw [← er] at hf
  clear er hR
  unfold F_A_back at hf
  show SW X 0 1 0 [some (.ref (xad X 0))] [] σ
  refine SW_aload_n h rfl (dt t_A_back 0 rfl) ?_
  refine gR h cf10 o0 f10_7 j0_7 lX10_69 (dt t_A_back 1 rfl) ?_
  refine gR h cf3 o133 f3_0 j133_0 lX10_317 (dt t_A_back 2 rfl) ?_
  refine SW_iconst h (dt t_A_back 3 rfl) ?_
  refine SW_aload_n h rfl (dt t_A_back 4 rfl) ?_
  refine gR h cf10 o0 f10_0 j0_0 lX10_10 (dt t_A_back 5 rfl) ?_
  refine gR h cf2 o1 f2_1 j1_1 lX10_106 (dt t_A_back 6 rfl) ?_
  refine SW_iconst h (dt t_A_back 7 rfl) ?_
  refine SW_sipush h (dt t_A_back 8 rfl) (by decide) ?_
  refine SW_copy h kX10_318 a134 a3 (by decide) (by decide) (by decide) (by decide) (by decide) (Nat.le_of_ble_eq_true rfl) (dt t_A_back 9 rfl) (SW_bm hf (fun s1 ok1 hf => ?_))
  refine SW_aload_n h rfl (dt t_A_back 10 rfl) ?_
  refine gR h cf10 o0 f10_1 j0_1 lX10_19 (dt t_A_back 11 rfl) ?_
  refine SW_aload_n h rfl (dt t_A_back 12 rfl) ?_
  refine gR h cf10 o0 f10_7 j0_7 lX10_69 (dt t_A_back 13 rfl) ?_
  refine gR h cf3 o133 f3_1 j133_1 lX10_324 (dt t_A_back 14 rfl) ?_
  obtain ⟨s2, e2, hf⟩ := b0M_of hf
  refine cVv h [.ref (xad X 135)] [] v_X8_copy kX10_325 o58 (c_S_copy 58 o58 135 o135 e2) rfl rfl (by decide) (by decide) rfl (Nat.le_of_ble_eq_true rfl) (dt t_A_back 15 rfl) (fun h2 => ?_)
  refine SW_ok (fun ok2 => ?_)
  refine SW_aload_n h rfl (dt t_A_back 16 rfl) ?_
  refine gR h cf10 o0 f10_7 j0_7 lX10_69 (dt t_A_back 17 rfl) ?_
  refine gR h cf3 o133 f3_2 j133_2 lX10_329 (dt t_A_back 18 rfl) ?_
  refine SW_iconst h (dt t_A_back 19 rfl) ?_
  refine SW_aload_n h rfl (dt t_A_back 20 rfl) ?_
  refine gR h cf10 o0 f10_5 j0_5 lX10_49 (dt t_A_back 21 rfl) ?_
  refine gR h cf1 o121 f1_0 j121_0 lX10_260 (dt t_A_back 22 rfl) ?_
  refine SW_iconst h (dt t_A_back 23 rfl) ?_
  refine SW_bipush h (dt t_A_back 24 rfl) (by decide) ?_
  refine SW_copy h kX10_318 a167 a122 (by decide) (by decide) (by decide) (by decide) (by decide) (Nat.le_of_ble_eq_true rfl) (dt t_A_back 25 rfl) (SW_bm hf (fun s3 ok3 hf => ?_))
  refine SW_aload_n h rfl (dt t_A_back 26 rfl) ?_
  refine gR h cf10 o0 f10_7 j0_7 lX10_69 (dt t_A_back 27 rfl) ?_
  refine gR h cf3 o133 f3_3 j133_3 lX10_330 (dt t_A_back 28 rfl) ?_
  refine SW_iconst h (dt t_A_back 29 rfl) ?_
  refine SW_aload_n h rfl (dt t_A_back 30 rfl) ?_
  refine gR h cf10 o0 f10_5 j0_5 lX10_49 (dt t_A_back 31 rfl) ?_
  refine gR h cf1 o121 f1_1 j121_1 lX10_263 (dt t_A_back 32 rfl) ?_
  refine SW_iconst h (dt t_A_back 33 rfl) ?_
  refine SW_bipush h (dt t_A_back 34 rfl) (by decide) ?_
  refine SW_copy h kX10_318 a168 a123 (by decide) (by decide) (by decide) (by decide) (by decide) (Nat.le_of_ble_eq_true rfl) (dt t_A_back 35 rfl) (SW_bm hf (fun s4 ok4 hf => ?_))
  refine SW_aload_n h rfl (dt t_A_back 36 rfl) ?_
  refine gR h cf10 o0 f10_7 j0_7 lX10_69 (dt t_A_back 37 rfl) ?_
  refine gR h cf3 o133 f3_4 j133_4 lX10_331 (dt t_A_back 38 rfl) ?_
  refine SW_iconst h (dt t_A_back 39 rfl) ?_
  refine SW_aload_n h rfl (dt t_A_back 40 rfl) ?_
  refine gR h cf10 o0 f10_6 j0_6 lX10_62 (dt t_A_back 41 rfl) ?_
  refine gR h cf0 o129 f0_0 j129_0 lX10_302 (dt t_A_back 42 rfl) ?_
  refine SW_iconst h (dt t_A_back 43 rfl) ?_
  refine SW_bipush h (dt t_A_back 44 rfl) (by decide) ?_
  refine SW_copy h kX10_318 a169 a130 (by decide) (by decide) (by decide) (by decide) (by decide) (Nat.le_of_ble_eq_true rfl) (dt t_A_back 45 rfl) (SW_bm hf (fun s5 ok5 hf => ?_))
  refine SW_aload_n h rfl (dt t_A_back 46 rfl) ?_
  refine gR h cf10 o0 f10_5 j0_5 lX10_49 (dt t_A_back 47 rfl) ?_
  refine SW_aload_n h rfl (dt t_A_back 48 rfl) ?_
  refine gR h cf10 o0 f10_7 j0_7 lX10_69 (dt t_A_back 49 rfl) ?_
  refine gI h cf3 o133 f3_5 lX10_332 (dt t_A_back 50 rfl) ?_
  refine pI h cf1 o121 f1_2 (okI ok5 133 5 (IsO.n3 o133)) lX10_255 (dt t_A_back 51 rfl) (SW_bm hf (fun s7 ok7 hf => ?_))
  refine SW_aload_n h rfl (dt t_A_back 52 rfl) ?_
  refine gR h cf10 o0 f10_0 j0_0 lX10_10 (dt t_A_back 53 rfl) ?_
  refine SW_aload_n h rfl (dt t_A_back 54 rfl) ?_
  refine gR h cf10 o0 f10_7 j0_7 lX10_69 (dt t_A_back 55 rfl) ?_
  refine gI h cf3 o133 f3_6 lX10_333 (dt t_A_back 56 rfl) ?_
  refine pI h cf2 o1 f2_4 (okI ok7 133 6 (IsO.n3 o133)) lX10_81 (dt t_A_back 57 rfl) (SW_bm hf (fun s9 ok9 hf => ?_))
  refine SW_aload_n h rfl (dt t_A_back 58 rfl) ?_
  refine SW_aload_n h rfl (dt t_A_back 59 rfl) ?_
  refine gR h cf10 o0 f10_7 j0_7 lX10_69 (dt t_A_back 60 rfl) ?_
  refine gI h cf3 o133 f3_7 lX10_335 (dt t_A_back 61 rfl) ?_
  refine pI h cf10 o0 f10_8 (okI ok9 133 7 (IsO.n3 o133)) lX10_142 (dt t_A_back 62 rfl) (SW_bm hf (fun s11 ok11 hf => ?_))
  refine SW_aload_n h rfl (dt t_A_back 63 rfl) ?_
  refine SW_aload_n h rfl (dt t_A_back 64 rfl) ?_
  refine gR h cf10 o0 f10_7 j0_7 lX10_69 (dt t_A_back 65 rfl) ?_
  refine gI h cf3 o133 f3_8 lX10_337 (dt t_A_back 66 rfl) ?_
  obtain ⟨s12, e12, hf⟩ := b0M_of hf
  refine cVv h [.int (i32 (s11 133 8))] [] v_X10_ruleBy kX10_159 o0 (c_A_ruleBy (s11 133 8) (okI ok11 133 8 (IsO.n3 o133)) e12) rfl rfl (by decide) (by decide) rfl (Nat.le_of_ble_eq_true rfl) (dt t_A_back 67 rfl) (fun h12 => ?_)
  refine SW_ok (fun ok12 => ?_)
  refine SW_aload_n h rfl (dt t_A_back 68 rfl) ?_
  refine gR h cf10 o0 f10_0 j0_0 lX10_10 (dt t_A_back 69 rfl) ?_
  refine gR h cf2 o1 f2_1 j1_1 lX10_106 (dt t_A_back 70 rfl) ?_
  refine SW_bipush h (dt t_A_back 71 rfl) (by decide) ?_
  refine aIk h a3 (by decide) (dt t_A_back 72 rfl) ?_
  exact SW_iret h (hret _ hf) (fun _ => (okI ok12 3 40 (IsA.n3 a3 (by decide)))) rfl (dt t_A_back 73 rfl)
def b_H_has : List (Nat × Instr × Nat) := [(0, .iload_n 1, 1), (1, .ifCond .lt 15, 3), (4, .iload_n 1, 1), (5, .aload_n 0, 1), (6, .getfield 33, 3), (9, .if_icmp .ge 7, 3), (12, .iconst 1, 1), (13, .goto 4, 3), (16, .iconst 0, 1), (17, .ireturn, 1)]
theorem t_H_has : DT cX2_has b_H_has := DT.of (by decide +kernel)
def F_H_has (x1 : Int) (σ : Mm) : Option (Int) :=
  if x1 < 0 then
    some 0
  else
    if σ 1 4 ≤ x1 then
      some 0
    else
      some 1
set_option maxRecDepth 100000 in
set_option maxHeartbeats 4000000 in
theorem c_H_has (x1 : Int) (hx1 : r32 x1) {σ : Mm} {a : Int} (hf : F_H_has x1 σ = some a) : CT yX2_has cX2_has 2 (some .boolean) 0 0 (fun ad => [.ref (ad 1), .int (i32 x1)]) σ (a = 0 ∨ a = 1) (some (.int (i32 a))) σ := by
  refine MetJ 0 (by decide +kernel) rfl (fun _ => Nat.le_of_ble_eq_true rfl) ?_
  intro X h hR ok
  obtain ⟨res, er⟩ : ∃ z, z = a := ⟨_, rfl⟩
  have hret : ∀ y : Int, some y = some res → RX X 0 (y = 0 ∨ y = 1) (some (.int (i32 (y)))) σ := fun y e => by cases e; cases er; exact hR
  rw [← er] at hf
  clear er hR
  unfold F_H_has at hf
  show SW X 0 2 0 [some (.ref (xad X 1)), some (.int (i32 x1))] [] σ
  refine SW_iload_n h rfl (dt t_H_has 0 rfl) ?_
  refine SW_if_lt (tgt := 16) h (fun _ => hx1) (dt t_H_has 1 rfl) rfl hf (fun hf => ?_) (fun hf => ?_)
  · refine SW_iconst h (dt t_H_has 8 rfl) ?_
    exact SW_zret h (hret _ hf) (by decide) rfl (dt t_H_has 9 rfl)
  · refine SW_iload_n h rfl (dt t_H_has 2 rfl) ?_
    refine SW_aload_n h rfl (dt t_H_has 3 rfl) ?_
    refine gI h cf2 o1 f2_4 lX2_33 (dt t_H_has 4 rfl) ?_
    refine SW_icmp_ge (tgt := 16) h (fun _ => hx1) (fun _ => (okI ok 1 4 (IsO.n3 o1))) (dt t_H_has 5 rfl) rfl hf (fun hf => ?_) (fun hf => ?_)
    · refine SW_iconst h (dt t_H_has 8 rfl) ?_
      exact SW_zret h (hret _ hf) (by decide) rfl (dt t_H_has 9 rfl)
    · refine SW_iconst h (dt t_H_has 6 rfl) ?_
      refine SW_goto (tgt := 17) h (dt t_H_has 7 rfl) rfl ?_
      exact SW_zret h (hret _ hf) (by decide) rfl (dt t_H_has 9 rfl)
def b_A_beside : List (Nat × Instr × Nat) := [(0, .aload_n 0, 1), (1, .getfield 10, 3), (4, .iload_n 1, 1), (5, .invokevirtual 101, 3), (8, .ifCond .ne 5, 3), (11, .iconst (-1), 1), (12, .ireturn, 1), (13, .aload_n 0, 1), (14, .getfield 10, 3), (17, .getfield 90, 3), (20, .iload_n 1, 1), (21, .aaload, 1), (22, .astore_n 3, 1), (23, .iload_n 2, 1), (24, .ifCond .lt 13, 3), (27, .iload_n 2, 1), (28, .aload_n 3, 1), (29, .getfield 213, 3), (32, .iconst 1, 1), (33, .isub, 1), (34, .if_icmp .lt 5, 3), (37, .iconst (-1), 1), (38, .ireturn, 1), (39, .aload_n 0, 1), (40, .getfield 10, 3), (43, .getfield 55, 3), (46, .invokevirtual 200, 3), (49, .aload_n 3, 1), (50, .getfield 216, 3), (53, .iload_n 2, 1), (54, .iaload, 1), (55, .istore 4, 2), (57, .aload_n 3, 1), (58, .getfield 216, 3), (61, .iload_n 2, 1), (62, .iconst 1, 1), (63, .iadd, 1), (64, .iaload, 1), (65, .istore 5, 2), (67, .aload_n 0, 1), (68, .getfield 10, 3), (71, .getfield 55, 3), (74, .iload 4, 2), (76, .iload 5, 2), (78, .aload_n 3, 1), (79, .getfield 219, 3), (82, .iload_n 2, 1), (83, .iconst 1, 1), (84, .iadd, 1), (85, .iaload, 1), (86, .invokevirtual 222, 3), (89, .sipush 1000, 3), (92, .if_icmp .ne 7, 3), (95, .iconst 0, 1), (96, .goto 5, 3), (99, .bipush 100, 2), (101, .istore 6, 2), (103, .iload 6, 2), (105, .bipush 10, 2), (107, .iload 4, 2), (109, .imul, 1), (110, .iadd, 1), (111, .iload 5, 2), (113, .iadd, 1), (114, .ireturn, 1)]
theorem t_A_beside : DT cX10_beside b_A_beside := DT.of (by decide +kernel)
def F_A_beside (x1 : Int) (x2 : Int) (σ : Mm) : Option (Int × Mm) :=
  b1 (F_H_has x1 σ) fun v1 =>
  if v1 = 0 then
    some ((-1), σ)
  else
    if 0 ≤ x1 ∧ x1 < 12 then
      if x2 < 0 then
        some ((-1), σ)
      else
        if r32 ((σ (10 + x1.toNat) 4) - 1) then
          if x2 < (σ (10 + x1.toNat) 4) - 1 then
            b0M (F_J_fresh  σ) fun s4 =>
            if 0 ≤ x2 ∧ x2 < 16 then
              bindM (s4 ((10 + x1.toNat) + 24) x2.toNat) fun v5 =>
              if 0 ≤ x2 + 1 ∧ x2 + 1 < 16 then
                bindM (s4 ((10 + x1.toNat) + 24) ((x2 + 1).toNat)) fun v6 =>
                if 0 ≤ x2 + 1 ∧ x2 + 1 < 16 then
                  b1M (F_J_two v5 v6 (s4 ((10 + x1.toNat) + 36) ((x2 + 1).toNat)) s4) fun v7 s7 =>
                  bindM ((if v7 = 1000 then 0 else 100 : Int)) fun v8 =>
                  if r32 ((v8 + (10 * v5)) + v6) then
                    some ((v8 + (10 * v5)) + v6, s7)
                  else none
                else none
              else none
            else none
          else
            some ((-1), σ)
        else none
    else none
set_option maxRecDepth 100000 in
set_option maxHeartbeats 4000000 in
theorem c_A_beside (x1 : Int) (hx1 : r32 x1) (x2 : Int) (hx2 : r32 x2) {σ : Mm} {a : Int} {σ2 : Mm} (hf : F_A_beside x1 x2 σ = some (a, σ2)) : CT yX10_beside cX10_beside 7 (some .int) 6 0 (fun ad => [.ref (ad 0), .int (i32 x1), .int (i32 x2)]) σ (r32 a) (some (.int (i32 a))) σ2 := by
  refine MetJ 4 (by decide +kernel) rfl (fun _ => Nat.le_of_ble_eq_true rfl) ?_
  intro X h hR ok
  obtain ⟨res, er⟩ : ∃ z, z = (a, σ2) := ⟨_, rfl⟩
  have hret : ∀ y : Int × Mm, some y = some res → RX X 0 (r32 (y.1)) (some (.int (i32 (y.1)))) y.2 := fun y e => by cases e; cases er; exact hR
  rw [← er] at hf
  clear er hR
  unfold F_A_beside at hf
  show SW X 0 7 0 [some (.ref (xad X 0)), some (.int (i32 x1)), some (.int (i32 x2)), none, none, none, none] [] σ
  refine SW_aload_n h rfl (dt t_A_beside 0 rfl) ?_
  refine gR h cf10 o0 f10_0 j0_0 lX10_10 (dt t_A_beside 1 rfl) ?_
  refine SW_iload_n h rfl (dt t_A_beside 2 rfl) ?_
  obtain ⟨v1, e1, hf⟩ := b1_of hf
  refine cV h [.int (i32 x1)] [] v_X2_has kX10_101 o1 (c_H_has x1 hx1 e1) rfl rfl (by decide) (by decide) rfl (Nat.le_of_ble_eq_true rfl) (dt t_A_beside 3 rfl) (fun h1 => ?_)
  refine SW_if_ne (tgt := 13) h (fun _ => (r_zo h1)) (dt t_A_beside 4 rfl) rfl hf (fun hf => ?_) (fun hf => ?_)
  · refine SW_iconst h (dt t_A_beside 5 rfl) ?_
    exact SW_iret h (hret _ hf) (fun _ => (by decide)) rfl (dt t_A_beside 6 rfl)
  · refine SW_aload_n h rfl (dt t_A_beside 7 rfl) ?_
    refine gR h cf10 o0 f10_0 j0_0 lX10_10 (dt t_A_beside 8 rfl) ?_
    refine gR h cf2 o1 f2_2 j1_2 lX10_90 (dt t_A_beside 9 rfl) ?_
    refine SW_iload_n h rfl (dt t_A_beside 10 rfl) ?_
    refine aR h (by decide) a8 rfl (dt t_A_beside 11 rfl) hf (fun h2 hf => ?_)
    refine SW_astore_n (lv2 := [some (.ref (xad X 0)), some (.int (i32 x1)), some (.int (i32 x2)), some (.ref (xad X (10 + x1.toNat))), none, none, none]) h (dt t_A_beside 12 rfl) (by decide) rfl ?_
    refine SW_iload_n h rfl (dt t_A_beside 13 rfl) ?_
    refine SW_if_lt (tgt := 37) h (fun _ => hx2) (dt t_A_beside 14 rfl) rfl hf (fun hf => ?_) (fun hf => ?_)
    · refine SW_iconst h (dt t_A_beside 21 rfl) ?_
      exact SW_iret h (hret _ hf) (fun _ => (by decide)) rfl (dt t_A_beside 22 rfl)
    · refine SW_iload_n h rfl (dt t_A_beside 15 rfl) ?_
      refine SW_aload_n h rfl (dt t_A_beside 16 rfl) ?_
      refine gI h cf6 (mk_row h2) f6_4 lX10_213 (dt t_A_beside 17 rfl) ?_
      refine SW_iconst h (dt t_A_beside 18 rfl) ?_
      refine SW_isub h (dt t_A_beside 19 rfl) ?_
      refine SW_chk hf (fun h3 hf => ?_)
      refine SW_icmp_lt (tgt := 39) h (fun _ => hx2) (fun _ => h3) (dt t_A_beside 20 rfl) rfl hf (fun hf => ?_) (fun hf => ?_)
      · refine SW_aload_n h rfl (dt t_A_beside 23 rfl) ?_
        refine gR h cf10 o0 f10_0 j0_0 lX10_10 (dt t_A_beside 24 rfl) ?_
        refine gR h cf2 o1 f2_0 j1_0 lX10_55 (dt t_A_beside 25 rfl) ?_
        obtain ⟨s4, e4, hf⟩ := b0M_of hf
        refine cVv h [] [] v_X4_fresh kX10_200 o2 (c_J_fresh  e4) rfl rfl (by decide) (by decide) rfl (Nat.le_of_ble_eq_true rfl) (dt t_A_beside 26 rfl) (fun h4 => ?_)
        refine SW_ok (fun ok4 => ?_)
        refine SW_aload_n h rfl (dt t_A_beside 27 rfl) ?_
        refine gR h cf6 (mk_row h2) f6_1 (dy6_1 (mk_row h2)).1 lX10_216 (dt t_A_beside 28 rfl) ?_
        refine SW_iload_n h rfl (dt t_A_beside 29 rfl) ?_
        refine aI h (dy6_1 (mk_row h2)).2 (dt t_A_beside 30 rfl) hf (fun hf => ?_)
        refine SW_vi hf (okI ok4 ((10 + x1.toNat) + 24) x2.toNat (IsA.n3 (dy6_1 (mk_row h2)).2 (by decide))) (fun v5 h5 hf => ?_)
        refine SW_istore (lv2 := [some (.ref (xad X 0)), some (.int (i32 x1)), some (.int (i32 x2)), some (.ref (xad X (10 + x1.toNat))), some (.int (i32 v5)), none, none]) h (dt t_A_beside 31 rfl) (by decide) rfl ?_
        refine SW_aload_n h rfl (dt t_A_beside 32 rfl) ?_
        refine gR h cf6 (mk_row h2) f6_1 (dy6_1 (mk_row h2)).1 lX10_216 (dt t_A_beside 33 rfl) ?_
        refine SW_iload_n h rfl (dt t_A_beside 34 rfl) ?_
        refine SW_iconst h (dt t_A_beside 35 rfl) ?_
        refine SW_iadd h (dt t_A_beside 36 rfl) ?_
        refine aI h (dy6_1 (mk_row h2)).2 (dt t_A_beside 37 rfl) hf (fun hf => ?_)
        refine SW_vi hf (okI ok4 ((10 + x1.toNat) + 24) ((x2 + 1).toNat) (IsA.n3 (dy6_1 (mk_row h2)).2 (by decide))) (fun v6 h6 hf => ?_)
        refine SW_istore (lv2 := [some (.ref (xad X 0)), some (.int (i32 x1)), some (.int (i32 x2)), some (.ref (xad X (10 + x1.toNat))), some (.int (i32 v5)), some (.int (i32 v6)), none]) h (dt t_A_beside 38 rfl) (by decide) rfl ?_
        refine SW_aload_n h rfl (dt t_A_beside 39 rfl) ?_
        refine gR h cf10 o0 f10_0 j0_0 lX10_10 (dt t_A_beside 40 rfl) ?_
        refine gR h cf2 o1 f2_0 j1_0 lX10_55 (dt t_A_beside 41 rfl) ?_
        refine SW_iload h rfl (dt t_A_beside 42 rfl) ?_
        refine SW_iload h rfl (dt t_A_beside 43 rfl) ?_
        refine SW_aload_n h rfl (dt t_A_beside 44 rfl) ?_
        refine gR h cf6 (mk_row h2) f6_2 (dy6_2 (mk_row h2)).1 lX10_219 (dt t_A_beside 45 rfl) ?_
        refine SW_iload_n h rfl (dt t_A_beside 46 rfl) ?_
        refine SW_iconst h (dt t_A_beside 47 rfl) ?_
        refine SW_iadd h (dt t_A_beside 48 rfl) ?_
        refine aI h (dy6_2 (mk_row h2)).2 (dt t_A_beside 49 rfl) hf (fun hf => ?_)
        obtain ⟨v7, s7, e7, hf⟩ := b1M_of hf
        refine cV h [.int (i32 v5), .int (i32 v6), .int (i32 (s4 ((10 + x1.toNat) + 36) ((x2 + 1).toNat)))] [] v_X4_two kX10_222 o2 (c_J_two v5 h5 v6 h6 (s4 ((10 + x1.toNat) + 36) ((x2 + 1).toNat)) (okI ok4 ((10 + x1.toNat) + 36) ((x2 + 1).toNat) (IsA.n3 (dy6_2 (mk_row h2)).2 (by decide))) e7) rfl rfl (by decide) (by decide) rfl (Nat.le_of_ble_eq_true rfl) (dt t_A_beside 50 rfl) (fun h7 => ?_)
        refine SW_ok (fun ok7 => ?_)
        refine SW_sipush h (dt t_A_beside 51 rfl) (by decide) ?_
        refine bT hf (fun g8 e8 hf => ?_)
        have k8 : ∀ (v8 : Int) (h8 : r32 v8) (hf : g8 v8 = some res), SW X 0 7 101 [some (.ref (xad X 0)), some (.int (i32 x1)), some (.int (i32 x2)), some (.ref (xad X (10 + x1.toNat))), some (.int (i32 v5)), some (.int (i32 v6)), none] [.int (i32 v8)] s7 := by
          intro v8 h8 hf
          rw [e8] at hf
          refine SW_istore (lv2 := [some (.ref (xad X 0)), some (.int (i32 x1)), some (.int (i32 x2)), some (.ref (xad X (10 + x1.toNat))), some (.int (i32 v5)), some (.int (i32 v6)), some (.int (i32 v8))]) h (dt t_A_beside 56 rfl) (by decide) rfl ?_
          refine SW_iload h rfl (dt t_A_beside 57 rfl) ?_
          refine SW_bipush h (dt t_A_beside 58 rfl) (by decide) ?_
          refine SW_iload h rfl (dt t_A_beside 59 rfl) ?_
          refine SW_imul h (dt t_A_beside 60 rfl) ?_
          refine SW_iadd h (dt t_A_beside 61 rfl) ?_
          refine SW_iload h rfl (dt t_A_beside 62 rfl) ?_
          refine SW_iadd h (dt t_A_beside 63 rfl) ?_
          refine SW_chk hf (fun h9 hf => ?_)
          exact SW_iret h (hret _ hf) (fun _ => h9) rfl (dt t_A_beside 64 rfl)
        have hf := bIte hf
        refine SW_icmp_ne (tgt := 99) h (fun _ => h7) (fun _ => (by decide)) (dt t_A_beside 52 rfl) rfl hf (fun hf => ?_) (fun hf => ?_)
        · refine SW_iconst h (dt t_A_beside 53 rfl) ?_
          refine SW_goto (tgt := 101) h (dt t_A_beside 54 rfl) rfl ?_
          exact k8 0 (by decide) hf
        · refine SW_bipush h (dt t_A_beside 55 rfl) (by decide) ?_
          exact k8 100 (by decide) hf
      · refine SW_iconst h (dt t_A_beside 21 rfl) ?_
        exact SW_iret h (hret _ hf) (fun _ => (by decide)) rfl (dt t_A_beside 22 rfl)
def b_A_book : List (Nat × Instr × Nat) := [(0, .aload_n 0, 1), (1, .getfield 10, 3), (4, .getfield 106, 3), (7, .bipush 43, 2), (9, .iaload, 1), (10, .istore_n 3, 1), (11, .iload_n 1, 1), (12, .iconst (-1), 1), (13, .if_icmp .ne 5, 3), (16, .iload_n 3, 1), (17, .ireturn, 1), (18, .iload_n 1, 1), (19, .ifCond .lt 17, 3), (22, .iload_n 1, 1), (23, .iload_n 3, 1), (24, .if_icmp .ge 12, 3), (27, .iload_n 2, 1), (28, .ifCond .lt 8, 3), (31, .iload_n 2, 1), (32, .iconst 2, 1), (33, .if_icmp .le 6, 3), (36, .ldc 105, 2), (38, .ireturn, 1), (39, .aload_n 0, 1), (40, .getfield 10, 3), (43, .getfield 106, 3), (46, .bipush 44, 2), (48, .iaload, 1), (49, .iload_n 3, 1), (50, .isub, 1), (51, .iload_n 1, 1), (52, .iadd, 1), (53, .bipush 40, 2), (55, .invokestatic 226, 3), (58, .istore 4, 2), (60, .aload_n 0, 1), (61, .getfield 10, 3), (64, .getfield 106, 3), (67, .bipush 45, 2), (69, .iconst 3, 1), (70, .iload 4, 2), (72, .imul, 1), (73, .iadd, 1), (74, .iload_n 2, 1), (75, .iadd, 1), (76, .iaload, 1), (77, .ireturn, 1)]
theorem t_A_book : DT cX10_book b_A_book := DT.of (by decide +kernel)
def F_A_book (x1 : Int) (x2 : Int) (σ : Mm) : Option (Int) :=
  if x1 = (-1) then
    some (σ 3 43)
  else
    if x1 < 0 then
      some ((-1000000))
    else
      if σ 3 43 ≤ x1 then
        some ((-1000000))
      else
        if x2 < 0 then
          some ((-1000000))
        else
          if x2 ≤ 2 then
            if r32 (((σ 3 44) - (σ 3 43)) + x1) then
              b1 (F_K_floorMod (((σ 3 44) - (σ 3 43)) + x1) 40) fun v1 =>
              if 0 ≤ (45 + (3 * v1)) + x2 ∧ (45 + (3 * v1)) + x2 < 165 then
                some (σ 3 (((45 + (3 * v1)) + x2).toNat))
              else none
            else none
          else
            some ((-1000000))
set_option maxRecDepth 100000 in
set_option maxHeartbeats 4000000 in
theorem c_A_book (x1 : Int) (hx1 : r32 x1) (x2 : Int) (hx2 : r32 x2) {σ : Mm} {a : Int} (hf : F_A_book x1 x2 σ = some a) : CT yX10_book cX10_book 5 (some .int) 1 0 (fun ad => [.ref (ad 0), .int (i32 x1), .int (i32 x2)]) σ (r32 a) (some (.int (i32 a))) σ := by
  refine MetJ 2 (by decide +kernel) rfl (fun _ => Nat.le_of_ble_eq_true rfl) ?_
  intro X h hR ok
  obtain ⟨res, er⟩ : ∃ z, z = a := ⟨_, rfl⟩
  have hret : ∀ y : Int, some y = some res → RX X 0 (r32 (y)) (some (.int (i32 (y)))) σ := fun y e => by cases e; cases er; exact hR
  rw [← er] at hf
  clear er hR
  unfold F_A_book at hf
  show SW X 0 5 0 [some (.ref (xad X 0)), some (.int (i32 x1)), some (.int (i32 x2)), none, none] [] σ
  refine SW_aload_n h rfl (dt t_A_book 0 rfl) ?_
  refine gR h cf10 o0 f10_0 j0_0 lX10_10 (dt t_A_book 1 rfl) ?_
  refine gR h cf2 o1 f2_1 j1_1 lX10_106 (dt t_A_book 2 rfl) ?_
  refine SW_bipush h (dt t_A_book 3 rfl) (by decide) ?_
  refine aIk h a3 (by decide) (dt t_A_book 4 rfl) ?_
  refine SW_istore_n (lv2 := [some (.ref (xad X 0)), some (.int (i32 x1)), some (.int (i32 x2)), some (.int (i32 (σ 3 43))), none]) h (dt t_A_book 5 rfl) (by decide) rfl ?_
  refine SW_iload_n h rfl (dt t_A_book 6 rfl) ?_
  refine SW_iconst h (dt t_A_book 7 rfl) ?_
  refine SW_icmp_ne (tgt := 18) h (fun _ => hx1) (fun _ => (by decide)) (dt t_A_book 8 rfl) rfl hf (fun hf => ?_) (fun hf => ?_)
  · refine SW_iload_n h rfl (dt t_A_book 9 rfl) ?_
    exact SW_iret h (hret _ hf) (fun _ => (okI ok 3 43 (IsA.n3 a3 (by decide)))) rfl (dt t_A_book 10 rfl)
  · refine SW_iload_n h rfl (dt t_A_book 11 rfl) ?_
    refine SW_if_lt (tgt := 36) h (fun _ => hx1) (dt t_A_book 12 rfl) rfl hf (fun hf => ?_) (fun hf => ?_)
    · refine SW_ldc (n := -1000000) h nX10_105 (by decide) (dt t_A_book 21 rfl) ?_
      exact SW_iret h (hret _ hf) (fun _ => (by decide)) rfl (dt t_A_book 22 rfl)
    · refine SW_iload_n h rfl (dt t_A_book 13 rfl) ?_
      refine SW_iload_n h rfl (dt t_A_book 14 rfl) ?_
      refine SW_icmp_ge (tgt := 36) h (fun _ => hx1) (fun _ => (okI ok 3 43 (IsA.n3 a3 (by decide)))) (dt t_A_book 15 rfl) rfl hf (fun hf => ?_) (fun hf => ?_)
      · refine SW_ldc (n := -1000000) h nX10_105 (by decide) (dt t_A_book 21 rfl) ?_
        exact SW_iret h (hret _ hf) (fun _ => (by decide)) rfl (dt t_A_book 22 rfl)
      · refine SW_iload_n h rfl (dt t_A_book 16 rfl) ?_
        refine SW_if_lt (tgt := 36) h (fun _ => hx2) (dt t_A_book 17 rfl) rfl hf (fun hf => ?_) (fun hf => ?_)
        · refine SW_ldc (n := -1000000) h nX10_105 (by decide) (dt t_A_book 21 rfl) ?_
          exact SW_iret h (hret _ hf) (fun _ => (by decide)) rfl (dt t_A_book 22 rfl)
        · refine SW_iload_n h rfl (dt t_A_book 18 rfl) ?_
          refine SW_iconst h (dt t_A_book 19 rfl) ?_
          refine SW_icmp_le (tgt := 39) h (fun _ => hx2) (fun _ => (by decide)) (dt t_A_book 20 rfl) rfl hf (fun hf => ?_) (fun hf => ?_)
          · refine SW_aload_n h rfl (dt t_A_book 23 rfl) ?_
            refine gR h cf10 o0 f10_0 j0_0 lX10_10 (dt t_A_book 24 rfl) ?_
            refine gR h cf2 o1 f2_1 j1_1 lX10_106 (dt t_A_book 25 rfl) ?_
            refine SW_bipush h (dt t_A_book 26 rfl) (by decide) ?_
            refine aIk h a3 (by decide) (dt t_A_book 27 rfl) ?_
            refine SW_iload_n h rfl (dt t_A_book 28 rfl) ?_
            refine SW_isub h (dt t_A_book 29 rfl) ?_
            refine SW_iload_n h rfl (dt t_A_book 30 rfl) ?_
            refine SW_iadd h (dt t_A_book 31 rfl) ?_
            refine SW_bipush h (dt t_A_book 32 rfl) (by decide) ?_
            refine SW_chk hf (fun h2 hf => ?_)
            obtain ⟨v1, e1, hf⟩ := b1_of hf
            refine cS h [.int (i32 (((σ 3 44) - (σ 3 43)) + x1)), .int (i32 40)] [] v_J9_floorMod_7cf53 kX10_226 (c_K_floorMod (((σ 3 44) - (σ 3 43)) + x1) h2 40 (by decide) e1) rfl rfl (by decide) (by decide) rfl (Nat.le_of_ble_eq_true rfl) (dt t_A_book 33 rfl) (fun h1 => ?_)
            refine SW_istore (lv2 := [some (.ref (xad X 0)), some (.int (i32 x1)), some (.int (i32 x2)), some (.int (i32 (σ 3 43))), some (.int (i32 v1))]) h (dt t_A_book 34 rfl) (by decide) rfl ?_
            refine SW_aload_n h rfl (dt t_A_book 35 rfl) ?_
            refine gR h cf10 o0 f10_0 j0_0 lX10_10 (dt t_A_book 36 rfl) ?_
            refine gR h cf2 o1 f2_1 j1_1 lX10_106 (dt t_A_book 37 rfl) ?_
            refine SW_bipush h (dt t_A_book 38 rfl) (by decide) ?_
            refine SW_iconst h (dt t_A_book 39 rfl) ?_
            refine SW_iload h rfl (dt t_A_book 40 rfl) ?_
            refine SW_imul h (dt t_A_book 41 rfl) ?_
            refine SW_iadd h (dt t_A_book 42 rfl) ?_
            refine SW_iload_n h rfl (dt t_A_book 43 rfl) ?_
            refine SW_iadd h (dt t_A_book 44 rfl) ?_
            refine aI h a3 (dt t_A_book 45 rfl) hf (fun hf => ?_)
            exact SW_iret h (hret _ hf) (fun _ => (okI ok 3 (((45 + (3 * v1)) + x2).toNat) (IsA.n3 a3 (by decide)))) rfl (dt t_A_book 46 rfl)
          · refine SW_ldc (n := -1000000) h nX10_105 (by decide) (dt t_A_book 21 rfl) ?_
            exact SW_iret h (hret _ hf) (fun _ => (by decide)) rfl (dt t_A_book 22 rfl)
def b_A_by : List (Nat × Instr × Nat) := [(0, .iload_n 1, 1), (1, .iconst (-1), 1), (2, .if_icmp .eq 17, 3), (5, .iload_n 1, 1), (6, .ifCond .lt 11, 3), (9, .iload_n 1, 1), (10, .aload_n 0, 1), (11, .getfield 142, 3), (14, .if_icmp .lt 5, 3), (17, .iconst 0, 1), (18, .ireturn, 1), (19, .aload_n 0, 1), (20, .iload_n 1, 1), (21, .invokevirtual 159, 3), (24, .iconst 1, 1), (25, .ireturn, 1)]
theorem t_A_by : DT cX10_by b_A_by := DT.of (by decide +kernel)
def F_A_by (x1 : Int) (σ : Mm) : Option (Int × Mm) :=
  bindM (
    b0M (F_A_ruleBy x1 σ) fun s2 =>
    some (1, s2)) fun J1 =>
  if x1 = (-1) then
    J1
  else
    if x1 < 0 then
      some (0, σ)
    else
      if x1 < σ 0 8 then
        J1
      else
        some (0, σ)
set_option maxRecDepth 100000 in
set_option maxHeartbeats 4000000 in
theorem c_A_by (x1 : Int) (hx1 : r32 x1) {σ : Mm} {a : Int} {σ2 : Mm} (hf : F_A_by x1 σ = some (a, σ2)) : CT yX10_by cX10_by 2 (some .boolean) 1 0 (fun ad => [.ref (ad 0), .int (i32 x1)]) σ (a = 0 ∨ a = 1) (some (.int (i32 a))) σ2 := by
  refine MetJ 0 (by decide +kernel) rfl (fun _ => Nat.le_of_ble_eq_true rfl) ?_
  intro X h hR ok
  obtain ⟨res, er⟩ : ∃ z, z = (a, σ2) := ⟨_, rfl⟩
  have hret : ∀ y : Int × Mm, some y = some res → RX X 0 (y.1 = 0 ∨ y.1 = 1) (some (.int (i32 (y.1)))) y.2 := fun y e => by cases e; cases er; exact hR
  rw [← er] at hf
  clear er hR
  unfold F_A_by at hf
  show SW X 0 2 0 [some (.ref (xad X 0)), some (.int (i32 x1))] [] σ
  refine SW_iload_n h rfl (dt t_A_by 0 rfl) ?_
  refine SW_iconst h (dt t_A_by 1 rfl) ?_
  refine bJ hf (fun J1 e1 hf => ?_)
  have k1 : ∀ (hf : J1 = some res), SW X 0 2 19 [some (.ref (xad X 0)), some (.int (i32 x1))] [] σ := by
    intro hf
    rw [e1] at hf
    refine SW_aload_n h rfl (dt t_A_by 11 rfl) ?_
    refine SW_iload_n h rfl (dt t_A_by 12 rfl) ?_
    obtain ⟨s2, e2, hf⟩ := b0M_of hf
    refine cVv h [.int (i32 x1)] [] v_X10_ruleBy kX10_159 o0 (c_A_ruleBy x1 hx1 e2) rfl rfl (by decide) (by decide) rfl (Nat.le_of_ble_eq_true rfl) (dt t_A_by 13 rfl) (fun h2 => ?_)
    refine SW_ok (fun ok2 => ?_)
    refine SW_iconst h (dt t_A_by 14 rfl) ?_
    exact SW_zret h (hret _ hf) (by decide) rfl (dt t_A_by 15 rfl)
  refine SW_icmp_eq (tgt := 19) h (fun _ => hx1) (fun _ => (by decide)) (dt t_A_by 2 rfl) rfl hf (fun hf => ?_) (fun hf => ?_)
  · exact SW_fgt [true, true] rfl (k1 hf)
  · refine SW_iload_n h rfl (dt t_A_by 3 rfl) ?_
    refine SW_if_lt (tgt := 17) h (fun _ => hx1) (dt t_A_by 4 rfl) rfl hf (fun hf => ?_) (fun hf => ?_)
    · refine SW_iconst h (dt t_A_by 9 rfl) ?_
      exact SW_zret h (hret _ hf) (by decide) rfl (dt t_A_by 10 rfl)
    · refine SW_iload_n h rfl (dt t_A_by 5 rfl) ?_
      refine SW_aload_n h rfl (dt t_A_by 6 rfl) ?_
      refine gI h cf10 o0 f10_8 lX10_142 (dt t_A_by 7 rfl) ?_
      refine SW_icmp_lt (tgt := 19) h (fun _ => hx1) (fun _ => (okI ok 0 8 (IsO.n3 o0))) (dt t_A_by 8 rfl) rfl hf (fun hf => ?_) (fun hf => ?_)
      · exact SW_fgt [true, true] rfl (k1 hf)
      · refine SW_iconst h (dt t_A_by 9 rfl) ?_
        exact SW_zret h (hret _ hf) (by decide) rfl (dt t_A_by 10 rfl)
def b_A_isNumber : List (Nat × Instr × Nat) := [(0, .iload_n 0, 1), (1, .ifCond .lt 14, 3), (4, .iload_n 0, 1), (5, .sipush 9999, 3), (8, .if_icmp .gt 7, 3), (11, .iconst 1, 1), (12, .goto 4, 3), (15, .iconst 0, 1), (16, .ireturn, 1)]
theorem t_A_isNumber : DT cX10_isNumber b_A_isNumber := DT.of (by decide +kernel)
def F_A_isNumber (x0 : Int) : Option (Int) :=
  if x0 < 0 then
    some 0
  else
    if 9999 < x0 then
      some 0
    else
      some 1
set_option maxRecDepth 100000 in
set_option maxHeartbeats 4000000 in
theorem c_A_isNumber (x0 : Int) (hx0 : r32 x0) {σ : Mm} {a : Int} (hf : F_A_isNumber x0 = some a) : CT yX10_isNumber cX10_isNumber 1 (some .boolean) 0 0 (fun ad => [.int (i32 x0)]) σ (a = 0 ∨ a = 1) (some (.int (i32 a))) σ := by
  refine MetJ 0 (by decide +kernel) rfl (fun _ => Nat.le_of_ble_eq_true rfl) ?_
  intro X h hR ok
  obtain ⟨res, er⟩ : ∃ z, z = a := ⟨_, rfl⟩
  have hret : ∀ y : Int, some y = some res → RX X 0 (y = 0 ∨ y = 1) (some (.int (i32 (y)))) σ := fun y e => by cases e; cases er; exact hR
  rw [← er] at hf
  clear er hR
  unfold F_A_isNumber at hf
  show SW X 0 1 0 [some (.int (i32 x0))] [] σ
  refine SW_iload_n h rfl (dt t_A_isNumber 0 rfl) ?_
  refine SW_if_lt (tgt := 15) h (fun _ => hx0) (dt t_A_isNumber 1 rfl) rfl hf (fun hf => ?_) (fun hf => ?_)
  · refine SW_iconst h (dt t_A_isNumber 7 rfl) ?_
    exact SW_zret h (hret _ hf) (by decide) rfl (dt t_A_isNumber 8 rfl)
  · refine SW_iload_n h rfl (dt t_A_isNumber 2 rfl) ?_
    refine SW_sipush h (dt t_A_isNumber 3 rfl) (by decide) ?_
    refine SW_icmp_gt (tgt := 15) h (fun _ => hx0) (fun _ => (by decide)) (dt t_A_isNumber 4 rfl) rfl hf (fun hf => ?_) (fun hf => ?_)
    · refine SW_iconst h (dt t_A_isNumber 7 rfl) ?_
      exact SW_zret h (hret _ hf) (by decide) rfl (dt t_A_isNumber 8 rfl)
    · refine SW_iconst h (dt t_A_isNumber 5 rfl) ?_
      refine SW_goto (tgt := 16) h (dt t_A_isNumber 6 rfl) rfl ?_
      exact SW_zret h (hret _ hf) (by decide) rfl (dt t_A_isNumber 8 rfl)
def b_E_carriedOn : List (Nat × Instr × Nat) := [(0, .aload_n 0, 1), (1, .getfield 41, 3), (4, .invokevirtual 42, 3), (7, .iconst 0, 1), (8, .istore 4, 2), (10, .iconst 0, 1), (11, .istore 5, 2), (13, .iload_n 1, 1), (14, .istore 6, 2), (16, .iload_n 2, 1), (17, .istore 7, 2), (19, .iconst 0, 1), (20, .istore 8, 2), (22, .iload 8, 2), (24, .iconst 4, 1), (25, .if_icmp .ge 113, 3), (28, .iload 8, 2), (30, .ifCond .eq 13, 3), (33, .iload 6, 2), (35, .ifCond .le 12, 3), (38, .iload 7, 2), (40, .ifCond .le 7, 3), (43, .iconst 1, 1), (44, .goto 4, 3), (47, .iconst 0, 1), (48, .istore 9, 2), (50, .iload 6, 2), (52, .bipush 10, 2), (54, .irem, 1), (55, .iload 7, 2), (57, .bipush 10, 2), (59, .irem, 1), (60, .iadd, 1), (61, .iload 5, 2), (63, .iadd, 1), (64, .bipush 10, 2), (66, .if_icmp .lt 7, 3), (69, .iconst 1, 1), (70, .goto 4, 3), (73, .iconst 0, 1), (74, .istore 5, 2), (76, .iload 5, 2), (78, .iconst 1, 1), (79, .if_icmp .ne 39, 3), (82, .iload_n 3, 1), (83, .ifCond .eq 32, 3), (86, .iload 9, 2), (88, .ifCond .eq 30, 3), (91, .aload_n 0, 1), (92, .getfield 41, 3), (95, .iload 6, 2), (97, .bipush 10, 2), (99, .irem, 1), (100, .iload 7, 2), (102, .bipush 10, 2), (104, .irem, 1), (105, .iconst 2, 1), (106, .invokevirtual 95, 3), (109, .sipush 1000, 3), (112, .if_icmp .eq 6, 3), (115, .iinc 4 1, 3), (118, .iload 6, 2), (120, .bipush 10, 2), (122, .idiv, 1), (123, .istore 6, 2), (125, .iload 7, 2), (127, .bipush 10, 2), (129, .idiv, 1), (130, .istore 7, 2), (132, .iinc 8 1, 3), (135, .goto (-113), 3), (138, .iload 4, 2), (140, .ireturn, 1)]
theorem t_E_carriedOn : DT cX7_carriedOn b_E_carriedOn := DT.of (by decide +kernel)
def L_E_carriedOn_22 : Nat → Int → Int → Int → Int → Int → Int → Mm → Option (Int × Mm)
  | 0, _, _, _, _, _, _, _ => none
  | n + 1, x3, x4, x5, x6, x7, x8, σ =>
    if 4 ≤ x8 then
      some ((x4, σ))
    else
      bindM (fun (y2 : Int) =>
        if r32 (((x6.tmod 10) + (x7.tmod 10)) + x5) then
          bindM ((if ((x6.tmod 10) + (x7.tmod 10)) + x5 < 10 then 0 else 1 : Int)) fun v3 =>
          bindM (fun (x4_5 : Int) (t5 : Mm) =>
            if r32 (x8 + 1) then
              L_E_carriedOn_22 n x3 x4_5 v3 (x6.tdiv 10) (x7.tdiv 10) (x8 + 1) t5
            else none) fun J5 =>
          if v3 = 1 then
            bindM (fun  (t7 : Mm) =>
              if r32 (x4 + 1) then
                J5 (x4 + 1) t7
              else none) fun J7 =>
            if x3 = 0 then
              J7 σ
            else
              if y2 = 0 then
                J5 x4 σ
              else
                b1M (F_J_two (x6.tmod 10) (x7.tmod 10) 2 σ) fun v9 s9 =>
                if v9 = 1000 then
                  J5 x4 s9
                else
                  J7 s9
          else
            J5 x4 σ
        else none) fun J2 =>
      bindM (
        J2 1) fun J10 =>
      if x8 = 0 then
        J10
      else
        bindM (
          J2 0) fun J11 =>
        if x6 ≤ 0 then
          J11
        else
          if x7 ≤ 0 then
            J11
          else
            J10
set_option maxRecDepth 100000 in
set_option maxHeartbeats 4000000 in
theorem l_E_carriedOn_22 {X : Cx} (h : CX X 0 cX7_carriedOn 10 6 (some .int) RX7) (x3 : Int) (hx3 : r32 x3) {res : Int × Mm} (hex : ∀ (x4 : Int) (σ : Mm) (hz : some ((x4, σ)) = some res) (hx4 : r32 x4) (ok : okM σ), SW X 0 10 138 [none, none, none, none, some (.int (i32 x4)), none, none, none, none, none] [] σ) : ∀ (n : Nat) (x4 : Int) (x5 : Int) (x6 : Int) (x7 : Int) (x8 : Int) (σ : Mm) (hx4 : r32 x4) (hx5 : r32 x5) (hx6 : r32 x6) (hx7 : r32 x7) (hx8 : r32 x8) (ok : okM σ) (hf : L_E_carriedOn_22 n x3 x4 x5 x6 x7 x8 σ = some res), SW X 0 10 22 [some (.ref (xad X 114)), none, none, some (.int (i32 x3)), some (.int (i32 x4)), some (.int (i32 x5)), some (.int (i32 x6)), some (.int (i32 x7)), some (.int (i32 x8)), none] [] σ := by
  intro n
  induction n with
  | zero => intro x4 x5 x6 x7 x8 σ hx4 hx5 hx6 hx7 hx8 ok hf; exact absurd hf (by simp [L_E_carriedOn_22])
  | succ n ih =>
    intro x4 x5 x6 x7 x8 σ hx4 hx5 hx6 hx7 hx8 ok hf
    rw [L_E_carriedOn_22] at hf
    refine SW_iload h rfl (dt t_E_carriedOn 13 rfl) ?_
    refine SW_iconst h (dt t_E_carriedOn 14 rfl) ?_
    refine SW_icmp_ge (tgt := 138) h (fun _ => hx8) (fun _ => (by decide)) (dt t_E_carriedOn 15 rfl) rfl hf (fun hf => ?_) (fun hf => ?_)
    · exact SW_fgt [false, false, false, false, true, false, false, false, false, false] rfl (hex x4 σ hf hx4 ok)
    · refine SW_iload h rfl (dt t_E_carriedOn 16 rfl) ?_
      refine bJ hf (fun J2 e2 hf => ?_)
      have k2 : ∀ (y2 : Int) (hy2 : r32 y2) (hf : J2 y2 = some res), SW X 0 10 48 [some (.ref (xad X 114)), none, none, some (.int (i32 x3)), some (.int (i32 x4)), some (.int (i32 x5)), some (.int (i32 x6)), some (.int (i32 x7)), some (.int (i32 x8)), none] [.int (i32 y2)] σ := by
        intro y2 hy2 hf
        rw [e2] at hf
        refine SW_istore (lv2 := [some (.ref (xad X 114)), none, none, some (.int (i32 x3)), some (.int (i32 x4)), some (.int (i32 x5)), some (.int (i32 x6)), some (.int (i32 x7)), some (.int (i32 x8)), some (.int (i32 y2))]) h (dt t_E_carriedOn 25 rfl) (by decide) rfl ?_
        refine SW_iload h rfl (dt t_E_carriedOn 26 rfl) ?_
        refine SW_bipush h (dt t_E_carriedOn 27 rfl) (by decide) ?_
        refine SW_irem h (fun _ => hx6) (fun _ => (by decide)) (by decide) (dt t_E_carriedOn 28 rfl) ?_
        refine SW_iload h rfl (dt t_E_carriedOn 29 rfl) ?_
        refine SW_bipush h (dt t_E_carriedOn 30 rfl) (by decide) ?_
        refine SW_irem h (fun _ => hx7) (fun _ => (by decide)) (by decide) (dt t_E_carriedOn 31 rfl) ?_
        refine SW_iadd h (dt t_E_carriedOn 32 rfl) ?_
        refine SW_iload h rfl (dt t_E_carriedOn 33 rfl) ?_
        refine SW_iadd h (dt t_E_carriedOn 34 rfl) ?_
        refine SW_bipush h (dt t_E_carriedOn 35 rfl) (by decide) ?_
        refine SW_chk hf (fun h4 hf => ?_)
        refine bT hf (fun g3 e3 hf => ?_)
        have k3 : ∀ (v3 : Int) (h3 : r32 v3) (hf : g3 v3 = some res), SW X 0 10 74 [some (.ref (xad X 114)), none, none, some (.int (i32 x3)), some (.int (i32 x4)), some (.int (i32 x5)), some (.int (i32 x6)), some (.int (i32 x7)), some (.int (i32 x8)), some (.int (i32 y2))] [.int (i32 v3)] σ := by
          intro v3 h3 hf
          rw [e3] at hf
          refine SW_istore (lv2 := [some (.ref (xad X 114)), none, none, some (.int (i32 x3)), some (.int (i32 x4)), some (.int (i32 v3)), some (.int (i32 x6)), some (.int (i32 x7)), some (.int (i32 x8)), some (.int (i32 y2))]) h (dt t_E_carriedOn 40 rfl) (by decide) rfl ?_
          refine SW_iload h rfl (dt t_E_carriedOn 41 rfl) ?_
          refine SW_iconst h (dt t_E_carriedOn 42 rfl) ?_
          refine bJ hf (fun J5 e5 hf => ?_)
          have k5 : ∀ (x4_5 : Int) (t5 : Mm) (hx4_5 : r32 x4_5) (ot5 : okM t5) (hf : J5 x4_5 t5 = some res), SW X 0 10 118 [some (.ref (xad X 114)), none, none, some (.int (i32 x3)), some (.int (i32 x4_5)), some (.int (i32 v3)), some (.int (i32 x6)), some (.int (i32 x7)), some (.int (i32 x8)), none] [] t5 := by
            intro x4_5 t5 hx4_5 ot5 hf
            rw [e5] at hf
            refine SW_iload h rfl (dt t_E_carriedOn 61 rfl) ?_
            refine SW_bipush h (dt t_E_carriedOn 62 rfl) (by decide) ?_
            refine SW_idiv h (fun _ => hx6) (fun _ => (by decide)) (by decide) (dt t_E_carriedOn 63 rfl) ?_
            refine SW_istore (lv2 := [some (.ref (xad X 114)), none, none, some (.int (i32 x3)), some (.int (i32 x4_5)), some (.int (i32 v3)), some (.int (i32 (x6.tdiv 10))), some (.int (i32 x7)), some (.int (i32 x8)), none]) h (dt t_E_carriedOn 64 rfl) (by decide) rfl ?_
            refine SW_iload h rfl (dt t_E_carriedOn 65 rfl) ?_
            refine SW_bipush h (dt t_E_carriedOn 66 rfl) (by decide) ?_
            refine SW_idiv h (fun _ => hx7) (fun _ => (by decide)) (by decide) (dt t_E_carriedOn 67 rfl) ?_
            refine SW_istore (lv2 := [some (.ref (xad X 114)), none, none, some (.int (i32 x3)), some (.int (i32 x4_5)), some (.int (i32 v3)), some (.int (i32 (x6.tdiv 10))), some (.int (i32 (x7.tdiv 10))), some (.int (i32 x8)), none]) h (dt t_E_carriedOn 68 rfl) (by decide) rfl ?_
            refine SW_iinc (lv2 := [some (.ref (xad X 114)), none, none, some (.int (i32 x3)), some (.int (i32 x4_5)), some (.int (i32 v3)), some (.int (i32 (x6.tdiv 10))), some (.int (i32 (x7.tdiv 10))), some (.int (i32 (x8 + 1))), none]) h (dt t_E_carriedOn 69 rfl) rfl (by decide) rfl ?_
            refine SW_goto (tgt := 22) h (dt t_E_carriedOn 70 rfl) rfl ?_
            refine SW_chk hf (fun h6 hf => ?_)
            exact SW_fgt [true, false, false, true, true, true, true, true, true, false] rfl (ih x4_5 v3 (x6.tdiv 10) (x7.tdiv 10) (x8 + 1) t5 hx4_5 h3 (r_tdiv hx6 (by decide)) (r_tdiv hx7 (by decide)) h6 ot5 hf)
          refine SW_icmp_ne (tgt := 118) h (fun _ => h3) (fun _ => (by decide)) (dt t_E_carriedOn 43 rfl) rfl hf (fun hf => ?_) (fun hf => ?_)
          · refine SW_iload_n h rfl (dt t_E_carriedOn 44 rfl) ?_
            refine bJ hf (fun J7 e7 hf => ?_)
            have k7 : ∀  (t7 : Mm)  (ot7 : okM t7) (hf : J7 t7 = some res), SW X 0 10 115 [some (.ref (xad X 114)), none, none, some (.int (i32 x3)), some (.int (i32 x4)), some (.int (i32 v3)), some (.int (i32 x6)), some (.int (i32 x7)), some (.int (i32 x8)), none] [] t7 := by
              intro t7 ot7 hf
              rw [e7] at hf
              refine SW_iinc (lv2 := [some (.ref (xad X 114)), none, none, some (.int (i32 x3)), some (.int (i32 (x4 + 1))), some (.int (i32 v3)), some (.int (i32 x6)), some (.int (i32 x7)), some (.int (i32 x8)), none]) h (dt t_E_carriedOn 60 rfl) rfl (by decide) rfl ?_
              refine SW_chk hf (fun h8 hf => ?_)
              exact SW_fgt [true, false, false, true, true, true, true, true, true, false] rfl (k5 (x4 + 1) t7 h8 ot7 hf)
            refine SW_if_eq (tgt := 115) h (fun _ => hx3) (dt t_E_carriedOn 45 rfl) rfl hf (fun hf => ?_) (fun hf => ?_)
            · exact SW_fgt [true, false, false, true, true, true, true, true, true, false] rfl (k7 σ ok hf)
            · refine SW_iload h rfl (dt t_E_carriedOn 46 rfl) ?_
              refine SW_if_eq (tgt := 118) h (fun _ => hy2) (dt t_E_carriedOn 47 rfl) rfl hf (fun hf => ?_) (fun hf => ?_)
              · exact SW_fgt [true, false, false, true, true, true, true, true, true, false] rfl (k5 x4 σ hx4 ok hf)
              · refine SW_aload_n h rfl (dt t_E_carriedOn 48 rfl) ?_
                refine gR h cf7 o114 f7_1 j114_1 lX7_41 (dt t_E_carriedOn 49 rfl) ?_
                refine SW_iload h rfl (dt t_E_carriedOn 50 rfl) ?_
                refine SW_bipush h (dt t_E_carriedOn 51 rfl) (by decide) ?_
                refine SW_irem h (fun _ => hx6) (fun _ => (by decide)) (by decide) (dt t_E_carriedOn 52 rfl) ?_
                refine SW_iload h rfl (dt t_E_carriedOn 53 rfl) ?_
                refine SW_bipush h (dt t_E_carriedOn 54 rfl) (by decide) ?_
                refine SW_irem h (fun _ => hx7) (fun _ => (by decide)) (by decide) (dt t_E_carriedOn 55 rfl) ?_
                refine SW_iconst h (dt t_E_carriedOn 56 rfl) ?_
                obtain ⟨v9, s9, e9, hf⟩ := b1M_of hf
                refine cV h [.int (i32 (x6.tmod 10)), .int (i32 (x7.tmod 10)), .int (i32 2)] [] v_X4_two kX7_95 o2 (c_J_two (x6.tmod 10) (r_tmod hx6 (by decide)) (x7.tmod 10) (r_tmod hx7 (by decide)) 2 (by decide) e9) rfl rfl (by decide) (by decide) rfl (Nat.le_of_ble_eq_true rfl) (dt t_E_carriedOn 57 rfl) (fun h9 => ?_)
                refine SW_ok (fun ok9 => ?_)
                refine SW_sipush h (dt t_E_carriedOn 58 rfl) (by decide) ?_
                refine SW_icmp_eq (tgt := 118) h (fun _ => h9) (fun _ => (by decide)) (dt t_E_carriedOn 59 rfl) rfl hf (fun hf => ?_) (fun hf => ?_)
                · exact SW_fgt [true, false, false, true, true, true, true, true, true, false] rfl (k5 x4 s9 hx4 ok9 hf)
                · exact SW_fgt [true, false, false, true, true, true, true, true, true, false] rfl (k7 s9 ok9 hf)
          · exact SW_fgt [true, false, false, true, true, true, true, true, true, false] rfl (k5 x4 σ hx4 ok hf)
        have hf := bIte hf
        refine SW_icmp_lt (tgt := 73) h (fun _ => h4) (fun _ => (by decide)) (dt t_E_carriedOn 36 rfl) rfl hf (fun hf => ?_) (fun hf => ?_)
        · refine SW_iconst h (dt t_E_carriedOn 39 rfl) ?_
          exact k3 0 (by decide) hf
        · refine SW_iconst h (dt t_E_carriedOn 37 rfl) ?_
          refine SW_goto (tgt := 74) h (dt t_E_carriedOn 38 rfl) rfl ?_
          exact k3 1 (by decide) hf
      refine bJ hf (fun J10 e10 hf => ?_)
      have k10 : ∀ (hf : J10 = some res), SW X 0 10 43 [some (.ref (xad X 114)), none, none, some (.int (i32 x3)), some (.int (i32 x4)), some (.int (i32 x5)), some (.int (i32 x6)), some (.int (i32 x7)), some (.int (i32 x8)), none] [] σ := by
        intro hf
        rw [e10] at hf
        refine SW_iconst h (dt t_E_carriedOn 22 rfl) ?_
        refine SW_goto (tgt := 48) h (dt t_E_carriedOn 23 rfl) rfl ?_
        exact SW_fgt [true, false, false, true, true, true, true, true, true, false] rfl (k2 1 (by decide) hf)
      refine SW_if_eq (tgt := 43) h (fun _ => hx8) (dt t_E_carriedOn 17 rfl) rfl hf (fun hf => ?_) (fun hf => ?_)
      · exact SW_fgt [true, false, false, true, true, true, true, true, true, false] rfl (k10 hf)
      · refine SW_iload h rfl (dt t_E_carriedOn 18 rfl) ?_
        refine bJ hf (fun J11 e11 hf => ?_)
        have k11 : ∀ (hf : J11 = some res), SW X 0 10 47 [some (.ref (xad X 114)), none, none, some (.int (i32 x3)), some (.int (i32 x4)), some (.int (i32 x5)), some (.int (i32 x6)), some (.int (i32 x7)), some (.int (i32 x8)), none] [] σ := by
          intro hf
          rw [e11] at hf
          refine SW_iconst h (dt t_E_carriedOn 24 rfl) ?_
          exact SW_fgt [true, false, false, true, true, true, true, true, true, false] rfl (k2 0 (by decide) hf)
        refine SW_if_le (tgt := 47) h (fun _ => hx6) (dt t_E_carriedOn 19 rfl) rfl hf (fun hf => ?_) (fun hf => ?_)
        · exact SW_fgt [true, false, false, true, true, true, true, true, true, false] rfl (k11 hf)
        · refine SW_iload h rfl (dt t_E_carriedOn 20 rfl) ?_
          refine SW_if_le (tgt := 47) h (fun _ => hx7) (dt t_E_carriedOn 21 rfl) rfl hf (fun hf => ?_) (fun hf => ?_)
          · exact SW_fgt [true, false, false, true, true, true, true, true, true, false] rfl (k11 hf)
          · exact SW_fgt [true, false, false, true, true, true, true, true, true, false] rfl (k10 hf)
def F_E_carriedOn (x1 : Int) (x2 : Int) (x3 : Int) (σ : Mm) : Option (Int × Mm) :=
  b0M (F_J_fresh  σ) fun s1 =>
  b1M (L_E_carriedOn_22 LF x3 0 0 x1 x2 0 s1) fun x4_12 s12 =>
  some (x4_12, s12)
set_option maxRecDepth 100000 in
set_option maxHeartbeats 4000000 in
theorem c_E_carriedOn (x1 : Int) (hx1 : r32 x1) (x2 : Int) (hx2 : r32 x2) (x3 : Int) (hx3 : r32 x3) {σ : Mm} {a : Int} {σ2 : Mm} (hf : F_E_carriedOn x1 x2 x3 σ = some (a, σ2)) : CT yX7_carriedOn cX7_carriedOn 10 (some .int) 6 0 (fun ad => [.ref (ad 114), .int (i32 x1), .int (i32 x2), .int (i32 x3)]) σ (r32 a) (some (.int (i32 a))) σ2 := by
  refine MetJ 6 (by decide +kernel) rfl (fun _ => Nat.le_of_ble_eq_true rfl) ?_
  intro X h hR ok
  obtain ⟨res, er⟩ : ∃ z, z = (a, σ2) := ⟨_, rfl⟩
  have hret : ∀ y : Int × Mm, some y = some res → RX X 0 (r32 (y.1)) (some (.int (i32 (y.1)))) y.2 := fun y e => by cases e; cases er; exact hR
  rw [← er] at hf
  clear er hR
  unfold F_E_carriedOn at hf
  show SW X 0 10 0 [some (.ref (xad X 114)), some (.int (i32 x1)), some (.int (i32 x2)), some (.int (i32 x3)), none, none, none, none, none, none] [] σ
  refine SW_aload_n h rfl (dt t_E_carriedOn 0 rfl) ?_
  refine gR h cf7 o114 f7_1 j114_1 lX7_41 (dt t_E_carriedOn 1 rfl) ?_
  obtain ⟨s1, e1, hf⟩ := b0M_of hf
  refine cVv h [] [] v_X4_fresh kX7_42 o2 (c_J_fresh  e1) rfl rfl (by decide) (by decide) rfl (Nat.le_of_ble_eq_true rfl) (dt t_E_carriedOn 2 rfl) (fun h1 => ?_)
  refine SW_ok (fun ok1 => ?_)
  refine SW_iconst h (dt t_E_carriedOn 3 rfl) ?_
  refine SW_istore (lv2 := [some (.ref (xad X 114)), some (.int (i32 x1)), some (.int (i32 x2)), some (.int (i32 x3)), some (.int (i32 0)), none, none, none, none, none]) h (dt t_E_carriedOn 4 rfl) (by decide) rfl ?_
  refine SW_iconst h (dt t_E_carriedOn 5 rfl) ?_
  refine SW_istore (lv2 := [some (.ref (xad X 114)), some (.int (i32 x1)), some (.int (i32 x2)), some (.int (i32 x3)), some (.int (i32 0)), some (.int (i32 0)), none, none, none, none]) h (dt t_E_carriedOn 6 rfl) (by decide) rfl ?_
  refine SW_iload_n h rfl (dt t_E_carriedOn 7 rfl) ?_
  refine SW_istore (lv2 := [some (.ref (xad X 114)), some (.int (i32 x1)), some (.int (i32 x2)), some (.int (i32 x3)), some (.int (i32 0)), some (.int (i32 0)), some (.int (i32 x1)), none, none, none]) h (dt t_E_carriedOn 8 rfl) (by decide) rfl ?_
  refine SW_iload_n h rfl (dt t_E_carriedOn 9 rfl) ?_
  refine SW_istore (lv2 := [some (.ref (xad X 114)), some (.int (i32 x1)), some (.int (i32 x2)), some (.int (i32 x3)), some (.int (i32 0)), some (.int (i32 0)), some (.int (i32 x1)), some (.int (i32 x2)), none, none]) h (dt t_E_carriedOn 10 rfl) (by decide) rfl ?_
  refine SW_iconst h (dt t_E_carriedOn 11 rfl) ?_
  refine SW_istore (lv2 := [some (.ref (xad X 114)), some (.int (i32 x1)), some (.int (i32 x2)), some (.int (i32 x3)), some (.int (i32 0)), some (.int (i32 0)), some (.int (i32 x1)), some (.int (i32 x2)), some (.int (i32 0)), none]) h (dt t_E_carriedOn 12 rfl) (by decide) rfl ?_
  obtain ⟨z12, e12, hk12⟩ := b1M_ex hf
  refine SW_fgt [true, false, false, true, true, true, true, true, true, false] rfl (l_E_carriedOn_22 h x3 hx3 (fun x4_12 s12 hz12 hx4_12 ok12 => ?_) LF 0 0 x1 x2 0 s1 (by decide) (by decide) hx1 hx2 (by decide) ok1 e12)
  have hf := hk12 x4_12 s12 hz12
  refine SW_iload h rfl (dt t_E_carriedOn 71 rfl) ?_
  exact SW_iret h (hret _ hf) (fun _ => hx4_12) rfl (dt t_E_carriedOn 72 rfl)
def b_A_carried : List (Nat × Instr × Nat) := [(0, .iload_n 1, 1), (1, .invokestatic 246, 3), (4, .ifCond .eq 10, 3), (7, .iload_n 2, 1), (8, .invokestatic 246, 3), (11, .ifCond .ne 5, 3), (14, .iconst (-1), 1), (15, .ireturn, 1), (16, .aload_n 0, 1), (17, .getfield 42, 3), (20, .iload_n 1, 1), (21, .iload_n 2, 1), (22, .iload_n 3, 1), (23, .invokevirtual 292, 3), (26, .ireturn, 1)]
theorem t_A_carried : DT cX10_carried b_A_carried := DT.of (by decide +kernel)
def F_A_carried (x1 : Int) (x2 : Int) (x3 : Int) (σ : Mm) : Option (Int × Mm) :=
  b1 (F_A_isNumber x1) fun v1 =>
  if v1 = 0 then
    some ((-1), σ)
  else
    b1 (F_A_isNumber x2) fun v2 =>
    if v2 = 0 then
      some ((-1), σ)
    else
      b1M (F_E_carriedOn x1 x2 x3 σ) fun v3 s3 =>
      some (v3, s3)
set_option maxRecDepth 100000 in
set_option maxHeartbeats 4000000 in
theorem c_A_carried (x1 : Int) (hx1 : r32 x1) (x2 : Int) (hx2 : r32 x2) (x3 : Int) (hx3 : r32 x3) {σ : Mm} {a : Int} {σ2 : Mm} (hf : F_A_carried x1 x2 x3 σ = some (a, σ2)) : CT yX10_carried cX10_carried 4 (some .int) 7 0 (fun ad => [.ref (ad 0), .int (i32 x1), .int (i32 x2), .int (i32 x3)]) σ (r32 a) (some (.int (i32 a))) σ2 := by
  refine MetJ 0 (by decide +kernel) rfl (fun _ => Nat.le_of_ble_eq_true rfl) ?_
  intro X h hR ok
  obtain ⟨res, er⟩ : ∃ z, z = (a, σ2) := ⟨_, rfl⟩
  have hret : ∀ y : Int × Mm, some y = some res → RX X 0 (r32 (y.1)) (some (.int (i32 (y.1)))) y.2 := fun y e => by cases e; cases er; exact hR
  rw [← er] at hf
  clear er hR
  unfold F_A_carried at hf
  show SW X 0 4 0 [some (.ref (xad X 0)), some (.int (i32 x1)), some (.int (i32 x2)), some (.int (i32 x3))] [] σ
  refine SW_iload_n h rfl (dt t_A_carried 0 rfl) ?_
  obtain ⟨v1, e1, hf⟩ := b1_of hf
  refine cS h [.int (i32 x1)] [] v_X10_isNumber kX10_246 (c_A_isNumber x1 hx1 e1) rfl rfl (by decide) (by decide) rfl (Nat.le_of_ble_eq_true rfl) (dt t_A_carried 1 rfl) (fun h1 => ?_)
  refine SW_if_eq (tgt := 14) h (fun _ => (r_zo h1)) (dt t_A_carried 2 rfl) rfl hf (fun hf => ?_) (fun hf => ?_)
  · refine SW_iconst h (dt t_A_carried 6 rfl) ?_
    exact SW_iret h (hret _ hf) (fun _ => (by decide)) rfl (dt t_A_carried 7 rfl)
  · refine SW_iload_n h rfl (dt t_A_carried 3 rfl) ?_
    obtain ⟨v2, e2, hf⟩ := b1_of hf
    refine cS h [.int (i32 x2)] [] v_X10_isNumber kX10_246 (c_A_isNumber x2 hx2 e2) rfl rfl (by decide) (by decide) rfl (Nat.le_of_ble_eq_true rfl) (dt t_A_carried 4 rfl) (fun h2 => ?_)
    refine SW_if_ne (tgt := 16) h (fun _ => (r_zo h2)) (dt t_A_carried 5 rfl) rfl hf (fun hf => ?_) (fun hf => ?_)
    · refine SW_iconst h (dt t_A_carried 6 rfl) ?_
      exact SW_iret h (hret _ hf) (fun _ => (by decide)) rfl (dt t_A_carried 7 rfl)
    · refine SW_aload_n h rfl (dt t_A_carried 8 rfl) ?_
      refine gR h cf10 o0 f10_4 j0_4 lX10_42 (dt t_A_carried 9 rfl) ?_
      refine SW_iload_n h rfl (dt t_A_carried 10 rfl) ?_
      refine SW_iload_n h rfl (dt t_A_carried 11 rfl) ?_
      refine SW_iload_n h rfl (dt t_A_carried 12 rfl) ?_
      obtain ⟨v3, s3, e3, hf⟩ := b1M_of hf
      refine cV h [.int (i32 x1), .int (i32 x2), .int (i32 x3)] [] v_X7_carriedOn kX10_292 o114 (c_E_carriedOn x1 hx1 x2 hx2 x3 hx3 e3) rfl rfl (by decide) (by decide) rfl (Nat.le_of_ble_eq_true rfl) (dt t_A_carried 13 rfl) (fun h3 => ?_)
      refine SW_ok (fun ok3 => ?_)
      exact SW_iret h (hret _ hf) (fun _ => h3) rfl (dt t_A_carried 14 rfl)
def b_J_offOf : List (Nat × Instr × Nat) := [(0, .iconst 0, 1), (1, .istore_n 2, 1), (2, .iconst 1, 1), (3, .istore_n 3, 1), (4, .iload_n 3, 1), (5, .aload_n 1, 1), (6, .getfield 78, 3), (9, .if_icmp .ge 52, 3), (12, .aload_n 0, 1), (13, .aload_n 1, 1), (14, .getfield 83, 3), (17, .iload_n 3, 1), (18, .iconst 1, 1), (19, .isub, 1), (20, .iaload, 1), (21, .aload_n 1, 1), (22, .getfield 83, 3), (25, .iload_n 3, 1), (26, .iaload, 1), (27, .aload_n 1, 1), (28, .getfield 86, 3), (31, .iload_n 3, 1), (32, .iaload, 1), (33, .invokevirtual 89, 3), (36, .istore 4, 2), (38, .iload_n 2, 1), (39, .iload 4, 2), (41, .sipush 1000, 3), (44, .if_icmp .ne 7, 3), (47, .iconst 0, 1), (48, .goto 5, 3), (51, .iload 4, 2), (53, .iadd, 1), (54, .istore_n 2, 1), (55, .iinc 3 1, 3), (58, .goto (-54), 3), (61, .iload_n 2, 1), (62, .ireturn, 1)]
theorem t_J_offOf : DT cX4_offOf b_J_offOf := DT.of (by decide +kernel)
def L_J_offOf_4 : Nat → Nat → Int → Int → Mm → Option (Int × Mm)
  | 0, _, _, _, _ => none
  | n + 1, r1, x2, x3, σ =>
    if σ r1 4 ≤ x3 then
      some ((x2, σ))
    else
      if 0 ≤ x3 - 1 ∧ x3 - 1 < 16 then
        if 0 ≤ x3 ∧ x3 < 16 then
          if 0 ≤ x3 ∧ x3 < 16 then
            b1M (F_J_two (σ (r1 + 24) ((x3 - 1).toNat)) (σ (r1 + 24) x3.toNat) (σ (r1 + 36) x3.toNat) σ) fun v1 s1 =>
            bindM ((if v1 = 1000 then 0 else v1 : Int)) fun v2 =>
            if r32 (x2 + v2) then
              if r32 (x3 + 1) then
                L_J_offOf_4 n r1 (x2 + v2) (x3 + 1) s1
              else none
            else none
          else none
        else none
      else none
set_option maxRecDepth 100000 in
set_option maxHeartbeats 4000000 in
theorem l_J_offOf_4 {X : Cx} (h : CX X 0 cX4_offOf 5 6 (some .int) RX4) (r1 : Nat) (q1 : IsO 0 6 r1) {res : Int × Mm} (hex : ∀ (x2 : Int) (σ : Mm) (hz : some ((x2, σ)) = some res) (hx2 : r32 x2) (ok : okM σ), SW X 0 5 61 [none, none, some (.int (i32 x2)), none, none] [] σ) : ∀ (n : Nat) (x2 : Int) (x3 : Int) (σ : Mm) (hx2 : r32 x2) (hx3 : r32 x3) (ok : okM σ) (hf : L_J_offOf_4 n r1 x2 x3 σ = some res), SW X 0 5 4 [some (.ref (xad X 2)), some (.ref (xad X r1)), some (.int (i32 x2)), some (.int (i32 x3)), none] [] σ := by
  intro n
  induction n with
  | zero => intro x2 x3 σ hx2 hx3 ok hf; exact absurd hf (by simp [L_J_offOf_4])
  | succ n ih =>
    intro x2 x3 σ hx2 hx3 ok hf
    rw [L_J_offOf_4] at hf
    refine SW_iload_n h rfl (dt t_J_offOf 4 rfl) ?_
    refine SW_aload_n h rfl (dt t_J_offOf 5 rfl) ?_
    refine gI h cf6 q1 f6_4 lX4_78 (dt t_J_offOf 6 rfl) ?_
    refine SW_icmp_ge (tgt := 61) h (fun _ => hx3) (fun _ => (okI ok r1 4 (IsO.n3 q1))) (dt t_J_offOf 7 rfl) rfl hf (fun hf => ?_) (fun hf => ?_)
    · exact SW_fgt [false, false, true, false, false] rfl (hex x2 σ hf hx2 ok)
    · refine SW_aload_n h rfl (dt t_J_offOf 8 rfl) ?_
      refine SW_aload_n h rfl (dt t_J_offOf 9 rfl) ?_
      refine gR h cf6 q1 f6_1 (dy6_1 q1).1 lX4_83 (dt t_J_offOf 10 rfl) ?_
      refine SW_iload_n h rfl (dt t_J_offOf 11 rfl) ?_
      refine SW_iconst h (dt t_J_offOf 12 rfl) ?_
      refine SW_isub h (dt t_J_offOf 13 rfl) ?_
      refine aI h (dy6_1 q1).2 (dt t_J_offOf 14 rfl) hf (fun hf => ?_)
      refine SW_aload_n h rfl (dt t_J_offOf 15 rfl) ?_
      refine gR h cf6 q1 f6_1 (dy6_1 q1).1 lX4_83 (dt t_J_offOf 16 rfl) ?_
      refine SW_iload_n h rfl (dt t_J_offOf 17 rfl) ?_
      refine aI h (dy6_1 q1).2 (dt t_J_offOf 18 rfl) hf (fun hf => ?_)
      refine SW_aload_n h rfl (dt t_J_offOf 19 rfl) ?_
      refine gR h cf6 q1 f6_2 (dy6_2 q1).1 lX4_86 (dt t_J_offOf 20 rfl) ?_
      refine SW_iload_n h rfl (dt t_J_offOf 21 rfl) ?_
      refine aI h (dy6_2 q1).2 (dt t_J_offOf 22 rfl) hf (fun hf => ?_)
      obtain ⟨v1, s1, e1, hf⟩ := b1M_of hf
      refine cV h [.int (i32 (σ (r1 + 24) ((x3 - 1).toNat))), .int (i32 (σ (r1 + 24) x3.toNat)), .int (i32 (σ (r1 + 36) x3.toNat))] [] v_X4_two kX4_89 o2 (c_J_two (σ (r1 + 24) ((x3 - 1).toNat)) (okI ok (r1 + 24) ((x3 - 1).toNat) (IsA.n3 (dy6_1 q1).2 (by decide))) (σ (r1 + 24) x3.toNat) (okI ok (r1 + 24) x3.toNat (IsA.n3 (dy6_1 q1).2 (by decide))) (σ (r1 + 36) x3.toNat) (okI ok (r1 + 36) x3.toNat (IsA.n3 (dy6_2 q1).2 (by decide))) e1) rfl rfl (by decide) (by decide) rfl (Nat.le_of_ble_eq_true rfl) (dt t_J_offOf 23 rfl) (fun h1 => ?_)
      refine SW_ok (fun ok1 => ?_)
      refine SW_istore (lv2 := [some (.ref (xad X 2)), some (.ref (xad X r1)), some (.int (i32 x2)), some (.int (i32 x3)), some (.int (i32 v1))]) h (dt t_J_offOf 24 rfl) (by decide) rfl ?_
      refine SW_iload_n h rfl (dt t_J_offOf 25 rfl) ?_
      refine SW_iload h rfl (dt t_J_offOf 26 rfl) ?_
      refine SW_sipush h (dt t_J_offOf 27 rfl) (by decide) ?_
      refine bT hf (fun g2 e2 hf => ?_)
      have k2 : ∀ (v2 : Int) (h2 : r32 v2) (hf : g2 v2 = some res), SW X 0 5 53 [some (.ref (xad X 2)), some (.ref (xad X r1)), some (.int (i32 x2)), some (.int (i32 x3)), some (.int (i32 v1))] [.int (i32 v2), .int (i32 x2)] s1 := by
        intro v2 h2 hf
        rw [e2] at hf
        refine SW_iadd h (dt t_J_offOf 32 rfl) ?_
        refine SW_istore_n (lv2 := [some (.ref (xad X 2)), some (.ref (xad X r1)), some (.int (i32 (x2 + v2))), some (.int (i32 x3)), some (.int (i32 v1))]) h (dt t_J_offOf 33 rfl) (by decide) rfl ?_
        refine SW_iinc (lv2 := [some (.ref (xad X 2)), some (.ref (xad X r1)), some (.int (i32 (x2 + v2))), some (.int (i32 (x3 + 1))), some (.int (i32 v1))]) h (dt t_J_offOf 34 rfl) rfl (by decide) rfl ?_
        refine SW_goto (tgt := 4) h (dt t_J_offOf 35 rfl) rfl ?_
        refine SW_chk hf (fun h3 hf => ?_)
        refine SW_chk hf (fun h4 hf => ?_)
        exact SW_fgt [true, true, true, true, false] rfl (ih (x2 + v2) (x3 + 1) s1 h3 h4 ok1 hf)
      have hf := bIte hf
      refine SW_icmp_ne (tgt := 51) h (fun _ => h1) (fun _ => (by decide)) (dt t_J_offOf 28 rfl) rfl hf (fun hf => ?_) (fun hf => ?_)
      · refine SW_iconst h (dt t_J_offOf 29 rfl) ?_
        refine SW_goto (tgt := 53) h (dt t_J_offOf 30 rfl) rfl ?_
        exact k2 0 (by decide) hf
      · refine SW_iload h rfl (dt t_J_offOf 31 rfl) ?_
        exact k2 v1 h1 hf
def F_J_offOf (r1 : Nat) (σ : Mm) : Option (Int × Mm) :=
  b1M (L_J_offOf_4 LF r1 0 1 σ) fun x2_5 s5 =>
  some (x2_5, s5)
set_option maxRecDepth 100000 in
set_option maxHeartbeats 4000000 in
theorem c_J_offOf (r1 : Nat) (q1 : IsO 0 6 r1) {σ : Mm} {a : Int} {σ2 : Mm} (hf : F_J_offOf r1 σ = some (a, σ2)) : CT yX4_offOf cX4_offOf 5 (some .int) 6 0 (fun ad => [.ref (ad 2), .ref (ad r1)]) σ (r32 a) (some (.int (i32 a))) σ2 := by
  refine MetJ 3 (by decide +kernel) rfl (fun _ => Nat.le_of_ble_eq_true rfl) ?_
  intro X h hR ok
  obtain ⟨res, er⟩ : ∃ z, z = (a, σ2) := ⟨_, rfl⟩
  have hret : ∀ y : Int × Mm, some y = some res → RX X 0 (r32 (y.1)) (some (.int (i32 (y.1)))) y.2 := fun y e => by cases e; cases er; exact hR
  rw [← er] at hf
  clear er hR
  unfold F_J_offOf at hf
  show SW X 0 5 0 [some (.ref (xad X 2)), some (.ref (xad X r1)), none, none, none] [] σ
  refine SW_iconst h (dt t_J_offOf 0 rfl) ?_
  refine SW_istore_n (lv2 := [some (.ref (xad X 2)), some (.ref (xad X r1)), some (.int (i32 0)), none, none]) h (dt t_J_offOf 1 rfl) (by decide) rfl ?_
  refine SW_iconst h (dt t_J_offOf 2 rfl) ?_
  refine SW_istore_n (lv2 := [some (.ref (xad X 2)), some (.ref (xad X r1)), some (.int (i32 0)), some (.int (i32 1)), none]) h (dt t_J_offOf 3 rfl) (by decide) rfl ?_
  obtain ⟨z5, e5, hk5⟩ := b1M_ex hf
  refine SW_fgt [true, true, true, true, false] rfl (l_J_offOf_4 h r1 q1 (fun x2_5 s5 hz5 hx2_5 ok5 => ?_) LF 0 1 σ (by decide) (by decide) ok e5)
  have hf := hk5 x2_5 s5 hz5
  refine SW_iload_n h rfl (dt t_J_offOf 36 rfl) ?_
  exact SW_iret h (hret _ hf) (fun _ => hx2_5) rfl (dt t_J_offOf 37 rfl)
def b_J_between : List (Nat × Instr × Nat) := [(0, .iload_n 2, 1), (1, .istore_n 3, 1), (2, .iload_n 2, 1), (3, .istore 4, 2), (5, .iload 4, 2), (7, .ifCond .le 16, 3), (10, .iload 4, 2), (12, .istore_n 3, 1), (13, .iload 4, 2), (15, .bipush 10, 2), (17, .idiv, 1), (18, .istore 4, 2), (20, .goto (-15), 3), (23, .aload_n 0, 1), (24, .iload_n 1, 1), (25, .bipush 10, 2), (27, .irem, 1), (28, .iload_n 3, 1), (29, .iload_n 2, 1), (30, .bipush 10, 2), (32, .if_icmp .ge 7, 3), (35, .iconst 3, 1), (36, .goto 4, 3), (39, .iconst 2, 1), (40, .invokevirtual 89, 3), (43, .istore 4, 2), (45, .iload 4, 2), (47, .sipush 1000, 3), (50, .if_icmp .ne 7, 3), (53, .iconst 0, 1), (54, .goto 5, 3), (57, .iload 4, 2), (59, .ireturn, 1)]
theorem t_J_between : DT cX4_between b_J_between := DT.of (by decide +kernel)
def L_J_between_5 : Nat → Int → Int → Option (Int)
  | 0, _, _ => none
  | n + 1, x3, x4 =>
    if x4 ≤ 0 then
      some x3
    else
      L_J_between_5 n x4 (x4.tdiv 10)
set_option maxRecDepth 100000 in
set_option maxHeartbeats 4000000 in
theorem l_J_between_5 {X : Cx} (h : CX X 0 cX4_between 5 6 (some .int) RX4) (x1 : Int) (x2 : Int) (σ : Mm) (hx1 : r32 x1) (hx2 : r32 x2) (ok : okM σ) {res : Int} (hex : ∀ (x3 : Int) (hz : some x3 = some res) (hx3 : r32 x3), SW X 0 5 23 [some (.ref (xad X 2)), some (.int (i32 x1)), some (.int (i32 x2)), some (.int (i32 x3)), none] [] σ) : ∀ (n : Nat) (x3 : Int) (x4 : Int) (hx3 : r32 x3) (hx4 : r32 x4) (hf : L_J_between_5 n x3 x4 = some res), SW X 0 5 5 [some (.ref (xad X 2)), some (.int (i32 x1)), some (.int (i32 x2)), some (.int (i32 x3)), some (.int (i32 x4))] [] σ := by
  intro n
  induction n with
  | zero => intro x3 x4 hx3 hx4 hf; exact absurd hf (by simp [L_J_between_5])
  | succ n ih =>
    intro x3 x4 hx3 hx4 hf
    rw [L_J_between_5] at hf
    refine SW_iload h rfl (dt t_J_between 4 rfl) ?_
    refine SW_if_le (tgt := 23) h (fun _ => hx4) (dt t_J_between 5 rfl) rfl hf (fun hf => ?_) (fun hf => ?_)
    · exact SW_fgt [true, true, true, true, false] rfl (hex x3 hf hx3)
    · refine SW_iload h rfl (dt t_J_between 6 rfl) ?_
      refine SW_istore_n (lv2 := [some (.ref (xad X 2)), some (.int (i32 x1)), some (.int (i32 x2)), some (.int (i32 x4)), some (.int (i32 x4))]) h (dt t_J_between 7 rfl) (by decide) rfl ?_
      refine SW_iload h rfl (dt t_J_between 8 rfl) ?_
      refine SW_bipush h (dt t_J_between 9 rfl) (by decide) ?_
      refine SW_idiv h (fun _ => hx4) (fun _ => (by decide)) (by decide) (dt t_J_between 10 rfl) ?_
      refine SW_istore (lv2 := [some (.ref (xad X 2)), some (.int (i32 x1)), some (.int (i32 x2)), some (.int (i32 x4)), some (.int (i32 (x4.tdiv 10)))]) h (dt t_J_between 11 rfl) (by decide) rfl ?_
      refine SW_goto (tgt := 5) h (dt t_J_between 12 rfl) rfl ?_
      exact SW_fgt [true, true, true, true, true] rfl (ih x4 (x4.tdiv 10) hx4 (r_tdiv hx4 (by decide)) hf)
def F_J_between (x1 : Int) (x2 : Int) (σ : Mm) : Option (Int × Mm) :=
  b1 (L_J_between_5 LF x2 x2) fun x3_1 =>
  bindM ((if 10 ≤ x2 then 2 else 3 : Int)) fun v2 =>
  b1M (F_J_two (x1.tmod 10) x3_1 v2 σ) fun v3 s3 =>
  if v3 = 1000 then
    some (0, s3)
  else
    some (v3, s3)
set_option maxRecDepth 100000 in
set_option maxHeartbeats 4000000 in
theorem c_J_between (x1 : Int) (hx1 : r32 x1) (x2 : Int) (hx2 : r32 x2) {σ : Mm} {a : Int} {σ2 : Mm} (hf : F_J_between x1 x2 σ = some (a, σ2)) : CT yX4_between cX4_between 5 (some .int) 6 0 (fun ad => [.ref (ad 2), .int (i32 x1), .int (i32 x2)]) σ (r32 a) (some (.int (i32 a))) σ2 := by
  refine MetJ 2 (by decide +kernel) rfl (fun _ => Nat.le_of_ble_eq_true rfl) ?_
  intro X h hR ok
  obtain ⟨res, er⟩ : ∃ z, z = (a, σ2) := ⟨_, rfl⟩
  have hret : ∀ y : Int × Mm, some y = some res → RX X 0 (r32 (y.1)) (some (.int (i32 (y.1)))) y.2 := fun y e => by cases e; cases er; exact hR
  rw [← er] at hf
  clear er hR
  unfold F_J_between at hf
  show SW X 0 5 0 [some (.ref (xad X 2)), some (.int (i32 x1)), some (.int (i32 x2)), none, none] [] σ
  refine SW_iload_n h rfl (dt t_J_between 0 rfl) ?_
  refine SW_istore_n (lv2 := [some (.ref (xad X 2)), some (.int (i32 x1)), some (.int (i32 x2)), some (.int (i32 x2)), none]) h (dt t_J_between 1 rfl) (by decide) rfl ?_
  refine SW_iload_n h rfl (dt t_J_between 2 rfl) ?_
  refine SW_istore (lv2 := [some (.ref (xad X 2)), some (.int (i32 x1)), some (.int (i32 x2)), some (.int (i32 x2)), some (.int (i32 x2))]) h (dt t_J_between 3 rfl) (by decide) rfl ?_
  obtain ⟨z1, e1, hk1⟩ := b1_ex hf
  refine SW_fgt [true, true, true, true, true] rfl (l_J_between_5 h x1 x2 σ hx1 hx2 ok (fun x3_1 hz1 hx3_1 => ?_) LF x2 x2 hx2 hx2 e1)
  have hf := hk1 x3_1 hz1
  refine SW_aload_n h rfl (dt t_J_between 13 rfl) ?_
  refine SW_iload_n h rfl (dt t_J_between 14 rfl) ?_
  refine SW_bipush h (dt t_J_between 15 rfl) (by decide) ?_
  refine SW_irem h (fun _ => hx1) (fun _ => (by decide)) (by decide) (dt t_J_between 16 rfl) ?_
  refine SW_iload_n h rfl (dt t_J_between 17 rfl) ?_
  refine SW_iload_n h rfl (dt t_J_between 18 rfl) ?_
  refine SW_bipush h (dt t_J_between 19 rfl) (by decide) ?_
  refine bT hf (fun g2 e2 hf => ?_)
  have k2 : ∀ (v2 : Int) (h2 : r32 v2) (hf : g2 v2 = some res), SW X 0 5 40 [some (.ref (xad X 2)), some (.int (i32 x1)), some (.int (i32 x2)), some (.int (i32 x3_1)), none] [.int (i32 v2), .int (i32 x3_1), .int (i32 (x1.tmod 10)), .ref (xad X 2)] σ := by
    intro v2 h2 hf
    rw [e2] at hf
    obtain ⟨v3, s3, e3, hf⟩ := b1M_of hf
    refine cV h [.int (i32 (x1.tmod 10)), .int (i32 x3_1), .int (i32 v2)] [] v_X4_two kX4_89 o2 (c_J_two (x1.tmod 10) (r_tmod hx1 (by decide)) x3_1 hx3_1 v2 h2 e3) rfl rfl (by decide) (by decide) rfl (Nat.le_of_ble_eq_true rfl) (dt t_J_between 24 rfl) (fun h3 => ?_)
    refine SW_ok (fun ok3 => ?_)
    refine SW_istore (lv2 := [some (.ref (xad X 2)), some (.int (i32 x1)), some (.int (i32 x2)), some (.int (i32 x3_1)), some (.int (i32 v3))]) h (dt t_J_between 25 rfl) (by decide) rfl ?_
    refine SW_iload h rfl (dt t_J_between 26 rfl) ?_
    refine SW_sipush h (dt t_J_between 27 rfl) (by decide) ?_
    refine SW_icmp_ne (tgt := 57) h (fun _ => h3) (fun _ => (by decide)) (dt t_J_between 28 rfl) rfl hf (fun hf => ?_) (fun hf => ?_)
    · refine SW_iconst h (dt t_J_between 29 rfl) ?_
      refine SW_goto (tgt := 59) h (dt t_J_between 30 rfl) rfl ?_
      exact SW_iret h (hret _ hf) (fun _ => (by decide)) rfl (dt t_J_between 32 rfl)
    · refine SW_iload h rfl (dt t_J_between 31 rfl) ?_
      exact SW_iret h (hret _ hf) (fun _ => h3) rfl (dt t_J_between 32 rfl)
  have hf := bIte hf
  refine SW_icmp_ge (tgt := 39) h (fun _ => hx2) (fun _ => (by decide)) (dt t_J_between 20 rfl) rfl hf (fun hf => ?_) (fun hf => ?_)
  · refine SW_iconst h (dt t_J_between 23 rfl) ?_
    exact k2 2 (by decide) hf
  · refine SW_iconst h (dt t_J_between 21 rfl) ?_
    refine SW_goto (tgt := 40) h (dt t_J_between 22 rfl) rfl ?_
    exact k2 3 (by decide) hf
def b_E_offWith : List (Nat × Instr × Nat) := [(0, .iconst 0, 1), (1, .istore 4, 2), (3, .iconst (-1), 1), (4, .istore 5, 2), (6, .iconst 0, 1), (7, .istore 6, 2), (9, .iload 6, 2), (11, .aload_n 1, 1), (12, .getfield 47, 3), (15, .if_icmp .ge 68, 3), (18, .iload 6, 2), (20, .iload_n 2, 1), (21, .if_icmp .ne 7, 3), (24, .iload_n 3, 1), (25, .goto 10, 3), (28, .aload_n 1, 1), (29, .getfield 53, 3), (32, .iload 6, 2), (34, .iaload, 1), (35, .istore 7, 2), (37, .iload 4, 2), (39, .aload_n 0, 1), (40, .getfield 41, 3), (43, .iload 7, 2), (45, .invokevirtual 56, 3), (48, .iload 5, 2), (50, .iconst (-1), 1), (51, .if_icmp .ne 7, 3), (54, .iconst 0, 1), (55, .goto 14, 3), (58, .aload_n 0, 1), (59, .getfield 41, 3), (62, .iload 5, 2), (64, .iload 7, 2), (66, .invokevirtual 72, 3), (69, .iadd, 1), (70, .iadd, 1), (71, .istore 4, 2), (73, .iload 7, 2), (75, .istore 5, 2), (77, .iinc 6 1, 3), (80, .goto (-71), 3), (83, .iload 4, 2), (85, .ireturn, 1)]
theorem t_E_offWith : DT cX7_offWith b_E_offWith := DT.of (by decide +kernel)
def L_E_offWith_9 : Nat → Nat → Int → Int → Int → Int → Int → Mm → Option (Int × Mm)
  | 0, _, _, _, _, _, _, _ => none
  | n + 1, r1, x2, x3, x4, x5, x6, σ =>
    if σ r1 3 ≤ x6 then
      some ((x4, σ))
    else
      bindM (fun (y1 : Int) =>
        b1M (F_J_within y1 σ) fun v2 s2 =>
        bindM (fun (y3 : Int) (t3 : Mm) =>
          bindM (x4 + (v2 + y3)) fun v4 =>
          if r32 v4 then
            if r32 (x6 + 1) then
              L_E_offWith_9 n r1 x2 x3 v4 y1 (x6 + 1) t3
            else none
          else none) fun J3 =>
        if x5 = (-1) then
          J3 0 s2
        else
          b1M (F_J_between x5 y1 s2) fun v7 s7 =>
          J3 v7 s7) fun J1 =>
      if x6 = x2 then
        J1 x3
      else
        if 0 ≤ x6 ∧ x6 < 4 then
          J1 (σ (r1 + 12) x6.toNat)
        else none
set_option maxRecDepth 100000 in
set_option maxHeartbeats 4000000 in
theorem l_E_offWith_9 {X : Cx} (h : CX X 0 cX7_offWith 8 7 (some .int) RX7) (r1 : Nat) (x2 : Int) (x3 : Int) (q1 : IsO 0 6 r1) (hx2 : r32 x2) (hx3 : r32 x3) {res : Int × Mm} (hex : ∀ (x4 : Int) (σ : Mm) (hz : some ((x4, σ)) = some res) (hx4 : r32 x4) (ok : okM σ), SW X 0 8 83 [none, none, none, none, some (.int (i32 x4)), none, none, none] [] σ) : ∀ (n : Nat) (x4 : Int) (x5 : Int) (x6 : Int) (σ : Mm) (hx4 : r32 x4) (hx5 : r32 x5) (hx6 : r32 x6) (ok : okM σ) (hf : L_E_offWith_9 n r1 x2 x3 x4 x5 x6 σ = some res), SW X 0 8 9 [some (.ref (xad X 114)), some (.ref (xad X r1)), some (.int (i32 x2)), some (.int (i32 x3)), some (.int (i32 x4)), some (.int (i32 x5)), some (.int (i32 x6)), none] [] σ := by
  intro n
  induction n with
  | zero => intro x4 x5 x6 σ hx4 hx5 hx6 ok hf; exact absurd hf (by simp [L_E_offWith_9])
  | succ n ih =>
    intro x4 x5 x6 σ hx4 hx5 hx6 ok hf
    rw [L_E_offWith_9] at hf
    refine SW_iload h rfl (dt t_E_offWith 6 rfl) ?_
    refine SW_aload_n h rfl (dt t_E_offWith 7 rfl) ?_
    refine gI h cf6 q1 f6_3 lX7_47 (dt t_E_offWith 8 rfl) ?_
    refine SW_icmp_ge (tgt := 83) h (fun _ => hx6) (fun _ => (okI ok r1 3 (IsO.n3 q1))) (dt t_E_offWith 9 rfl) rfl hf (fun hf => ?_) (fun hf => ?_)
    · exact SW_fgt [false, false, false, false, true, false, false, false] rfl (hex x4 σ hf hx4 ok)
    · refine SW_iload h rfl (dt t_E_offWith 10 rfl) ?_
      refine SW_iload_n h rfl (dt t_E_offWith 11 rfl) ?_
      refine bJ hf (fun J1 e1 hf => ?_)
      have k1 : ∀ (y1 : Int) (hy1 : r32 y1) (hf : J1 y1 = some res), SW X 0 8 35 [some (.ref (xad X 114)), some (.ref (xad X r1)), some (.int (i32 x2)), some (.int (i32 x3)), some (.int (i32 x4)), some (.int (i32 x5)), some (.int (i32 x6)), none] [.int (i32 y1)] σ := by
        intro y1 hy1 hf
        rw [e1] at hf
        refine SW_istore (lv2 := [some (.ref (xad X 114)), some (.ref (xad X r1)), some (.int (i32 x2)), some (.int (i32 x3)), some (.int (i32 x4)), some (.int (i32 x5)), some (.int (i32 x6)), some (.int (i32 y1))]) h (dt t_E_offWith 19 rfl) (by decide) rfl ?_
        refine SW_iload h rfl (dt t_E_offWith 20 rfl) ?_
        refine SW_aload_n h rfl (dt t_E_offWith 21 rfl) ?_
        refine gR h cf7 o114 f7_1 j114_1 lX7_41 (dt t_E_offWith 22 rfl) ?_
        refine SW_iload h rfl (dt t_E_offWith 23 rfl) ?_
        obtain ⟨v2, s2, e2, hf⟩ := b1M_of hf
        refine cV h [.int (i32 y1)] [.int (i32 x4)] v_X4_within kX7_56 o2 (c_J_within y1 hy1 e2) rfl rfl (by decide) (by decide) rfl (Nat.le_of_ble_eq_true rfl) (dt t_E_offWith 24 rfl) (fun h2 => ?_)
        refine SW_ok (fun ok2 => ?_)
        refine SW_iload h rfl (dt t_E_offWith 25 rfl) ?_
        refine SW_iconst h (dt t_E_offWith 26 rfl) ?_
        refine bJ hf (fun J3 e3 hf => ?_)
        have k3 : ∀ (y3 : Int) (t3 : Mm) (hy3 : r32 y3) (ot3 : okM t3) (hf : J3 y3 t3 = some res), SW X 0 8 69 [some (.ref (xad X 114)), some (.ref (xad X r1)), some (.int (i32 x2)), some (.int (i32 x3)), none, none, some (.int (i32 x6)), some (.int (i32 y1))] [.int (i32 y3), .int (i32 v2), .int (i32 x4)] t3 := by
          intro y3 t3 hy3 ot3 hf
          rw [e3] at hf
          refine SW_iadd h (dt t_E_offWith 35 rfl) ?_
          refine SW_iadd h (dt t_E_offWith 36 rfl) ?_
          refine SW_vu hf (fun v4 hf => ?_)
          refine SW_istore (lv2 := [some (.ref (xad X 114)), some (.ref (xad X r1)), some (.int (i32 x2)), some (.int (i32 x3)), some (.int (i32 v4)), none, some (.int (i32 x6)), some (.int (i32 y1))]) h (dt t_E_offWith 37 rfl) (by decide) rfl ?_
          refine SW_iload h rfl (dt t_E_offWith 38 rfl) ?_
          refine SW_istore (lv2 := [some (.ref (xad X 114)), some (.ref (xad X r1)), some (.int (i32 x2)), some (.int (i32 x3)), some (.int (i32 v4)), some (.int (i32 y1)), some (.int (i32 x6)), some (.int (i32 y1))]) h (dt t_E_offWith 39 rfl) (by decide) rfl ?_
          refine SW_iinc (lv2 := [some (.ref (xad X 114)), some (.ref (xad X r1)), some (.int (i32 x2)), some (.int (i32 x3)), some (.int (i32 v4)), some (.int (i32 y1)), some (.int (i32 (x6 + 1))), some (.int (i32 y1))]) h (dt t_E_offWith 40 rfl) rfl (by decide) rfl ?_
          refine SW_goto (tgt := 9) h (dt t_E_offWith 41 rfl) rfl ?_
          refine SW_chk hf (fun h5 hf => ?_)
          refine SW_chk hf (fun h6 hf => ?_)
          exact SW_fgt [true, true, true, true, true, true, true, false] rfl (ih v4 y1 (x6 + 1) t3 h5 hy1 h6 ot3 hf)
        refine SW_icmp_ne (tgt := 58) h (fun _ => hx5) (fun _ => (by decide)) (dt t_E_offWith 27 rfl) rfl hf (fun hf => ?_) (fun hf => ?_)
        · refine SW_iconst h (dt t_E_offWith 28 rfl) ?_
          refine SW_goto (tgt := 69) h (dt t_E_offWith 29 rfl) rfl ?_
          exact SW_fgt [true, true, true, true, false, false, true, true] rfl (k3 0 s2 (by decide) ok2 hf)
        · refine SW_aload_n h rfl (dt t_E_offWith 30 rfl) ?_
          refine gR h cf7 o114 f7_1 j114_1 lX7_41 (dt t_E_offWith 31 rfl) ?_
          refine SW_iload h rfl (dt t_E_offWith 32 rfl) ?_
          refine SW_iload h rfl (dt t_E_offWith 33 rfl) ?_
          obtain ⟨v7, s7, e7, hf⟩ := b1M_of hf
          refine cV h [.int (i32 x5), .int (i32 y1)] [.int (i32 v2), .int (i32 x4)] v_X4_between kX7_72 o2 (c_J_between x5 hx5 y1 hy1 e7) rfl rfl (by decide) (by decide) rfl (Nat.le_of_ble_eq_true rfl) (dt t_E_offWith 34 rfl) (fun h7 => ?_)
          refine SW_ok (fun ok7 => ?_)
          exact SW_fgt [true, true, true, true, false, false, true, true] rfl (k3 v7 s7 h7 ok7 hf)
      refine SW_icmp_ne (tgt := 28) h (fun _ => hx6) (fun _ => hx2) (dt t_E_offWith 12 rfl) rfl hf (fun hf => ?_) (fun hf => ?_)
      · refine SW_iload_n h rfl (dt t_E_offWith 13 rfl) ?_
        refine SW_goto (tgt := 35) h (dt t_E_offWith 14 rfl) rfl ?_
        exact SW_fgt [true, true, true, true, true, true, true, false] rfl (k1 x3 hx3 hf)
      · refine SW_aload_n h rfl (dt t_E_offWith 15 rfl) ?_
        refine gR h cf6 q1 f6_0 (dy6_0 q1).1 lX7_53 (dt t_E_offWith 16 rfl) ?_
        refine SW_iload h rfl (dt t_E_offWith 17 rfl) ?_
        refine aI h (dy6_0 q1).2 (dt t_E_offWith 18 rfl) hf (fun hf => ?_)
        exact SW_fgt [true, true, true, true, true, true, true, false] rfl (k1 (σ (r1 + 12) x6.toNat) (okI ok (r1 + 12) x6.toNat (IsA.n3 (dy6_0 q1).2 (by decide))) hf)
def F_E_offWith (r1 : Nat) (x2 : Int) (x3 : Int) (σ : Mm) : Option (Int × Mm) :=
  b1M (L_E_offWith_9 LF r1 x2 x3 0 ((-1)) 0 σ) fun x4_8 s8 =>
  some (x4_8, s8)
set_option maxRecDepth 100000 in
set_option maxHeartbeats 4000000 in
theorem c_E_offWith (r1 : Nat) (q1 : IsO 0 6 r1) (x2 : Int) (hx2 : r32 x2) (x3 : Int) (hx3 : r32 x3) {σ : Mm} {a : Int} {σ2 : Mm} (hf : F_E_offWith r1 x2 x3 σ = some (a, σ2)) : CT yX7_offWith cX7_offWith 8 (some .int) 7 0 (fun ad => [.ref (ad 114), .ref (ad r1), .int (i32 x2), .int (i32 x3)]) σ (r32 a) (some (.int (i32 a))) σ2 := by
  refine MetJ 4 (by decide +kernel) rfl (fun _ => Nat.le_of_ble_eq_true rfl) ?_
  intro X h hR ok
  obtain ⟨res, er⟩ : ∃ z, z = (a, σ2) := ⟨_, rfl⟩
  have hret : ∀ y : Int × Mm, some y = some res → RX X 0 (r32 (y.1)) (some (.int (i32 (y.1)))) y.2 := fun y e => by cases e; cases er; exact hR
  rw [← er] at hf
  clear er hR
  unfold F_E_offWith at hf
  show SW X 0 8 0 [some (.ref (xad X 114)), some (.ref (xad X r1)), some (.int (i32 x2)), some (.int (i32 x3)), none, none, none, none] [] σ
  refine SW_iconst h (dt t_E_offWith 0 rfl) ?_
  refine SW_istore (lv2 := [some (.ref (xad X 114)), some (.ref (xad X r1)), some (.int (i32 x2)), some (.int (i32 x3)), some (.int (i32 0)), none, none, none]) h (dt t_E_offWith 1 rfl) (by decide) rfl ?_
  refine SW_iconst h (dt t_E_offWith 2 rfl) ?_
  refine SW_istore (lv2 := [some (.ref (xad X 114)), some (.ref (xad X r1)), some (.int (i32 x2)), some (.int (i32 x3)), some (.int (i32 0)), some (.int (i32 ((-1)))), none, none]) h (dt t_E_offWith 3 rfl) (by decide) rfl ?_
  refine SW_iconst h (dt t_E_offWith 4 rfl) ?_
  refine SW_istore (lv2 := [some (.ref (xad X 114)), some (.ref (xad X r1)), some (.int (i32 x2)), some (.int (i32 x3)), some (.int (i32 0)), some (.int (i32 ((-1)))), some (.int (i32 0)), none]) h (dt t_E_offWith 5 rfl) (by decide) rfl ?_
  obtain ⟨z8, e8, hk8⟩ := b1M_ex hf
  refine SW_fgt [true, true, true, true, true, true, true, false] rfl (l_E_offWith_9 h r1 x2 x3 q1 hx2 hx3 (fun x4_8 s8 hz8 hx4_8 ok8 => ?_) LF 0 ((-1)) 0 σ (by decide) (by decide) (by decide) ok e8)
  have hf := hk8 x4_8 s8 hz8
  refine SW_iload h rfl (dt t_E_offWith 42 rfl) ?_
  exact SW_iret h (hret _ hf) (fun _ => hx4_8) rfl (dt t_E_offWith 43 rfl)
def b_E_bestChange : List (Nat × Instr × Nat) := [(0, .aload_n 0, 1), (1, .getfield 41, 3), (4, .invokevirtual 42, 3), (7, .aload_n 0, 1), (8, .getfield 41, 3), (11, .aload_n 1, 1), (12, .invokevirtual 79, 3), (15, .ifCond .ne 5, 3), (18, .iconst (-1), 1), (19, .ireturn, 1), (20, .iconst 1, 1), (21, .istore_n 2, 1), (22, .iload_n 2, 1), (23, .bipush 50, 2), (25, .if_icmp .gt 98, 3), (28, .iconst 0, 1), (29, .istore_n 3, 1), (30, .iload_n 3, 1), (31, .aload_n 1, 1), (32, .getfield 47, 3), (35, .if_icmp .ge 82, 3), (38, .aload_n 1, 1), (39, .getfield 53, 3), (42, .iload_n 3, 1), (43, .iaload, 1), (44, .iload_n 2, 1), (45, .isub, 1), (46, .istore 4, 2), (48, .iload 4, 2), (50, .ifCond .lt 23, 3), (53, .aload_n 0, 1), (54, .aload_n 1, 1), (55, .iload_n 3, 1), (56, .iload 4, 2), (58, .invokevirtual 83, 3), (61, .ifCond .ne 12, 3), (64, .iload_n 3, 1), (65, .sipush 10000, 3), (68, .imul, 1), (69, .iload 4, 2), (71, .iadd, 1), (72, .ireturn, 1), (73, .aload_n 1, 1), (74, .getfield 53, 3), (77, .iload_n 3, 1), (78, .iaload, 1), (79, .iload_n 2, 1), (80, .iadd, 1), (81, .istore 5, 2), (83, .iload 5, 2), (85, .sipush 9999, 3), (88, .if_icmp .gt 23, 3), (91, .aload_n 0, 1), (92, .aload_n 1, 1), (93, .iload_n 3, 1), (94, .iload 5, 2), (96, .invokevirtual 83, 3), (99, .ifCond .ne 12, 3), (102, .iload_n 3, 1), (103, .sipush 10000, 3), (106, .imul, 1), (107, .iload 5, 2), (109, .iadd, 1), (110, .ireturn, 1), (111, .iinc 3 1, 3), (114, .goto (-84), 3), (117, .iinc 2 1, 3), (120, .goto (-98), 3), (123, .iconst (-1), 1), (124, .ireturn, 1)]
theorem t_E_bestChange : DT cX7_bestChange b_E_bestChange := DT.of (by decide +kernel)
def L_E_bestChange_30 : Nat → Nat → Int → Int → Mm → Option ((Int × Mm) ⊕ (Mm))
  | 0, _, _, _, _ => none
  | n + 1, r1, x2, x3, σ =>
    if σ r1 3 ≤ x3 then
      some (.inr σ)
    else
      if 0 ≤ x3 ∧ x3 < 4 then
        bindM ((σ (r1 + 12) x3.toNat) - x2) fun v3 =>
        if r32 v3 then
          bindM (fun  (t5 : Mm) =>
            if 0 ≤ x3 ∧ x3 < 4 then
              bindM ((t5 (r1 + 12) x3.toNat) + x2) fun v6 =>
              if r32 v6 then
                bindM (fun  (t8 : Mm) =>
                  if r32 (x3 + 1) then
                    L_E_bestChange_30 n r1 x2 (x3 + 1) t8
                  else none) fun J8 =>
                if 9999 < v6 then
                  J8 t5
                else
                  b1M (F_E_offWith r1 x3 v6 t5) fun v10 s10 =>
                  if v10 = 0 then
                    if r32 ((x3 * 10000) + v6) then
                      some (.inl ((x3 * 10000) + v6, s10))
                    else none
                  else
                    J8 s10
              else none
            else none) fun J5 =>
          if v3 < 0 then
            J5 σ
          else
            b1M (F_E_offWith r1 x3 v3 σ) fun v12 s12 =>
            if v12 = 0 then
              if r32 ((x3 * 10000) + v3) then
                some (.inl ((x3 * 10000) + v3, s12))
              else none
            else
              J5 s12
        else none
      else none
set_option maxRecDepth 100000 in
set_option maxHeartbeats 4000000 in
theorem l_E_bestChange_30 {X : Cx} (h : CX X 0 cX7_bestChange 6 8 (some .int) RX7) (r1 : Nat) (x2 : Int) (q1 : IsO 0 6 r1) (hx2 : r32 x2) {res : (Int × Mm) ⊕ (Mm)} (hret : ∀ y : Int × Mm, some (.inl y) = some res → RX X 0 (r32 (y.1)) (some (.int (i32 (y.1)))) y.2) (hex : ∀  (σ : Mm) (hz : some (.inr σ) = some res)  (ok : okM σ), SW X 0 6 117 [some (.ref (xad X 114)), some (.ref (xad X r1)), some (.int (i32 x2)), none, none, none] [] σ) : ∀ (n : Nat) (x3 : Int) (σ : Mm) (hx3 : r32 x3) (ok : okM σ) (hf : L_E_bestChange_30 n r1 x2 x3 σ = some res), SW X 0 6 30 [some (.ref (xad X 114)), some (.ref (xad X r1)), some (.int (i32 x2)), some (.int (i32 x3)), none, none] [] σ := by
  intro n
  induction n with
  | zero => intro x3 σ hx3 ok hf; exact absurd hf (by simp [L_E_bestChange_30])
  | succ n ih =>
    intro x3 σ hx3 ok hf
    rw [L_E_bestChange_30] at hf
    refine SW_iload_n h rfl (dt t_E_bestChange 17 rfl) ?_
    refine SW_aload_n h rfl (dt t_E_bestChange 18 rfl) ?_
    refine gI h cf6 q1 f6_3 lX7_47 (dt t_E_bestChange 19 rfl) ?_
    refine SW_icmp_ge (tgt := 117) h (fun _ => hx3) (fun _ => (okI ok r1 3 (IsO.n3 q1))) (dt t_E_bestChange 20 rfl) rfl hf (fun hf => ?_) (fun hf => ?_)
    · exact SW_fgt [true, true, true, false, false, false] rfl (hex σ hf ok)
    · refine SW_aload_n h rfl (dt t_E_bestChange 21 rfl) ?_
      refine gR h cf6 q1 f6_0 (dy6_0 q1).1 lX7_53 (dt t_E_bestChange 22 rfl) ?_
      refine SW_iload_n h rfl (dt t_E_bestChange 23 rfl) ?_
      refine aI h (dy6_0 q1).2 (dt t_E_bestChange 24 rfl) hf (fun hf => ?_)
      refine SW_iload_n h rfl (dt t_E_bestChange 25 rfl) ?_
      refine SW_isub h (dt t_E_bestChange 26 rfl) ?_
      refine SW_vu hf (fun v3 hf => ?_)
      refine SW_istore (lv2 := [some (.ref (xad X 114)), some (.ref (xad X r1)), some (.int (i32 x2)), some (.int (i32 x3)), some (.int (i32 v3)), none]) h (dt t_E_bestChange 27 rfl) (by decide) rfl ?_
      refine SW_iload h rfl (dt t_E_bestChange 28 rfl) ?_
      refine SW_chk hf (fun h4 hf => ?_)
      refine bJ hf (fun J5 e5 hf => ?_)
      have k5 : ∀  (t5 : Mm)  (ot5 : okM t5) (hf : J5 t5 = some res), SW X 0 6 73 [some (.ref (xad X 114)), some (.ref (xad X r1)), some (.int (i32 x2)), some (.int (i32 x3)), none, none] [] t5 := by
        intro t5 ot5 hf
        rw [e5] at hf
        refine SW_aload_n h rfl (dt t_E_bestChange 42 rfl) ?_
        refine gR h cf6 q1 f6_0 (dy6_0 q1).1 lX7_53 (dt t_E_bestChange 43 rfl) ?_
        refine SW_iload_n h rfl (dt t_E_bestChange 44 rfl) ?_
        refine aI h (dy6_0 q1).2 (dt t_E_bestChange 45 rfl) hf (fun hf => ?_)
        refine SW_iload_n h rfl (dt t_E_bestChange 46 rfl) ?_
        refine SW_iadd h (dt t_E_bestChange 47 rfl) ?_
        refine SW_vu hf (fun v6 hf => ?_)
        refine SW_istore (lv2 := [some (.ref (xad X 114)), some (.ref (xad X r1)), some (.int (i32 x2)), some (.int (i32 x3)), none, some (.int (i32 v6))]) h (dt t_E_bestChange 48 rfl) (by decide) rfl ?_
        refine SW_iload h rfl (dt t_E_bestChange 49 rfl) ?_
        refine SW_sipush h (dt t_E_bestChange 50 rfl) (by decide) ?_
        refine SW_chk hf (fun h7 hf => ?_)
        refine bJ hf (fun J8 e8 hf => ?_)
        have k8 : ∀  (t8 : Mm)  (ot8 : okM t8) (hf : J8 t8 = some res), SW X 0 6 111 [some (.ref (xad X 114)), some (.ref (xad X r1)), some (.int (i32 x2)), some (.int (i32 x3)), none, none] [] t8 := by
          intro t8 ot8 hf
          rw [e8] at hf
          refine SW_iinc (lv2 := [some (.ref (xad X 114)), some (.ref (xad X r1)), some (.int (i32 x2)), some (.int (i32 (x3 + 1))), none, none]) h (dt t_E_bestChange 64 rfl) rfl (by decide) rfl ?_
          refine SW_goto (tgt := 30) h (dt t_E_bestChange 65 rfl) rfl ?_
          refine SW_chk hf (fun h9 hf => ?_)
          exact SW_fgt [true, true, true, true, false, false] rfl (ih (x3 + 1) t8 h9 ot8 hf)
        refine SW_icmp_gt (tgt := 111) h (fun _ => h7) (fun _ => (by decide)) (dt t_E_bestChange 51 rfl) rfl hf (fun hf => ?_) (fun hf => ?_)
        · exact SW_fgt [true, true, true, true, false, false] rfl (k8 t5 ot5 hf)
        · refine SW_aload_n h rfl (dt t_E_bestChange 52 rfl) ?_
          refine SW_aload_n h rfl (dt t_E_bestChange 53 rfl) ?_
          refine SW_iload_n h rfl (dt t_E_bestChange 54 rfl) ?_
          refine SW_iload h rfl (dt t_E_bestChange 55 rfl) ?_
          obtain ⟨v10, s10, e10, hf⟩ := b1M_of hf
          refine cV h [.ref (xad X r1), .int (i32 x3), .int (i32 v6)] [] v_X7_offWith kX7_83 o114 (c_E_offWith r1 q1 x3 hx3 v6 h7 e10) rfl rfl (by decide) (by decide) rfl (Nat.le_of_ble_eq_true rfl) (dt t_E_bestChange 56 rfl) (fun h10 => ?_)
          refine SW_ok (fun ok10 => ?_)
          refine SW_if_ne (tgt := 111) h (fun _ => h10) (dt t_E_bestChange 57 rfl) rfl hf (fun hf => ?_) (fun hf => ?_)
          · refine SW_iload_n h rfl (dt t_E_bestChange 58 rfl) ?_
            refine SW_sipush h (dt t_E_bestChange 59 rfl) (by decide) ?_
            refine SW_imul h (dt t_E_bestChange 60 rfl) ?_
            refine SW_iload h rfl (dt t_E_bestChange 61 rfl) ?_
            refine SW_iadd h (dt t_E_bestChange 62 rfl) ?_
            refine SW_chk hf (fun h11 hf => ?_)
            exact SW_iret h (hret _ hf) (fun _ => h11) rfl (dt t_E_bestChange 63 rfl)
          · exact SW_fgt [true, true, true, true, false, false] rfl (k8 s10 ok10 hf)
      refine SW_if_lt (tgt := 73) h (fun _ => h4) (dt t_E_bestChange 29 rfl) rfl hf (fun hf => ?_) (fun hf => ?_)
      · exact SW_fgt [true, true, true, true, false, false] rfl (k5 σ ok hf)
      · refine SW_aload_n h rfl (dt t_E_bestChange 30 rfl) ?_
        refine SW_aload_n h rfl (dt t_E_bestChange 31 rfl) ?_
        refine SW_iload_n h rfl (dt t_E_bestChange 32 rfl) ?_
        refine SW_iload h rfl (dt t_E_bestChange 33 rfl) ?_
        obtain ⟨v12, s12, e12, hf⟩ := b1M_of hf
        refine cV h [.ref (xad X r1), .int (i32 x3), .int (i32 v3)] [] v_X7_offWith kX7_83 o114 (c_E_offWith r1 q1 x3 hx3 v3 h4 e12) rfl rfl (by decide) (by decide) rfl (Nat.le_of_ble_eq_true rfl) (dt t_E_bestChange 34 rfl) (fun h12 => ?_)
        refine SW_ok (fun ok12 => ?_)
        refine SW_if_ne (tgt := 73) h (fun _ => h12) (dt t_E_bestChange 35 rfl) rfl hf (fun hf => ?_) (fun hf => ?_)
        · refine SW_iload_n h rfl (dt t_E_bestChange 36 rfl) ?_
          refine SW_sipush h (dt t_E_bestChange 37 rfl) (by decide) ?_
          refine SW_imul h (dt t_E_bestChange 38 rfl) ?_
          refine SW_iload h rfl (dt t_E_bestChange 39 rfl) ?_
          refine SW_iadd h (dt t_E_bestChange 40 rfl) ?_
          refine SW_chk hf (fun h13 hf => ?_)
          exact SW_iret h (hret _ hf) (fun _ => h13) rfl (dt t_E_bestChange 41 rfl)
        · exact SW_fgt [true, true, true, true, false, false] rfl (k5 s12 ok12 hf)
def L_E_bestChange_22 : Nat → Nat → Int → Mm → Option ((Int × Mm) ⊕ (Mm))
  | 0, _, _, _ => none
  | n + 1, r1, x2, σ =>
    if 50 < x2 then
      some (.inr σ)
    else
      b0MS (L_E_bestChange_30 LF r1 x2 0 σ) (fun y => some (.inl y)) fun s14 =>
      if r32 (x2 + 1) then
        L_E_bestChange_22 n r1 (x2 + 1) s14
      else none
set_option maxRecDepth 100000 in
set_option maxHeartbeats 4000000 in
theorem l_E_bestChange_22 {X : Cx} (h : CX X 0 cX7_bestChange 6 8 (some .int) RX7) (r1 : Nat) (q1 : IsO 0 6 r1) {res : (Int × Mm) ⊕ (Mm)} (hret : ∀ y : Int × Mm, some (.inl y) = some res → RX X 0 (r32 (y.1)) (some (.int (i32 (y.1)))) y.2) (hex : ∀  (σ : Mm) (hz : some (.inr σ) = some res)  (ok : okM σ), SW X 0 6 123 [none, none, none, none, none, none] [] σ) : ∀ (n : Nat) (x2 : Int) (σ : Mm) (hx2 : r32 x2) (ok : okM σ) (hf : L_E_bestChange_22 n r1 x2 σ = some res), SW X 0 6 22 [some (.ref (xad X 114)), some (.ref (xad X r1)), some (.int (i32 x2)), none, none, none] [] σ := by
  intro n
  induction n with
  | zero => intro x2 σ hx2 ok hf; exact absurd hf (by simp [L_E_bestChange_22])
  | succ n ih =>
    intro x2 σ hx2 ok hf
    rw [L_E_bestChange_22] at hf
    refine SW_iload_n h rfl (dt t_E_bestChange 12 rfl) ?_
    refine SW_bipush h (dt t_E_bestChange 13 rfl) (by decide) ?_
    refine SW_icmp_gt (tgt := 123) h (fun _ => hx2) (fun _ => (by decide)) (dt t_E_bestChange 14 rfl) rfl hf (fun hf => ?_) (fun hf => ?_)
    · exact SW_fgt [false, false, false, false, false, false] rfl (hex σ hf ok)
    · refine SW_iconst h (dt t_E_bestChange 15 rfl) ?_
      refine SW_istore_n (lv2 := [some (.ref (xad X 114)), some (.ref (xad X r1)), some (.int (i32 x2)), some (.int (i32 0)), none, none]) h (dt t_E_bestChange 16 rfl) (by decide) rfl ?_
      obtain ⟨z14, e14, g14, hk14⟩ := b0MS_of hf
      refine SW_fgt [true, true, true, true, false, false] rfl (l_E_bestChange_30 h r1 x2 q1 hx2 (fun y e => hret y (g14 y (Option.some.inj e).symm)) (fun s14 hz14 ok14 => ?_) LF 0 σ (by decide) ok e14)
      have hf := hk14 s14 (Option.some.inj hz14).symm
      refine SW_iinc (lv2 := [some (.ref (xad X 114)), some (.ref (xad X r1)), some (.int (i32 (x2 + 1))), none, none, none]) h (dt t_E_bestChange 66 rfl) rfl (by decide) rfl ?_
      refine SW_goto (tgt := 22) h (dt t_E_bestChange 67 rfl) rfl ?_
      refine SW_chk hf (fun h15 hf => ?_)
      exact SW_fgt [true, true, true, false, false, false] rfl (ih (x2 + 1) s14 h15 ok14 hf)
def F_E_bestChange (r1 : Nat) (σ : Mm) : Option (Int × Mm) :=
  b0M (F_J_fresh  σ) fun s1 =>
  b1M (F_J_offOf r1 s1) fun v2 s2 =>
  if v2 = 0 then
    some ((-1), s2)
  else
    b0MS (L_E_bestChange_22 LF r1 1 s2) (fun y => some y) fun s16 =>
    some ((-1), s16)
set_option maxRecDepth 100000 in
set_option maxHeartbeats 4000000 in
theorem c_E_bestChange (r1 : Nat) (q1 : IsO 0 6 r1) {σ : Mm} {a : Int} {σ2 : Mm} (hf : F_E_bestChange r1 σ = some (a, σ2)) : CT yX7_bestChange cX7_bestChange 6 (some .int) 8 0 (fun ad => [.ref (ad 114), .ref (ad r1)]) σ (r32 a) (some (.int (i32 a))) σ2 := by
  refine MetJ 4 (by decide +kernel) rfl (fun _ => Nat.le_of_ble_eq_true rfl) ?_
  intro X h hR ok
  obtain ⟨res, er⟩ : ∃ z, z = (a, σ2) := ⟨_, rfl⟩
  have hret : ∀ y : Int × Mm, some y = some res → RX X 0 (r32 (y.1)) (some (.int (i32 (y.1)))) y.2 := fun y e => by cases e; cases er; exact hR
  rw [← er] at hf
  clear er hR
  unfold F_E_bestChange at hf
  show SW X 0 6 0 [some (.ref (xad X 114)), some (.ref (xad X r1)), none, none, none, none] [] σ
  refine SW_aload_n h rfl (dt t_E_bestChange 0 rfl) ?_
  refine gR h cf7 o114 f7_1 j114_1 lX7_41 (dt t_E_bestChange 1 rfl) ?_
  obtain ⟨s1, e1, hf⟩ := b0M_of hf
  refine cVv h [] [] v_X4_fresh kX7_42 o2 (c_J_fresh  e1) rfl rfl (by decide) (by decide) rfl (Nat.le_of_ble_eq_true rfl) (dt t_E_bestChange 2 rfl) (fun h1 => ?_)
  refine SW_ok (fun ok1 => ?_)
  refine SW_aload_n h rfl (dt t_E_bestChange 3 rfl) ?_
  refine gR h cf7 o114 f7_1 j114_1 lX7_41 (dt t_E_bestChange 4 rfl) ?_
  refine SW_aload_n h rfl (dt t_E_bestChange 5 rfl) ?_
  obtain ⟨v2, s2, e2, hf⟩ := b1M_of hf
  refine cV h [.ref (xad X r1)] [] v_X4_offOf kX7_79 o2 (c_J_offOf r1 q1 e2) rfl rfl (by decide) (by decide) rfl (Nat.le_of_ble_eq_true rfl) (dt t_E_bestChange 6 rfl) (fun h2 => ?_)
  refine SW_ok (fun ok2 => ?_)
  refine SW_if_ne (tgt := 20) h (fun _ => h2) (dt t_E_bestChange 7 rfl) rfl hf (fun hf => ?_) (fun hf => ?_)
  · refine SW_iconst h (dt t_E_bestChange 8 rfl) ?_
    exact SW_iret h (hret _ hf) (fun _ => (by decide)) rfl (dt t_E_bestChange 9 rfl)
  · refine SW_iconst h (dt t_E_bestChange 10 rfl) ?_
    refine SW_istore_n (lv2 := [some (.ref (xad X 114)), some (.ref (xad X r1)), some (.int (i32 1)), none, none, none]) h (dt t_E_bestChange 11 rfl) (by decide) rfl ?_
    obtain ⟨z16, e16, g16, hk16⟩ := b0MS_of hf
    refine SW_fgt [true, true, true, false, false, false] rfl (l_E_bestChange_22 h r1 q1 (fun y e => hret y (g16 y (Option.some.inj e).symm)) (fun s16 hz16 ok16 => ?_) LF 1 s2 (by decide) ok2 e16)
    have hf := hk16 s16 (Option.some.inj hz16).symm
    refine SW_iconst h (dt t_E_bestChange 68 rfl) ?_
    exact SW_iret h (hret _ hf) (fun _ => (by decide)) rfl (dt t_E_bestChange 69 rfl)
def b_A_changed : List (Nat × Instr × Nat) := [(0, .aload_n 0, 1), (1, .getfield 10, 3), (4, .iload_n 1, 1), (5, .invokevirtual 101, 3), (8, .ifCond .eq 12, 3), (11, .iload_n 2, 1), (12, .ifCond .lt 8, 3), (15, .iload_n 2, 1), (16, .iconst 1, 1), (17, .if_icmp .le 5, 3), (20, .iconst (-1), 1), (21, .ireturn, 1), (22, .aload_n 0, 1), (23, .getfield 42, 3), (26, .aload_n 0, 1), (27, .getfield 10, 3), (30, .getfield 90, 3), (33, .iload_n 1, 1), (34, .aaload, 1), (35, .invokevirtual 252, 3), (38, .istore_n 3, 1), (39, .iload_n 3, 1), (40, .iconst (-1), 1), (41, .if_icmp .ne 5, 3), (44, .iconst (-1), 1), (45, .ireturn, 1), (46, .iload_n 2, 1), (47, .ifCond .ne 11, 3), (50, .iload_n 3, 1), (51, .sipush 10000, 3), (54, .idiv, 1), (55, .goto 8, 3), (58, .iload_n 3, 1), (59, .sipush 10000, 3), (62, .irem, 1), (63, .ireturn, 1)]
theorem t_A_changed : DT cX10_changed b_A_changed := DT.of (by decide +kernel)
def F_A_changed (x1 : Int) (x2 : Int) (σ : Mm) : Option (Int × Mm) :=
  b1 (F_H_has x1 σ) fun v1 =>
  if v1 = 0 then
    some ((-1), σ)
  else
    if x2 < 0 then
      some ((-1), σ)
    else
      if x2 ≤ 1 then
        if 0 ≤ x1 ∧ x1 < 12 then
          b1M (F_E_bestChange (10 + x1.toNat) σ) fun v3 s3 =>
          if v3 = (-1) then
            some ((-1), s3)
          else
            if x2 = 0 then
              some (v3.tdiv 10000, s3)
            else
              some (v3.tmod 10000, s3)
        else none
      else
        some ((-1), σ)
set_option maxRecDepth 100000 in
set_option maxHeartbeats 4000000 in
theorem c_A_changed (x1 : Int) (hx1 : r32 x1) (x2 : Int) (hx2 : r32 x2) {σ : Mm} {a : Int} {σ2 : Mm} (hf : F_A_changed x1 x2 σ = some (a, σ2)) : CT yX10_changed cX10_changed 4 (some .int) 9 0 (fun ad => [.ref (ad 0), .int (i32 x1), .int (i32 x2)]) σ (r32 a) (some (.int (i32 a))) σ2 := by
  refine MetJ 1 (by decide +kernel) rfl (fun _ => Nat.le_of_ble_eq_true rfl) ?_
  intro X h hR ok
  obtain ⟨res, er⟩ : ∃ z, z = (a, σ2) := ⟨_, rfl⟩
  have hret : ∀ y : Int × Mm, some y = some res → RX X 0 (r32 (y.1)) (some (.int (i32 (y.1)))) y.2 := fun y e => by cases e; cases er; exact hR
  rw [← er] at hf
  clear er hR
  unfold F_A_changed at hf
  show SW X 0 4 0 [some (.ref (xad X 0)), some (.int (i32 x1)), some (.int (i32 x2)), none] [] σ
  refine SW_aload_n h rfl (dt t_A_changed 0 rfl) ?_
  refine gR h cf10 o0 f10_0 j0_0 lX10_10 (dt t_A_changed 1 rfl) ?_
  refine SW_iload_n h rfl (dt t_A_changed 2 rfl) ?_
  obtain ⟨v1, e1, hf⟩ := b1_of hf
  refine cV h [.int (i32 x1)] [] v_X2_has kX10_101 o1 (c_H_has x1 hx1 e1) rfl rfl (by decide) (by decide) rfl (Nat.le_of_ble_eq_true rfl) (dt t_A_changed 3 rfl) (fun h1 => ?_)
  refine SW_if_eq (tgt := 20) h (fun _ => (r_zo h1)) (dt t_A_changed 4 rfl) rfl hf (fun hf => ?_) (fun hf => ?_)
  · refine SW_iconst h (dt t_A_changed 10 rfl) ?_
    exact SW_iret h (hret _ hf) (fun _ => (by decide)) rfl (dt t_A_changed 11 rfl)
  · refine SW_iload_n h rfl (dt t_A_changed 5 rfl) ?_
    refine SW_if_lt (tgt := 20) h (fun _ => hx2) (dt t_A_changed 6 rfl) rfl hf (fun hf => ?_) (fun hf => ?_)
    · refine SW_iconst h (dt t_A_changed 10 rfl) ?_
      exact SW_iret h (hret _ hf) (fun _ => (by decide)) rfl (dt t_A_changed 11 rfl)
    · refine SW_iload_n h rfl (dt t_A_changed 7 rfl) ?_
      refine SW_iconst h (dt t_A_changed 8 rfl) ?_
      refine SW_icmp_le (tgt := 22) h (fun _ => hx2) (fun _ => (by decide)) (dt t_A_changed 9 rfl) rfl hf (fun hf => ?_) (fun hf => ?_)
      · refine SW_aload_n h rfl (dt t_A_changed 12 rfl) ?_
        refine gR h cf10 o0 f10_4 j0_4 lX10_42 (dt t_A_changed 13 rfl) ?_
        refine SW_aload_n h rfl (dt t_A_changed 14 rfl) ?_
        refine gR h cf10 o0 f10_0 j0_0 lX10_10 (dt t_A_changed 15 rfl) ?_
        refine gR h cf2 o1 f2_2 j1_2 lX10_90 (dt t_A_changed 16 rfl) ?_
        refine SW_iload_n h rfl (dt t_A_changed 17 rfl) ?_
        refine aR h (by decide) a8 rfl (dt t_A_changed 18 rfl) hf (fun h2 hf => ?_)
        obtain ⟨v3, s3, e3, hf⟩ := b1M_of hf
        refine cV h [.ref (xad X (10 + x1.toNat))] [] v_X7_bestChange kX10_252 o114 (c_E_bestChange (10 + x1.toNat) (mk_row h2) e3) rfl rfl (by decide) (by decide) rfl (Nat.le_of_ble_eq_true rfl) (dt t_A_changed 19 rfl) (fun h3 => ?_)
        refine SW_ok (fun ok3 => ?_)
        refine SW_istore_n (lv2 := [some (.ref (xad X 0)), some (.int (i32 x1)), some (.int (i32 x2)), some (.int (i32 v3))]) h (dt t_A_changed 20 rfl) (by decide) rfl ?_
        refine SW_iload_n h rfl (dt t_A_changed 21 rfl) ?_
        refine SW_iconst h (dt t_A_changed 22 rfl) ?_
        refine SW_icmp_ne (tgt := 46) h (fun _ => h3) (fun _ => (by decide)) (dt t_A_changed 23 rfl) rfl hf (fun hf => ?_) (fun hf => ?_)
        · refine SW_iconst h (dt t_A_changed 24 rfl) ?_
          exact SW_iret h (hret _ hf) (fun _ => (by decide)) rfl (dt t_A_changed 25 rfl)
        · refine SW_iload_n h rfl (dt t_A_changed 26 rfl) ?_
          refine SW_if_ne (tgt := 58) h (fun _ => hx2) (dt t_A_changed 27 rfl) rfl hf (fun hf => ?_) (fun hf => ?_)
          · refine SW_iload_n h rfl (dt t_A_changed 28 rfl) ?_
            refine SW_sipush h (dt t_A_changed 29 rfl) (by decide) ?_
            refine SW_idiv h (fun _ => h3) (fun _ => (by decide)) (by decide) (dt t_A_changed 30 rfl) ?_
            refine SW_goto (tgt := 63) h (dt t_A_changed 31 rfl) rfl ?_
            exact SW_iret h (hret _ hf) (fun _ => (r_tdiv h3 (by decide))) rfl (dt t_A_changed 35 rfl)
          · refine SW_iload_n h rfl (dt t_A_changed 32 rfl) ?_
            refine SW_sipush h (dt t_A_changed 33 rfl) (by decide) ?_
            refine SW_irem h (fun _ => h3) (fun _ => (by decide)) (by decide) (dt t_A_changed 34 rfl) ?_
            exact SW_iret h (hret _ hf) (fun _ => (r_tmod h3 (by decide))) rfl (dt t_A_changed 35 rfl)
      · refine SW_iconst h (dt t_A_changed 10 rfl) ?_
        exact SW_iret h (hret _ hf) (fun _ => (by decide)) rfl (dt t_A_changed 11 rfl)
def b_S_keep : List (Nat × Instr × Nat) := [(0, .aload_n 1, 1), (1, .iconst 0, 1), (2, .aload_n 0, 1), (3, .getfield 11, 3), (6, .aload_n 0, 1), (7, .getfield 16, 3), (10, .aaload, 1), (11, .iconst 0, 1), (12, .sipush 165, 3), (15, .invokestatic 20, 3), (18, .aload_n 0, 1), (19, .aload_n 0, 1), (20, .getfield 16, 3), (23, .iconst 1, 1), (24, .iadd, 1), (25, .bipush 30, 2), (27, .irem, 1), (28, .putfield 16, 3), (31, .aload_n 0, 1), (32, .bipush 30, 2), (34, .aload_n 0, 1), (35, .getfield 26, 3), (38, .iconst 1, 1), (39, .iadd, 1), (40, .invokestatic 29, 3), (43, .putfield 26, 3), (46, .return_, 1)]
theorem t_S_keep : DT cX8_keep b_S_keep := DT.of (by decide +kernel)
def F_S_keep (r0 : Nat) (σ : Mm) : Option (Mm) :=
  if 0 ≤ σ r0 1 ∧ σ r0 1 < 30 then
    bindM (stR σ ((r0 + 1) + 1 + (σ r0 1).toNat) (cpyI (σ 3) (σ ((r0 + 1) + 1 + (σ r0 1).toNat)) 0 0 165)) fun s2 =>
    if r32 ((s2 r0 1) + 1) then
      bindM (st2 s2 r0 1 (((s2 r0 1) + 1).tmod 30)) fun s5 =>
      if r32 ((s5 r0 2) + 1) then
        bindM (st2 s5 r0 2 (min 30 ((s5 r0 2) + 1))) fun s9 =>
        some s9
      else none
    else none
  else none
set_option maxRecDepth 100000 in
set_option maxHeartbeats 4000000 in
theorem c_S_keep (r0 : Nat) (q0 : IsO 0 8 r0) {σ : Mm} {σ2 : Mm} (hf : F_S_keep r0 σ = some σ2) : CT yX8_keep cX8_keep 2 none 3 0 (fun ad => [.ref (ad r0), .ref (ad 3)]) σ True none σ2 := by
  refine MetJ 0 (by decide +kernel) rfl (fun _ => Nat.le_of_ble_eq_true rfl) ?_
  intro X h hR ok
  obtain ⟨res, er⟩ : ∃ z, z = σ2 := ⟨_, rfl⟩
  have hret : ∀ y : Mm, some y = some res → RX X 0 True none y := fun y e => by cases e; cases er; exact hR
  rw [← er] at hf
  clear er hR
  unfold F_S_keep at hf
  show SW X 0 2 0 [some (.ref (xad X r0)), some (.ref (xad X 3))] [] σ
  refine SW_aload_n h rfl (dt t_S_keep 0 rfl) ?_
  refine SW_iconst h (dt t_S_keep 1 rfl) ?_
  refine SW_aload_n h rfl (dt t_S_keep 2 rfl) ?_
  refine gR h cf8 q0 f8_0 (dy8_0 q0).1 lX8_11 (dt t_S_keep 3 rfl) ?_
  refine SW_aload_n h rfl (dt t_S_keep 4 rfl) ?_
  refine gI h cf8 q0 f8_1 lX8_16 (dt t_S_keep 5 rfl) ?_
  refine aR h (by decide) (dy8_0 q0).2 (dy_ah (dy8_0 q0).2) (dt t_S_keep 6 rfl) hf (fun h1 hf => ?_)
  refine SW_iconst h (dt t_S_keep 7 rfl) ?_
  refine SW_sipush h (dt t_S_keep 8 rfl) (by decide) ?_
  refine SW_copy h kX8_20 a3 (mk_ah (dy8_0 q0).2 h1) (by decide) (by decide) (by decide) (by decide) (by decide) (Nat.le_of_ble_eq_true rfl) (dt t_S_keep 9 rfl) (SW_bm hf (fun s2 ok2 hf => ?_))
  refine SW_aload_n h rfl (dt t_S_keep 10 rfl) ?_
  refine SW_aload_n h rfl (dt t_S_keep 11 rfl) ?_
  refine gI h cf8 q0 f8_1 lX8_16 (dt t_S_keep 12 rfl) ?_
  refine SW_iconst h (dt t_S_keep 13 rfl) ?_
  refine SW_iadd h (dt t_S_keep 14 rfl) ?_
  refine SW_bipush h (dt t_S_keep 15 rfl) (by decide) ?_
  refine SW_chk hf (fun h3 hf => ?_)
  refine SW_irem h (fun _ => h3) (fun _ => (by decide)) (by decide) (dt t_S_keep 16 rfl) ?_
  refine pI h cf8 q0 f8_1 (r_tmod h3 (by decide)) lX8_16 (dt t_S_keep 17 rfl) (SW_bm hf (fun s5 ok5 hf => ?_))
  refine SW_aload_n h rfl (dt t_S_keep 18 rfl) ?_
  refine SW_bipush h (dt t_S_keep 19 rfl) (by decide) ?_
  refine SW_aload_n h rfl (dt t_S_keep 20 rfl) ?_
  refine gI h cf8 q0 f8_2 lX8_26 (dt t_S_keep 21 rfl) ?_
  refine SW_iconst h (dt t_S_keep 22 rfl) ?_
  refine SW_iadd h (dt t_S_keep 23 rfl) ?_
  refine SW_chk hf (fun h7 hf => ?_)
  refine SW_min h kX8_29 (by decide) h7 (Nat.le_of_ble_eq_true rfl) (dt t_S_keep 24 rfl) ?_
  refine pI h cf8 q0 f8_2 (r_min (by decide) h7) lX8_26 (dt t_S_keep 25 rfl) (SW_bm hf (fun s9 ok9 hf => ?_))
  exact SW_vret h (hret _ hf) rfl (dt t_S_keep 26 rfl)
def b_H_use : List (Nat × Instr × Nat) := [(0, .iconst 0, 1), (1, .istore_n 2, 1), (2, .iload_n 2, 1), (3, .aload_n 1, 1), (4, .getfield 49, 3), (7, .if_icmp .ge 39, 3), (10, .bipush 10, 2), (12, .aload_n 1, 1), (13, .getfield 52, 3), (16, .iload_n 2, 1), (17, .iaload, 1), (18, .iadd, 1), (19, .istore_n 3, 1), (20, .aload_n 0, 1), (21, .getfield 22, 3), (24, .iload_n 3, 1), (25, .sipush 999, 3), (28, .aload_n 0, 1), (29, .getfield 22, 3), (32, .iload_n 3, 1), (33, .iaload, 1), (34, .iconst 1, 1), (35, .iadd, 1), (36, .invokestatic 68, 3), (39, .iastore, 1), (40, .iinc 2 1, 3), (43, .goto (-41), 3), (46, .return_, 1)]
theorem t_H_use : DT cX2_use b_H_use := DT.of (by decide +kernel)
def L_H_use_2 : Nat → Nat → Int → Mm → Option (Mm)
  | 0, _, _, _ => none
  | n + 1, r1, x2, σ =>
    if σ r1 4 ≤ x2 then
      some σ
    else
      if 0 ≤ x2 ∧ x2 < 16 then
        bindM (10 + (σ (r1 + 24) x2.toNat)) fun v1 =>
        if 0 ≤ v1 ∧ v1 < 165 then
          if r32 ((σ 3 v1.toNat) + 1) then
            if 0 ≤ v1 ∧ v1 < 165 then
              bindM (st2 σ 3 v1.toNat (min 999 ((σ 3 v1.toNat) + 1))) fun s4 =>
              if r32 (x2 + 1) then
                L_H_use_2 n r1 (x2 + 1) s4
              else none
            else none
          else none
        else none
      else none
set_option maxRecDepth 100000 in
set_option maxHeartbeats 4000000 in
theorem l_H_use_2 {X : Cx} (h : CX X 0 cX2_use 4 3 none RX2) (r1 : Nat) (q1 : IsO 0 6 r1) {res : Mm} (hex : ∀  (σ : Mm) (hz : some σ = some res)  (ok : okM σ), SW X 0 4 46 [none, none, none, none] [] σ) : ∀ (n : Nat) (x2 : Int) (σ : Mm) (hx2 : r32 x2) (ok : okM σ) (hf : L_H_use_2 n r1 x2 σ = some res), SW X 0 4 2 [some (.ref (xad X 1)), some (.ref (xad X r1)), some (.int (i32 x2)), none] [] σ := by
  intro n
  induction n with
  | zero => intro x2 σ hx2 ok hf; exact absurd hf (by simp [L_H_use_2])
  | succ n ih =>
    intro x2 σ hx2 ok hf
    rw [L_H_use_2] at hf
    refine SW_iload_n h rfl (dt t_H_use 2 rfl) ?_
    refine SW_aload_n h rfl (dt t_H_use 3 rfl) ?_
    refine gI h cf6 q1 f6_4 lX2_49 (dt t_H_use 4 rfl) ?_
    refine SW_icmp_ge (tgt := 46) h (fun _ => hx2) (fun _ => (okI ok r1 4 (IsO.n3 q1))) (dt t_H_use 5 rfl) rfl hf (fun hf => ?_) (fun hf => ?_)
    · exact SW_fgt [false, false, false, false] rfl (hex σ hf ok)
    · refine SW_bipush h (dt t_H_use 6 rfl) (by decide) ?_
      refine SW_aload_n h rfl (dt t_H_use 7 rfl) ?_
      refine gR h cf6 q1 f6_1 (dy6_1 q1).1 lX2_52 (dt t_H_use 8 rfl) ?_
      refine SW_iload_n h rfl (dt t_H_use 9 rfl) ?_
      refine aI h (dy6_1 q1).2 (dt t_H_use 10 rfl) hf (fun hf => ?_)
      refine SW_iadd h (dt t_H_use 11 rfl) ?_
      refine SW_vu hf (fun v1 hf => ?_)
      refine SW_istore_n (lv2 := [some (.ref (xad X 1)), some (.ref (xad X r1)), some (.int (i32 x2)), some (.int (i32 v1))]) h (dt t_H_use 12 rfl) (by decide) rfl ?_
      refine SW_aload_n h rfl (dt t_H_use 13 rfl) ?_
      refine gR h cf2 o1 f2_1 j1_1 lX2_22 (dt t_H_use 14 rfl) ?_
      refine SW_iload_n h rfl (dt t_H_use 15 rfl) ?_
      refine SW_sipush h (dt t_H_use 16 rfl) (by decide) ?_
      refine SW_aload_n h rfl (dt t_H_use 17 rfl) ?_
      refine gR h cf2 o1 f2_1 j1_1 lX2_22 (dt t_H_use 18 rfl) ?_
      refine SW_iload_n h rfl (dt t_H_use 19 rfl) ?_
      refine aI h a3 (dt t_H_use 20 rfl) hf (fun hf => ?_)
      refine SW_iconst h (dt t_H_use 21 rfl) ?_
      refine SW_iadd h (dt t_H_use 22 rfl) ?_
      refine SW_chk hf (fun h3 hf => ?_)
      refine SW_min h kX2_68 (by decide) h3 (Nat.le_of_ble_eq_true rfl) (dt t_H_use 23 rfl) ?_
      refine sI h a3 (r_min (by decide) h3) (dt t_H_use 24 rfl) hf (fun hf => SW_bm hf (fun s4 ok4 hf => ?_))
      refine SW_iinc (lv2 := [some (.ref (xad X 1)), some (.ref (xad X r1)), some (.int (i32 (x2 + 1))), some (.int (i32 v1))]) h (dt t_H_use 25 rfl) rfl (by decide) rfl ?_
      refine SW_goto (tgt := 2) h (dt t_H_use 26 rfl) rfl ?_
      refine SW_chk hf (fun h5 hf => ?_)
      exact SW_fgt [true, true, true, false] rfl (ih (x2 + 1) s4 h5 ok4 hf)
def F_H_use (r1 : Nat) (σ : Mm) : Option (Mm) :=
  b0M (L_H_use_2 LF r1 0 σ) fun s6 =>
  some s6
set_option maxRecDepth 100000 in
set_option maxHeartbeats 4000000 in
theorem c_H_use (r1 : Nat) (q1 : IsO 0 6 r1) {σ : Mm} {σ2 : Mm} (hf : F_H_use r1 σ = some σ2) : CT yX2_use cX2_use 4 none 3 0 (fun ad => [.ref (ad 1), .ref (ad r1)]) σ True none σ2 := by
  refine MetJ 2 (by decide +kernel) rfl (fun _ => Nat.le_of_ble_eq_true rfl) ?_
  intro X h hR ok
  obtain ⟨res, er⟩ : ∃ z, z = σ2 := ⟨_, rfl⟩
  have hret : ∀ y : Mm, some y = some res → RX X 0 True none y := fun y e => by cases e; cases er; exact hR
  rw [← er] at hf
  clear er hR
  unfold F_H_use at hf
  show SW X 0 4 0 [some (.ref (xad X 1)), some (.ref (xad X r1)), none, none] [] σ
  refine SW_iconst h (dt t_H_use 0 rfl) ?_
  refine SW_istore_n (lv2 := [some (.ref (xad X 1)), some (.ref (xad X r1)), some (.int (i32 0)), none]) h (dt t_H_use 1 rfl) (by decide) rfl ?_
  obtain ⟨z6, e6, hk6⟩ := b0M_ex hf
  refine SW_fgt [true, true, true, false] rfl (l_H_use_2 h r1 q1 (fun s6 hz6 ok6 => ?_) LF 0 σ (by decide) ok e6)
  have hf := hk6 s6 hz6
  exact SW_vret h (hret _ hf) rfl (dt t_H_use 27 rfl)
