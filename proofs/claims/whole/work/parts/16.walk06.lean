def b_E_betweenAll : List (Nat × Instr × Nat) := [(0, .iconst 0, 1), (1, .istore_n 3, 1), (2, .aload_n 1, 1), (3, .getfield 47, 3), (6, .iconst 1, 1), (7, .isub, 1), (8, .istore 4, 2), (10, .iload 4, 2), (12, .ifCond .le 55, 3), (15, .aload_n 1, 1), (16, .getfield 53, 3), (19, .iload_n 2, 1), (20, .iconst 2, 1), (21, .iload 4, 2), (23, .imul, 1), (24, .ishr, 1), (25, .iconst 3, 1), (26, .iand, 1), (27, .iaload, 1), (28, .istore 5, 2), (30, .aload_n 1, 1), (31, .getfield 53, 3), (34, .iload_n 2, 1), (35, .iconst 2, 1), (36, .iload 4, 2), (38, .iconst 1, 1), (39, .isub, 1), (40, .imul, 1), (41, .ishr, 1), (42, .iconst 3, 1), (43, .iand, 1), (44, .iaload, 1), (45, .istore 6, 2), (47, .iload_n 3, 1), (48, .aload_n 0, 1), (49, .getfield 41, 3), (52, .iload 5, 2), (54, .iload 6, 2), (56, .invokevirtual 72, 3), (59, .iadd, 1), (60, .istore_n 3, 1), (61, .iinc 4 (-1), 3), (64, .goto (-54), 3), (67, .iload_n 3, 1), (68, .ireturn, 1)]
theorem t_E_betweenAll : DT cX7_betweenAll b_E_betweenAll := DT.of (by decide +kernel)
def L_E_betweenAll_10 : Nat → Nat → Int → Int → Int → Mm → Option (Int × Mm)
  | 0, _, _, _, _, _ => none
  | n + 1, r1, x2, x3, x4, σ =>
    if x4 ≤ 0 then
      some ((x3, σ))
    else
      if 0 ≤ iand (ishr x2 (2 * x4)) 3 ∧ iand (ishr x2 (2 * x4)) 3 < 4 then
        bindM (σ (r1 + 12) ((iand (ishr x2 (2 * x4)) 3).toNat)) fun v1 =>
        if 0 ≤ iand (ishr x2 (2 * (x4 - 1))) 3 ∧ iand (ishr x2 (2 * (x4 - 1))) 3 < 4 then
          bindM (σ (r1 + 12) ((iand (ishr x2 (2 * (x4 - 1))) 3).toNat)) fun v2 =>
          b1M (F_J_between v1 v2 σ) fun v3 s3 =>
          if r32 (x3 + v3) then
            if r32 (x4 + (-1)) then
              L_E_betweenAll_10 n r1 x2 (x3 + v3) (x4 + (-1)) s3
            else none
          else none
        else none
      else none
set_option maxRecDepth 100000 in
set_option maxHeartbeats 4000000 in
theorem l_E_betweenAll_10 {X : Cx} (h : CX X 0 cX7_betweenAll 7 7 (some .int) RX7) (r1 : Nat) (x2 : Int) (q1 : IsO 0 6 r1) (hx2 : r32 x2) {res : Int × Mm} (hex : ∀ (x3 : Int) (σ : Mm) (hz : some ((x3, σ)) = some res) (hx3 : r32 x3) (ok : okM σ), SW X 0 7 67 [none, none, none, some (.int (i32 x3)), none, none, none] [] σ) : ∀ (n : Nat) (x3 : Int) (x4 : Int) (σ : Mm) (hx3 : r32 x3) (hx4 : r32 x4) (ok : okM σ) (hf : L_E_betweenAll_10 n r1 x2 x3 x4 σ = some res), SW X 0 7 10 [some (.ref (xad X 114)), some (.ref (xad X r1)), some (.int (i32 x2)), some (.int (i32 x3)), some (.int (i32 x4)), none, none] [] σ := by
  intro n
  induction n with
  | zero => intro x3 x4 σ hx3 hx4 ok hf; exact absurd hf (by simp [L_E_betweenAll_10])
  | succ n ih =>
    intro x3 x4 σ hx3 hx4 ok hf
    rw [L_E_betweenAll_10] at hf
    refine SW_iload h rfl (dt t_E_betweenAll 7 rfl) ?_
    refine SW_if_le (tgt := 67) h (fun _ => hx4) (dt t_E_betweenAll 8 rfl) rfl hf (fun hf => ?_) (fun hf => ?_)
    · exact SW_fgt [false, false, false, true, false, false, false] rfl (hex x3 σ hf hx3 ok)
    · refine SW_aload_n h rfl (dt t_E_betweenAll 9 rfl) ?_
      refine gR h cf6 q1 f6_0 (dy6_0 q1).1 lX7_53 (dt t_E_betweenAll 10 rfl) ?_
      refine SW_iload_n h rfl (dt t_E_betweenAll 11 rfl) ?_
      refine SW_iconst h (dt t_E_betweenAll 12 rfl) ?_
      refine SW_iload h rfl (dt t_E_betweenAll 13 rfl) ?_
      refine SW_imul h (dt t_E_betweenAll 14 rfl) ?_
      refine SW_ishr h (dt t_E_betweenAll 15 rfl) ?_
      refine SW_iconst h (dt t_E_betweenAll 16 rfl) ?_
      refine SW_iand h (dt t_E_betweenAll 17 rfl) ?_
      refine aI h (dy6_0 q1).2 (dt t_E_betweenAll 18 rfl) hf (fun hf => ?_)
      refine SW_vi hf (okI ok (r1 + 12) ((iand (ishr x2 (2 * x4)) 3).toNat) (IsA.n3 (dy6_0 q1).2 (by decide))) (fun v1 h1 hf => ?_)
      refine SW_istore (lv2 := [some (.ref (xad X 114)), some (.ref (xad X r1)), some (.int (i32 x2)), some (.int (i32 x3)), some (.int (i32 x4)), some (.int (i32 v1)), none]) h (dt t_E_betweenAll 19 rfl) (by decide) rfl ?_
      refine SW_aload_n h rfl (dt t_E_betweenAll 20 rfl) ?_
      refine gR h cf6 q1 f6_0 (dy6_0 q1).1 lX7_53 (dt t_E_betweenAll 21 rfl) ?_
      refine SW_iload_n h rfl (dt t_E_betweenAll 22 rfl) ?_
      refine SW_iconst h (dt t_E_betweenAll 23 rfl) ?_
      refine SW_iload h rfl (dt t_E_betweenAll 24 rfl) ?_
      refine SW_iconst h (dt t_E_betweenAll 25 rfl) ?_
      refine SW_isub h (dt t_E_betweenAll 26 rfl) ?_
      refine SW_imul h (dt t_E_betweenAll 27 rfl) ?_
      refine SW_ishr h (dt t_E_betweenAll 28 rfl) ?_
      refine SW_iconst h (dt t_E_betweenAll 29 rfl) ?_
      refine SW_iand h (dt t_E_betweenAll 30 rfl) ?_
      refine aI h (dy6_0 q1).2 (dt t_E_betweenAll 31 rfl) hf (fun hf => ?_)
      refine SW_vi hf (okI ok (r1 + 12) ((iand (ishr x2 (2 * (x4 - 1))) 3).toNat) (IsA.n3 (dy6_0 q1).2 (by decide))) (fun v2 h2 hf => ?_)
      refine SW_istore (lv2 := [some (.ref (xad X 114)), some (.ref (xad X r1)), some (.int (i32 x2)), some (.int (i32 x3)), some (.int (i32 x4)), some (.int (i32 v1)), some (.int (i32 v2))]) h (dt t_E_betweenAll 32 rfl) (by decide) rfl ?_
      refine SW_iload_n h rfl (dt t_E_betweenAll 33 rfl) ?_
      refine SW_aload_n h rfl (dt t_E_betweenAll 34 rfl) ?_
      refine gR h cf7 o114 f7_1 j114_1 lX7_41 (dt t_E_betweenAll 35 rfl) ?_
      refine SW_iload h rfl (dt t_E_betweenAll 36 rfl) ?_
      refine SW_iload h rfl (dt t_E_betweenAll 37 rfl) ?_
      obtain ⟨v3, s3, e3, hf⟩ := b1M_of hf
      refine cV h [.int (i32 v1), .int (i32 v2)] [.int (i32 x3)] v_X4_between kX7_72 o2 (c_J_between v1 h1 v2 h2 e3) rfl rfl (by decide) (by decide) rfl (Nat.le_of_ble_eq_true rfl) (dt t_E_betweenAll 38 rfl) (fun h3 => ?_)
      refine SW_ok (fun ok3 => ?_)
      refine SW_iadd h (dt t_E_betweenAll 39 rfl) ?_
      refine SW_istore_n (lv2 := [some (.ref (xad X 114)), some (.ref (xad X r1)), some (.int (i32 x2)), some (.int (i32 (x3 + v3))), some (.int (i32 x4)), some (.int (i32 v1)), some (.int (i32 v2))]) h (dt t_E_betweenAll 40 rfl) (by decide) rfl ?_
      refine SW_iinc (lv2 := [some (.ref (xad X 114)), some (.ref (xad X r1)), some (.int (i32 x2)), some (.int (i32 (x3 + v3))), some (.int (i32 (x4 + (-1)))), some (.int (i32 v1)), some (.int (i32 v2))]) h (dt t_E_betweenAll 41 rfl) rfl (by decide) rfl ?_
      refine SW_goto (tgt := 10) h (dt t_E_betweenAll 42 rfl) rfl ?_
      refine SW_chk hf (fun h4 hf => ?_)
      refine SW_chk hf (fun h5 hf => ?_)
      exact SW_fgt [true, true, true, true, true, false, false] rfl (ih (x3 + v3) (x4 + (-1)) s3 h4 h5 ok3 hf)
def F_E_betweenAll (r1 : Nat) (x2 : Int) (σ : Mm) : Option (Int × Mm) :=
  if r32 ((σ r1 3) - 1) then
    b1M (L_E_betweenAll_10 LF r1 x2 0 ((σ r1 3) - 1) σ) fun x3_6 s6 =>
    some (x3_6, s6)
  else none
set_option maxRecDepth 100000 in
set_option maxHeartbeats 4000000 in
theorem c_E_betweenAll (r1 : Nat) (q1 : IsO 0 6 r1) (x2 : Int) (hx2 : r32 x2) {σ : Mm} {a : Int} {σ2 : Mm} (hf : F_E_betweenAll r1 x2 σ = some (a, σ2)) : CT yX7_betweenAll cX7_betweenAll 7 (some .int) 7 0 (fun ad => [.ref (ad 114), .ref (ad r1), .int (i32 x2)]) σ (r32 a) (some (.int (i32 a))) σ2 := by
  refine MetJ 4 (by decide +kernel) rfl (fun _ => Nat.le_of_ble_eq_true rfl) ?_
  intro X h hR ok
  obtain ⟨res, er⟩ : ∃ z, z = (a, σ2) := ⟨_, rfl⟩
  have hret : ∀ y : Int × Mm, some y = some res → RX X 0 (r32 (y.1)) (some (.int (i32 (y.1)))) y.2 := fun y e => by cases e; cases er; exact hR
  rw [← er] at hf
  clear er hR
  unfold F_E_betweenAll at hf
  show SW X 0 7 0 [some (.ref (xad X 114)), some (.ref (xad X r1)), some (.int (i32 x2)), none, none, none, none] [] σ
  refine SW_iconst h (dt t_E_betweenAll 0 rfl) ?_
  refine SW_istore_n (lv2 := [some (.ref (xad X 114)), some (.ref (xad X r1)), some (.int (i32 x2)), some (.int (i32 0)), none, none, none]) h (dt t_E_betweenAll 1 rfl) (by decide) rfl ?_
  refine SW_aload_n h rfl (dt t_E_betweenAll 2 rfl) ?_
  refine gI h cf6 q1 f6_3 lX7_47 (dt t_E_betweenAll 3 rfl) ?_
  refine SW_iconst h (dt t_E_betweenAll 4 rfl) ?_
  refine SW_isub h (dt t_E_betweenAll 5 rfl) ?_
  refine SW_istore (lv2 := [some (.ref (xad X 114)), some (.ref (xad X r1)), some (.int (i32 x2)), some (.int (i32 0)), some (.int (i32 ((σ r1 3) - 1))), none, none]) h (dt t_E_betweenAll 6 rfl) (by decide) rfl ?_
  refine SW_chk hf (fun h7 hf => ?_)
  obtain ⟨z6, e6, hk6⟩ := b1M_ex hf
  refine SW_fgt [true, true, true, true, true, false, false] rfl (l_E_betweenAll_10 h r1 x2 q1 hx2 (fun x3_6 s6 hz6 hx3_6 ok6 => ?_) LF 0 ((σ r1 3) - 1) σ (by decide) h7 ok e6)
  have hf := hk6 x3_6 s6 hz6
  refine SW_iload_n h rfl (dt t_E_betweenAll 43 rfl) ?_
  exact SW_iret h (hret _ hf) (fun _ => hx3_6) rfl (dt t_E_betweenAll 44 rfl)
def b_E_bestOrder : List (Nat × Instr × Nat) := [(0, .aload_n 0, 1), (1, .getfield 41, 3), (4, .invokevirtual 42, 3), (7, .iconst 0, 1), (8, .istore_n 2, 1), (9, .iconst 0, 1), (10, .istore_n 3, 1), (11, .iload_n 3, 1), (12, .aload_n 1, 1), (13, .getfield 47, 3), (16, .if_icmp .ge 25, 3), (19, .iload_n 2, 1), (20, .aload_n 0, 1), (21, .getfield 41, 3), (24, .aload_n 1, 1), (25, .getfield 53, 3), (28, .iload_n 3, 1), (29, .iaload, 1), (30, .invokevirtual 56, 3), (33, .iadd, 1), (34, .istore_n 2, 1), (35, .iinc 3 1, 3), (38, .goto (-27), 3), (41, .iconst (-1), 1), (42, .istore_n 3, 1), (43, .bipush 16, 2), (45, .istore 4, 2), (47, .iconst 0, 1), (48, .istore 5, 2), (50, .iload 5, 2), (52, .iconst 1, 1), (53, .iconst 2, 1), (54, .aload_n 1, 1), (55, .getfield 47, 3), (58, .imul, 1), (59, .ishl, 1), (60, .if_icmp .ge 52, 3), (63, .iload 5, 2), (65, .aload_n 1, 1), (66, .getfield 47, 3), (69, .invokestatic 59, 3), (72, .istore 6, 2), (74, .iload 6, 2), (76, .iconst (-1), 1), (77, .if_icmp .eq 29, 3), (80, .iload 6, 2), (82, .iload 4, 2), (84, .if_icmp .ge 22, 3), (87, .iload_n 2, 1), (88, .aload_n 0, 1), (89, .aload_n 1, 1), (90, .iload 5, 2), (92, .invokevirtual 63, 3), (95, .iadd, 1), (96, .ifCond .ne 10, 3), (99, .iload 5, 2), (101, .istore_n 3, 1), (102, .iload 6, 2), (104, .istore 4, 2), (106, .iinc 5 1, 3), (109, .goto (-59), 3), (112, .iload_n 3, 1), (113, .ireturn, 1)]
theorem t_E_bestOrder : DT cX7_bestOrder b_E_bestOrder := DT.of (by decide +kernel)
def L_E_bestOrder_11 : Nat → Nat → Int → Int → Mm → Option (Int × Mm)
  | 0, _, _, _, _ => none
  | n + 1, r1, x2, x3, σ =>
    if σ r1 3 ≤ x3 then
      some ((x2, σ))
    else
      if 0 ≤ x3 ∧ x3 < 4 then
        b1M (F_J_within (σ (r1 + 12) x3.toNat) σ) fun v2 s2 =>
        if r32 (x2 + v2) then
          if r32 (x3 + 1) then
            L_E_bestOrder_11 n r1 (x2 + v2) (x3 + 1) s2
          else none
        else none
      else none
set_option maxRecDepth 100000 in
set_option maxHeartbeats 4000000 in
theorem l_E_bestOrder_11 {X : Cx} (h : CX X 0 cX7_bestOrder 7 8 (some .int) RX7) (r1 : Nat) (q1 : IsO 0 6 r1) {res : Int × Mm} (hex : ∀ (x2 : Int) (σ : Mm) (hz : some ((x2, σ)) = some res) (hx2 : r32 x2) (ok : okM σ), SW X 0 7 41 [some (.ref (xad X 114)), some (.ref (xad X r1)), some (.int (i32 x2)), none, none, none, none] [] σ) : ∀ (n : Nat) (x2 : Int) (x3 : Int) (σ : Mm) (hx2 : r32 x2) (hx3 : r32 x3) (ok : okM σ) (hf : L_E_bestOrder_11 n r1 x2 x3 σ = some res), SW X 0 7 11 [some (.ref (xad X 114)), some (.ref (xad X r1)), some (.int (i32 x2)), some (.int (i32 x3)), none, none, none] [] σ := by
  intro n
  induction n with
  | zero => intro x2 x3 σ hx2 hx3 ok hf; exact absurd hf (by simp [L_E_bestOrder_11])
  | succ n ih =>
    intro x2 x3 σ hx2 hx3 ok hf
    rw [L_E_bestOrder_11] at hf
    refine SW_iload_n h rfl (dt t_E_bestOrder 7 rfl) ?_
    refine SW_aload_n h rfl (dt t_E_bestOrder 8 rfl) ?_
    refine gI h cf6 q1 f6_3 lX7_47 (dt t_E_bestOrder 9 rfl) ?_
    refine SW_icmp_ge (tgt := 41) h (fun _ => hx3) (fun _ => (okI ok r1 3 (IsO.n3 q1))) (dt t_E_bestOrder 10 rfl) rfl hf (fun hf => ?_) (fun hf => ?_)
    · exact SW_fgt [true, true, true, false, false, false, false] rfl (hex x2 σ hf hx2 ok)
    · refine SW_iload_n h rfl (dt t_E_bestOrder 11 rfl) ?_
      refine SW_aload_n h rfl (dt t_E_bestOrder 12 rfl) ?_
      refine gR h cf7 o114 f7_1 j114_1 lX7_41 (dt t_E_bestOrder 13 rfl) ?_
      refine SW_aload_n h rfl (dt t_E_bestOrder 14 rfl) ?_
      refine gR h cf6 q1 f6_0 (dy6_0 q1).1 lX7_53 (dt t_E_bestOrder 15 rfl) ?_
      refine SW_iload_n h rfl (dt t_E_bestOrder 16 rfl) ?_
      refine aI h (dy6_0 q1).2 (dt t_E_bestOrder 17 rfl) hf (fun hf => ?_)
      obtain ⟨v2, s2, e2, hf⟩ := b1M_of hf
      refine cV h [.int (i32 (σ (r1 + 12) x3.toNat))] [.int (i32 x2)] v_X4_within kX7_56 o2 (c_J_within (σ (r1 + 12) x3.toNat) (okI ok (r1 + 12) x3.toNat (IsA.n3 (dy6_0 q1).2 (by decide))) e2) rfl rfl (by decide) (by decide) rfl (Nat.le_of_ble_eq_true rfl) (dt t_E_bestOrder 18 rfl) (fun h2 => ?_)
      refine SW_ok (fun ok2 => ?_)
      refine SW_iadd h (dt t_E_bestOrder 19 rfl) ?_
      refine SW_istore_n (lv2 := [some (.ref (xad X 114)), some (.ref (xad X r1)), some (.int (i32 (x2 + v2))), some (.int (i32 x3)), none, none, none]) h (dt t_E_bestOrder 20 rfl) (by decide) rfl ?_
      refine SW_iinc (lv2 := [some (.ref (xad X 114)), some (.ref (xad X r1)), some (.int (i32 (x2 + v2))), some (.int (i32 (x3 + 1))), none, none, none]) h (dt t_E_bestOrder 21 rfl) rfl (by decide) rfl ?_
      refine SW_goto (tgt := 11) h (dt t_E_bestOrder 22 rfl) rfl ?_
      refine SW_chk hf (fun h3 hf => ?_)
      refine SW_chk hf (fun h4 hf => ?_)
      exact SW_fgt [true, true, true, true, false, false, false] rfl (ih (x2 + v2) (x3 + 1) s2 h3 h4 ok2 hf)
def L_E_bestOrder_50 : Nat → Nat → Int → Int → Int → Int → Mm → Option (Int × Mm)
  | 0, _, _, _, _, _, _ => none
  | n + 1, r1, x2, x3, x4, x5, σ =>
    if ishl 1 (2 * (σ r1 3)) ≤ x5 then
      some ((x3, σ))
    else
      b1 (F_E_sidesChanged x5 (σ r1 3)) fun v6 =>
      bindM (fun (x3_7 : Int) (x4_7 : Int) (t7 : Mm) =>
        if r32 (x5 + 1) then
          L_E_bestOrder_50 n r1 x2 x3_7 x4_7 (x5 + 1) t7
        else none) fun J7 =>
      if v6 = (-1) then
        J7 x3 x4 σ
      else
        if x4 ≤ v6 then
          J7 x3 x4 σ
        else
          b1M (F_E_betweenAll r1 x5 σ) fun v9 s9 =>
          if r32 (x2 + v9) then
            if x2 + v9 = 0 then
              J7 x5 v6 s9
            else
              J7 x3 x4 s9
          else none
set_option maxRecDepth 100000 in
set_option maxHeartbeats 4000000 in
theorem l_E_bestOrder_50 {X : Cx} (h : CX X 0 cX7_bestOrder 7 8 (some .int) RX7) (r1 : Nat) (x2 : Int) (q1 : IsO 0 6 r1) (hx2 : r32 x2) {res : Int × Mm} (hex : ∀ (x3 : Int) (σ : Mm) (hz : some ((x3, σ)) = some res) (hx3 : r32 x3) (ok : okM σ), SW X 0 7 112 [none, none, none, some (.int (i32 x3)), none, none, none] [] σ) : ∀ (n : Nat) (x3 : Int) (x4 : Int) (x5 : Int) (σ : Mm) (hx3 : r32 x3) (hx4 : r32 x4) (hx5 : r32 x5) (ok : okM σ) (hf : L_E_bestOrder_50 n r1 x2 x3 x4 x5 σ = some res), SW X 0 7 50 [some (.ref (xad X 114)), some (.ref (xad X r1)), some (.int (i32 x2)), some (.int (i32 x3)), some (.int (i32 x4)), some (.int (i32 x5)), none] [] σ := by
  intro n
  induction n with
  | zero => intro x3 x4 x5 σ hx3 hx4 hx5 ok hf; exact absurd hf (by simp [L_E_bestOrder_50])
  | succ n ih =>
    intro x3 x4 x5 σ hx3 hx4 hx5 ok hf
    rw [L_E_bestOrder_50] at hf
    refine SW_iload h rfl (dt t_E_bestOrder 29 rfl) ?_
    refine SW_iconst h (dt t_E_bestOrder 30 rfl) ?_
    refine SW_iconst h (dt t_E_bestOrder 31 rfl) ?_
    refine SW_aload_n h rfl (dt t_E_bestOrder 32 rfl) ?_
    refine gI h cf6 q1 f6_3 lX7_47 (dt t_E_bestOrder 33 rfl) ?_
    refine SW_imul h (dt t_E_bestOrder 34 rfl) ?_
    refine SW_ishl h (dt t_E_bestOrder 35 rfl) ?_
    refine SW_icmp_ge (tgt := 112) h (fun _ => hx5) (fun _ => (r_ishl _ _)) (dt t_E_bestOrder 36 rfl) rfl hf (fun hf => ?_) (fun hf => ?_)
    · exact SW_fgt [false, false, false, true, false, false, false] rfl (hex x3 σ hf hx3 ok)
    · refine SW_iload h rfl (dt t_E_bestOrder 37 rfl) ?_
      refine SW_aload_n h rfl (dt t_E_bestOrder 38 rfl) ?_
      refine gI h cf6 q1 f6_3 lX7_47 (dt t_E_bestOrder 39 rfl) ?_
      obtain ⟨v6, e6, hf⟩ := b1_of hf
      refine cS h [.int (i32 x5), .int (i32 (σ r1 3))] [] v_X7_sidesChanged kX7_59 (c_E_sidesChanged x5 hx5 (σ r1 3) (okI ok r1 3 (IsO.n3 q1)) e6) rfl rfl (by decide) (by decide) rfl (Nat.le_of_ble_eq_true rfl) (dt t_E_bestOrder 40 rfl) (fun h6 => ?_)
      refine SW_istore (lv2 := [some (.ref (xad X 114)), some (.ref (xad X r1)), some (.int (i32 x2)), some (.int (i32 x3)), some (.int (i32 x4)), some (.int (i32 x5)), some (.int (i32 v6))]) h (dt t_E_bestOrder 41 rfl) (by decide) rfl ?_
      refine SW_iload h rfl (dt t_E_bestOrder 42 rfl) ?_
      refine SW_iconst h (dt t_E_bestOrder 43 rfl) ?_
      refine bJ hf (fun J7 e7 hf => ?_)
      have k7 : ∀ (x3_7 : Int) (x4_7 : Int) (t7 : Mm) (hx3_7 : r32 x3_7) (hx4_7 : r32 x4_7) (ot7 : okM t7) (hf : J7 x3_7 x4_7 t7 = some res), SW X 0 7 106 [some (.ref (xad X 114)), some (.ref (xad X r1)), some (.int (i32 x2)), some (.int (i32 x3_7)), some (.int (i32 x4_7)), some (.int (i32 x5)), none] [] t7 := by
        intro x3_7 x4_7 t7 hx3_7 hx4_7 ot7 hf
        rw [e7] at hf
        refine SW_iinc (lv2 := [some (.ref (xad X 114)), some (.ref (xad X r1)), some (.int (i32 x2)), some (.int (i32 x3_7)), some (.int (i32 x4_7)), some (.int (i32 (x5 + 1))), none]) h (dt t_E_bestOrder 59 rfl) rfl (by decide) rfl ?_
        refine SW_goto (tgt := 50) h (dt t_E_bestOrder 60 rfl) rfl ?_
        refine SW_chk hf (fun h8 hf => ?_)
        exact SW_fgt [true, true, true, true, true, true, false] rfl (ih x3_7 x4_7 (x5 + 1) t7 hx3_7 hx4_7 h8 ot7 hf)
      refine SW_icmp_eq (tgt := 106) h (fun _ => h6) (fun _ => (by decide)) (dt t_E_bestOrder 44 rfl) rfl hf (fun hf => ?_) (fun hf => ?_)
      · exact SW_fgt [true, true, true, true, true, true, false] rfl (k7 x3 x4 σ hx3 hx4 ok hf)
      · refine SW_iload h rfl (dt t_E_bestOrder 45 rfl) ?_
        refine SW_iload h rfl (dt t_E_bestOrder 46 rfl) ?_
        refine SW_icmp_ge (tgt := 106) h (fun _ => h6) (fun _ => hx4) (dt t_E_bestOrder 47 rfl) rfl hf (fun hf => ?_) (fun hf => ?_)
        · exact SW_fgt [true, true, true, true, true, true, false] rfl (k7 x3 x4 σ hx3 hx4 ok hf)
        · refine SW_iload_n h rfl (dt t_E_bestOrder 48 rfl) ?_
          refine SW_aload_n h rfl (dt t_E_bestOrder 49 rfl) ?_
          refine SW_aload_n h rfl (dt t_E_bestOrder 50 rfl) ?_
          refine SW_iload h rfl (dt t_E_bestOrder 51 rfl) ?_
          obtain ⟨v9, s9, e9, hf⟩ := b1M_of hf
          refine cV h [.ref (xad X r1), .int (i32 x5)] [.int (i32 x2)] v_X7_betweenAll kX7_63 o114 (c_E_betweenAll r1 q1 x5 hx5 e9) rfl rfl (by decide) (by decide) rfl (Nat.le_of_ble_eq_true rfl) (dt t_E_bestOrder 52 rfl) (fun h9 => ?_)
          refine SW_ok (fun ok9 => ?_)
          refine SW_iadd h (dt t_E_bestOrder 53 rfl) ?_
          refine SW_chk hf (fun h10 hf => ?_)
          refine SW_if_ne (tgt := 106) h (fun _ => h10) (dt t_E_bestOrder 54 rfl) rfl hf (fun hf => ?_) (fun hf => ?_)
          · refine SW_iload h rfl (dt t_E_bestOrder 55 rfl) ?_
            refine SW_istore_n (lv2 := [some (.ref (xad X 114)), some (.ref (xad X r1)), some (.int (i32 x2)), some (.int (i32 x5)), some (.int (i32 x4)), some (.int (i32 x5)), some (.int (i32 v6))]) h (dt t_E_bestOrder 56 rfl) (by decide) rfl ?_
            refine SW_iload h rfl (dt t_E_bestOrder 57 rfl) ?_
            refine SW_istore (lv2 := [some (.ref (xad X 114)), some (.ref (xad X r1)), some (.int (i32 x2)), some (.int (i32 x5)), some (.int (i32 v6)), some (.int (i32 x5)), some (.int (i32 v6))]) h (dt t_E_bestOrder 58 rfl) (by decide) rfl ?_
            exact SW_fgt [true, true, true, true, true, true, false] rfl (k7 x5 v6 s9 hx5 h6 ok9 hf)
          · exact SW_fgt [true, true, true, true, true, true, false] rfl (k7 x3 x4 s9 hx3 hx4 ok9 hf)
def F_E_bestOrder (r1 : Nat) (σ : Mm) : Option (Int × Mm) :=
  b0M (F_J_fresh  σ) fun s1 =>
  b1M (L_E_bestOrder_11 LF r1 0 0 s1) fun x2_5 s5 =>
  b1M (L_E_bestOrder_50 LF r1 x2_5 ((-1)) 16 0 s5) fun x3_11 s11 =>
  some (x3_11, s11)
set_option maxRecDepth 100000 in
set_option maxHeartbeats 4000000 in
theorem c_E_bestOrder (r1 : Nat) (q1 : IsO 0 6 r1) {σ : Mm} {a : Int} {σ2 : Mm} (hf : F_E_bestOrder r1 σ = some (a, σ2)) : CT yX7_bestOrder cX7_bestOrder 7 (some .int) 8 0 (fun ad => [.ref (ad 114), .ref (ad r1)]) σ (r32 a) (some (.int (i32 a))) σ2 := by
  refine MetJ 5 (by decide +kernel) rfl (fun _ => Nat.le_of_ble_eq_true rfl) ?_
  intro X h hR ok
  obtain ⟨res, er⟩ : ∃ z, z = (a, σ2) := ⟨_, rfl⟩
  have hret : ∀ y : Int × Mm, some y = some res → RX X 0 (r32 (y.1)) (some (.int (i32 (y.1)))) y.2 := fun y e => by cases e; cases er; exact hR
  rw [← er] at hf
  clear er hR
  unfold F_E_bestOrder at hf
  show SW X 0 7 0 [some (.ref (xad X 114)), some (.ref (xad X r1)), none, none, none, none, none] [] σ
  refine SW_aload_n h rfl (dt t_E_bestOrder 0 rfl) ?_
  refine gR h cf7 o114 f7_1 j114_1 lX7_41 (dt t_E_bestOrder 1 rfl) ?_
  obtain ⟨s1, e1, hf⟩ := b0M_of hf
  refine cVv h [] [] v_X4_fresh kX7_42 o2 (c_J_fresh  e1) rfl rfl (by decide) (by decide) rfl (Nat.le_of_ble_eq_true rfl) (dt t_E_bestOrder 2 rfl) (fun h1 => ?_)
  refine SW_ok (fun ok1 => ?_)
  refine SW_iconst h (dt t_E_bestOrder 3 rfl) ?_
  refine SW_istore_n (lv2 := [some (.ref (xad X 114)), some (.ref (xad X r1)), some (.int (i32 0)), none, none, none, none]) h (dt t_E_bestOrder 4 rfl) (by decide) rfl ?_
  refine SW_iconst h (dt t_E_bestOrder 5 rfl) ?_
  refine SW_istore_n (lv2 := [some (.ref (xad X 114)), some (.ref (xad X r1)), some (.int (i32 0)), some (.int (i32 0)), none, none, none]) h (dt t_E_bestOrder 6 rfl) (by decide) rfl ?_
  obtain ⟨z5, e5, hk5⟩ := b1M_ex hf
  refine SW_fgt [true, true, true, true, false, false, false] rfl (l_E_bestOrder_11 h r1 q1 (fun x2_5 s5 hz5 hx2_5 ok5 => ?_) LF 0 0 s1 (by decide) (by decide) ok1 e5)
  have hf := hk5 x2_5 s5 hz5
  refine SW_iconst h (dt t_E_bestOrder 23 rfl) ?_
  refine SW_istore_n (lv2 := [some (.ref (xad X 114)), some (.ref (xad X r1)), some (.int (i32 x2_5)), some (.int (i32 ((-1)))), none, none, none]) h (dt t_E_bestOrder 24 rfl) (by decide) rfl ?_
  refine SW_bipush h (dt t_E_bestOrder 25 rfl) (by decide) ?_
  refine SW_istore (lv2 := [some (.ref (xad X 114)), some (.ref (xad X r1)), some (.int (i32 x2_5)), some (.int (i32 ((-1)))), some (.int (i32 16)), none, none]) h (dt t_E_bestOrder 26 rfl) (by decide) rfl ?_
  refine SW_iconst h (dt t_E_bestOrder 27 rfl) ?_
  refine SW_istore (lv2 := [some (.ref (xad X 114)), some (.ref (xad X r1)), some (.int (i32 x2_5)), some (.int (i32 ((-1)))), some (.int (i32 16)), some (.int (i32 0)), none]) h (dt t_E_bestOrder 28 rfl) (by decide) rfl ?_
  obtain ⟨z11, e11, hk11⟩ := b1M_ex hf
  refine SW_fgt [true, true, true, true, true, true, false] rfl (l_E_bestOrder_50 h r1 x2_5 q1 hx2_5 (fun x3_11 s11 hz11 hx3_11 ok11 => ?_) LF ((-1)) 16 0 s5 (by decide) (by decide) (by decide) ok5 e11)
  have hf := hk11 x3_11 s11 hz11
  refine SW_iload_n h rfl (dt t_E_bestOrder 61 rfl) ?_
  exact SW_iret h (hret _ hf) (fun _ => hx3_11) rfl (dt t_E_bestOrder 62 rfl)
def b_A_ordered : List (Nat × Instr × Nat) := [(0, .aload_n 0, 1), (1, .getfield 10, 3), (4, .iload_n 1, 1), (5, .invokevirtual 101, 3), (8, .ifCond .ne 5, 3), (11, .iconst (-1), 1), (12, .ireturn, 1), (13, .aload_n 0, 1), (14, .getfield 10, 3), (17, .getfield 90, 3), (20, .iload_n 1, 1), (21, .aaload, 1), (22, .getfield 193, 3), (25, .istore_n 3, 1), (26, .iload_n 2, 1), (27, .iconst (-1), 1), (28, .if_icmp .lt 8, 3), (31, .iload_n 2, 1), (32, .iload_n 3, 1), (33, .if_icmp .lt 5, 3), (36, .iconst (-1), 1), (37, .ireturn, 1), (38, .aload_n 0, 1), (39, .getfield 42, 3), (42, .aload_n 0, 1), (43, .getfield 10, 3), (46, .getfield 90, 3), (49, .iload_n 1, 1), (50, .aaload, 1), (51, .invokevirtual 237, 3), (54, .istore 4, 2), (56, .iload 4, 2), (58, .iconst (-1), 1), (59, .if_icmp .ne 5, 3), (62, .iconst (-1), 1), (63, .ireturn, 1), (64, .iload_n 2, 1), (65, .iconst (-1), 1), (66, .if_icmp .ne 12, 3), (69, .iload 4, 2), (71, .iload_n 3, 1), (72, .invokestatic 240, 3), (75, .goto 15, 3), (78, .iload 4, 2), (80, .iconst 2, 1), (81, .iload_n 3, 1), (82, .iconst 1, 1), (83, .isub, 1), (84, .iload_n 2, 1), (85, .isub, 1), (86, .imul, 1), (87, .ishr, 1), (88, .iconst 3, 1), (89, .iand, 1), (90, .ireturn, 1)]
theorem t_A_ordered : DT cX10_ordered b_A_ordered := DT.of (by decide +kernel)
def F_A_ordered (x1 : Int) (x2 : Int) (σ : Mm) : Option (Int × Mm) :=
  b1 (F_H_has x1 σ) fun v1 =>
  if v1 = 0 then
    some ((-1), σ)
  else
    if 0 ≤ x1 ∧ x1 < 12 then
      bindM (σ (10 + x1.toNat) 3) fun v3 =>
      if x2 < (-1) then
        some ((-1), σ)
      else
        if x2 < v3 then
          if 0 ≤ x1 ∧ x1 < 12 then
            b1M (F_E_bestOrder (10 + x1.toNat) σ) fun v5 s5 =>
            if v5 = (-1) then
              some ((-1), s5)
            else
              if x2 = (-1) then
                b1 (F_E_sidesChanged v5 v3) fun v6 =>
                some (v6, s5)
              else
                some (iand (ishr v5 (2 * ((v3 - 1) - x2))) 3, s5)
          else none
        else
          some ((-1), σ)
    else none
set_option maxRecDepth 100000 in
set_option maxHeartbeats 4000000 in
theorem c_A_ordered (x1 : Int) (hx1 : r32 x1) (x2 : Int) (hx2 : r32 x2) {σ : Mm} {a : Int} {σ2 : Mm} (hf : F_A_ordered x1 x2 σ = some (a, σ2)) : CT yX10_ordered cX10_ordered 5 (some .int) 9 0 (fun ad => [.ref (ad 0), .int (i32 x1), .int (i32 x2)]) σ (r32 a) (some (.int (i32 a))) σ2 := by
  refine MetJ 2 (by decide +kernel) rfl (fun _ => Nat.le_of_ble_eq_true rfl) ?_
  intro X h hR ok
  obtain ⟨res, er⟩ : ∃ z, z = (a, σ2) := ⟨_, rfl⟩
  have hret : ∀ y : Int × Mm, some y = some res → RX X 0 (r32 (y.1)) (some (.int (i32 (y.1)))) y.2 := fun y e => by cases e; cases er; exact hR
  rw [← er] at hf
  clear er hR
  unfold F_A_ordered at hf
  show SW X 0 5 0 [some (.ref (xad X 0)), some (.int (i32 x1)), some (.int (i32 x2)), none, none] [] σ
  refine SW_aload_n h rfl (dt t_A_ordered 0 rfl) ?_
  refine gR h cf10 o0 f10_0 j0_0 lX10_10 (dt t_A_ordered 1 rfl) ?_
  refine SW_iload_n h rfl (dt t_A_ordered 2 rfl) ?_
  obtain ⟨v1, e1, hf⟩ := b1_of hf
  refine cV h [.int (i32 x1)] [] v_X2_has kX10_101 o1 (c_H_has x1 hx1 e1) rfl rfl (by decide) (by decide) rfl (Nat.le_of_ble_eq_true rfl) (dt t_A_ordered 3 rfl) (fun h1 => ?_)
  refine SW_if_ne (tgt := 13) h (fun _ => (r_zo h1)) (dt t_A_ordered 4 rfl) rfl hf (fun hf => ?_) (fun hf => ?_)
  · refine SW_iconst h (dt t_A_ordered 5 rfl) ?_
    exact SW_iret h (hret _ hf) (fun _ => (by decide)) rfl (dt t_A_ordered 6 rfl)
  · refine SW_aload_n h rfl (dt t_A_ordered 7 rfl) ?_
    refine gR h cf10 o0 f10_0 j0_0 lX10_10 (dt t_A_ordered 8 rfl) ?_
    refine gR h cf2 o1 f2_2 j1_2 lX10_90 (dt t_A_ordered 9 rfl) ?_
    refine SW_iload_n h rfl (dt t_A_ordered 10 rfl) ?_
    refine aR h (by decide) a8 rfl (dt t_A_ordered 11 rfl) hf (fun h2 hf => ?_)
    refine gI h cf6 (mk_row h2) f6_3 lX10_193 (dt t_A_ordered 12 rfl) ?_
    refine SW_vi hf (okI ok (10 + x1.toNat) 3 (IsO.n3 (mk_row h2))) (fun v3 h3 hf => ?_)
    refine SW_istore_n (lv2 := [some (.ref (xad X 0)), some (.int (i32 x1)), some (.int (i32 x2)), some (.int (i32 v3)), none]) h (dt t_A_ordered 13 rfl) (by decide) rfl ?_
    refine SW_iload_n h rfl (dt t_A_ordered 14 rfl) ?_
    refine SW_iconst h (dt t_A_ordered 15 rfl) ?_
    refine SW_icmp_lt (tgt := 36) h (fun _ => hx2) (fun _ => (by decide)) (dt t_A_ordered 16 rfl) rfl hf (fun hf => ?_) (fun hf => ?_)
    · refine SW_iconst h (dt t_A_ordered 20 rfl) ?_
      exact SW_iret h (hret _ hf) (fun _ => (by decide)) rfl (dt t_A_ordered 21 rfl)
    · refine SW_iload_n h rfl (dt t_A_ordered 17 rfl) ?_
      refine SW_iload_n h rfl (dt t_A_ordered 18 rfl) ?_
      refine SW_icmp_lt (tgt := 38) h (fun _ => hx2) (fun _ => h3) (dt t_A_ordered 19 rfl) rfl hf (fun hf => ?_) (fun hf => ?_)
      · refine SW_aload_n h rfl (dt t_A_ordered 22 rfl) ?_
        refine gR h cf10 o0 f10_4 j0_4 lX10_42 (dt t_A_ordered 23 rfl) ?_
        refine SW_aload_n h rfl (dt t_A_ordered 24 rfl) ?_
        refine gR h cf10 o0 f10_0 j0_0 lX10_10 (dt t_A_ordered 25 rfl) ?_
        refine gR h cf2 o1 f2_2 j1_2 lX10_90 (dt t_A_ordered 26 rfl) ?_
        refine SW_iload_n h rfl (dt t_A_ordered 27 rfl) ?_
        refine aR h (by decide) a8 rfl (dt t_A_ordered 28 rfl) hf (fun h4 hf => ?_)
        obtain ⟨v5, s5, e5, hf⟩ := b1M_of hf
        refine cV h [.ref (xad X (10 + x1.toNat))] [] v_X7_bestOrder kX10_237 o114 (c_E_bestOrder (10 + x1.toNat) (mk_row h4) e5) rfl rfl (by decide) (by decide) rfl (Nat.le_of_ble_eq_true rfl) (dt t_A_ordered 29 rfl) (fun h5 => ?_)
        refine SW_ok (fun ok5 => ?_)
        refine SW_istore (lv2 := [some (.ref (xad X 0)), some (.int (i32 x1)), some (.int (i32 x2)), some (.int (i32 v3)), some (.int (i32 v5))]) h (dt t_A_ordered 30 rfl) (by decide) rfl ?_
        refine SW_iload h rfl (dt t_A_ordered 31 rfl) ?_
        refine SW_iconst h (dt t_A_ordered 32 rfl) ?_
        refine SW_icmp_ne (tgt := 64) h (fun _ => h5) (fun _ => (by decide)) (dt t_A_ordered 33 rfl) rfl hf (fun hf => ?_) (fun hf => ?_)
        · refine SW_iconst h (dt t_A_ordered 34 rfl) ?_
          exact SW_iret h (hret _ hf) (fun _ => (by decide)) rfl (dt t_A_ordered 35 rfl)
        · refine SW_iload_n h rfl (dt t_A_ordered 36 rfl) ?_
          refine SW_iconst h (dt t_A_ordered 37 rfl) ?_
          refine SW_icmp_ne (tgt := 78) h (fun _ => hx2) (fun _ => (by decide)) (dt t_A_ordered 38 rfl) rfl hf (fun hf => ?_) (fun hf => ?_)
          · refine SW_iload h rfl (dt t_A_ordered 39 rfl) ?_
            refine SW_iload_n h rfl (dt t_A_ordered 40 rfl) ?_
            obtain ⟨v6, e6, hf⟩ := b1_of hf
            refine cS h [.int (i32 v5), .int (i32 v3)] [] v_X7_sidesChanged kX10_240 (c_E_sidesChanged v5 h5 v3 h3 e6) rfl rfl (by decide) (by decide) rfl (Nat.le_of_ble_eq_true rfl) (dt t_A_ordered 41 rfl) (fun h6 => ?_)
            refine SW_goto (tgt := 90) h (dt t_A_ordered 42 rfl) rfl ?_
            exact SW_iret h (hret _ hf) (fun _ => h6) rfl (dt t_A_ordered 54 rfl)
          · refine SW_iload h rfl (dt t_A_ordered 43 rfl) ?_
            refine SW_iconst h (dt t_A_ordered 44 rfl) ?_
            refine SW_iload_n h rfl (dt t_A_ordered 45 rfl) ?_
            refine SW_iconst h (dt t_A_ordered 46 rfl) ?_
            refine SW_isub h (dt t_A_ordered 47 rfl) ?_
            refine SW_iload_n h rfl (dt t_A_ordered 48 rfl) ?_
            refine SW_isub h (dt t_A_ordered 49 rfl) ?_
            refine SW_imul h (dt t_A_ordered 50 rfl) ?_
            refine SW_ishr h (dt t_A_ordered 51 rfl) ?_
            refine SW_iconst h (dt t_A_ordered 52 rfl) ?_
            refine SW_iand h (dt t_A_ordered 53 rfl) ?_
            exact SW_iret h (hret _ hf) (fun _ => (r_iand _ _)) rfl (dt t_A_ordered 54 rfl)
      · refine SW_iconst h (dt t_A_ordered 20 rfl) ?_
        exact SW_iret h (hret _ hf) (fun _ => (by decide)) rfl (dt t_A_ordered 21 rfl)
def b_T_part : List (Nat × Instr × Nat) := [(0, .iload_n 1, 1), (1, .bipush 6, 2), (3, .imul, 1), (4, .iload_n 2, 1), (5, .iadd, 1), (6, .istore_n 3, 1), (7, .iload_n 3, 1), (8, .ifCond .lt 21, 3), (11, .iload_n 3, 1), (12, .aload_n 0, 1), (13, .getfield 21, 3), (16, .arraylength, 1), (17, .if_icmp .ge 12, 3), (20, .aload_n 0, 1), (21, .getfield 21, 3), (24, .iload_n 3, 1), (25, .iaload, 1), (26, .goto 4, 3), (29, .iconst (-1), 1), (30, .ireturn, 1)]
theorem t_T_part : DT cX9_part b_T_part := DT.of (by decide +kernel)
def F_T_part (r0 : Nat) (x1 : Int) (x2 : Int) (σ : Mm) : Option (Int) :=
  bindM ((x1 * 6) + x2) fun v1 =>
  if r32 v1 then
    if v1 < 0 then
      some ((-1))
    else
      if ((144 : Nat) : Int) ≤ v1 then
        some ((-1))
      else
        if 0 ≤ v1 ∧ v1 < 144 then
          some (σ (r0 + 16) v1.toNat)
        else none
  else none
set_option maxRecDepth 100000 in
set_option maxHeartbeats 4000000 in
theorem c_T_part (r0 : Nat) (q0 : IsO 0 9 r0) (x1 : Int) (hx1 : r32 x1) (x2 : Int) (hx2 : r32 x2) {σ : Mm} {a : Int} (hf : F_T_part r0 x1 x2 σ = some a) : CT yX9_part cX9_part 4 (some .int) 0 0 (fun ad => [.ref (ad r0), .int (i32 x1), .int (i32 x2)]) σ (r32 a) (some (.int (i32 a))) σ := by
  refine MetJ 1 (by decide +kernel) rfl (fun _ => Nat.le_of_ble_eq_true rfl) ?_
  intro X h hR ok
  obtain ⟨res, er⟩ : ∃ z, z = a := ⟨_, rfl⟩
  have hret : ∀ y : Int, some y = some res → RX X 0 (r32 (y)) (some (.int (i32 (y)))) σ := fun y e => by cases e; cases er; exact hR
  rw [← er] at hf
  clear er hR
  unfold F_T_part at hf
  show SW X 0 4 0 [some (.ref (xad X r0)), some (.int (i32 x1)), some (.int (i32 x2)), none] [] σ
  refine SW_iload_n h rfl (dt t_T_part 0 rfl) ?_
  refine SW_bipush h (dt t_T_part 1 rfl) (by decide) ?_
  refine SW_imul h (dt t_T_part 2 rfl) ?_
  refine SW_iload_n h rfl (dt t_T_part 3 rfl) ?_
  refine SW_iadd h (dt t_T_part 4 rfl) ?_
  refine SW_vu hf (fun v1 hf => ?_)
  refine SW_istore_n (lv2 := [some (.ref (xad X r0)), some (.int (i32 x1)), some (.int (i32 x2)), some (.int (i32 v1))]) h (dt t_T_part 5 rfl) (by decide) rfl ?_
  refine SW_iload_n h rfl (dt t_T_part 6 rfl) ?_
  refine SW_chk hf (fun h2 hf => ?_)
  refine SW_if_lt (tgt := 29) h (fun _ => h2) (dt t_T_part 7 rfl) rfl hf (fun hf => ?_) (fun hf => ?_)
  · refine SW_iconst h (dt t_T_part 18 rfl) ?_
    exact SW_iret h (hret _ hf) (fun _ => (by decide)) rfl (dt t_T_part 19 rfl)
  · refine SW_iload_n h rfl (dt t_T_part 8 rfl) ?_
    refine SW_aload_n h rfl (dt t_T_part 9 rfl) ?_
    refine gR h cf9 q0 f9_3 (dy9_3 q0).1 lX9_21 (dt t_T_part 10 rfl) ?_
    refine aLen h (by decide) (dy9_3 q0).2 (dt t_T_part 11 rfl) ?_
    refine SW_icmp_ge (tgt := 29) h (fun _ => h2) (fun _ => (by decide)) (dt t_T_part 12 rfl) rfl hf (fun hf => ?_) (fun hf => ?_)
    · refine SW_iconst h (dt t_T_part 18 rfl) ?_
      exact SW_iret h (hret _ hf) (fun _ => (by decide)) rfl (dt t_T_part 19 rfl)
    · refine SW_aload_n h rfl (dt t_T_part 13 rfl) ?_
      refine gR h cf9 q0 f9_3 (dy9_3 q0).1 lX9_21 (dt t_T_part 14 rfl) ?_
      refine SW_iload_n h rfl (dt t_T_part 15 rfl) ?_
      refine aI h (dy9_3 q0).2 (dt t_T_part 16 rfl) hf (fun hf => ?_)
      refine SW_goto (tgt := 30) h (dt t_T_part 17 rfl) rfl ?_
      exact SW_iret h (hret _ hf) (fun _ => (okI ok (r0 + 16) v1.toNat (IsA.n3 (dy9_3 q0).2 (by decide)))) rfl (dt t_T_part 19 rfl)
def b_W_canBe : List (Nat × Instr × Nat) := [(0, .iload_n 0, 1), (1, .invokestatic 21, 3), (4, .ifCond .ne 5, 3), (7, .iconst 0, 1), (8, .ireturn, 1), (9, .iconst 1, 1), (10, .istore 5, 2), (12, .iload 5, 2), (14, .iload_n 1, 1), (15, .iconst (-1), 1), (16, .if_icmp .ne 7, 3), (19, .iconst 0, 1), (20, .goto 4, 3), (23, .iconst 1, 1), (24, .iadd, 1), (25, .istore 5, 2), (27, .iload 5, 2), (29, .iload_n 2, 1), (30, .iconst (-1), 1), (31, .if_icmp .ne 7, 3), (34, .iconst 0, 1), (35, .goto 4, 3), (38, .iconst 1, 1), (39, .iadd, 1), (40, .istore 5, 2), (42, .iload 5, 2), (44, .iload_n 3, 1), (45, .iconst (-1), 1), (46, .if_icmp .ne 7, 3), (49, .iconst 0, 1), (50, .goto 4, 3), (53, .iconst 1, 1), (54, .iadd, 1), (55, .istore 5, 2), (57, .iload 5, 2), (59, .iconst 2, 1), (60, .if_icmp .lt 10, 3), (63, .iload_n 1, 1), (64, .invokestatic 21, 3), (67, .ifCond .eq 33, 3), (70, .iload 5, 2), (72, .iconst 3, 1), (73, .if_icmp .lt 10, 3), (76, .iload_n 2, 1), (77, .invokestatic 21, 3), (80, .ifCond .eq 20, 3), (83, .iload 5, 2), (85, .iconst 4, 1), (86, .if_icmp .lt 10, 3), (89, .iload_n 3, 1), (90, .invokestatic 21, 3), (93, .ifCond .eq 7, 3), (96, .iconst 1, 1), (97, .goto 4, 3), (100, .iconst 0, 1), (101, .istore 6, 2), (103, .iload 6, 2), (105, .ifCond .eq 21, 3), (108, .iload 4, 2), (110, .ifCond .lt 16, 3), (113, .iload 4, 2), (115, .iconst 1, 1), (116, .iload 5, 2), (118, .ishl, 1), (119, .if_icmp .ge 7, 3), (122, .iconst 1, 1), (123, .goto 4, 3), (126, .iconst 0, 1), (127, .ireturn, 1)]
theorem t_W_canBe : DT cX6_canBe b_W_canBe := DT.of (by decide +kernel)
def F_W_canBe (x0 : Int) (x1 : Int) (x2 : Int) (x3 : Int) (x4 : Int) : Option (Int) :=
  b1 (F_A_isNumber x0) fun v1 =>
  if v1 = 0 then
    some 0
  else
    bindM ((if x1 = (-1) then 0 else 1 : Int)) fun v2 =>
    bindM ((if x2 = (-1) then 0 else 1 : Int)) fun v3 =>
    bindM ((1 + v2) + v3) fun v4 =>
    bindM ((if x3 = (-1) then 0 else 1 : Int)) fun v5 =>
    if r32 (v4 + v5) then
      bindM (fun (y7 : Int) =>
        if y7 = 0 then
          some 0
        else
          if x4 < 0 then
            some 0
          else
            if ishl 1 (v4 + v5) ≤ x4 then
              some 0
            else
              some 1) fun J7 =>
      bindM (
        J7 0) fun J8 =>
      bindM (
        bindM (
          bindM (
            J7 1) fun J11 =>
          if v4 + v5 < 4 then
            J11
          else
            b1 (F_A_isNumber x3) fun v12 =>
            if v12 = 0 then
              J8
            else
              J11) fun J10 =>
        if v4 + v5 < 3 then
          J10
        else
          b1 (F_A_isNumber x2) fun v13 =>
          if v13 = 0 then
            J8
          else
            J10) fun J9 =>
      if v4 + v5 < 2 then
        J9
      else
        b1 (F_A_isNumber x1) fun v14 =>
        if v14 = 0 then
          J8
        else
          J9
    else none
set_option maxRecDepth 100000 in
set_option maxHeartbeats 4000000 in
theorem c_W_canBe (x0 : Int) (hx0 : r32 x0) (x1 : Int) (hx1 : r32 x1) (x2 : Int) (hx2 : r32 x2) (x3 : Int) (hx3 : r32 x3) (x4 : Int) (hx4 : r32 x4) {σ : Mm} {a : Int} (hf : F_W_canBe x0 x1 x2 x3 x4 = some a) : CT yX6_canBe cX6_canBe 7 (some .boolean) 1 0 (fun ad => [.int (i32 x0), .int (i32 x1), .int (i32 x2), .int (i32 x3), .int (i32 x4)]) σ (a = 0 ∨ a = 1) (some (.int (i32 a))) σ := by
  refine MetJ 2 (by decide +kernel) rfl (fun _ => Nat.le_of_ble_eq_true rfl) ?_
  intro X h hR ok
  obtain ⟨res, er⟩ : ∃ z, z = a := ⟨_, rfl⟩
  have hret : ∀ y : Int, some y = some res → RX X 0 (y = 0 ∨ y = 1) (some (.int (i32 (y)))) σ := fun y e => by cases e; cases er; exact hR
  rw [← er] at hf
  clear er hR
  unfold F_W_canBe at hf
  show SW X 0 7 0 [some (.int (i32 x0)), some (.int (i32 x1)), some (.int (i32 x2)), some (.int (i32 x3)), some (.int (i32 x4)), none, none] [] σ
  refine SW_iload_n h rfl (dt t_W_canBe 0 rfl) ?_
  obtain ⟨v1, e1, hf⟩ := b1_of hf
  refine cSN h [.int (i32 x0)] [] v_X10_isNumber (c_A_isNumber x0 hx0 e1) rfl rfl (by decide) (by decide) rfl (Nat.le_of_ble_eq_true rfl) (dt t_W_canBe 1 rfl) (fun h1 => ?_)
  refine SW_if_ne (tgt := 9) h (fun _ => (r_zo h1)) (dt t_W_canBe 2 rfl) rfl hf (fun hf => ?_) (fun hf => ?_)
  · refine SW_iconst h (dt t_W_canBe 3 rfl) ?_
    exact SW_zret h (hret _ hf) (by decide) rfl (dt t_W_canBe 4 rfl)
  · refine SW_iconst h (dt t_W_canBe 5 rfl) ?_
    refine SW_istore (lv2 := [some (.int (i32 x0)), some (.int (i32 x1)), some (.int (i32 x2)), some (.int (i32 x3)), some (.int (i32 x4)), some (.int (i32 1)), none]) h (dt t_W_canBe 6 rfl) (by decide) rfl ?_
    refine SW_iload h rfl (dt t_W_canBe 7 rfl) ?_
    refine SW_iload_n h rfl (dt t_W_canBe 8 rfl) ?_
    refine SW_iconst h (dt t_W_canBe 9 rfl) ?_
    refine bT hf (fun g2 e2 hf => ?_)
    have k2 : ∀ (v2 : Int) (h2 : r32 v2) (hf : g2 v2 = some res), SW X 0 7 24 [some (.int (i32 x0)), some (.int (i32 x1)), some (.int (i32 x2)), some (.int (i32 x3)), some (.int (i32 x4)), some (.int (i32 1)), none] [.int (i32 v2), .int (i32 1)] σ := by
      intro v2 h2 hf
      rw [e2] at hf
      refine SW_iadd h (dt t_W_canBe 14 rfl) ?_
      refine SW_istore (lv2 := [some (.int (i32 x0)), some (.int (i32 x1)), some (.int (i32 x2)), some (.int (i32 x3)), some (.int (i32 x4)), some (.int (i32 (1 + v2))), none]) h (dt t_W_canBe 15 rfl) (by decide) rfl ?_
      refine SW_iload h rfl (dt t_W_canBe 16 rfl) ?_
      refine SW_iload_n h rfl (dt t_W_canBe 17 rfl) ?_
      refine SW_iconst h (dt t_W_canBe 18 rfl) ?_
      refine bT hf (fun g3 e3 hf => ?_)
      have k3 : ∀ (v3 : Int) (h3 : r32 v3) (hf : g3 v3 = some res), SW X 0 7 39 [some (.int (i32 x0)), some (.int (i32 x1)), some (.int (i32 x2)), some (.int (i32 x3)), some (.int (i32 x4)), some (.int (i32 (1 + v2))), none] [.int (i32 v3), .int (i32 (1 + v2))] σ := by
        intro v3 h3 hf
        rw [e3] at hf
        refine SW_iadd h (dt t_W_canBe 23 rfl) ?_
        refine SW_vu hf (fun v4 hf => ?_)
        refine SW_istore (lv2 := [some (.int (i32 x0)), some (.int (i32 x1)), some (.int (i32 x2)), some (.int (i32 x3)), some (.int (i32 x4)), some (.int (i32 v4)), none]) h (dt t_W_canBe 24 rfl) (by decide) rfl ?_
        refine SW_iload h rfl (dt t_W_canBe 25 rfl) ?_
        refine SW_iload_n h rfl (dt t_W_canBe 26 rfl) ?_
        refine SW_iconst h (dt t_W_canBe 27 rfl) ?_
        refine bT hf (fun g5 e5 hf => ?_)
        have k5 : ∀ (v5 : Int) (h5 : r32 v5) (hf : g5 v5 = some res), SW X 0 7 54 [some (.int (i32 x0)), some (.int (i32 x1)), some (.int (i32 x2)), some (.int (i32 x3)), some (.int (i32 x4)), some (.int (i32 v4)), none] [.int (i32 v5), .int (i32 v4)] σ := by
          intro v5 h5 hf
          rw [e5] at hf
          refine SW_iadd h (dt t_W_canBe 32 rfl) ?_
          refine SW_istore (lv2 := [some (.int (i32 x0)), some (.int (i32 x1)), some (.int (i32 x2)), some (.int (i32 x3)), some (.int (i32 x4)), some (.int (i32 (v4 + v5))), none]) h (dt t_W_canBe 33 rfl) (by decide) rfl ?_
          refine SW_iload h rfl (dt t_W_canBe 34 rfl) ?_
          refine SW_iconst h (dt t_W_canBe 35 rfl) ?_
          refine SW_chk hf (fun h6 hf => ?_)
          refine bJ hf (fun J7 e7 hf => ?_)
          have k7 : ∀ (y7 : Int) (hy7 : r32 y7) (hf : J7 y7 = some res), SW X 0 7 101 [none, none, none, none, some (.int (i32 x4)), some (.int (i32 (v4 + v5))), none] [.int (i32 y7)] σ := by
            intro y7 hy7 hf
            rw [e7] at hf
            refine SW_istore (lv2 := [none, none, none, none, some (.int (i32 x4)), some (.int (i32 (v4 + v5))), some (.int (i32 y7))]) h (dt t_W_canBe 55 rfl) (by decide) rfl ?_
            refine SW_iload h rfl (dt t_W_canBe 56 rfl) ?_
            refine SW_if_eq (tgt := 126) h (fun _ => hy7) (dt t_W_canBe 57 rfl) rfl hf (fun hf => ?_) (fun hf => ?_)
            · refine SW_iconst h (dt t_W_canBe 67 rfl) ?_
              exact SW_zret h (hret _ hf) (by decide) rfl (dt t_W_canBe 68 rfl)
            · refine SW_iload h rfl (dt t_W_canBe 58 rfl) ?_
              refine SW_if_lt (tgt := 126) h (fun _ => hx4) (dt t_W_canBe 59 rfl) rfl hf (fun hf => ?_) (fun hf => ?_)
              · refine SW_iconst h (dt t_W_canBe 67 rfl) ?_
                exact SW_zret h (hret _ hf) (by decide) rfl (dt t_W_canBe 68 rfl)
              · refine SW_iload h rfl (dt t_W_canBe 60 rfl) ?_
                refine SW_iconst h (dt t_W_canBe 61 rfl) ?_
                refine SW_iload h rfl (dt t_W_canBe 62 rfl) ?_
                refine SW_ishl h (dt t_W_canBe 63 rfl) ?_
                refine SW_icmp_ge (tgt := 126) h (fun _ => hx4) (fun _ => (r_ishl _ _)) (dt t_W_canBe 64 rfl) rfl hf (fun hf => ?_) (fun hf => ?_)
                · refine SW_iconst h (dt t_W_canBe 67 rfl) ?_
                  exact SW_zret h (hret _ hf) (by decide) rfl (dt t_W_canBe 68 rfl)
                · refine SW_iconst h (dt t_W_canBe 65 rfl) ?_
                  refine SW_goto (tgt := 127) h (dt t_W_canBe 66 rfl) rfl ?_
                  exact SW_zret h (hret _ hf) (by decide) rfl (dt t_W_canBe 68 rfl)
          refine bJ hf (fun J8 e8 hf => ?_)
          have k8 : ∀ (hf : J8 = some res), SW X 0 7 100 [none, none, none, none, some (.int (i32 x4)), some (.int (i32 (v4 + v5))), none] [] σ := by
            intro hf
            rw [e8] at hf
            refine SW_iconst h (dt t_W_canBe 54 rfl) ?_
            exact SW_fgt [false, false, false, false, true, true, false] rfl (k7 0 (by decide) hf)
          refine bJ hf (fun J9 e9 hf => ?_)
          have k9 : ∀ (hf : J9 = some res), SW X 0 7 70 [none, none, some (.int (i32 x2)), some (.int (i32 x3)), some (.int (i32 x4)), some (.int (i32 (v4 + v5))), none] [] σ := by
            intro hf
            rw [e9] at hf
            refine SW_iload h rfl (dt t_W_canBe 40 rfl) ?_
            refine SW_iconst h (dt t_W_canBe 41 rfl) ?_
            refine bJ hf (fun J10 e10 hf => ?_)
            have k10 : ∀ (hf : J10 = some res), SW X 0 7 83 [none, none, none, some (.int (i32 x3)), some (.int (i32 x4)), some (.int (i32 (v4 + v5))), none] [] σ := by
              intro hf
              rw [e10] at hf
              refine SW_iload h rfl (dt t_W_canBe 46 rfl) ?_
              refine SW_iconst h (dt t_W_canBe 47 rfl) ?_
              refine bJ hf (fun J11 e11 hf => ?_)
              have k11 : ∀ (hf : J11 = some res), SW X 0 7 96 [none, none, none, none, some (.int (i32 x4)), some (.int (i32 (v4 + v5))), none] [] σ := by
                intro hf
                rw [e11] at hf
                refine SW_iconst h (dt t_W_canBe 52 rfl) ?_
                refine SW_goto (tgt := 101) h (dt t_W_canBe 53 rfl) rfl ?_
                exact SW_fgt [false, false, false, false, true, true, false] rfl (k7 1 (by decide) hf)
              refine SW_icmp_lt (tgt := 96) h (fun _ => h6) (fun _ => (by decide)) (dt t_W_canBe 48 rfl) rfl hf (fun hf => ?_) (fun hf => ?_)
              · exact SW_fgt [false, false, false, false, true, true, false] rfl (k11 hf)
              · refine SW_iload_n h rfl (dt t_W_canBe 49 rfl) ?_
                obtain ⟨v12, e12, hf⟩ := b1_of hf
                refine cSN h [.int (i32 x3)] [] v_X10_isNumber (c_A_isNumber x3 hx3 e12) rfl rfl (by decide) (by decide) rfl (Nat.le_of_ble_eq_true rfl) (dt t_W_canBe 50 rfl) (fun h12 => ?_)
                refine SW_if_eq (tgt := 100) h (fun _ => (r_zo h12)) (dt t_W_canBe 51 rfl) rfl hf (fun hf => ?_) (fun hf => ?_)
                · exact SW_fgt [false, false, false, false, true, true, false] rfl (k8 hf)
                · exact SW_fgt [false, false, false, false, true, true, false] rfl (k11 hf)
            refine SW_icmp_lt (tgt := 83) h (fun _ => h6) (fun _ => (by decide)) (dt t_W_canBe 42 rfl) rfl hf (fun hf => ?_) (fun hf => ?_)
            · exact SW_fgt [false, false, false, true, true, true, false] rfl (k10 hf)
            · refine SW_iload_n h rfl (dt t_W_canBe 43 rfl) ?_
              obtain ⟨v13, e13, hf⟩ := b1_of hf
              refine cSN h [.int (i32 x2)] [] v_X10_isNumber (c_A_isNumber x2 hx2 e13) rfl rfl (by decide) (by decide) rfl (Nat.le_of_ble_eq_true rfl) (dt t_W_canBe 44 rfl) (fun h13 => ?_)
              refine SW_if_eq (tgt := 100) h (fun _ => (r_zo h13)) (dt t_W_canBe 45 rfl) rfl hf (fun hf => ?_) (fun hf => ?_)
              · exact SW_fgt [false, false, false, false, true, true, false] rfl (k8 hf)
              · exact SW_fgt [false, false, false, true, true, true, false] rfl (k10 hf)
          refine SW_icmp_lt (tgt := 70) h (fun _ => h6) (fun _ => (by decide)) (dt t_W_canBe 36 rfl) rfl hf (fun hf => ?_) (fun hf => ?_)
          · exact SW_fgt [false, false, true, true, true, true, false] rfl (k9 hf)
          · refine SW_iload_n h rfl (dt t_W_canBe 37 rfl) ?_
            obtain ⟨v14, e14, hf⟩ := b1_of hf
            refine cSN h [.int (i32 x1)] [] v_X10_isNumber (c_A_isNumber x1 hx1 e14) rfl rfl (by decide) (by decide) rfl (Nat.le_of_ble_eq_true rfl) (dt t_W_canBe 38 rfl) (fun h14 => ?_)
            refine SW_if_eq (tgt := 100) h (fun _ => (r_zo h14)) (dt t_W_canBe 39 rfl) rfl hf (fun hf => ?_) (fun hf => ?_)
            · exact SW_fgt [false, false, false, false, true, true, false] rfl (k8 hf)
            · exact SW_fgt [false, false, true, true, true, true, false] rfl (k9 hf)
        have hf := bIte hf
        refine SW_icmp_ne (tgt := 53) h (fun _ => hx3) (fun _ => (by decide)) (dt t_W_canBe 28 rfl) rfl hf (fun hf => ?_) (fun hf => ?_)
        · refine SW_iconst h (dt t_W_canBe 29 rfl) ?_
          refine SW_goto (tgt := 54) h (dt t_W_canBe 30 rfl) rfl ?_
          exact k5 0 (by decide) hf
        · refine SW_iconst h (dt t_W_canBe 31 rfl) ?_
          exact k5 1 (by decide) hf
      have hf := bIte hf
      refine SW_icmp_ne (tgt := 38) h (fun _ => hx2) (fun _ => (by decide)) (dt t_W_canBe 19 rfl) rfl hf (fun hf => ?_) (fun hf => ?_)
      · refine SW_iconst h (dt t_W_canBe 20 rfl) ?_
        refine SW_goto (tgt := 39) h (dt t_W_canBe 21 rfl) rfl ?_
        exact k3 0 (by decide) hf
      · refine SW_iconst h (dt t_W_canBe 22 rfl) ?_
        exact k3 1 (by decide) hf
    have hf := bIte hf
    refine SW_icmp_ne (tgt := 23) h (fun _ => hx1) (fun _ => (by decide)) (dt t_W_canBe 10 rfl) rfl hf (fun hf => ?_) (fun hf => ?_)
    · refine SW_iconst h (dt t_W_canBe 11 rfl) ?_
      refine SW_goto (tgt := 24) h (dt t_W_canBe 12 rfl) rfl ?_
      exact k2 0 (by decide) hf
    · refine SW_iconst h (dt t_W_canBe 13 rfl) ?_
      exact k2 1 (by decide) hf
def b_W_clear : List (Nat × Instr × Nat) := [(0, .aload_n 0, 1), (1, .iconst 0, 1), (2, .putfield 25, 3), (5, .aload_n 0, 1), (6, .iconst 0, 1), (7, .putfield 29, 3), (10, .aload_n 0, 1), (11, .iconst 0, 1), (12, .putfield 32, 3), (15, .aload_n 0, 1), (16, .iconst 0, 1), (17, .putfield 35, 3), (20, .return_, 1)]
theorem t_W_clear : DT cX6_clear b_W_clear := DT.of (by decide +kernel)
def F_W_clear (r0 : Nat) (σ : Mm) : Option (Mm) :=
  bindM (st2 σ r0 3 0) fun s2 =>
  bindM (st2 s2 r0 4 0) fun s4 =>
  bindM (st2 s4 r0 5 0) fun s6 =>
  bindM (st2 s6 r0 6 0) fun s8 =>
  some s8
set_option maxRecDepth 100000 in
set_option maxHeartbeats 4000000 in
theorem c_W_clear (r0 : Nat) (q0 : IsO 0 6 r0) {σ : Mm} {σ2 : Mm} (hf : F_W_clear r0 σ = some σ2) : CT yX6_clear cX6_clear 1 none 0 0 (fun ad => [.ref (ad r0)]) σ True none σ2 := by
  refine MetJ 0 (by decide +kernel) rfl (fun _ => Nat.le_of_ble_eq_true rfl) ?_
  intro X h hR ok
  obtain ⟨res, er⟩ : ∃ z, z = σ2 := ⟨_, rfl⟩
  have hret : ∀ y : Mm, some y = some res → RX X 0 True none y := fun y e => by cases e; cases er; exact hR
  rw [← er] at hf
  clear er hR
  unfold F_W_clear at hf
  show SW X 0 1 0 [some (.ref (xad X r0))] [] σ
  refine SW_aload_n h rfl (dt t_W_clear 0 rfl) ?_
  refine SW_iconst h (dt t_W_clear 1 rfl) ?_
  refine pI h cf6 q0 f6_3 (by decide) lX6_25 (dt t_W_clear 2 rfl) (SW_bm hf (fun s2 ok2 hf => ?_))
  refine SW_aload_n h rfl (dt t_W_clear 3 rfl) ?_
  refine SW_iconst h (dt t_W_clear 4 rfl) ?_
  refine pI h cf6 q0 f6_4 (by decide) lX6_29 (dt t_W_clear 5 rfl) (SW_bm hf (fun s4 ok4 hf => ?_))
  refine SW_aload_n h rfl (dt t_W_clear 6 rfl) ?_
  refine SW_iconst h (dt t_W_clear 7 rfl) ?_
  refine pI h cf6 q0 f6_5 (by decide) lX6_32 (dt t_W_clear 8 rfl) (SW_bm hf (fun s6 ok6 hf => ?_))
  refine SW_aload_n h rfl (dt t_W_clear 9 rfl) ?_
  refine SW_iconst h (dt t_W_clear 10 rfl) ?_
  refine pI h cf6 q0 f6_6 (by decide) lX6_35 (dt t_W_clear 11 rfl) (SW_bm hf (fun s8 ok8 hf => ?_))
  exact SW_vret h (hret _ hf) rfl (dt t_W_clear 12 rfl)
def b_W_put : List (Nat × Instr × Nat) := [(0, .iload_n 1, 1), (1, .invokestatic 21, 3), (4, .ifCond .eq 11, 3), (7, .aload_n 0, 1), (8, .getfield 25, 3), (11, .iconst 4, 1), (12, .if_icmp .lt 4, 3), (15, .return_, 1), (16, .aload_n 0, 1), (17, .getfield 25, 3), (20, .ifCond .le 7, 3), (23, .iconst 2, 1), (24, .goto 4, 3), (27, .iconst 0, 1), (28, .istore_n 3, 1), (29, .sipush 1000, 3), (32, .istore 4, 2), (34, .iload 4, 2), (36, .iconst 1, 1), (37, .if_icmp .lt 75, 3), (40, .iload_n 1, 1), (41, .iload 4, 2), (43, .if_icmp .ge 9, 3), (46, .iload 4, 2), (48, .iconst 1, 1), (49, .if_icmp .ne 53, 3), (52, .aload_n 0, 1), (53, .getfield 15, 3), (56, .aload_n 0, 1), (57, .getfield 29, 3), (60, .iload_n 1, 1), (61, .iload 4, 2), (63, .idiv, 1), (64, .bipush 10, 2), (66, .irem, 1), (67, .iastore, 1), (68, .aload_n 0, 1), (69, .getfield 18, 3), (72, .aload_n 0, 1), (73, .getfield 29, 3), (76, .iload 4, 2), (78, .iconst 1, 1), (79, .if_icmp .ne 9, 3), (82, .iload_n 3, 1), (83, .iconst 1, 1), (84, .ior, 1), (85, .goto 4, 3), (88, .iload_n 3, 1), (89, .iastore, 1), (90, .iconst 0, 1), (91, .istore_n 3, 1), (92, .aload_n 0, 1), (93, .dup, 1), (94, .getfield 29, 3), (97, .iconst 1, 1), (98, .iadd, 1), (99, .putfield 29, 3), (102, .iload 4, 2), (104, .bipush 10, 2), (106, .idiv, 1), (107, .istore 4, 2), (109, .goto (-75), 3), (112, .aload_n 0, 1), (113, .getfield 9, 3), (116, .aload_n 0, 1), (117, .getfield 25, 3), (120, .iload_n 1, 1), (121, .iastore, 1), (122, .aload_n 0, 1), (123, .dup, 1), (124, .getfield 32, 3), (127, .iload_n 2, 1), (128, .ifCond .eq 12, 3), (131, .iconst 1, 1), (132, .aload_n 0, 1), (133, .getfield 25, 3), (136, .ishl, 1), (137, .goto 4, 3), (140, .iconst 0, 1), (141, .ior, 1), (142, .putfield 32, 3), (145, .aload_n 0, 1), (146, .dup, 1), (147, .getfield 35, 3), (150, .iload_n 2, 1), (151, .ifCond .eq 8, 3), (154, .iload_n 1, 1), (155, .ineg, 1), (156, .goto 4, 3), (159, .iload_n 1, 1), (160, .iadd, 1), (161, .putfield 35, 3), (164, .aload_n 0, 1), (165, .dup, 1), (166, .getfield 25, 3), (169, .iconst 1, 1), (170, .iadd, 1), (171, .putfield 25, 3), (174, .return_, 1)]
theorem t_W_put : DT cX6_put b_W_put := DT.of (by decide +kernel)
def L_W_put_34 : Nat → Nat → Int → Int → Int → Mm → Option (Mm)
  | 0, _, _, _, _, _ => none
  | n + 1, r0, x1, x3, x4, σ =>
    if x4 < 1 then
      some σ
    else
      bindM (fun (x3_3 : Int) (t3 : Mm) =>
        L_W_put_34 n r0 x1 x3_3 (x4.tdiv 10) t3) fun J3 =>
      bindM (
        if ¬ x4 = 0 then
          if r32 (x1.tdiv x4) then
            if 0 ≤ σ r0 4 ∧ σ r0 4 < 16 then
              bindM (st2 σ (r0 + 24) ((σ r0 4).toNat) ((x1.tdiv x4).tmod 10)) fun s7 =>
              bindM (fun (y8 : Int) =>
                if 0 ≤ s7 r0 4 ∧ s7 r0 4 < 16 then
                  bindM (st2 s7 (r0 + 36) ((s7 r0 4).toNat) y8) fun s9 =>
                  if r32 ((s9 r0 4) + 1) then
                    bindM (st2 s9 r0 4 ((s9 r0 4) + 1)) fun s12 =>
                    J3 0 s12
                  else none
                else none) fun J8 =>
              if x4 = 1 then
                J8 (ior x3 1)
              else
                J8 x3
            else none
          else none
        else none) fun J4 =>
      if x4 ≤ x1 then
        J4
      else
        if x4 = 1 then
          J4
        else
          J3 x3 σ
set_option maxRecDepth 100000 in
set_option maxHeartbeats 4000000 in
theorem l_W_put_34 {X : Cx} (h : CX X 0 cX6_put 5 1 none RX6) (r0 : Nat) (x1 : Int) (x2 : Int) (q0 : IsO 0 6 r0) (hx1 : r32 x1) (hx2 : r32 x2) {res : Mm} (hex : ∀  (σ : Mm) (hz : some σ = some res)  (ok : okM σ), SW X 0 5 112 [some (.ref (xad X r0)), some (.int (i32 x1)), some (.int (i32 x2)), none, none] [] σ) : ∀ (n : Nat) (x3 : Int) (x4 : Int) (σ : Mm) (hx3 : r32 x3) (hx4 : r32 x4) (ok : okM σ) (hf : L_W_put_34 n r0 x1 x3 x4 σ = some res), SW X 0 5 34 [some (.ref (xad X r0)), some (.int (i32 x1)), some (.int (i32 x2)), some (.int (i32 x3)), some (.int (i32 x4))] [] σ := by
  intro n
  induction n with
  | zero => intro x3 x4 σ hx3 hx4 ok hf; exact absurd hf (by simp [L_W_put_34])
  | succ n ih =>
    intro x3 x4 σ hx3 hx4 ok hf
    rw [L_W_put_34] at hf
    refine SW_iload h rfl (dt t_W_put 17 rfl) ?_
    refine SW_iconst h (dt t_W_put 18 rfl) ?_
    refine SW_icmp_lt (tgt := 112) h (fun _ => hx4) (fun _ => (by decide)) (dt t_W_put 19 rfl) rfl hf (fun hf => ?_) (fun hf => ?_)
    · exact SW_fgt [true, true, true, false, false] rfl (hex σ hf ok)
    · refine SW_iload_n h rfl (dt t_W_put 20 rfl) ?_
      refine SW_iload h rfl (dt t_W_put 21 rfl) ?_
      refine bJ hf (fun J3 e3 hf => ?_)
      have k3 : ∀ (x3_3 : Int) (t3 : Mm) (hx3_3 : r32 x3_3) (ot3 : okM t3) (hf : J3 x3_3 t3 = some res), SW X 0 5 102 [some (.ref (xad X r0)), some (.int (i32 x1)), some (.int (i32 x2)), some (.int (i32 x3_3)), some (.int (i32 x4))] [] t3 := by
        intro x3_3 t3 hx3_3 ot3 hf
        rw [e3] at hf
        refine SW_iload h rfl (dt t_W_put 57 rfl) ?_
        refine SW_bipush h (dt t_W_put 58 rfl) (by decide) ?_
        refine SW_idiv h (fun _ => hx4) (fun _ => (by decide)) (by decide) (dt t_W_put 59 rfl) ?_
        refine SW_istore (lv2 := [some (.ref (xad X r0)), some (.int (i32 x1)), some (.int (i32 x2)), some (.int (i32 x3_3)), some (.int (i32 (x4.tdiv 10)))]) h (dt t_W_put 60 rfl) (by decide) rfl ?_
        refine SW_goto (tgt := 34) h (dt t_W_put 61 rfl) rfl ?_
        exact SW_fgt [true, true, true, true, true] rfl (ih x3_3 (x4.tdiv 10) t3 hx3_3 (r_tdiv hx4 (by decide)) ot3 hf)
      refine bJ hf (fun J4 e4 hf => ?_)
      have k4 : ∀ (hf : J4 = some res), SW X 0 5 52 [some (.ref (xad X r0)), some (.int (i32 x1)), some (.int (i32 x2)), some (.int (i32 x3)), some (.int (i32 x4))] [] σ := by
        intro hf
        rw [e4] at hf
        refine SW_aload_n h rfl (dt t_W_put 26 rfl) ?_
        refine gR h cf6 q0 f6_1 (dy6_1 q0).1 lX6_15 (dt t_W_put 27 rfl) ?_
        refine SW_aload_n h rfl (dt t_W_put 28 rfl) ?_
        refine gI h cf6 q0 f6_4 lX6_29 (dt t_W_put 29 rfl) ?_
        refine SW_iload_n h rfl (dt t_W_put 30 rfl) ?_
        refine SW_iload h rfl (dt t_W_put 31 rfl) ?_
        refine SW_chk hf (fun h5 hf => ?_)
        refine SW_idiv h (fun _ => hx1) (fun _ => hx4) h5 (dt t_W_put 32 rfl) ?_
        refine SW_bipush h (dt t_W_put 33 rfl) (by decide) ?_
        refine SW_chk hf (fun h6 hf => ?_)
        refine SW_irem h (fun _ => h6) (fun _ => (by decide)) (by decide) (dt t_W_put 34 rfl) ?_
        refine sI h (dy6_1 q0).2 (r_tmod h6 (by decide)) (dt t_W_put 35 rfl) hf (fun hf => SW_bm hf (fun s7 ok7 hf => ?_))
        refine SW_aload_n h rfl (dt t_W_put 36 rfl) ?_
        refine gR h cf6 q0 f6_2 (dy6_2 q0).1 lX6_18 (dt t_W_put 37 rfl) ?_
        refine SW_aload_n h rfl (dt t_W_put 38 rfl) ?_
        refine gI h cf6 q0 f6_4 lX6_29 (dt t_W_put 39 rfl) ?_
        refine SW_iload h rfl (dt t_W_put 40 rfl) ?_
        refine SW_iconst h (dt t_W_put 41 rfl) ?_
        refine bJ hf (fun J8 e8 hf => ?_)
        have k8 : ∀ (y8 : Int) (hy8 : r32 y8) (hf : J8 y8 = some res), SW X 0 5 89 [some (.ref (xad X r0)), some (.int (i32 x1)), some (.int (i32 x2)), none, some (.int (i32 x4))] [.int (i32 y8), .int (i32 (s7 r0 4)), .ref (xad X (r0 + 36))] s7 := by
          intro y8 hy8 hf
          rw [e8] at hf
          refine sI h (dy6_2 q0).2 hy8 (dt t_W_put 48 rfl) hf (fun hf => SW_bm hf (fun s9 ok9 hf => ?_))
          refine SW_iconst h (dt t_W_put 49 rfl) ?_
          refine SW_istore_n (lv2 := [some (.ref (xad X r0)), some (.int (i32 x1)), some (.int (i32 x2)), some (.int (i32 0)), some (.int (i32 x4))]) h (dt t_W_put 50 rfl) (by decide) rfl ?_
          refine SW_aload_n h rfl (dt t_W_put 51 rfl) ?_
          refine SW_dup h rfl (dt t_W_put 52 rfl) ?_
          refine gI h cf6 q0 f6_4 lX6_29 (dt t_W_put 53 rfl) ?_
          refine SW_iconst h (dt t_W_put 54 rfl) ?_
          refine SW_iadd h (dt t_W_put 55 rfl) ?_
          refine SW_chk hf (fun h11 hf => ?_)
          refine pI h cf6 q0 f6_4 h11 lX6_29 (dt t_W_put 56 rfl) (SW_bm hf (fun s12 ok12 hf => ?_))
          exact SW_fgt [true, true, true, true, true] rfl (k3 0 s12 (by decide) ok12 hf)
        refine SW_icmp_ne (tgt := 88) h (fun _ => hx4) (fun _ => (by decide)) (dt t_W_put 42 rfl) rfl hf (fun hf => ?_) (fun hf => ?_)
        · refine SW_iload_n h rfl (dt t_W_put 43 rfl) ?_
          refine SW_iconst h (dt t_W_put 44 rfl) ?_
          refine SW_ior h (dt t_W_put 45 rfl) ?_
          refine SW_goto (tgt := 89) h (dt t_W_put 46 rfl) rfl ?_
          exact SW_fgt [true, true, true, false, true] rfl (k8 (ior x3 1) (r_ior _ _) hf)
        · refine SW_iload_n h rfl (dt t_W_put 47 rfl) ?_
          exact SW_fgt [true, true, true, false, true] rfl (k8 x3 hx3 hf)
      refine SW_icmp_ge (tgt := 52) h (fun _ => hx1) (fun _ => hx4) (dt t_W_put 22 rfl) rfl hf (fun hf => ?_) (fun hf => ?_)
      · exact SW_fgt [true, true, true, true, true] rfl (k4 hf)
      · refine SW_iload h rfl (dt t_W_put 23 rfl) ?_
        refine SW_iconst h (dt t_W_put 24 rfl) ?_
        refine SW_icmp_ne (tgt := 102) h (fun _ => hx4) (fun _ => (by decide)) (dt t_W_put 25 rfl) rfl hf (fun hf => ?_) (fun hf => ?_)
        · exact SW_fgt [true, true, true, true, true] rfl (k4 hf)
        · exact SW_fgt [true, true, true, true, true] rfl (k3 x3 σ hx3 ok hf)
def F_W_put (r0 : Nat) (x1 : Int) (x2 : Int) (σ : Mm) : Option (Mm) :=
  b1 (F_A_isNumber x1) fun v1 =>
  if v1 = 0 then
    some σ
  else
    if σ r0 3 < 4 then
      bindM ((if σ r0 3 ≤ 0 then 0 else 2 : Int)) fun v2 =>
      b0M (L_W_put_34 LF r0 x1 v2 1000 σ) fun s13 =>
      if 0 ≤ s13 r0 3 ∧ s13 r0 3 < 4 then
        bindM (st2 s13 (r0 + 12) ((s13 r0 3).toNat) x1) fun s14 =>
        bindM (fun (y15 : Int) =>
          bindM (st2 s14 r0 5 (ior (s14 r0 5) y15)) fun s17 =>
          bindM ((if x2 = 0 then x1 else (-x1) : Int)) fun v18 =>
          if r32 ((s17 r0 6) + v18) then
            bindM (st2 s17 r0 6 ((s17 r0 6) + v18)) fun s21 =>
            if r32 ((s21 r0 3) + 1) then
              bindM (st2 s21 r0 3 ((s21 r0 3) + 1)) fun s24 =>
              some s24
            else none
          else none) fun J15 =>
        if x2 = 0 then
          J15 0
        else
          J15 (ishl 1 (s14 r0 3))
      else none
    else
      some σ
set_option maxRecDepth 100000 in
set_option maxHeartbeats 4000000 in
theorem c_W_put (r0 : Nat) (q0 : IsO 0 6 r0) (x1 : Int) (hx1 : r32 x1) (x2 : Int) (hx2 : r32 x2) {σ : Mm} {σ2 : Mm} (hf : F_W_put r0 x1 x2 σ = some σ2) : CT yX6_put cX6_put 5 none 1 0 (fun ad => [.ref (ad r0), .int (i32 x1), .int (i32 x2)]) σ True none σ2 := by
  refine MetJ 2 (by decide +kernel) rfl (fun _ => Nat.le_of_ble_eq_true rfl) ?_
  intro X h hR ok
  obtain ⟨res, er⟩ : ∃ z, z = σ2 := ⟨_, rfl⟩
  have hret : ∀ y : Mm, some y = some res → RX X 0 True none y := fun y e => by cases e; cases er; exact hR
  rw [← er] at hf
  clear er hR
  unfold F_W_put at hf
  show SW X 0 5 0 [some (.ref (xad X r0)), some (.int (i32 x1)), some (.int (i32 x2)), none, none] [] σ
  refine SW_iload_n h rfl (dt t_W_put 0 rfl) ?_
  obtain ⟨v1, e1, hf⟩ := b1_of hf
  refine cSN h [.int (i32 x1)] [] v_X10_isNumber (c_A_isNumber x1 hx1 e1) rfl rfl (by decide) (by decide) rfl (Nat.le_of_ble_eq_true rfl) (dt t_W_put 1 rfl) (fun h1 => ?_)
  refine SW_if_eq (tgt := 15) h (fun _ => (r_zo h1)) (dt t_W_put 2 rfl) rfl hf (fun hf => ?_) (fun hf => ?_)
  · exact SW_vret h (hret _ hf) rfl (dt t_W_put 7 rfl)
  · refine SW_aload_n h rfl (dt t_W_put 3 rfl) ?_
    refine gI h cf6 q0 f6_3 lX6_25 (dt t_W_put 4 rfl) ?_
    refine SW_iconst h (dt t_W_put 5 rfl) ?_
    refine SW_icmp_lt (tgt := 16) h (fun _ => (okI ok r0 3 (IsO.n3 q0))) (fun _ => (by decide)) (dt t_W_put 6 rfl) rfl hf (fun hf => ?_) (fun hf => ?_)
    · refine SW_aload_n h rfl (dt t_W_put 8 rfl) ?_
      refine gI h cf6 q0 f6_3 lX6_25 (dt t_W_put 9 rfl) ?_
      refine bT hf (fun g2 e2 hf => ?_)
      have k2 : ∀ (v2 : Int) (h2 : r32 v2) (hf : g2 v2 = some res), SW X 0 5 28 [some (.ref (xad X r0)), some (.int (i32 x1)), some (.int (i32 x2)), none, none] [.int (i32 v2)] σ := by
        intro v2 h2 hf
        rw [e2] at hf
        refine SW_istore_n (lv2 := [some (.ref (xad X r0)), some (.int (i32 x1)), some (.int (i32 x2)), some (.int (i32 v2)), none]) h (dt t_W_put 14 rfl) (by decide) rfl ?_
        refine SW_sipush h (dt t_W_put 15 rfl) (by decide) ?_
        refine SW_istore (lv2 := [some (.ref (xad X r0)), some (.int (i32 x1)), some (.int (i32 x2)), some (.int (i32 v2)), some (.int (i32 1000))]) h (dt t_W_put 16 rfl) (by decide) rfl ?_
        obtain ⟨z13, e13, hk13⟩ := b0M_ex hf
        refine SW_fgt [true, true, true, true, true] rfl (l_W_put_34 h r0 x1 x2 q0 hx1 hx2 (fun s13 hz13 ok13 => ?_) LF v2 1000 σ h2 (by decide) ok e13)
        have hf := hk13 s13 hz13
        refine SW_aload_n h rfl (dt t_W_put 62 rfl) ?_
        refine gR h cf6 q0 f6_0 (dy6_0 q0).1 lX6_9 (dt t_W_put 63 rfl) ?_
        refine SW_aload_n h rfl (dt t_W_put 64 rfl) ?_
        refine gI h cf6 q0 f6_3 lX6_25 (dt t_W_put 65 rfl) ?_
        refine SW_iload_n h rfl (dt t_W_put 66 rfl) ?_
        refine sI h (dy6_0 q0).2 hx1 (dt t_W_put 67 rfl) hf (fun hf => SW_bm hf (fun s14 ok14 hf => ?_))
        refine SW_aload_n h rfl (dt t_W_put 68 rfl) ?_
        refine SW_dup h rfl (dt t_W_put 69 rfl) ?_
        refine gI h cf6 q0 f6_5 lX6_32 (dt t_W_put 70 rfl) ?_
        refine SW_iload_n h rfl (dt t_W_put 71 rfl) ?_
        refine bJ hf (fun J15 e15 hf => ?_)
        have k15 : ∀ (y15 : Int) (hy15 : r32 y15) (hf : J15 y15 = some res), SW X 0 5 141 [some (.ref (xad X r0)), some (.int (i32 x1)), some (.int (i32 x2)), none, none] [.int (i32 y15), .int (i32 (s14 r0 5)), .ref (xad X r0)] s14 := by
          intro y15 hy15 hf
          rw [e15] at hf
          refine SW_ior h (dt t_W_put 79 rfl) ?_
          refine pI h cf6 q0 f6_5 (r_ior _ _) lX6_32 (dt t_W_put 80 rfl) (SW_bm hf (fun s17 ok17 hf => ?_))
          refine SW_aload_n h rfl (dt t_W_put 81 rfl) ?_
          refine SW_dup h rfl (dt t_W_put 82 rfl) ?_
          refine gI h cf6 q0 f6_6 lX6_35 (dt t_W_put 83 rfl) ?_
          refine SW_iload_n h rfl (dt t_W_put 84 rfl) ?_
          refine bT hf (fun g18 e18 hf => ?_)
          have k18 : ∀ (v18 : Int) (hf : g18 v18 = some res), SW X 0 5 160 [some (.ref (xad X r0)), some (.int (i32 x1)), some (.int (i32 x2)), none, none] [.int (i32 v18), .int (i32 (s17 r0 6)), .ref (xad X r0)] s17 := by
            intro v18 hf
            rw [e18] at hf
            refine SW_iadd h (dt t_W_put 90 rfl) ?_
            refine SW_chk hf (fun h20 hf => ?_)
            refine pI h cf6 q0 f6_6 h20 lX6_35 (dt t_W_put 91 rfl) (SW_bm hf (fun s21 ok21 hf => ?_))
            refine SW_aload_n h rfl (dt t_W_put 92 rfl) ?_
            refine SW_dup h rfl (dt t_W_put 93 rfl) ?_
            refine gI h cf6 q0 f6_3 lX6_25 (dt t_W_put 94 rfl) ?_
            refine SW_iconst h (dt t_W_put 95 rfl) ?_
            refine SW_iadd h (dt t_W_put 96 rfl) ?_
            refine SW_chk hf (fun h23 hf => ?_)
            refine pI h cf6 q0 f6_3 h23 lX6_25 (dt t_W_put 97 rfl) (SW_bm hf (fun s24 ok24 hf => ?_))
            exact SW_vret h (hret _ hf) rfl (dt t_W_put 98 rfl)
          have hf := bIte hf
          refine SW_if_eq (tgt := 159) h (fun _ => hx2) (dt t_W_put 85 rfl) rfl hf (fun hf => ?_) (fun hf => ?_)
          · refine SW_iload_n h rfl (dt t_W_put 89 rfl) ?_
            exact k18 x1 hf
          · refine SW_iload_n h rfl (dt t_W_put 86 rfl) ?_
            refine SW_ineg h (dt t_W_put 87 rfl) ?_
            refine SW_goto (tgt := 160) h (dt t_W_put 88 rfl) rfl ?_
            exact k18 (-x1) hf
        refine SW_if_eq (tgt := 140) h (fun _ => hx2) (dt t_W_put 72 rfl) rfl hf (fun hf => ?_) (fun hf => ?_)
        · refine SW_iconst h (dt t_W_put 78 rfl) ?_
          exact SW_fgt [true, true, true, false, false] rfl (k15 0 (by decide) hf)
        · refine SW_iconst h (dt t_W_put 73 rfl) ?_
          refine SW_aload_n h rfl (dt t_W_put 74 rfl) ?_
          refine gI h cf6 q0 f6_3 lX6_25 (dt t_W_put 75 rfl) ?_
          refine SW_ishl h (dt t_W_put 76 rfl) ?_
          refine SW_goto (tgt := 141) h (dt t_W_put 77 rfl) rfl ?_
          exact SW_fgt [true, true, true, false, false] rfl (k15 (ishl 1 (s14 r0 3)) (r_ishl _ _) hf)
      have hf := bIte hf
      refine SW_if_le (tgt := 27) h (fun _ => (okI ok r0 3 (IsO.n3 q0))) (dt t_W_put 10 rfl) rfl hf (fun hf => ?_) (fun hf => ?_)
      · refine SW_iconst h (dt t_W_put 13 rfl) ?_
        exact k2 0 (by decide) hf
      · refine SW_iconst h (dt t_W_put 11 rfl) ?_
        refine SW_goto (tgt := 28) h (dt t_W_put 12 rfl) rfl ?_
        exact k2 2 (by decide) hf
    · exact SW_vret h (hret _ hf) rfl (dt t_W_put 7 rfl)
def b_A_row : List (Nat × Instr × Nat) := [(0, .aload_n 0, 1), (1, .getfield 10, 3), (4, .getfield 81, 3), (7, .bipush 12, 2), (9, .if_icmp .ge 16, 3), (12, .iload_n 1, 1), (13, .iload_n 2, 1), (14, .iload_n 3, 1), (15, .iload 4, 2), (17, .iload 5, 2), (19, .invokestatic 84, 3), (22, .ifCond .ne 5, 3), (25, .iconst (-1), 1), (26, .ireturn, 1), (27, .aload_n 0, 1), (28, .getfield 10, 3), (31, .getfield 90, 3), (34, .aload_n 0, 1), (35, .getfield 10, 3), (38, .getfield 81, 3), (41, .aaload, 1), (42, .astore 6, 2), (44, .aload 6, 2), (46, .invokevirtual 94, 3), (49, .aload 6, 2), (51, .iload_n 1, 1), (52, .iload 5, 2), (54, .iconst 1, 1), (55, .iand, 1), (56, .ifCond .eq 7, 3), (59, .iconst 1, 1), (60, .goto 4, 3), (63, .iconst 0, 1), (64, .invokevirtual 97, 3), (67, .aload 6, 2), (69, .iload_n 2, 1), (70, .iload 5, 2), (72, .iconst 2, 1), (73, .iand, 1), (74, .ifCond .eq 7, 3), (77, .iconst 1, 1), (78, .goto 4, 3), (81, .iconst 0, 1), (82, .invokevirtual 97, 3), (85, .aload 6, 2), (87, .iload_n 3, 1), (88, .iload 5, 2), (90, .iconst 4, 1), (91, .iand, 1), (92, .ifCond .eq 7, 3), (95, .iconst 1, 1), (96, .goto 4, 3), (99, .iconst 0, 1), (100, .invokevirtual 97, 3), (103, .aload 6, 2), (105, .iload 4, 2), (107, .iload 5, 2), (109, .bipush 8, 2), (111, .iand, 1), (112, .ifCond .eq 7, 3), (115, .iconst 1, 1), (116, .goto 4, 3), (119, .iconst 0, 1), (120, .invokevirtual 97, 3), (123, .aload_n 0, 1), (124, .getfield 10, 3), (127, .dup, 1), (128, .getfield 81, 3), (131, .iconst 1, 1), (132, .iadd, 1), (133, .putfield 81, 3), (136, .aload_n 0, 1), (137, .getfield 10, 3), (140, .getfield 81, 3), (143, .iconst 1, 1), (144, .isub, 1), (145, .ireturn, 1)]
theorem t_A_row : DT cX10_row b_A_row := DT.of (by decide +kernel)
def F_A_row (x1 : Int) (x2 : Int) (x3 : Int) (x4 : Int) (x5 : Int) (σ : Mm) : Option (Int × Mm) :=
  if 12 ≤ σ 1 4 then
    some ((-1), σ)
  else
    b1 (F_W_canBe x1 x2 x3 x4 x5) fun v1 =>
    if v1 = 0 then
      some ((-1), σ)
    else
      if 0 ≤ σ 1 4 ∧ σ 1 4 < 12 then
        b0M (F_W_clear (10 + (σ 1 4).toNat) σ) fun s3 =>
        bindM ((if iand x5 1 = 0 then 0 else 1 : Int)) fun v4 =>
        b0M (F_W_put (10 + (σ 1 4).toNat) x1 v4 s3) fun s5 =>
        bindM ((if iand x5 2 = 0 then 0 else 1 : Int)) fun v6 =>
        b0M (F_W_put (10 + (σ 1 4).toNat) x2 v6 s5) fun s7 =>
        bindM ((if iand x5 4 = 0 then 0 else 1 : Int)) fun v8 =>
        b0M (F_W_put (10 + (σ 1 4).toNat) x3 v8 s7) fun s9 =>
        bindM ((if iand x5 8 = 0 then 0 else 1 : Int)) fun v10 =>
        b0M (F_W_put (10 + (σ 1 4).toNat) x4 v10 s9) fun s11 =>
        if r32 ((s11 1 4) + 1) then
          bindM (st2 s11 1 4 ((s11 1 4) + 1)) fun s14 =>
          if r32 ((s14 1 4) - 1) then
            some ((s14 1 4) - 1, s14)
          else none
        else none
      else none
set_option maxRecDepth 100000 in
set_option maxHeartbeats 4000000 in
theorem c_A_row (x1 : Int) (hx1 : r32 x1) (x2 : Int) (hx2 : r32 x2) (x3 : Int) (hx3 : r32 x3) (x4 : Int) (hx4 : r32 x4) (x5 : Int) (hx5 : r32 x5) {σ : Mm} {a : Int} {σ2 : Mm} (hf : F_A_row x1 x2 x3 x4 x5 σ = some (a, σ2)) : CT yX10_row cX10_row 7 (some .int) 2 0 (fun ad => [.ref (ad 0), .int (i32 x1), .int (i32 x2), .int (i32 x3), .int (i32 x4), .int (i32 x5)]) σ (r32 a) (some (.int (i32 a))) σ2 := by
  refine MetJ 1 (by decide +kernel) rfl (fun _ => Nat.le_of_ble_eq_true rfl) ?_
  intro X h hR ok
  obtain ⟨res, er⟩ : ∃ z, z = (a, σ2) := ⟨_, rfl⟩
  have hret : ∀ y : Int × Mm, some y = some res → RX X 0 (r32 (y.1)) (some (.int (i32 (y.1)))) y.2 := fun y e => by cases e; cases er; exact hR
  rw [← er] at hf
  clear er hR
  unfold F_A_row at hf
  show SW X 0 7 0 [some (.ref (xad X 0)), some (.int (i32 x1)), some (.int (i32 x2)), some (.int (i32 x3)), some (.int (i32 x4)), some (.int (i32 x5)), none] [] σ
  refine SW_aload_n h rfl (dt t_A_row 0 rfl) ?_
  refine gR h cf10 o0 f10_0 j0_0 lX10_10 (dt t_A_row 1 rfl) ?_
  refine gI h cf2 o1 f2_4 lX10_81 (dt t_A_row 2 rfl) ?_
  refine SW_bipush h (dt t_A_row 3 rfl) (by decide) ?_
  refine SW_icmp_ge (tgt := 25) h (fun _ => (okI ok 1 4 (IsO.n3 o1))) (fun _ => (by decide)) (dt t_A_row 4 rfl) rfl hf (fun hf => ?_) (fun hf => ?_)
  · refine SW_iconst h (dt t_A_row 12 rfl) ?_
    exact SW_iret h (hret _ hf) (fun _ => (by decide)) rfl (dt t_A_row 13 rfl)
  · refine SW_iload_n h rfl (dt t_A_row 5 rfl) ?_
    refine SW_iload_n h rfl (dt t_A_row 6 rfl) ?_
    refine SW_iload_n h rfl (dt t_A_row 7 rfl) ?_
    refine SW_iload h rfl (dt t_A_row 8 rfl) ?_
    refine SW_iload h rfl (dt t_A_row 9 rfl) ?_
    obtain ⟨v1, e1, hf⟩ := b1_of hf
    refine cS h [.int (i32 x1), .int (i32 x2), .int (i32 x3), .int (i32 x4), .int (i32 x5)] [] v_X6_canBe kX10_84 (c_W_canBe x1 hx1 x2 hx2 x3 hx3 x4 hx4 x5 hx5 e1) rfl rfl (by decide) (by decide) rfl (Nat.le_of_ble_eq_true rfl) (dt t_A_row 10 rfl) (fun h1 => ?_)
    refine SW_if_ne (tgt := 27) h (fun _ => (r_zo h1)) (dt t_A_row 11 rfl) rfl hf (fun hf => ?_) (fun hf => ?_)
    · refine SW_iconst h (dt t_A_row 12 rfl) ?_
      exact SW_iret h (hret _ hf) (fun _ => (by decide)) rfl (dt t_A_row 13 rfl)
    · refine SW_aload_n h rfl (dt t_A_row 14 rfl) ?_
      refine gR h cf10 o0 f10_0 j0_0 lX10_10 (dt t_A_row 15 rfl) ?_
      refine gR h cf2 o1 f2_2 j1_2 lX10_90 (dt t_A_row 16 rfl) ?_
      refine SW_aload_n h rfl (dt t_A_row 17 rfl) ?_
      refine gR h cf10 o0 f10_0 j0_0 lX10_10 (dt t_A_row 18 rfl) ?_
      refine gI h cf2 o1 f2_4 lX10_81 (dt t_A_row 19 rfl) ?_
      refine aR h (by decide) a8 rfl (dt t_A_row 20 rfl) hf (fun h2 hf => ?_)
      refine SW_astore (lv2 := [some (.ref (xad X 0)), some (.int (i32 x1)), some (.int (i32 x2)), some (.int (i32 x3)), some (.int (i32 x4)), some (.int (i32 x5)), some (.ref (xad X (10 + (σ 1 4).toNat)))]) h (dt t_A_row 21 rfl) (by decide) rfl ?_
      refine SW_aload h rfl (dt t_A_row 22 rfl) ?_
      obtain ⟨s3, e3, hf⟩ := b0M_of hf
      refine cVv h [] [] v_X6_clear kX10_94 (mk_row h2) (c_W_clear (10 + (σ 1 4).toNat) (mk_row h2) e3) rfl rfl (by decide) (by decide) rfl (Nat.le_of_ble_eq_true rfl) (dt t_A_row 23 rfl) (fun h3 => ?_)
      refine SW_ok (fun ok3 => ?_)
      refine SW_aload h rfl (dt t_A_row 24 rfl) ?_
      refine SW_iload_n h rfl (dt t_A_row 25 rfl) ?_
      refine SW_iload h rfl (dt t_A_row 26 rfl) ?_
      refine SW_iconst h (dt t_A_row 27 rfl) ?_
      refine SW_iand h (dt t_A_row 28 rfl) ?_
      refine bT hf (fun g4 e4 hf => ?_)
      have k4 : ∀ (v4 : Int) (h4 : r32 v4) (hf : g4 v4 = some res), SW X 0 7 64 [some (.ref (xad X 0)), some (.int (i32 x1)), some (.int (i32 x2)), some (.int (i32 x3)), some (.int (i32 x4)), some (.int (i32 x5)), some (.ref (xad X (10 + (σ 1 4).toNat)))] [.int (i32 v4), .int (i32 x1), .ref (xad X (10 + (σ 1 4).toNat))] s3 := by
        intro v4 h4 hf
        rw [e4] at hf
        obtain ⟨s5, e5, hf⟩ := b0M_of hf
        refine cVv h [.int (i32 x1), .int (i32 v4)] [] v_X6_put kX10_97 (mk_row h2) (c_W_put (10 + (σ 1 4).toNat) (mk_row h2) x1 hx1 v4 h4 e5) rfl rfl (by decide) (by decide) rfl (Nat.le_of_ble_eq_true rfl) (dt t_A_row 33 rfl) (fun h5 => ?_)
        refine SW_ok (fun ok5 => ?_)
        refine SW_aload h rfl (dt t_A_row 34 rfl) ?_
        refine SW_iload_n h rfl (dt t_A_row 35 rfl) ?_
        refine SW_iload h rfl (dt t_A_row 36 rfl) ?_
        refine SW_iconst h (dt t_A_row 37 rfl) ?_
        refine SW_iand h (dt t_A_row 38 rfl) ?_
        refine bT hf (fun g6 e6 hf => ?_)
        have k6 : ∀ (v6 : Int) (h6 : r32 v6) (hf : g6 v6 = some res), SW X 0 7 82 [some (.ref (xad X 0)), some (.int (i32 x1)), some (.int (i32 x2)), some (.int (i32 x3)), some (.int (i32 x4)), some (.int (i32 x5)), some (.ref (xad X (10 + (σ 1 4).toNat)))] [.int (i32 v6), .int (i32 x2), .ref (xad X (10 + (σ 1 4).toNat))] s5 := by
          intro v6 h6 hf
          rw [e6] at hf
          obtain ⟨s7, e7, hf⟩ := b0M_of hf
          refine cVv h [.int (i32 x2), .int (i32 v6)] [] v_X6_put kX10_97 (mk_row h2) (c_W_put (10 + (σ 1 4).toNat) (mk_row h2) x2 hx2 v6 h6 e7) rfl rfl (by decide) (by decide) rfl (Nat.le_of_ble_eq_true rfl) (dt t_A_row 43 rfl) (fun h7 => ?_)
          refine SW_ok (fun ok7 => ?_)
          refine SW_aload h rfl (dt t_A_row 44 rfl) ?_
          refine SW_iload_n h rfl (dt t_A_row 45 rfl) ?_
          refine SW_iload h rfl (dt t_A_row 46 rfl) ?_
          refine SW_iconst h (dt t_A_row 47 rfl) ?_
          refine SW_iand h (dt t_A_row 48 rfl) ?_
          refine bT hf (fun g8 e8 hf => ?_)
          have k8 : ∀ (v8 : Int) (h8 : r32 v8) (hf : g8 v8 = some res), SW X 0 7 100 [some (.ref (xad X 0)), some (.int (i32 x1)), some (.int (i32 x2)), some (.int (i32 x3)), some (.int (i32 x4)), some (.int (i32 x5)), some (.ref (xad X (10 + (σ 1 4).toNat)))] [.int (i32 v8), .int (i32 x3), .ref (xad X (10 + (σ 1 4).toNat))] s7 := by
            intro v8 h8 hf
            rw [e8] at hf
            obtain ⟨s9, e9, hf⟩ := b0M_of hf
            refine cVv h [.int (i32 x3), .int (i32 v8)] [] v_X6_put kX10_97 (mk_row h2) (c_W_put (10 + (σ 1 4).toNat) (mk_row h2) x3 hx3 v8 h8 e9) rfl rfl (by decide) (by decide) rfl (Nat.le_of_ble_eq_true rfl) (dt t_A_row 53 rfl) (fun h9 => ?_)
            refine SW_ok (fun ok9 => ?_)
            refine SW_aload h rfl (dt t_A_row 54 rfl) ?_
            refine SW_iload h rfl (dt t_A_row 55 rfl) ?_
            refine SW_iload h rfl (dt t_A_row 56 rfl) ?_
            refine SW_bipush h (dt t_A_row 57 rfl) (by decide) ?_
            refine SW_iand h (dt t_A_row 58 rfl) ?_
            refine bT hf (fun g10 e10 hf => ?_)
            have k10 : ∀ (v10 : Int) (h10 : r32 v10) (hf : g10 v10 = some res), SW X 0 7 120 [some (.ref (xad X 0)), some (.int (i32 x1)), some (.int (i32 x2)), some (.int (i32 x3)), some (.int (i32 x4)), some (.int (i32 x5)), some (.ref (xad X (10 + (σ 1 4).toNat)))] [.int (i32 v10), .int (i32 x4), .ref (xad X (10 + (σ 1 4).toNat))] s9 := by
              intro v10 h10 hf
              rw [e10] at hf
              obtain ⟨s11, e11, hf⟩ := b0M_of hf
              refine cVv h [.int (i32 x4), .int (i32 v10)] [] v_X6_put kX10_97 (mk_row h2) (c_W_put (10 + (σ 1 4).toNat) (mk_row h2) x4 hx4 v10 h10 e11) rfl rfl (by decide) (by decide) rfl (Nat.le_of_ble_eq_true rfl) (dt t_A_row 63 rfl) (fun h11 => ?_)
              refine SW_ok (fun ok11 => ?_)
              refine SW_aload_n h rfl (dt t_A_row 64 rfl) ?_
              refine gR h cf10 o0 f10_0 j0_0 lX10_10 (dt t_A_row 65 rfl) ?_
              refine SW_dup h rfl (dt t_A_row 66 rfl) ?_
              refine gI h cf2 o1 f2_4 lX10_81 (dt t_A_row 67 rfl) ?_
              refine SW_iconst h (dt t_A_row 68 rfl) ?_
              refine SW_iadd h (dt t_A_row 69 rfl) ?_
              refine SW_chk hf (fun h13 hf => ?_)
              refine pI h cf2 o1 f2_4 h13 lX10_81 (dt t_A_row 70 rfl) (SW_bm hf (fun s14 ok14 hf => ?_))
              refine SW_aload_n h rfl (dt t_A_row 71 rfl) ?_
              refine gR h cf10 o0 f10_0 j0_0 lX10_10 (dt t_A_row 72 rfl) ?_
              refine gI h cf2 o1 f2_4 lX10_81 (dt t_A_row 73 rfl) ?_
              refine SW_iconst h (dt t_A_row 74 rfl) ?_
              refine SW_isub h (dt t_A_row 75 rfl) ?_
              refine SW_chk hf (fun h15 hf => ?_)
              exact SW_iret h (hret _ hf) (fun _ => h15) rfl (dt t_A_row 76 rfl)
            have hf := bIte hf
            refine SW_if_eq (tgt := 119) h (fun _ => (r_iand _ _)) (dt t_A_row 59 rfl) rfl hf (fun hf => ?_) (fun hf => ?_)
            · refine SW_iconst h (dt t_A_row 62 rfl) ?_
              exact k10 0 (by decide) hf
            · refine SW_iconst h (dt t_A_row 60 rfl) ?_
              refine SW_goto (tgt := 120) h (dt t_A_row 61 rfl) rfl ?_
              exact k10 1 (by decide) hf
          have hf := bIte hf
          refine SW_if_eq (tgt := 99) h (fun _ => (r_iand _ _)) (dt t_A_row 49 rfl) rfl hf (fun hf => ?_) (fun hf => ?_)
          · refine SW_iconst h (dt t_A_row 52 rfl) ?_
            exact k8 0 (by decide) hf
          · refine SW_iconst h (dt t_A_row 50 rfl) ?_
            refine SW_goto (tgt := 100) h (dt t_A_row 51 rfl) rfl ?_
            exact k8 1 (by decide) hf
        have hf := bIte hf
        refine SW_if_eq (tgt := 81) h (fun _ => (r_iand _ _)) (dt t_A_row 39 rfl) rfl hf (fun hf => ?_) (fun hf => ?_)
        · refine SW_iconst h (dt t_A_row 42 rfl) ?_
          exact k6 0 (by decide) hf
        · refine SW_iconst h (dt t_A_row 40 rfl) ?_
          refine SW_goto (tgt := 82) h (dt t_A_row 41 rfl) rfl ?_
          exact k6 1 (by decide) hf
      have hf := bIte hf
      refine SW_if_eq (tgt := 63) h (fun _ => (r_iand _ _)) (dt t_A_row 29 rfl) rfl hf (fun hf => ?_) (fun hf => ?_)
      · refine SW_iconst h (dt t_A_row 32 rfl) ?_
        exact k4 0 (by decide) hf
      · refine SW_iconst h (dt t_A_row 30 rfl) ?_
        refine SW_goto (tgt := 64) h (dt t_A_row 31 rfl) rfl ?_
        exact k4 1 (by decide) hf
def b_A_reckon : List (Nat × Instr × Nat) := [(0, .aload_n 0, 1), (1, .getfield 10, 3), (4, .iload_n 1, 1), (5, .invokevirtual 101, 3), (8, .ifCond .ne 6, 3), (11, .ldc 105, 2), (13, .ireturn, 1), (14, .aload_n 0, 1), (15, .getfield 19, 3), (18, .aload_n 0, 1), (19, .getfield 10, 3), (22, .getfield 106, 3), (25, .invokevirtual 110, 3), (28, .aload_n 0, 1), (29, .getfield 10, 3), (32, .iload_n 1, 1), (33, .invokevirtual 114, 3), (36, .ireturn, 1)]
theorem t_A_reckon : DT cX10_reckon b_A_reckon := DT.of (by decide +kernel)
def F_A_reckon (x1 : Int) (σ : Mm) : Option (Int × Mm) :=
  b1 (F_H_has x1 σ) fun v1 =>
  if v1 = 0 then
    some ((-1000000), σ)
  else
    b0M (F_S_keep 58 σ) fun s2 =>
    b1M (F_H_reckonRow x1 s2) fun v3 s3 =>
    some (v3, s3)
set_option maxRecDepth 100000 in
set_option maxHeartbeats 4000000 in
theorem c_A_reckon (x1 : Int) (hx1 : r32 x1) {σ : Mm} {a : Int} {σ2 : Mm} (hf : F_A_reckon x1 σ = some (a, σ2)) : CT yX10_reckon cX10_reckon 2 (some .int) 7 0 (fun ad => [.ref (ad 0), .int (i32 x1)]) σ (r32 a) (some (.int (i32 a))) σ2 := by
  refine MetJ 0 (by decide +kernel) rfl (fun _ => Nat.le_of_ble_eq_true rfl) ?_
  intro X h hR ok
  obtain ⟨res, er⟩ : ∃ z, z = (a, σ2) := ⟨_, rfl⟩
  have hret : ∀ y : Int × Mm, some y = some res → RX X 0 (r32 (y.1)) (some (.int (i32 (y.1)))) y.2 := fun y e => by cases e; cases er; exact hR
  rw [← er] at hf
  clear er hR
  unfold F_A_reckon at hf
  show SW X 0 2 0 [some (.ref (xad X 0)), some (.int (i32 x1))] [] σ
  refine SW_aload_n h rfl (dt t_A_reckon 0 rfl) ?_
  refine gR h cf10 o0 f10_0 j0_0 lX10_10 (dt t_A_reckon 1 rfl) ?_
  refine SW_iload_n h rfl (dt t_A_reckon 2 rfl) ?_
  obtain ⟨v1, e1, hf⟩ := b1_of hf
  refine cV h [.int (i32 x1)] [] v_X2_has kX10_101 o1 (c_H_has x1 hx1 e1) rfl rfl (by decide) (by decide) rfl (Nat.le_of_ble_eq_true rfl) (dt t_A_reckon 3 rfl) (fun h1 => ?_)
  refine SW_if_ne (tgt := 14) h (fun _ => (r_zo h1)) (dt t_A_reckon 4 rfl) rfl hf (fun hf => ?_) (fun hf => ?_)
  · refine SW_ldc (n := -1000000) h nX10_105 (by decide) (dt t_A_reckon 5 rfl) ?_
    exact SW_iret h (hret _ hf) (fun _ => (by decide)) rfl (dt t_A_reckon 6 rfl)
  · refine SW_aload_n h rfl (dt t_A_reckon 7 rfl) ?_
    refine gR h cf10 o0 f10_1 j0_1 lX10_19 (dt t_A_reckon 8 rfl) ?_
    refine SW_aload_n h rfl (dt t_A_reckon 9 rfl) ?_
    refine gR h cf10 o0 f10_0 j0_0 lX10_10 (dt t_A_reckon 10 rfl) ?_
    refine gR h cf2 o1 f2_1 j1_1 lX10_106 (dt t_A_reckon 11 rfl) ?_
    obtain ⟨s2, e2, hf⟩ := b0M_of hf
    refine cVv h [.ref (xad X 3)] [] v_X8_keep kX10_110 o58 (c_S_keep 58 o58 e2) rfl rfl (by decide) (by decide) rfl (Nat.le_of_ble_eq_true rfl) (dt t_A_reckon 12 rfl) (fun h2 => ?_)
    refine SW_ok (fun ok2 => ?_)
    refine SW_aload_n h rfl (dt t_A_reckon 13 rfl) ?_
    refine gR h cf10 o0 f10_0 j0_0 lX10_10 (dt t_A_reckon 14 rfl) ?_
    refine SW_iload_n h rfl (dt t_A_reckon 15 rfl) ?_
    obtain ⟨v3, s3, e3, hf⟩ := b1M_of hf
    refine cV h [.int (i32 x1)] [] v_X2_reckonRow kX10_114 o1 (c_H_reckonRow x1 hx1 e3) rfl rfl (by decide) (by decide) rfl (Nat.le_of_ble_eq_true rfl) (dt t_A_reckon 16 rfl) (fun h3 => ?_)
    refine SW_ok (fun ok3 => ?_)
    exact SW_iret h (hret _ hf) (fun _ => h3) rfl (dt t_A_reckon 17 rfl)
def b_H_turnTerms : List (Nat × Instr × Nat) := [(0, .aload_n 0, 1), (1, .getfield 22, 3), (4, .bipush 30, 2), (6, .iload_n 1, 1), (7, .iadd, 1), (8, .dup2, 1), (9, .iaload, 1), (10, .iconst 1, 1), (11, .iload_n 2, 1), (12, .ishl, 1), (13, .ixor, 1), (14, .iastore, 1), (15, .iload_n 1, 1), (16, .iload_n 2, 1), (17, .if_icmp .eq 18, 3), (20, .aload_n 0, 1), (21, .getfield 22, 3), (24, .bipush 30, 2), (26, .iload_n 2, 1), (27, .iadd, 1), (28, .dup2, 1), (29, .iaload, 1), (30, .iconst 1, 1), (31, .iload_n 1, 1), (32, .ishl, 1), (33, .ixor, 1), (34, .iastore, 1), (35, .aload_n 0, 1), (36, .getfield 22, 3), (39, .bipush 30, 2), (41, .iload_n 1, 1), (42, .iadd, 1), (43, .iaload, 1), (44, .iload_n 2, 1), (45, .ishr, 1), (46, .iconst 1, 1), (47, .iand, 1), (48, .iconst 1, 1), (49, .if_icmp .ne 7, 3), (52, .iconst 1, 1), (53, .goto 4, 3), (56, .iconst 0, 1), (57, .ireturn, 1)]
theorem t_H_turnTerms : DT cX2_turnTerms b_H_turnTerms := DT.of (by decide +kernel)
def F_H_turnTerms (x1 : Int) (x2 : Int) (σ : Mm) : Option (Int × Mm) :=
  if 0 ≤ 30 + x1 ∧ 30 + x1 < 165 then
    if 0 ≤ 30 + x1 ∧ 30 + x1 < 165 then
      bindM (st2 σ 3 ((30 + x1).toNat) (ixor (σ 3 ((30 + x1).toNat)) (ishl 1 x2))) fun s1 =>
      bindM (fun  (t2 : Mm) =>
        if 0 ≤ 30 + x1 ∧ 30 + x1 < 165 then
          if iand (ishr (t2 3 ((30 + x1).toNat)) x2) 1 = 1 then
            some (1, t2)
          else
            some (0, t2)
        else none) fun J2 =>
      if x1 = x2 then
        J2 s1
      else
        if 0 ≤ 30 + x2 ∧ 30 + x2 < 165 then
          if 0 ≤ 30 + x2 ∧ 30 + x2 < 165 then
            bindM (st2 s1 3 ((30 + x2).toNat) (ixor (s1 3 ((30 + x2).toNat)) (ishl 1 x1))) fun s3 =>
            J2 s3
          else none
        else none
    else none
  else none
set_option maxRecDepth 100000 in
set_option maxHeartbeats 4000000 in
theorem c_H_turnTerms (x1 : Int) (hx1 : r32 x1) (x2 : Int) (hx2 : r32 x2) {σ : Mm} {a : Int} {σ2 : Mm} (hf : F_H_turnTerms x1 x2 σ = some (a, σ2)) : CT yX2_turnTerms cX2_turnTerms 3 (some .boolean) 0 0 (fun ad => [.ref (ad 1), .int (i32 x1), .int (i32 x2)]) σ (a = 0 ∨ a = 1) (some (.int (i32 a))) σ2 := by
  refine MetJ 0 (by decide +kernel) rfl (fun _ => Nat.le_of_ble_eq_true rfl) ?_
  intro X h hR ok
  obtain ⟨res, er⟩ : ∃ z, z = (a, σ2) := ⟨_, rfl⟩
  have hret : ∀ y : Int × Mm, some y = some res → RX X 0 (y.1 = 0 ∨ y.1 = 1) (some (.int (i32 (y.1)))) y.2 := fun y e => by cases e; cases er; exact hR
  rw [← er] at hf
  clear er hR
  unfold F_H_turnTerms at hf
  show SW X 0 3 0 [some (.ref (xad X 1)), some (.int (i32 x1)), some (.int (i32 x2))] [] σ
  refine SW_aload_n h rfl (dt t_H_turnTerms 0 rfl) ?_
  refine gR h cf2 o1 f2_1 j1_1 lX2_22 (dt t_H_turnTerms 1 rfl) ?_
  refine SW_bipush h (dt t_H_turnTerms 2 rfl) (by decide) ?_
  refine SW_iload_n h rfl (dt t_H_turnTerms 3 rfl) ?_
  refine SW_iadd h (dt t_H_turnTerms 4 rfl) ?_
  refine SW_dup2 h rfl rfl (dt t_H_turnTerms 5 rfl) ?_
  refine aI h a3 (dt t_H_turnTerms 6 rfl) hf (fun hf => ?_)
  refine SW_iconst h (dt t_H_turnTerms 7 rfl) ?_
  refine SW_iload_n h rfl (dt t_H_turnTerms 8 rfl) ?_
  refine SW_ishl h (dt t_H_turnTerms 9 rfl) ?_
  refine SW_ixor h (dt t_H_turnTerms 10 rfl) ?_
  refine sI h a3 (r_ixor _ _) (dt t_H_turnTerms 11 rfl) hf (fun hf => SW_bm hf (fun s1 ok1 hf => ?_))
  refine SW_iload_n h rfl (dt t_H_turnTerms 12 rfl) ?_
  refine SW_iload_n h rfl (dt t_H_turnTerms 13 rfl) ?_
  refine bJ hf (fun J2 e2 hf => ?_)
  have k2 : ∀  (t2 : Mm)  (ot2 : okM t2) (hf : J2 t2 = some res), SW X 0 3 35 [some (.ref (xad X 1)), some (.int (i32 x1)), some (.int (i32 x2))] [] t2 := by
    intro t2 ot2 hf
    rw [e2] at hf
    refine SW_aload_n h rfl (dt t_H_turnTerms 27 rfl) ?_
    refine gR h cf2 o1 f2_1 j1_1 lX2_22 (dt t_H_turnTerms 28 rfl) ?_
    refine SW_bipush h (dt t_H_turnTerms 29 rfl) (by decide) ?_
    refine SW_iload_n h rfl (dt t_H_turnTerms 30 rfl) ?_
    refine SW_iadd h (dt t_H_turnTerms 31 rfl) ?_
    refine aI h a3 (dt t_H_turnTerms 32 rfl) hf (fun hf => ?_)
    refine SW_iload_n h rfl (dt t_H_turnTerms 33 rfl) ?_
    refine SW_ishr h (dt t_H_turnTerms 34 rfl) ?_
    refine SW_iconst h (dt t_H_turnTerms 35 rfl) ?_
    refine SW_iand h (dt t_H_turnTerms 36 rfl) ?_
    refine SW_iconst h (dt t_H_turnTerms 37 rfl) ?_
    refine SW_icmp_ne (tgt := 56) h (fun _ => (r_iand _ _)) (fun _ => (by decide)) (dt t_H_turnTerms 38 rfl) rfl hf (fun hf => ?_) (fun hf => ?_)
    · refine SW_iconst h (dt t_H_turnTerms 39 rfl) ?_
      refine SW_goto (tgt := 57) h (dt t_H_turnTerms 40 rfl) rfl ?_
      exact SW_zret h (hret _ hf) (by decide) rfl (dt t_H_turnTerms 42 rfl)
    · refine SW_iconst h (dt t_H_turnTerms 41 rfl) ?_
      exact SW_zret h (hret _ hf) (by decide) rfl (dt t_H_turnTerms 42 rfl)
  refine SW_icmp_eq (tgt := 35) h (fun _ => hx1) (fun _ => hx2) (dt t_H_turnTerms 14 rfl) rfl hf (fun hf => ?_) (fun hf => ?_)
  · exact SW_fgt [true, true, true] rfl (k2 s1 ok1 hf)
  · refine SW_aload_n h rfl (dt t_H_turnTerms 15 rfl) ?_
    refine gR h cf2 o1 f2_1 j1_1 lX2_22 (dt t_H_turnTerms 16 rfl) ?_
    refine SW_bipush h (dt t_H_turnTerms 17 rfl) (by decide) ?_
    refine SW_iload_n h rfl (dt t_H_turnTerms 18 rfl) ?_
    refine SW_iadd h (dt t_H_turnTerms 19 rfl) ?_
    refine SW_dup2 h rfl rfl (dt t_H_turnTerms 20 rfl) ?_
    refine aI h a3 (dt t_H_turnTerms 21 rfl) hf (fun hf => ?_)
    refine SW_iconst h (dt t_H_turnTerms 22 rfl) ?_
    refine SW_iload_n h rfl (dt t_H_turnTerms 23 rfl) ?_
    refine SW_ishl h (dt t_H_turnTerms 24 rfl) ?_
    refine SW_ixor h (dt t_H_turnTerms 25 rfl) ?_
    refine sI h a3 (r_ixor _ _) (dt t_H_turnTerms 26 rfl) hf (fun hf => SW_bm hf (fun s3 ok3 hf => ?_))
    exact SW_fgt [true, true, true] rfl (k2 s3 ok3 hf)
def b_A_turn : List (Nat × Instr × Nat) := [(0, .iload_n 1, 1), (1, .invokestatic 125, 3), (4, .ifCond .eq 10, 3), (7, .iload_n 2, 1), (8, .invokestatic 125, 3), (11, .ifCond .ne 5, 3), (14, .iconst 0, 1), (15, .ireturn, 1), (16, .aload_n 0, 1), (17, .getfield 19, 3), (20, .aload_n 0, 1), (21, .getfield 10, 3), (24, .getfield 106, 3), (27, .invokevirtual 110, 3), (30, .aload_n 0, 1), (31, .getfield 10, 3), (34, .iload_n 1, 1), (35, .iload_n 2, 1), (36, .invokevirtual 128, 3), (39, .ireturn, 1)]
theorem t_A_turn : DT cX10_turn b_A_turn := DT.of (by decide +kernel)
def F_A_turn (x1 : Int) (x2 : Int) (σ : Mm) : Option (Int × Mm) :=
  b1 (F_A_isFigure x1) fun v1 =>
  if v1 = 0 then
    some (0, σ)
  else
    b1 (F_A_isFigure x2) fun v2 =>
    if v2 = 0 then
      some (0, σ)
    else
      b0M (F_S_keep 58 σ) fun s3 =>
      b1M (F_H_turnTerms x1 x2 s3) fun v4 s4 =>
      some (v4, s4)
set_option maxRecDepth 100000 in
set_option maxHeartbeats 4000000 in
theorem c_A_turn (x1 : Int) (hx1 : r32 x1) (x2 : Int) (hx2 : r32 x2) {σ : Mm} {a : Int} {σ2 : Mm} (hf : F_A_turn x1 x2 σ = some (a, σ2)) : CT yX10_turn cX10_turn 3 (some .boolean) 4 0 (fun ad => [.ref (ad 0), .int (i32 x1), .int (i32 x2)]) σ (a = 0 ∨ a = 1) (some (.int (i32 a))) σ2 := by
  refine MetJ 0 (by decide +kernel) rfl (fun _ => Nat.le_of_ble_eq_true rfl) ?_
  intro X h hR ok
  obtain ⟨res, er⟩ : ∃ z, z = (a, σ2) := ⟨_, rfl⟩
  have hret : ∀ y : Int × Mm, some y = some res → RX X 0 (y.1 = 0 ∨ y.1 = 1) (some (.int (i32 (y.1)))) y.2 := fun y e => by cases e; cases er; exact hR
  rw [← er] at hf
  clear er hR
  unfold F_A_turn at hf
  show SW X 0 3 0 [some (.ref (xad X 0)), some (.int (i32 x1)), some (.int (i32 x2))] [] σ
  refine SW_iload_n h rfl (dt t_A_turn 0 rfl) ?_
  obtain ⟨v1, e1, hf⟩ := b1_of hf
  refine cS h [.int (i32 x1)] [] v_X10_isFigure kX10_125 (c_A_isFigure x1 hx1 e1) rfl rfl (by decide) (by decide) rfl (Nat.le_of_ble_eq_true rfl) (dt t_A_turn 1 rfl) (fun h1 => ?_)
  refine SW_if_eq (tgt := 14) h (fun _ => (r_zo h1)) (dt t_A_turn 2 rfl) rfl hf (fun hf => ?_) (fun hf => ?_)
  · refine SW_iconst h (dt t_A_turn 6 rfl) ?_
    exact SW_zret h (hret _ hf) (by decide) rfl (dt t_A_turn 7 rfl)
  · refine SW_iload_n h rfl (dt t_A_turn 3 rfl) ?_
    obtain ⟨v2, e2, hf⟩ := b1_of hf
    refine cS h [.int (i32 x2)] [] v_X10_isFigure kX10_125 (c_A_isFigure x2 hx2 e2) rfl rfl (by decide) (by decide) rfl (Nat.le_of_ble_eq_true rfl) (dt t_A_turn 4 rfl) (fun h2 => ?_)
    refine SW_if_ne (tgt := 16) h (fun _ => (r_zo h2)) (dt t_A_turn 5 rfl) rfl hf (fun hf => ?_) (fun hf => ?_)
    · refine SW_iconst h (dt t_A_turn 6 rfl) ?_
      exact SW_zret h (hret _ hf) (by decide) rfl (dt t_A_turn 7 rfl)
    · refine SW_aload_n h rfl (dt t_A_turn 8 rfl) ?_
      refine gR h cf10 o0 f10_1 j0_1 lX10_19 (dt t_A_turn 9 rfl) ?_
      refine SW_aload_n h rfl (dt t_A_turn 10 rfl) ?_
      refine gR h cf10 o0 f10_0 j0_0 lX10_10 (dt t_A_turn 11 rfl) ?_
      refine gR h cf2 o1 f2_1 j1_1 lX10_106 (dt t_A_turn 12 rfl) ?_
      obtain ⟨s3, e3, hf⟩ := b0M_of hf
      refine cVv h [.ref (xad X 3)] [] v_X8_keep kX10_110 o58 (c_S_keep 58 o58 e3) rfl rfl (by decide) (by decide) rfl (Nat.le_of_ble_eq_true rfl) (dt t_A_turn 13 rfl) (fun h3 => ?_)
      refine SW_ok (fun ok3 => ?_)
      refine SW_aload_n h rfl (dt t_A_turn 14 rfl) ?_
      refine gR h cf10 o0 f10_0 j0_0 lX10_10 (dt t_A_turn 15 rfl) ?_
      refine SW_iload_n h rfl (dt t_A_turn 16 rfl) ?_
      refine SW_iload_n h rfl (dt t_A_turn 17 rfl) ?_
      obtain ⟨v4, s4, e4, hf⟩ := b1M_of hf
      refine cV h [.int (i32 x1), .int (i32 x2)] [] v_X2_turnTerms kX10_128 o1 (c_H_turnTerms x1 hx1 x2 hx2 e4) rfl rfl (by decide) (by decide) rfl (Nat.le_of_ble_eq_true rfl) (dt t_A_turn 18 rfl) (fun h4 => ?_)
      refine SW_ok (fun ok4 => ?_)
      exact SW_zret h (hret _ hf) h4 rfl (dt t_A_turn 19 rfl)
def b_A_soothe : List (Nat × Instr × Nat) := [(0, .iload_n 1, 1), (1, .invokestatic 125, 3), (4, .ifCond .eq 25, 3), (7, .iload_n 2, 1), (8, .invokestatic 125, 3), (11, .ifCond .eq 18, 3), (14, .aload_n 0, 1), (15, .getfield 10, 3), (18, .getfield 106, 3), (21, .iconst 0, 1), (22, .iload_n 1, 1), (23, .iadd, 1), (24, .iaload, 1), (25, .iload_n 2, 1), (26, .if_icmp .ne 5, 3), (29, .iconst 0, 1), (30, .ireturn, 1), (31, .aload_n 0, 1), (32, .getfield 19, 3), (35, .aload_n 0, 1), (36, .getfield 10, 3), (39, .getfield 106, 3), (42, .invokevirtual 110, 3), (45, .aload_n 0, 1), (46, .getfield 10, 3), (49, .getfield 106, 3), (52, .iconst 0, 1), (53, .iload_n 1, 1), (54, .iadd, 1), (55, .iload_n 2, 1), (56, .iastore, 1), (57, .iconst 1, 1), (58, .ireturn, 1)]
theorem t_A_soothe : DT cX10_soothe b_A_soothe := DT.of (by decide +kernel)
def F_A_soothe (x1 : Int) (x2 : Int) (σ : Mm) : Option (Int × Mm) :=
  b1 (F_A_isFigure x1) fun v1 =>
  if v1 = 0 then
    some (0, σ)
  else
    b1 (F_A_isFigure x2) fun v2 =>
    if v2 = 0 then
      some (0, σ)
    else
      if 0 ≤ 0 + x1 ∧ 0 + x1 < 165 then
        if σ 3 ((0 + x1).toNat) = x2 then
          some (0, σ)
        else
          b0M (F_S_keep 58 σ) fun s3 =>
          if 0 ≤ 0 + x1 ∧ 0 + x1 < 165 then
            bindM (st2 s3 3 ((0 + x1).toNat) x2) fun s4 =>
            some (1, s4)
          else none
      else none
set_option maxRecDepth 100000 in
set_option maxHeartbeats 4000000 in
theorem c_A_soothe (x1 : Int) (hx1 : r32 x1) (x2 : Int) (hx2 : r32 x2) {σ : Mm} {a : Int} {σ2 : Mm} (hf : F_A_soothe x1 x2 σ = some (a, σ2)) : CT yX10_soothe cX10_soothe 3 (some .boolean) 4 0 (fun ad => [.ref (ad 0), .int (i32 x1), .int (i32 x2)]) σ (a = 0 ∨ a = 1) (some (.int (i32 a))) σ2 := by
  refine MetJ 0 (by decide +kernel) rfl (fun _ => Nat.le_of_ble_eq_true rfl) ?_
  intro X h hR ok
  obtain ⟨res, er⟩ : ∃ z, z = (a, σ2) := ⟨_, rfl⟩
  have hret : ∀ y : Int × Mm, some y = some res → RX X 0 (y.1 = 0 ∨ y.1 = 1) (some (.int (i32 (y.1)))) y.2 := fun y e => by cases e; cases er; exact hR
  rw [← er] at hf
  clear er hR
  unfold F_A_soothe at hf
  show SW X 0 3 0 [some (.ref (xad X 0)), some (.int (i32 x1)), some (.int (i32 x2))] [] σ
  refine SW_iload_n h rfl (dt t_A_soothe 0 rfl) ?_
  obtain ⟨v1, e1, hf⟩ := b1_of hf
  refine cS h [.int (i32 x1)] [] v_X10_isFigure kX10_125 (c_A_isFigure x1 hx1 e1) rfl rfl (by decide) (by decide) rfl (Nat.le_of_ble_eq_true rfl) (dt t_A_soothe 1 rfl) (fun h1 => ?_)
  refine SW_if_eq (tgt := 29) h (fun _ => (r_zo h1)) (dt t_A_soothe 2 rfl) rfl hf (fun hf => ?_) (fun hf => ?_)
  · refine SW_iconst h (dt t_A_soothe 15 rfl) ?_
    exact SW_zret h (hret _ hf) (by decide) rfl (dt t_A_soothe 16 rfl)
  · refine SW_iload_n h rfl (dt t_A_soothe 3 rfl) ?_
    obtain ⟨v2, e2, hf⟩ := b1_of hf
    refine cS h [.int (i32 x2)] [] v_X10_isFigure kX10_125 (c_A_isFigure x2 hx2 e2) rfl rfl (by decide) (by decide) rfl (Nat.le_of_ble_eq_true rfl) (dt t_A_soothe 4 rfl) (fun h2 => ?_)
    refine SW_if_eq (tgt := 29) h (fun _ => (r_zo h2)) (dt t_A_soothe 5 rfl) rfl hf (fun hf => ?_) (fun hf => ?_)
    · refine SW_iconst h (dt t_A_soothe 15 rfl) ?_
      exact SW_zret h (hret _ hf) (by decide) rfl (dt t_A_soothe 16 rfl)
    · refine SW_aload_n h rfl (dt t_A_soothe 6 rfl) ?_
      refine gR h cf10 o0 f10_0 j0_0 lX10_10 (dt t_A_soothe 7 rfl) ?_
      refine gR h cf2 o1 f2_1 j1_1 lX10_106 (dt t_A_soothe 8 rfl) ?_
      refine SW_iconst h (dt t_A_soothe 9 rfl) ?_
      refine SW_iload_n h rfl (dt t_A_soothe 10 rfl) ?_
      refine SW_iadd h (dt t_A_soothe 11 rfl) ?_
      refine aI h a3 (dt t_A_soothe 12 rfl) hf (fun hf => ?_)
      refine SW_iload_n h rfl (dt t_A_soothe 13 rfl) ?_
      refine SW_icmp_ne (tgt := 31) h (fun _ => (okI ok 3 ((0 + x1).toNat) (IsA.n3 a3 (by decide)))) (fun _ => hx2) (dt t_A_soothe 14 rfl) rfl hf (fun hf => ?_) (fun hf => ?_)
      · refine SW_iconst h (dt t_A_soothe 15 rfl) ?_
        exact SW_zret h (hret _ hf) (by decide) rfl (dt t_A_soothe 16 rfl)
      · refine SW_aload_n h rfl (dt t_A_soothe 17 rfl) ?_
        refine gR h cf10 o0 f10_1 j0_1 lX10_19 (dt t_A_soothe 18 rfl) ?_
        refine SW_aload_n h rfl (dt t_A_soothe 19 rfl) ?_
        refine gR h cf10 o0 f10_0 j0_0 lX10_10 (dt t_A_soothe 20 rfl) ?_
        refine gR h cf2 o1 f2_1 j1_1 lX10_106 (dt t_A_soothe 21 rfl) ?_
        obtain ⟨s3, e3, hf⟩ := b0M_of hf
        refine cVv h [.ref (xad X 3)] [] v_X8_keep kX10_110 o58 (c_S_keep 58 o58 e3) rfl rfl (by decide) (by decide) rfl (Nat.le_of_ble_eq_true rfl) (dt t_A_soothe 22 rfl) (fun h3 => ?_)
        refine SW_ok (fun ok3 => ?_)
        refine SW_aload_n h rfl (dt t_A_soothe 23 rfl) ?_
        refine gR h cf10 o0 f10_0 j0_0 lX10_10 (dt t_A_soothe 24 rfl) ?_
        refine gR h cf2 o1 f2_1 j1_1 lX10_106 (dt t_A_soothe 25 rfl) ?_
        refine SW_iconst h (dt t_A_soothe 26 rfl) ?_
        refine SW_iload_n h rfl (dt t_A_soothe 27 rfl) ?_
        refine SW_iadd h (dt t_A_soothe 28 rfl) ?_
        refine SW_iload_n h rfl (dt t_A_soothe 29 rfl) ?_
        refine sI h a3 hx2 (dt t_A_soothe 30 rfl) hf (fun hf => SW_bm hf (fun s4 ok4 hf => ?_))
        refine SW_iconst h (dt t_A_soothe 31 rfl) ?_
        exact SW_zret h (hret _ hf) (by decide) rfl (dt t_A_soothe 32 rfl)
def b_A_played : List (Nat × Instr × Nat) := [(0, .iload_n 1, 1), (1, .ifCond .lt 11, 3), (4, .iload_n 1, 1), (5, .aload_n 0, 1), (6, .getfield 142, 3), (9, .if_icmp .lt 6, 3), (12, .bipush (-2), 2), (14, .ireturn, 1), (15, .aload_n 0, 1), (16, .getfield 32, 3), (19, .iload_n 1, 1), (20, .aaload, 1), (21, .astore_n 2, 1), (22, .iconst 0, 1), (23, .istore_n 3, 1), (24, .iload_n 3, 1), (25, .aload_n 2, 1), (26, .getfield 168, 3), (29, .if_icmp .ge 181, 3), (32, .aload_n 2, 1), (33, .iload_n 3, 1), (34, .iconst 1, 1), (35, .invokevirtual 171, 3), (38, .istore 4, 2), (40, .aload_n 2, 1), (41, .iload_n 3, 1), (42, .iconst 2, 1), (43, .invokevirtual 171, 3), (46, .istore 5, 2), (48, .iconst 1, 1), (49, .istore 6, 2), (51, .aload_n 2, 1), (52, .iload_n 3, 1), (53, .iconst 0, 1), (54, .invokevirtual 171, 3), (57, .tableswitch 140 3 9 #[43, 83, 104, 140, 116, 140, 129], 43), (100, .aload_n 0, 1), (101, .iload 4, 2), (103, .iload 5, 2), (105, .aload_n 2, 1), (106, .iload_n 3, 1), (107, .iconst 3, 1), (108, .invokevirtual 171, 3), (111, .aload_n 2, 1), (112, .iload_n 3, 1), (113, .iconst 4, 1), (114, .invokevirtual 171, 3), (117, .aload_n 2, 1), (118, .iload_n 3, 1), (119, .iconst 5, 1), (120, .invokevirtual 171, 3), (123, .invokevirtual 175, 3), (126, .iconst (-1), 1), (127, .if_icmp .eq 7, 3), (130, .iconst 1, 1), (131, .goto 4, 3), (134, .iconst 0, 1), (135, .istore 6, 2), (137, .goto 60, 3), (140, .aload_n 0, 1), (141, .iload 4, 2), (143, .invokevirtual 179, 3), (146, .ldc 105, 2), (148, .if_icmp .eq 7, 3), (151, .iconst 1, 1), (152, .goto 4, 3), (155, .iconst 0, 1), (156, .istore 6, 2), (158, .goto 39, 3), (161, .aload_n 0, 1), (162, .iload 4, 2), (164, .iload 5, 2), (166, .invokevirtual 182, 3), (169, .pop, 1), (170, .goto 27, 3), (173, .aload_n 0, 1), (174, .iload 4, 2), (176, .iload 5, 2), (178, .invokevirtual 185, 3), (181, .istore 6, 2), (183, .goto 14, 3), (186, .aload_n 0, 1), (187, .iload 4, 2), (189, .invokevirtual 119, 3), (192, .istore 6, 2), (194, .goto 3, 3), (197, .iload 6, 2), (199, .ifCond .ne 5, 3), (202, .iload_n 3, 1), (203, .ireturn, 1), (204, .iinc 3 1, 3), (207, .goto (-183), 3), (210, .iconst (-1), 1), (211, .ireturn, 1)]
theorem t_A_played : DT cX10_played b_A_played := DT.of (by decide +kernel)
def L_A_played_24 : Nat → Nat → Int → Mm → Option ((Int × Mm) ⊕ (Mm))
  | 0, _, _, _ => none
  | n + 1, r2, x3, σ =>
    if σ r2 5 ≤ x3 then
      some (.inr σ)
    else
      b1 (F_T_part r2 x3 1 σ) fun v2 =>
      b1 (F_T_part r2 x3 2 σ) fun v3 =>
      b1 (F_T_part r2 x3 0 σ) fun v4 =>
      bindM (fun (x6_5 : Int) (t5 : Mm) =>
        if x6_5 = 0 then
          some (.inl (x3, t5))
        else
          if r32 (x3 + 1) then
            L_A_played_24 n r2 (x3 + 1) t5
          else none) fun J5 =>
      if v4 = 3 then
        b1 (F_T_part r2 x3 3 σ) fun v8 =>
        b1 (F_T_part r2 x3 4 σ) fun v9 =>
        b1 (F_T_part r2 x3 5 σ) fun v10 =>
        b1M (F_A_row v2 v3 v8 v9 v10 σ) fun v11 s11 =>
        bindM ((if v11 = (-1) then 0 else 1 : Int)) fun v12 =>
        J5 v12 s11
      else
        if v4 = 4 then
          b1M (F_A_reckon v2 σ) fun v14 s14 =>
          bindM ((if v14 = (-1000000) then 0 else 1 : Int)) fun v15 =>
          J5 v15 s14
        else
          if v4 = 5 then
            b1M (F_A_turn v2 v3 σ) fun v17 s17 =>
            J5 1 s17
          else
            if v4 = 6 then
              J5 1 σ
            else
              if v4 = 7 then
                b1M (F_A_soothe v2 v3 σ) fun v20 s20 =>
                J5 v20 s20
              else
                if v4 = 8 then
                  J5 1 σ
                else
                  if v4 = 9 then
                    b1M (F_A_passDays v2 σ) fun v23 s23 =>
                    J5 v23 s23
                  else
                    J5 1 σ
set_option maxRecDepth 100000 in
set_option maxHeartbeats 4000000 in
theorem l_A_played_24 {X : Cx} (h : CX X 0 cX10_played 7 9 (some .int) RX10) (r2 : Nat) (q2 : IsO 0 9 r2) {res : (Int × Mm) ⊕ (Mm)} (hret : ∀ y : Int × Mm, some (.inl y) = some res → RX X 0 (r32 (y.1)) (some (.int (i32 (y.1)))) y.2) (hex : ∀  (σ : Mm) (hz : some (.inr σ) = some res)  (ok : okM σ), SW X 0 7 210 [none, none, none, none, none, none, none] [] σ) : ∀ (n : Nat) (x3 : Int) (σ : Mm) (hx3 : r32 x3) (ok : okM σ) (hf : L_A_played_24 n r2 x3 σ = some res), SW X 0 7 24 [some (.ref (xad X 0)), none, some (.ref (xad X r2)), some (.int (i32 x3)), none, none, none] [] σ := by
  intro n
  induction n with
  | zero => intro x3 σ hx3 ok hf; exact absurd hf (by simp [L_A_played_24])
  | succ n ih =>
    intro x3 σ hx3 ok hf
    rw [L_A_played_24] at hf
    refine SW_iload_n h rfl (dt t_A_played 15 rfl) ?_
    refine SW_aload_n h rfl (dt t_A_played 16 rfl) ?_
    refine gI h cf9 q2 f9_5 lX10_168 (dt t_A_played 17 rfl) ?_
    refine SW_icmp_ge (tgt := 210) h (fun _ => hx3) (fun _ => (okI ok r2 5 (IsO.n3 q2))) (dt t_A_played 18 rfl) rfl hf (fun hf => ?_) (fun hf => ?_)
    · exact SW_fgt [false, false, false, false, false, false, false] rfl (hex σ hf ok)
    · refine SW_aload_n h rfl (dt t_A_played 19 rfl) ?_
      refine SW_iload_n h rfl (dt t_A_played 20 rfl) ?_
      refine SW_iconst h (dt t_A_played 21 rfl) ?_
      obtain ⟨v2, e2, hf⟩ := b1_of hf
      refine cV h [.int (i32 x3), .int (i32 1)] [] v_X9_part kX10_171 q2 (c_T_part r2 q2 x3 hx3 1 (by decide) e2) rfl rfl (by decide) (by decide) rfl (Nat.le_of_ble_eq_true rfl) (dt t_A_played 22 rfl) (fun h2 => ?_)
      refine SW_istore (lv2 := [some (.ref (xad X 0)), none, some (.ref (xad X r2)), some (.int (i32 x3)), some (.int (i32 v2)), none, none]) h (dt t_A_played 23 rfl) (by decide) rfl ?_
      refine SW_aload_n h rfl (dt t_A_played 24 rfl) ?_
      refine SW_iload_n h rfl (dt t_A_played 25 rfl) ?_
      refine SW_iconst h (dt t_A_played 26 rfl) ?_
      obtain ⟨v3, e3, hf⟩ := b1_of hf
      refine cV h [.int (i32 x3), .int (i32 2)] [] v_X9_part kX10_171 q2 (c_T_part r2 q2 x3 hx3 2 (by decide) e3) rfl rfl (by decide) (by decide) rfl (Nat.le_of_ble_eq_true rfl) (dt t_A_played 27 rfl) (fun h3 => ?_)
      refine SW_istore (lv2 := [some (.ref (xad X 0)), none, some (.ref (xad X r2)), some (.int (i32 x3)), some (.int (i32 v2)), some (.int (i32 v3)), none]) h (dt t_A_played 28 rfl) (by decide) rfl ?_
      refine SW_iconst h (dt t_A_played 29 rfl) ?_
      refine SW_istore (lv2 := [some (.ref (xad X 0)), none, some (.ref (xad X r2)), some (.int (i32 x3)), some (.int (i32 v2)), some (.int (i32 v3)), some (.int (i32 1))]) h (dt t_A_played 30 rfl) (by decide) rfl ?_
      refine SW_aload_n h rfl (dt t_A_played 31 rfl) ?_
      refine SW_iload_n h rfl (dt t_A_played 32 rfl) ?_
      refine SW_iconst h (dt t_A_played 33 rfl) ?_
      obtain ⟨v4, e4, hf⟩ := b1_of hf
      refine cV h [.int (i32 x3), .int (i32 0)] [] v_X9_part kX10_171 q2 (c_T_part r2 q2 x3 hx3 0 (by decide) e4) rfl rfl (by decide) (by decide) rfl (Nat.le_of_ble_eq_true rfl) (dt t_A_played 34 rfl) (fun h4 => ?_)
      refine bJ hf (fun J5 e5 hf => ?_)
      have k5 : ∀ (x6_5 : Int) (t5 : Mm) (hx6_5 : r32 x6_5) (ot5 : okM t5) (hf : J5 x6_5 t5 = some res), SW X 0 7 197 [some (.ref (xad X 0)), none, some (.ref (xad X r2)), some (.int (i32 x3)), none, none, some (.int (i32 x6_5))] [] t5 := by
        intro x6_5 t5 hx6_5 ot5 hf
        rw [e5] at hf
        refine SW_iload h rfl (dt t_A_played 86 rfl) ?_
        refine SW_if_ne (tgt := 204) h (fun _ => hx6_5) (dt t_A_played 87 rfl) rfl hf (fun hf => ?_) (fun hf => ?_)
        · refine SW_iload_n h rfl (dt t_A_played 88 rfl) ?_
          exact SW_iret h (hret _ hf) (fun _ => hx3) rfl (dt t_A_played 89 rfl)
        · refine SW_iinc (lv2 := [some (.ref (xad X 0)), none, some (.ref (xad X r2)), some (.int (i32 (x3 + 1))), none, none, some (.int (i32 x6_5))]) h (dt t_A_played 90 rfl) rfl (by decide) rfl ?_
          refine SW_goto (tgt := 24) h (dt t_A_played 91 rfl) rfl ?_
          refine SW_chk hf (fun h6 hf => ?_)
          exact SW_fgt [true, false, true, true, false, false, false] rfl (ih (x3 + 1) t5 h6 ot5 hf)
      refine SW_ite hf (fun h7 hf => ?_) (fun h7 hf => ?_)
      · refine SW_tabIn (tgt := 100) h 0 (fun _ => h4) (dt t_A_played 35 rfl) (h7.trans rfl) (by decide) rfl rfl ?_
        refine SW_aload_n h rfl (dt t_A_played 36 rfl) ?_
        refine SW_iload h rfl (dt t_A_played 37 rfl) ?_
        refine SW_iload h rfl (dt t_A_played 38 rfl) ?_
        refine SW_aload_n h rfl (dt t_A_played 39 rfl) ?_
        refine SW_iload_n h rfl (dt t_A_played 40 rfl) ?_
        refine SW_iconst h (dt t_A_played 41 rfl) ?_
        obtain ⟨v8, e8, hf⟩ := b1_of hf
        refine cV h [.int (i32 x3), .int (i32 3)] [.int (i32 v3), .int (i32 v2), .ref (xad X 0)] v_X9_part kX10_171 q2 (c_T_part r2 q2 x3 hx3 3 (by decide) e8) rfl rfl (by decide) (by decide) rfl (Nat.le_of_ble_eq_true rfl) (dt t_A_played 42 rfl) (fun h8 => ?_)
        refine SW_aload_n h rfl (dt t_A_played 43 rfl) ?_
        refine SW_iload_n h rfl (dt t_A_played 44 rfl) ?_
        refine SW_iconst h (dt t_A_played 45 rfl) ?_
        obtain ⟨v9, e9, hf⟩ := b1_of hf
        refine cV h [.int (i32 x3), .int (i32 4)] [.int (i32 v8), .int (i32 v3), .int (i32 v2), .ref (xad X 0)] v_X9_part kX10_171 q2 (c_T_part r2 q2 x3 hx3 4 (by decide) e9) rfl rfl (by decide) (by decide) rfl (Nat.le_of_ble_eq_true rfl) (dt t_A_played 46 rfl) (fun h9 => ?_)
        refine SW_aload_n h rfl (dt t_A_played 47 rfl) ?_
        refine SW_iload_n h rfl (dt t_A_played 48 rfl) ?_
        refine SW_iconst h (dt t_A_played 49 rfl) ?_
        obtain ⟨v10, e10, hf⟩ := b1_of hf
        refine cV h [.int (i32 x3), .int (i32 5)] [.int (i32 v9), .int (i32 v8), .int (i32 v3), .int (i32 v2), .ref (xad X 0)] v_X9_part kX10_171 q2 (c_T_part r2 q2 x3 hx3 5 (by decide) e10) rfl rfl (by decide) (by decide) rfl (Nat.le_of_ble_eq_true rfl) (dt t_A_played 50 rfl) (fun h10 => ?_)
        obtain ⟨v11, s11, e11, hf⟩ := b1M_of hf
        refine cV h [.int (i32 v2), .int (i32 v3), .int (i32 v8), .int (i32 v9), .int (i32 v10)] [] v_X10_row kX10_175 o0 (c_A_row v2 h2 v3 h3 v8 h8 v9 h9 v10 h10 e11) rfl rfl (by decide) (by decide) rfl (Nat.le_of_ble_eq_true rfl) (dt t_A_played 51 rfl) (fun h11 => ?_)
        refine SW_ok (fun ok11 => ?_)
        refine SW_iconst h (dt t_A_played 52 rfl) ?_
        refine bT hf (fun g12 e12 hf => ?_)
        have k12 : ∀ (v12 : Int) (h12 : r32 v12) (hf : g12 v12 = some res), SW X 0 7 135 [some (.ref (xad X 0)), none, some (.ref (xad X r2)), some (.int (i32 x3)), some (.int (i32 v2)), some (.int (i32 v3)), some (.int (i32 1))] [.int (i32 v12)] s11 := by
          intro v12 h12 hf
          rw [e12] at hf
          refine SW_istore (lv2 := [some (.ref (xad X 0)), none, some (.ref (xad X r2)), some (.int (i32 x3)), some (.int (i32 v2)), some (.int (i32 v3)), some (.int (i32 v12))]) h (dt t_A_played 57 rfl) (by decide) rfl ?_
          refine SW_goto (tgt := 197) h (dt t_A_played 58 rfl) rfl ?_
          exact SW_fgt [true, false, true, true, false, false, true] rfl (k5 v12 s11 h12 ok11 hf)
        have hf := bIte hf
        refine SW_icmp_eq (tgt := 134) h (fun _ => h11) (fun _ => (by decide)) (dt t_A_played 53 rfl) rfl hf (fun hf => ?_) (fun hf => ?_)
        · refine SW_iconst h (dt t_A_played 56 rfl) ?_
          exact k12 0 (by decide) hf
        · refine SW_iconst h (dt t_A_played 54 rfl) ?_
          refine SW_goto (tgt := 135) h (dt t_A_played 55 rfl) rfl ?_
          exact k12 1 (by decide) hf
      · refine SW_ite hf (fun h13 hf => ?_) (fun h13 hf => ?_)
        · refine SW_tabIn (tgt := 140) h 1 (fun _ => h4) (dt t_A_played 35 rfl) (h13.trans rfl) (by decide) rfl rfl ?_
          refine SW_aload_n h rfl (dt t_A_played 59 rfl) ?_
          refine SW_iload h rfl (dt t_A_played 60 rfl) ?_
          obtain ⟨v14, s14, e14, hf⟩ := b1M_of hf
          refine cV h [.int (i32 v2)] [] v_X10_reckon kX10_179 o0 (c_A_reckon v2 h2 e14) rfl rfl (by decide) (by decide) rfl (Nat.le_of_ble_eq_true rfl) (dt t_A_played 61 rfl) (fun h14 => ?_)
          refine SW_ok (fun ok14 => ?_)
          refine SW_ldc (n := -1000000) h nX10_105 (by decide) (dt t_A_played 62 rfl) ?_
          refine bT hf (fun g15 e15 hf => ?_)
          have k15 : ∀ (v15 : Int) (h15 : r32 v15) (hf : g15 v15 = some res), SW X 0 7 156 [some (.ref (xad X 0)), none, some (.ref (xad X r2)), some (.int (i32 x3)), some (.int (i32 v2)), some (.int (i32 v3)), some (.int (i32 1))] [.int (i32 v15)] s14 := by
            intro v15 h15 hf
            rw [e15] at hf
            refine SW_istore (lv2 := [some (.ref (xad X 0)), none, some (.ref (xad X r2)), some (.int (i32 x3)), some (.int (i32 v2)), some (.int (i32 v3)), some (.int (i32 v15))]) h (dt t_A_played 67 rfl) (by decide) rfl ?_
            refine SW_goto (tgt := 197) h (dt t_A_played 68 rfl) rfl ?_
            exact SW_fgt [true, false, true, true, false, false, true] rfl (k5 v15 s14 h15 ok14 hf)
          have hf := bIte hf
          refine SW_icmp_eq (tgt := 155) h (fun _ => h14) (fun _ => (by decide)) (dt t_A_played 63 rfl) rfl hf (fun hf => ?_) (fun hf => ?_)
          · refine SW_iconst h (dt t_A_played 66 rfl) ?_
            exact k15 0 (by decide) hf
          · refine SW_iconst h (dt t_A_played 64 rfl) ?_
            refine SW_goto (tgt := 156) h (dt t_A_played 65 rfl) rfl ?_
            exact k15 1 (by decide) hf
        · refine SW_ite hf (fun h16 hf => ?_) (fun h16 hf => ?_)
          · refine SW_tabIn (tgt := 161) h 2 (fun _ => h4) (dt t_A_played 35 rfl) (h16.trans rfl) (by decide) rfl rfl ?_
            refine SW_aload_n h rfl (dt t_A_played 69 rfl) ?_
            refine SW_iload h rfl (dt t_A_played 70 rfl) ?_
            refine SW_iload h rfl (dt t_A_played 71 rfl) ?_
            obtain ⟨v17, s17, e17, hf⟩ := b1M_of hf
            refine cV h [.int (i32 v2), .int (i32 v3)] [] v_X10_turn kX10_182 o0 (c_A_turn v2 h2 v3 h3 e17) rfl rfl (by decide) (by decide) rfl (Nat.le_of_ble_eq_true rfl) (dt t_A_played 72 rfl) (fun h17 => ?_)
            refine SW_ok (fun ok17 => ?_)
            refine SW_pop h rfl (dt t_A_played 73 rfl) ?_
            refine SW_goto (tgt := 197) h (dt t_A_played 74 rfl) rfl ?_
            exact SW_fgt [true, false, true, true, false, false, true] rfl (k5 1 s17 (by decide) ok17 hf)
          · refine SW_ite hf (fun h18 hf => ?_) (fun h18 hf => ?_)
            · refine SW_tabIn (tgt := 197) h 3 (fun _ => h4) (dt t_A_played 35 rfl) (h18.trans rfl) (by decide) rfl rfl ?_
              exact SW_fgt [true, false, true, true, false, false, true] rfl (k5 1 σ (by decide) ok hf)
            · refine SW_ite hf (fun h19 hf => ?_) (fun h19 hf => ?_)
              · refine SW_tabIn (tgt := 173) h 4 (fun _ => h4) (dt t_A_played 35 rfl) (h19.trans rfl) (by decide) rfl rfl ?_
                refine SW_aload_n h rfl (dt t_A_played 75 rfl) ?_
                refine SW_iload h rfl (dt t_A_played 76 rfl) ?_
                refine SW_iload h rfl (dt t_A_played 77 rfl) ?_
                obtain ⟨v20, s20, e20, hf⟩ := b1M_of hf
                refine cV h [.int (i32 v2), .int (i32 v3)] [] v_X10_soothe kX10_185 o0 (c_A_soothe v2 h2 v3 h3 e20) rfl rfl (by decide) (by decide) rfl (Nat.le_of_ble_eq_true rfl) (dt t_A_played 78 rfl) (fun h20 => ?_)
                refine SW_ok (fun ok20 => ?_)
                refine SW_istore (lv2 := [some (.ref (xad X 0)), none, some (.ref (xad X r2)), some (.int (i32 x3)), some (.int (i32 v2)), some (.int (i32 v3)), some (.int (i32 v20))]) h (dt t_A_played 79 rfl) (by decide) rfl ?_
                refine SW_goto (tgt := 197) h (dt t_A_played 80 rfl) rfl ?_
                exact SW_fgt [true, false, true, true, false, false, true] rfl (k5 v20 s20 (r_zo h20) ok20 hf)
              · refine SW_ite hf (fun h21 hf => ?_) (fun h21 hf => ?_)
                · refine SW_tabIn (tgt := 197) h 5 (fun _ => h4) (dt t_A_played 35 rfl) (h21.trans rfl) (by decide) rfl rfl ?_
                  exact SW_fgt [true, false, true, true, false, false, true] rfl (k5 1 σ (by decide) ok hf)
                · refine SW_ite hf (fun h22 hf => ?_) (fun h22 hf => ?_)
                  · refine SW_tabIn (tgt := 186) h 6 (fun _ => h4) (dt t_A_played 35 rfl) (h22.trans rfl) (by decide) rfl rfl ?_
                    refine SW_aload_n h rfl (dt t_A_played 81 rfl) ?_
                    refine SW_iload h rfl (dt t_A_played 82 rfl) ?_
                    obtain ⟨v23, s23, e23, hf⟩ := b1M_of hf
                    refine cV h [.int (i32 v2)] [] v_X10_passDays kX10_119 o0 (c_A_passDays v2 h2 e23) rfl rfl (by decide) (by decide) rfl (Nat.le_of_ble_eq_true rfl) (dt t_A_played 83 rfl) (fun h23 => ?_)
                    refine SW_ok (fun ok23 => ?_)
                    refine SW_istore (lv2 := [some (.ref (xad X 0)), none, some (.ref (xad X r2)), some (.int (i32 x3)), some (.int (i32 v2)), some (.int (i32 v3)), some (.int (i32 v23))]) h (dt t_A_played 84 rfl) (by decide) rfl ?_
                    refine SW_goto (tgt := 197) h (dt t_A_played 85 rfl) rfl ?_
                    exact SW_fgt [true, false, true, true, false, false, true] rfl (k5 v23 s23 (r_zo h23) ok23 hf)
                  · refine SW_tabOut (tgt := 197) h (fun _ => h4) (dt t_A_played 35 rfl) (by omega) rfl ?_
                    exact SW_fgt [true, false, true, true, false, false, true] rfl (k5 1 σ (by decide) ok hf)
def F_A_played (x1 : Int) (σ : Mm) : Option (Int × Mm) :=
  if x1 < 0 then
    some ((-2), σ)
  else
    if x1 < σ 0 8 then
      if 0 ≤ x1 ∧ x1 < 4 then
        b0MS (L_A_played_24 LF (94 + x1.toNat) 0 σ) (fun y => some y) fun s24 =>
        some ((-1), s24)
      else none
    else
      some ((-2), σ)
set_option maxRecDepth 100000 in
set_option maxHeartbeats 4000000 in
theorem c_A_played (x1 : Int) (hx1 : r32 x1) {σ : Mm} {a : Int} {σ2 : Mm} (hf : F_A_played x1 σ = some (a, σ2)) : CT yX10_played cX10_played 7 (some .int) 9 0 (fun ad => [.ref (ad 0), .int (i32 x1)]) σ (r32 a) (some (.int (i32 a))) σ2 := by
  refine MetJ 5 (by decide +kernel) rfl (fun _ => Nat.le_of_ble_eq_true rfl) ?_
  intro X h hR ok
  obtain ⟨res, er⟩ : ∃ z, z = (a, σ2) := ⟨_, rfl⟩
  have hret : ∀ y : Int × Mm, some y = some res → RX X 0 (r32 (y.1)) (some (.int (i32 (y.1)))) y.2 := fun y e => by cases e; cases er; exact hR
  rw [← er] at hf
  clear er hR
  unfold F_A_played at hf
  show SW X 0 7 0 [some (.ref (xad X 0)), some (.int (i32 x1)), none, none, none, none, none] [] σ
  refine SW_iload_n h rfl (dt t_A_played 0 rfl) ?_
  refine SW_if_lt (tgt := 12) h (fun _ => hx1) (dt t_A_played 1 rfl) rfl hf (fun hf => ?_) (fun hf => ?_)
  · refine SW_bipush h (dt t_A_played 6 rfl) (by decide) ?_
    exact SW_iret h (hret _ hf) (fun _ => (by decide)) rfl (dt t_A_played 7 rfl)
  · refine SW_iload_n h rfl (dt t_A_played 2 rfl) ?_
    refine SW_aload_n h rfl (dt t_A_played 3 rfl) ?_
    refine gI h cf10 o0 f10_8 lX10_142 (dt t_A_played 4 rfl) ?_
    refine SW_icmp_lt (tgt := 15) h (fun _ => hx1) (fun _ => (okI ok 0 8 (IsO.n3 o0))) (dt t_A_played 5 rfl) rfl hf (fun hf => ?_) (fun hf => ?_)
    · refine SW_aload_n h rfl (dt t_A_played 8 rfl) ?_
      refine gR h cf10 o0 f10_3 j0_3 lX10_32 (dt t_A_played 9 rfl) ?_
      refine SW_iload_n h rfl (dt t_A_played 10 rfl) ?_
      refine aR h (by decide) a93 rfl (dt t_A_played 11 rfl) hf (fun h1 hf => ?_)
      refine SW_astore_n (lv2 := [some (.ref (xad X 0)), some (.int (i32 x1)), some (.ref (xad X (94 + x1.toNat))), none, none, none, none]) h (dt t_A_played 12 rfl) (by decide) rfl ?_
      refine SW_iconst h (dt t_A_played 13 rfl) ?_
      refine SW_istore_n (lv2 := [some (.ref (xad X 0)), some (.int (i32 x1)), some (.ref (xad X (94 + x1.toNat))), some (.int (i32 0)), none, none, none]) h (dt t_A_played 14 rfl) (by decide) rfl ?_
      obtain ⟨z24, e24, g24, hk24⟩ := b0MS_of hf
      refine SW_fgt [true, false, true, true, false, false, false] rfl (l_A_played_24 h (94 + x1.toNat) (mk_text h1) (fun y e => hret y (g24 y (Option.some.inj e).symm)) (fun s24 hz24 ok24 => ?_) LF 0 σ (by decide) ok e24)
      have hf := hk24 s24 (Option.some.inj hz24).symm
      refine SW_iconst h (dt t_A_played 92 rfl) ?_
      exact SW_iret h (hret _ hf) (fun _ => (by decide)) rfl (dt t_A_played 93 rfl)
    · refine SW_bipush h (dt t_A_played 6 rfl) (by decide) ?_
      exact SW_iret h (hret _ hf) (fun _ => (by decide)) rfl (dt t_A_played 7 rfl)
def b_A_ring : List (Nat × Instr × Nat) := [(0, .iload_n 1, 1), (1, .bipush (-2), 2), (3, .if_icmp .lt 9, 3), (6, .iload_n 1, 1), (7, .bipush 6, 2), (9, .if_icmp .lt 5, 3), (12, .iconst (-1), 1), (13, .ireturn, 1), (14, .aload_n 0, 1), (15, .getfield 62, 3), (18, .invokevirtual 308, 3), (21, .istore_n 2, 1), (22, .iload_n 2, 1), (23, .ifCond .ne 5, 3), (26, .iconst (-1), 1), (27, .ireturn, 1), (28, .iload_n 1, 1), (29, .iconst (-1), 1), (30, .if_icmp .ne 5, 3), (33, .iload_n 2, 1), (34, .ireturn, 1), (35, .iload_n 1, 1), (36, .bipush (-2), 2), (38, .if_icmp .ne 12, 3), (41, .aload_n 0, 1), (42, .getfield 62, 3), (45, .iload_n 2, 1), (46, .invokevirtual 311, 3), (49, .ireturn, 1), (50, .iload_n 1, 1), (51, .iload_n 2, 1), (52, .if_icmp .ge 15, 3), (55, .aload_n 0, 1), (56, .getfield 62, 3), (59, .getfield 314, 3), (62, .iload_n 1, 1), (63, .iaload, 1), (64, .goto 4, 3), (67, .iconst (-1), 1), (68, .ireturn, 1)]
theorem t_A_ring : DT cX10_ring b_A_ring := DT.of (by decide +kernel)
def F_A_ring (x1 : Int) (σ : Mm) : Option (Int × Mm) :=
  if x1 < (-2) then
    some ((-1), σ)
  else
    if x1 < 6 then
      b1M (F_B_shortestRing  σ) fun v1 s1 =>
      if v1 = 0 then
        some ((-1), s1)
      else
        if x1 = (-1) then
          some (v1, s1)
        else
          if x1 = (-2) then
            b1 (F_B_leastAround v1 s1) fun v2 =>
            some (v2, s1)
          else
            if v1 ≤ x1 then
              some ((-1), s1)
            else
              if 0 ≤ x1 ∧ x1 < 6 then
                some (s1 131 x1.toNat, s1)
              else none
    else
      some ((-1), σ)
set_option maxRecDepth 100000 in
set_option maxHeartbeats 4000000 in
theorem c_A_ring (x1 : Int) (hx1 : r32 x1) {σ : Mm} {a : Int} {σ2 : Mm} (hf : F_A_ring x1 σ = some (a, σ2)) : CT yX10_ring cX10_ring 3 (some .int) 14 0 (fun ad => [.ref (ad 0), .int (i32 x1)]) σ (r32 a) (some (.int (i32 a))) σ2 := by
  refine MetJ 1 (by decide +kernel) rfl (fun _ => Nat.le_of_ble_eq_true rfl) ?_
  intro X h hR ok
  obtain ⟨res, er⟩ : ∃ z, z = (a, σ2) := ⟨_, rfl⟩
  have hret : ∀ y : Int × Mm, some y = some res → RX X 0 (r32 (y.1)) (some (.int (i32 (y.1)))) y.2 := fun y e => by cases e; cases er; exact hR
  rw [← er] at hf
  clear er hR
  unfold F_A_ring at hf
  show SW X 0 3 0 [some (.ref (xad X 0)), some (.int (i32 x1)), none] [] σ
  refine SW_iload_n h rfl (dt t_A_ring 0 rfl) ?_
  refine SW_bipush h (dt t_A_ring 1 rfl) (by decide) ?_
  refine SW_icmp_lt (tgt := 12) h (fun _ => hx1) (fun _ => (by decide)) (dt t_A_ring 2 rfl) rfl hf (fun hf => ?_) (fun hf => ?_)
  · refine SW_iconst h (dt t_A_ring 6 rfl) ?_
    exact SW_iret h (hret _ hf) (fun _ => (by decide)) rfl (dt t_A_ring 7 rfl)
  · refine SW_iload_n h rfl (dt t_A_ring 3 rfl) ?_
    refine SW_bipush h (dt t_A_ring 4 rfl) (by decide) ?_
    refine SW_icmp_lt (tgt := 14) h (fun _ => hx1) (fun _ => (by decide)) (dt t_A_ring 5 rfl) rfl hf (fun hf => ?_) (fun hf => ?_)
    · refine SW_aload_n h rfl (dt t_A_ring 8 rfl) ?_
      refine gR h cf10 o0 f10_6 j0_6 lX10_62 (dt t_A_ring 9 rfl) ?_
      obtain ⟨v1, s1, e1, hf⟩ := b1M_of hf
      refine cV h [] [] v_X0_shortestRing kX10_308 o129 (c_B_shortestRing  e1) rfl rfl (by decide) (by decide) rfl (Nat.le_of_ble_eq_true rfl) (dt t_A_ring 10 rfl) (fun h1 => ?_)
      refine SW_ok (fun ok1 => ?_)
      refine SW_istore_n (lv2 := [some (.ref (xad X 0)), some (.int (i32 x1)), some (.int (i32 v1))]) h (dt t_A_ring 11 rfl) (by decide) rfl ?_
      refine SW_iload_n h rfl (dt t_A_ring 12 rfl) ?_
      refine SW_if_ne (tgt := 28) h (fun _ => h1) (dt t_A_ring 13 rfl) rfl hf (fun hf => ?_) (fun hf => ?_)
      · refine SW_iconst h (dt t_A_ring 14 rfl) ?_
        exact SW_iret h (hret _ hf) (fun _ => (by decide)) rfl (dt t_A_ring 15 rfl)
      · refine SW_iload_n h rfl (dt t_A_ring 16 rfl) ?_
        refine SW_iconst h (dt t_A_ring 17 rfl) ?_
        refine SW_icmp_ne (tgt := 35) h (fun _ => hx1) (fun _ => (by decide)) (dt t_A_ring 18 rfl) rfl hf (fun hf => ?_) (fun hf => ?_)
        · refine SW_iload_n h rfl (dt t_A_ring 19 rfl) ?_
          exact SW_iret h (hret _ hf) (fun _ => h1) rfl (dt t_A_ring 20 rfl)
        · refine SW_iload_n h rfl (dt t_A_ring 21 rfl) ?_
          refine SW_bipush h (dt t_A_ring 22 rfl) (by decide) ?_
          refine SW_icmp_ne (tgt := 50) h (fun _ => hx1) (fun _ => (by decide)) (dt t_A_ring 23 rfl) rfl hf (fun hf => ?_) (fun hf => ?_)
          · refine SW_aload_n h rfl (dt t_A_ring 24 rfl) ?_
            refine gR h cf10 o0 f10_6 j0_6 lX10_62 (dt t_A_ring 25 rfl) ?_
            refine SW_iload_n h rfl (dt t_A_ring 26 rfl) ?_
            obtain ⟨v2, e2, hf⟩ := b1_of hf
            refine cV h [.int (i32 v1)] [] v_X0_leastAround kX10_311 o129 (c_B_leastAround v1 h1 e2) rfl rfl (by decide) (by decide) rfl (Nat.le_of_ble_eq_true rfl) (dt t_A_ring 27 rfl) (fun h2 => ?_)
            exact SW_iret h (hret _ hf) (fun _ => h2) rfl (dt t_A_ring 28 rfl)
          · refine SW_iload_n h rfl (dt t_A_ring 29 rfl) ?_
            refine SW_iload_n h rfl (dt t_A_ring 30 rfl) ?_
            refine SW_icmp_ge (tgt := 67) h (fun _ => hx1) (fun _ => h1) (dt t_A_ring 31 rfl) rfl hf (fun hf => ?_) (fun hf => ?_)
            · refine SW_iconst h (dt t_A_ring 38 rfl) ?_
              exact SW_iret h (hret _ hf) (fun _ => (by decide)) rfl (dt t_A_ring 39 rfl)
            · refine SW_aload_n h rfl (dt t_A_ring 32 rfl) ?_
              refine gR h cf10 o0 f10_6 j0_6 lX10_62 (dt t_A_ring 33 rfl) ?_
              refine gR h cf0 o129 f0_1 j129_1 lX10_314 (dt t_A_ring 34 rfl) ?_
              refine SW_iload_n h rfl (dt t_A_ring 35 rfl) ?_
              refine aI h a131 (dt t_A_ring 36 rfl) hf (fun hf => ?_)
              refine SW_goto (tgt := 68) h (dt t_A_ring 37 rfl) rfl ?_
              exact SW_iret h (hret _ hf) (fun _ => (okI ok1 131 x1.toNat (IsA.n3 a131 (by decide)))) rfl (dt t_A_ring 39 rfl)
    · refine SW_iconst h (dt t_A_ring 6 rfl) ?_
      exact SW_iret h (hret _ hf) (fun _ => (by decide)) rfl (dt t_A_ring 7 rfl)
