def b_K_bitCount : List (Nat × Instr × Nat) := [(0, .iload_n 0, 1), (1, .iload_n 0, 1), (2, .iconst 1, 1), (3, .iushr, 1), (4, .ldc_w 265, 3), (7, .iand, 1), (8, .isub, 1), (9, .istore_n 0, 1), (10, .iload_n 0, 1), (11, .ldc_w 266, 3), (14, .iand, 1), (15, .iload_n 0, 1), (16, .iconst 2, 1), (17, .iushr, 1), (18, .ldc_w 266, 3), (21, .iand, 1), (22, .iadd, 1), (23, .istore_n 0, 1), (24, .iload_n 0, 1), (25, .iload_n 0, 1), (26, .iconst 4, 1), (27, .iushr, 1), (28, .iadd, 1), (29, .ldc_w 267, 3), (32, .iand, 1), (33, .istore_n 0, 1), (34, .iload_n 0, 1), (35, .iload_n 0, 1), (36, .bipush 8, 2), (38, .iushr, 1), (39, .iadd, 1), (40, .istore_n 0, 1), (41, .iload_n 0, 1), (42, .iload_n 0, 1), (43, .bipush 16, 2), (45, .iushr, 1), (46, .iadd, 1), (47, .istore_n 0, 1), (48, .iload_n 0, 1), (49, .bipush 63, 2), (51, .iand, 1), (52, .ireturn, 1)]
theorem t_K_bitCount : DT cJ6_bitCount_0f7a4 b_K_bitCount := DT.of (by decide +kernel)
def F_K_bitCount (x0 : Int) : Option (Int) :=
  bindM (x0 - (iand (iushr x0 1) 1431655765)) fun v1 =>
  bindM ((iand v1 858993459) + (iand (iushr v1 2) 858993459)) fun v2 =>
  bindM (iand (v2 + (iushr v2 4)) 252645135) fun v3 =>
  bindM (v3 + (iushr v3 8)) fun v4 =>
  bindM (v4 + (iushr v4 16)) fun v5 =>
  some (iand v5 63)
set_option maxRecDepth 100000 in
set_option maxHeartbeats 4000000 in
theorem c_K_bitCount (x0 : Int) (hx0 : r32 x0) {σ : Mm} {a : Int} (hf : F_K_bitCount x0 = some a) : CT yJ6_bitCount_0f7a4 cJ6_bitCount_0f7a4 1 (some .int) 0 0 (fun ad => [.int (i32 x0)]) σ (r32 a) (some (.int (i32 a))) σ := by
  refine MetJ 0 (by decide +kernel) rfl (fun _ => Nat.le_of_ble_eq_true rfl) ?_
  intro X h hR ok
  obtain ⟨res, er⟩ : ∃ z, z = a := ⟨_, rfl⟩
  have hret : ∀ y : Int, some y = some res → RX X 0 (r32 (y)) (some (.int (i32 (y)))) σ := fun y e => by cases e; cases er; exact hR
  rw [← er] at hf
  clear er hR
  unfold F_K_bitCount at hf
  show SW X 0 1 0 [some (.int (i32 x0))] [] σ
  refine SW_iload_n h rfl (dt t_K_bitCount 0 rfl) ?_
  refine SW_iload_n h rfl (dt t_K_bitCount 1 rfl) ?_
  refine SW_iconst h (dt t_K_bitCount 2 rfl) ?_
  refine SW_iushr h (dt t_K_bitCount 3 rfl) ?_
  refine SW_ldcw (n := 1431655765) h nJ6_265 (by decide) (dt t_K_bitCount 4 rfl) ?_
  refine SW_iand h (dt t_K_bitCount 5 rfl) ?_
  refine SW_isub h (dt t_K_bitCount 6 rfl) ?_
  refine SW_vu hf (fun v1 hf => ?_)
  refine SW_istore_n (lv2 := [some (.int (i32 v1))]) h (dt t_K_bitCount 7 rfl) (by decide) rfl ?_
  refine SW_iload_n h rfl (dt t_K_bitCount 8 rfl) ?_
  refine SW_ldcw (n := 858993459) h nJ6_266 (by decide) (dt t_K_bitCount 9 rfl) ?_
  refine SW_iand h (dt t_K_bitCount 10 rfl) ?_
  refine SW_iload_n h rfl (dt t_K_bitCount 11 rfl) ?_
  refine SW_iconst h (dt t_K_bitCount 12 rfl) ?_
  refine SW_iushr h (dt t_K_bitCount 13 rfl) ?_
  refine SW_ldcw (n := 858993459) h nJ6_266 (by decide) (dt t_K_bitCount 14 rfl) ?_
  refine SW_iand h (dt t_K_bitCount 15 rfl) ?_
  refine SW_iadd h (dt t_K_bitCount 16 rfl) ?_
  refine SW_vu hf (fun v2 hf => ?_)
  refine SW_istore_n (lv2 := [some (.int (i32 v2))]) h (dt t_K_bitCount 17 rfl) (by decide) rfl ?_
  refine SW_iload_n h rfl (dt t_K_bitCount 18 rfl) ?_
  refine SW_iload_n h rfl (dt t_K_bitCount 19 rfl) ?_
  refine SW_iconst h (dt t_K_bitCount 20 rfl) ?_
  refine SW_iushr h (dt t_K_bitCount 21 rfl) ?_
  refine SW_iadd h (dt t_K_bitCount 22 rfl) ?_
  refine SW_ldcw (n := 252645135) h nJ6_267 (by decide) (dt t_K_bitCount 23 rfl) ?_
  refine SW_iand h (dt t_K_bitCount 24 rfl) ?_
  refine SW_vi hf (r_iand _ _) (fun v3 h3 hf => ?_)
  refine SW_istore_n (lv2 := [some (.int (i32 v3))]) h (dt t_K_bitCount 25 rfl) (by decide) rfl ?_
  refine SW_iload_n h rfl (dt t_K_bitCount 26 rfl) ?_
  refine SW_iload_n h rfl (dt t_K_bitCount 27 rfl) ?_
  refine SW_bipush h (dt t_K_bitCount 28 rfl) (by decide) ?_
  refine SW_iushr h (dt t_K_bitCount 29 rfl) ?_
  refine SW_iadd h (dt t_K_bitCount 30 rfl) ?_
  refine SW_vu hf (fun v4 hf => ?_)
  refine SW_istore_n (lv2 := [some (.int (i32 v4))]) h (dt t_K_bitCount 31 rfl) (by decide) rfl ?_
  refine SW_iload_n h rfl (dt t_K_bitCount 32 rfl) ?_
  refine SW_iload_n h rfl (dt t_K_bitCount 33 rfl) ?_
  refine SW_bipush h (dt t_K_bitCount 34 rfl) (by decide) ?_
  refine SW_iushr h (dt t_K_bitCount 35 rfl) ?_
  refine SW_iadd h (dt t_K_bitCount 36 rfl) ?_
  refine SW_vu hf (fun v5 hf => ?_)
  refine SW_istore_n (lv2 := [some (.int (i32 v5))]) h (dt t_K_bitCount 37 rfl) (by decide) rfl ?_
  refine SW_iload_n h rfl (dt t_K_bitCount 38 rfl) ?_
  refine SW_bipush h (dt t_K_bitCount 39 rfl) (by decide) ?_
  refine SW_iand h (dt t_K_bitCount 40 rfl) ?_
  exact SW_iret h (hret _ hf) (fun _ => (r_iand _ _)) rfl (dt t_K_bitCount 41 rfl)
def b_K_fill : List (Nat × Instr × Nat) := [(0, .iconst 0, 1), (1, .istore_n 2, 1), (2, .aload_n 0, 1), (3, .arraylength, 1), (4, .istore_n 3, 1), (5, .iload_n 2, 1), (6, .iload_n 3, 1), (7, .if_icmp .ge 13, 3), (10, .aload_n 0, 1), (11, .iload_n 2, 1), (12, .iload_n 1, 1), (13, .iastore, 1), (14, .iinc 2 1, 3), (17, .goto (-12), 3), (20, .return_, 1)]
theorem t_K_fill : DT cJ7_fill_53178 b_K_fill := DT.of (by decide +kernel)
def L_K_fill_5 : Nat → Nat → Int → Int → Int → Mm → Option (Mm)
  | 0, _, _, _, _, _ => none
  | n + 1, r0, x1, x2, x3, σ =>
    if x3 ≤ x2 then
      some σ
    else
      if 0 ≤ x2 ∧ x2 < Ln r0 then
        bindM (st2 σ r0 x2.toNat x1) fun s2 =>
        if r32 (x2 + 1) then
          L_K_fill_5 n r0 x1 (x2 + 1) x3 s2
        else none
      else none
set_option maxRecDepth 100000 in
set_option maxHeartbeats 4000000 in
theorem l_K_fill_5 {X : Cx} (h : CX X 0 cJ7_fill_53178 4 0 none RJ7) (r0 : Nat) (x1 : Int) (x3 : Int) (q0 : IsA 0 0 (Ln r0) r0) (hx1 : r32 x1) (hx3 : r32 x3) {res : Mm} (hex : ∀  (σ : Mm) (hz : some σ = some res)  (ok : okM σ), SW X 0 4 20 [none, none, none, none] [] σ) : ∀ (n : Nat) (x2 : Int) (σ : Mm) (hx2 : r32 x2) (ok : okM σ) (hf : L_K_fill_5 n r0 x1 x2 x3 σ = some res), SW X 0 4 5 [some (.ref (xad X r0)), some (.int (i32 x1)), some (.int (i32 x2)), some (.int (i32 x3))] [] σ := by
  intro n
  induction n with
  | zero => intro x2 σ hx2 ok hf; exact absurd hf (by simp [L_K_fill_5])
  | succ n ih =>
    intro x2 σ hx2 ok hf
    rw [L_K_fill_5] at hf
    refine SW_iload_n h rfl (dt t_K_fill 5 rfl) ?_
    refine SW_iload_n h rfl (dt t_K_fill 6 rfl) ?_
    refine SW_icmp_ge (tgt := 20) h (fun _ => hx2) (fun _ => hx3) (dt t_K_fill 7 rfl) rfl hf (fun hf => ?_) (fun hf => ?_)
    · exact SW_fgt [false, false, false, false] rfl (hex σ hf ok)
    · refine SW_aload_n h rfl (dt t_K_fill 8 rfl) ?_
      refine SW_iload_n h rfl (dt t_K_fill 9 rfl) ?_
      refine SW_iload_n h rfl (dt t_K_fill 10 rfl) ?_
      refine sI h q0 hx1 (dt t_K_fill 11 rfl) hf (fun hf => SW_bm hf (fun s2 ok2 hf => ?_))
      refine SW_iinc (lv2 := [some (.ref (xad X r0)), some (.int (i32 x1)), some (.int (i32 (x2 + 1))), some (.int (i32 x3))]) h (dt t_K_fill 12 rfl) rfl (by decide) rfl ?_
      refine SW_goto (tgt := 5) h (dt t_K_fill 13 rfl) rfl ?_
      refine SW_chk hf (fun h3 hf => ?_)
      exact SW_fgt [true, true, true, true] rfl (ih (x2 + 1) s2 h3 ok2 hf)
def F_K_fill (r0 : Nat) (x1 : Int) (σ : Mm) : Option (Mm) :=
  bindM (((Ln r0 : Nat) : Int)) fun v1 =>
  b0M (L_K_fill_5 LF r0 x1 0 v1 σ) fun s4 =>
  some s4
set_option maxRecDepth 100000 in
set_option maxHeartbeats 4000000 in
theorem c_K_fill (r0 : Nat) (q0 : IsA 0 0 (Ln r0) r0) (x1 : Int) (hx1 : r32 x1) {σ : Mm} {σ2 : Mm} (hf : F_K_fill r0 x1 σ = some σ2) : CT yJ7_fill_53178 cJ7_fill_53178 4 none 0 0 (fun ad => [.ref (ad r0), .int (i32 x1)]) σ True none σ2 := by
  refine MetJ 2 (by decide +kernel) rfl (fun _ => Nat.le_of_ble_eq_true rfl) ?_
  intro X h hR ok
  obtain ⟨res, er⟩ : ∃ z, z = σ2 := ⟨_, rfl⟩
  have hret : ∀ y : Mm, some y = some res → RX X 0 True none y := fun y e => by cases e; cases er; exact hR
  rw [← er] at hf
  clear er hR
  unfold F_K_fill at hf
  show SW X 0 4 0 [some (.ref (xad X r0)), some (.int (i32 x1)), none, none] [] σ
  refine SW_iconst h (dt t_K_fill 0 rfl) ?_
  refine SW_istore_n (lv2 := [some (.ref (xad X r0)), some (.int (i32 x1)), some (.int (i32 0)), none]) h (dt t_K_fill 1 rfl) (by decide) rfl ?_
  refine SW_aload_n h rfl (dt t_K_fill 2 rfl) ?_
  refine aLen h (by decide) q0 (dt t_K_fill 3 rfl) ?_
  refine SW_vi hf (r_len q0) (fun v1 h1 hf => ?_)
  refine SW_istore_n (lv2 := [some (.ref (xad X r0)), some (.int (i32 x1)), some (.int (i32 0)), some (.int (i32 v1))]) h (dt t_K_fill 4 rfl) (by decide) rfl ?_
  obtain ⟨z4, e4, hk4⟩ := b0M_ex hf
  refine SW_fgt [true, true, true, true] rfl (l_K_fill_5 h r0 x1 v1 q0 hx1 h1 (fun s4 hz4 ok4 => ?_) LF 0 σ (by decide) ok e4)
  have hf := hk4 s4 hz4
  exact SW_vret h (hret _ hf) rfl (dt t_K_fill 14 rfl)
def b_K_floorMod : List (Nat × Instr × Nat) := [(0, .iload_n 0, 1), (1, .iload_n 1, 1), (2, .irem, 1), (3, .istore_n 2, 1), (4, .iload_n 0, 1), (5, .iload_n 1, 1), (6, .ixor, 1), (7, .ifCond .ge 11, 3), (10, .iload_n 2, 1), (11, .ifCond .eq 7, 3), (14, .iload_n 2, 1), (15, .iload_n 1, 1), (16, .iadd, 1), (17, .ireturn, 1), (18, .iload_n 2, 1), (19, .ireturn, 1)]
theorem t_K_floorMod : DT cJ9_floorMod_7cf53 b_K_floorMod := DT.of (by decide +kernel)
def F_K_floorMod (x0 : Int) (x1 : Int) : Option (Int) :=
  if ¬ x1 = 0 then
    if 0 ≤ ixor x0 x1 then
      if r32 (x0.tmod x1) then
        some (x0.tmod x1)
      else none
    else
      if r32 (x0.tmod x1) then
        if x0.tmod x1 = 0 then
          some (x0.tmod x1)
        else
          if r32 ((x0.tmod x1) + x1) then
            some ((x0.tmod x1) + x1)
          else none
      else none
  else none
set_option maxRecDepth 100000 in
set_option maxHeartbeats 4000000 in
theorem c_K_floorMod (x0 : Int) (hx0 : r32 x0) (x1 : Int) (hx1 : r32 x1) {σ : Mm} {a : Int} (hf : F_K_floorMod x0 x1 = some a) : CT yJ9_floorMod_7cf53 cJ9_floorMod_7cf53 3 (some .int) 0 0 (fun ad => [.int (i32 x0), .int (i32 x1)]) σ (r32 a) (some (.int (i32 a))) σ := by
  refine MetJ 1 (by decide +kernel) rfl (fun _ => Nat.le_of_ble_eq_true rfl) ?_
  intro X h hR ok
  obtain ⟨res, er⟩ : ∃ z, z = a := ⟨_, rfl⟩
  have hret : ∀ y : Int, some y = some res → RX X 0 (r32 (y)) (some (.int (i32 (y)))) σ := fun y e => by cases e; cases er; exact hR
  rw [← er] at hf
  clear er hR
  unfold F_K_floorMod at hf
  show SW X 0 3 0 [some (.int (i32 x0)), some (.int (i32 x1)), none] [] σ
  refine SW_iload_n h rfl (dt t_K_floorMod 0 rfl) ?_
  refine SW_iload_n h rfl (dt t_K_floorMod 1 rfl) ?_
  refine SW_chk hf (fun h1 hf => ?_)
  refine SW_irem h (fun _ => hx0) (fun _ => hx1) h1 (dt t_K_floorMod 2 rfl) ?_
  refine SW_istore_n (lv2 := [some (.int (i32 x0)), some (.int (i32 x1)), some (.int (i32 (x0.tmod x1)))]) h (dt t_K_floorMod 3 rfl) (by decide) rfl ?_
  refine SW_iload_n h rfl (dt t_K_floorMod 4 rfl) ?_
  refine SW_iload_n h rfl (dt t_K_floorMod 5 rfl) ?_
  refine SW_ixor h (dt t_K_floorMod 6 rfl) ?_
  refine SW_if_ge (tgt := 18) h (fun _ => (r_ixor _ _)) (dt t_K_floorMod 7 rfl) rfl hf (fun hf => ?_) (fun hf => ?_)
  · refine SW_iload_n h rfl (dt t_K_floorMod 14 rfl) ?_
    refine SW_chk hf (fun h2 hf => ?_)
    exact SW_iret h (hret _ hf) (fun _ => h2) rfl (dt t_K_floorMod 15 rfl)
  · refine SW_iload_n h rfl (dt t_K_floorMod 8 rfl) ?_
    refine SW_chk hf (fun h3 hf => ?_)
    refine SW_if_eq (tgt := 18) h (fun _ => h3) (dt t_K_floorMod 9 rfl) rfl hf (fun hf => ?_) (fun hf => ?_)
    · refine SW_iload_n h rfl (dt t_K_floorMod 14 rfl) ?_
      exact SW_iret h (hret _ hf) (fun _ => h3) rfl (dt t_K_floorMod 15 rfl)
    · refine SW_iload_n h rfl (dt t_K_floorMod 10 rfl) ?_
      refine SW_iload_n h rfl (dt t_K_floorMod 11 rfl) ?_
      refine SW_iadd h (dt t_K_floorMod 12 rfl) ?_
      refine SW_chk hf (fun h4 hf => ?_)
      exact SW_iret h (hret _ hf) (fun _ => h4) rfl (dt t_K_floorMod 13 rfl)
def b_B_closes : List (Nat × Instr × Nat) := [(0, .aload_n 1, 1), (1, .iload_n 2, 1), (2, .iconst 1, 1), (3, .isub, 1), (4, .iaload, 1), (5, .istore 4, 2), (7, .iload_n 2, 1), (8, .iload_n 3, 1), (9, .if_icmp .lt 23, 3), (12, .aload_n 0, 1), (13, .iload 4, 2), (15, .bipush 6, 2), (17, .imul, 1), (18, .aload_n 1, 1), (19, .iconst 0, 1), (20, .iaload, 1), (21, .iadd, 1), (22, .iaload, 1), (23, .ifCond .le 7, 3), (26, .iconst 1, 1), (27, .goto 4, 3), (30, .iconst 0, 1), (31, .ireturn, 1), (32, .aload_n 1, 1), (33, .iconst 0, 1), (34, .iaload, 1), (35, .iconst 1, 1), (36, .iadd, 1), (37, .istore 5, 2), (39, .iload 5, 2), (41, .bipush 6, 2), (43, .if_icmp .ge 85, 3), (46, .iconst 1, 1), (47, .istore 6, 2), (49, .iconst 0, 1), (50, .istore 7, 2), (52, .iload 7, 2), (54, .iload_n 2, 1), (55, .if_icmp .ge 30, 3), (58, .iload 6, 2), (60, .ifCond .eq 16, 3), (63, .aload_n 1, 1), (64, .iload 7, 2), (66, .iaload, 1), (67, .iload 5, 2), (69, .if_icmp .eq 7, 3), (72, .iconst 1, 1), (73, .goto 4, 3), (76, .iconst 0, 1), (77, .istore 6, 2), (79, .iinc 7 1, 3), (82, .goto (-30), 3), (85, .iload 6, 2), (87, .ifCond .eq 35, 3), (90, .aload_n 0, 1), (91, .iload 4, 2), (93, .bipush 6, 2), (95, .imul, 1), (96, .iload 5, 2), (98, .iadd, 1), (99, .iaload, 1), (100, .ifCond .le 22, 3), (103, .aload_n 1, 1), (104, .iload_n 2, 1), (105, .iload 5, 2), (107, .iastore, 1), (108, .aload_n 0, 1), (109, .aload_n 1, 1), (110, .iload_n 2, 1), (111, .iconst 1, 1), (112, .iadd, 1), (113, .iload_n 3, 1), (114, .invokestatic 43, 3), (117, .ifCond .eq 5, 3), (120, .iconst 1, 1), (121, .ireturn, 1), (122, .iinc 5 1, 3), (125, .goto (-86), 3), (128, .iconst 0, 1), (129, .ireturn, 1)]
theorem t_B_closes : DT cX0_closes b_B_closes := DT.of (by decide +kernel)
def L_B_closes_52 : Nat → Int → Int → Int → Int → Mm → Option (Int)
  | 0, _, _, _, _, _ => none
  | n + 1, x2, x5, x6, x7, σ =>
    if x2 ≤ x7 then
      some x6
    else
      bindM (fun (y3 : Int) =>
        if r32 (x7 + 1) then
          L_B_closes_52 n x2 x5 y3 (x7 + 1) σ
        else none) fun J3 =>
      bindM (
        J3 0) fun J5 =>
      if x6 = 0 then
        J5
      else
        if 0 ≤ x7 ∧ x7 < 6 then
          if σ 131 x7.toNat = x5 then
            J5
          else
            J3 1
        else none
set_option maxRecDepth 100000 in
set_option maxHeartbeats 4000000 in
theorem l_B_closes_52 {dn : Nat} {X : Cx} (h : CX X 0 cX0_closes 8 (0 + dn + 1) (some .boolean) RX0) (x2 : Int) (x3 : Int) (x4 : Int) (x5 : Int) (σ : Mm) (hx2 : r32 x2) (hx3 : r32 x3) (hx4 : r32 x4) (hx5 : r32 x5) (ok : okM σ) {res : Int} (hex : ∀ (x6 : Int) (hz : some x6 = some res) (hx6 : r32 x6), SW X 0 8 85 [some (.ref (xad X 132)), some (.ref (xad X 131)), some (.int (i32 x2)), some (.int (i32 x3)), some (.int (i32 x4)), some (.int (i32 x5)), some (.int (i32 x6)), none] [] σ) : ∀ (n : Nat) (x6 : Int) (x7 : Int) (hx6 : r32 x6) (hx7 : r32 x7) (hf : L_B_closes_52 n x2 x5 x6 x7 σ = some res), SW X 0 8 52 [some (.ref (xad X 132)), some (.ref (xad X 131)), some (.int (i32 x2)), some (.int (i32 x3)), some (.int (i32 x4)), some (.int (i32 x5)), some (.int (i32 x6)), some (.int (i32 x7))] [] σ := by
  intro n
  induction n with
  | zero => intro x6 x7 hx6 hx7 hf; exact absurd hf (by simp [L_B_closes_52])
  | succ n ih =>
    intro x6 x7 hx6 hx7 hf
    rw [L_B_closes_52] at hf
    refine SW_iload h rfl (dt t_B_closes 36 rfl) ?_
    refine SW_iload_n h rfl (dt t_B_closes 37 rfl) ?_
    refine SW_icmp_ge (tgt := 85) h (fun _ => hx7) (fun _ => hx2) (dt t_B_closes 38 rfl) rfl hf (fun hf => ?_) (fun hf => ?_)
    · exact SW_fgt [true, true, true, true, true, true, true, false] rfl (hex x6 hf hx6)
    · refine SW_iload h rfl (dt t_B_closes 39 rfl) ?_
      refine bJ hf (fun J3 e3 hf => ?_)
      have k3 : ∀ (y3 : Int) (hy3 : r32 y3) (hf : J3 y3 = some res), SW X 0 8 77 [some (.ref (xad X 132)), some (.ref (xad X 131)), some (.int (i32 x2)), some (.int (i32 x3)), some (.int (i32 x4)), some (.int (i32 x5)), none, some (.int (i32 x7))] [.int (i32 y3)] σ := by
        intro y3 hy3 hf
        rw [e3] at hf
        refine SW_istore (lv2 := [some (.ref (xad X 132)), some (.ref (xad X 131)), some (.int (i32 x2)), some (.int (i32 x3)), some (.int (i32 x4)), some (.int (i32 x5)), some (.int (i32 y3)), some (.int (i32 x7))]) h (dt t_B_closes 49 rfl) (by decide) rfl ?_
        refine SW_iinc (lv2 := [some (.ref (xad X 132)), some (.ref (xad X 131)), some (.int (i32 x2)), some (.int (i32 x3)), some (.int (i32 x4)), some (.int (i32 x5)), some (.int (i32 y3)), some (.int (i32 (x7 + 1)))]) h (dt t_B_closes 50 rfl) rfl (by decide) rfl ?_
        refine SW_goto (tgt := 52) h (dt t_B_closes 51 rfl) rfl ?_
        refine SW_chk hf (fun h4 hf => ?_)
        exact SW_fgt [true, true, true, true, true, true, true, true] rfl (ih y3 (x7 + 1) hy3 h4 hf)
      refine bJ hf (fun J5 e5 hf => ?_)
      have k5 : ∀ (hf : J5 = some res), SW X 0 8 76 [some (.ref (xad X 132)), some (.ref (xad X 131)), some (.int (i32 x2)), some (.int (i32 x3)), some (.int (i32 x4)), some (.int (i32 x5)), none, some (.int (i32 x7))] [] σ := by
        intro hf
        rw [e5] at hf
        refine SW_iconst h (dt t_B_closes 48 rfl) ?_
        exact SW_fgt [true, true, true, true, true, true, false, true] rfl (k3 0 (by decide) hf)
      refine SW_if_eq (tgt := 76) h (fun _ => hx6) (dt t_B_closes 40 rfl) rfl hf (fun hf => ?_) (fun hf => ?_)
      · exact SW_fgt [true, true, true, true, true, true, false, true] rfl (k5 hf)
      · refine SW_aload_n h rfl (dt t_B_closes 41 rfl) ?_
        refine SW_iload h rfl (dt t_B_closes 42 rfl) ?_
        refine aI h a131 (dt t_B_closes 43 rfl) hf (fun hf => ?_)
        refine SW_iload h rfl (dt t_B_closes 44 rfl) ?_
        refine SW_icmp_eq (tgt := 76) h (fun _ => (okI ok 131 x7.toNat (IsA.n3 a131 (by decide)))) (fun _ => hx5) (dt t_B_closes 45 rfl) rfl hf (fun hf => ?_) (fun hf => ?_)
        · exact SW_fgt [true, true, true, true, true, true, false, true] rfl (k5 hf)
        · refine SW_iconst h (dt t_B_closes 46 rfl) ?_
          refine SW_goto (tgt := 77) h (dt t_B_closes 47 rfl) rfl ?_
          exact SW_fgt [true, true, true, true, true, true, false, true] rfl (k3 1 (by decide) hf)
def L_B_closes_39 (rec : Int → Int → Mm → Option (Int × Mm)) : Nat → Int → Int → Int → Int → Mm → Option ((Int × Mm) ⊕ (Mm))
  | 0, _, _, _, _, _ => none
  | n + 1, x2, x3, x4, x5, σ =>
    if 6 ≤ x5 then
      some (.inr σ)
    else
      b1 (L_B_closes_52 LF x2 x5 1 0 σ) fun x6_6 =>
      bindM (fun  (t7 : Mm) =>
        if r32 (x5 + 1) then
          L_B_closes_39 rec n x2 x3 x4 (x5 + 1) t7
        else none) fun J7 =>
      if x6_6 = 0 then
        J7 σ
      else
        if 0 ≤ (x4 * 6) + x5 ∧ (x4 * 6) + x5 < 36 then
          if σ 132 (((x4 * 6) + x5).toNat) ≤ 0 then
            J7 σ
          else
            if 0 ≤ x2 ∧ x2 < 6 then
              bindM (st2 σ 131 x2.toNat x5) fun s9 =>
              if r32 (x2 + 1) then
                b1M (rec (x2 + 1) x3 s9) fun v10 s10 =>
                if v10 = 0 then
                  J7 s10
                else
                  some (.inl (1, s10))
              else none
            else none
        else none
set_option maxRecDepth 100000 in
set_option maxHeartbeats 4000000 in
theorem l_B_closes_39 {dn : Nat} {rec : Int → Int → Mm → Option (Int × Mm)} (ihr : ∀ (x2 : Int) (hx2 : r32 x2) (x3 : Int) (hx3 : r32 x3) {σ : Mm} {a : Int} {σ2 : Mm} (hf : rec x2 x3 σ = some (a, σ2)), CT yX0_closes cX0_closes 8 (some .boolean) (0 + dn) 0 (fun ad => [.ref (ad 132), .ref (ad 131), .int (i32 x2), .int (i32 x3)]) σ (a = 0 ∨ a = 1) (some (.int (i32 a))) σ2) {X : Cx} (h : CX X 0 cX0_closes 8 (0 + dn + 1) (some .boolean) RX0) (x2 : Int) (x3 : Int) (x4 : Int) (hx2 : r32 x2) (hx3 : r32 x3) (hx4 : r32 x4) {res : (Int × Mm) ⊕ (Mm)} (hret : ∀ y : Int × Mm, some (.inl y) = some res → RX X 0 (y.1 = 0 ∨ y.1 = 1) (some (.int (i32 (y.1)))) y.2) (hex : ∀  (σ : Mm) (hz : some (.inr σ) = some res)  (ok : okM σ), SW X 0 8 128 [none, none, none, none, none, none, none, none] [] σ) : ∀ (n : Nat) (x5 : Int) (σ : Mm) (hx5 : r32 x5) (ok : okM σ) (hf : L_B_closes_39 rec n x2 x3 x4 x5 σ = some res), SW X 0 8 39 [some (.ref (xad X 132)), some (.ref (xad X 131)), some (.int (i32 x2)), some (.int (i32 x3)), some (.int (i32 x4)), some (.int (i32 x5)), none, none] [] σ := by
  intro n
  induction n with
  | zero => intro x5 σ hx5 ok hf; exact absurd hf (by simp [L_B_closes_39])
  | succ n ih =>
    intro x5 σ hx5 ok hf
    rw [L_B_closes_39] at hf
    refine SW_iload h rfl (dt t_B_closes 29 rfl) ?_
    refine SW_bipush h (dt t_B_closes 30 rfl) (by decide) ?_
    refine SW_icmp_ge (tgt := 128) h (fun _ => hx5) (fun _ => (by decide)) (dt t_B_closes 31 rfl) rfl hf (fun hf => ?_) (fun hf => ?_)
    · exact SW_fgt [false, false, false, false, false, false, false, false] rfl (hex σ hf ok)
    · refine SW_iconst h (dt t_B_closes 32 rfl) ?_
      refine SW_istore (lv2 := [some (.ref (xad X 132)), some (.ref (xad X 131)), some (.int (i32 x2)), some (.int (i32 x3)), some (.int (i32 x4)), some (.int (i32 x5)), some (.int (i32 1)), none]) h (dt t_B_closes 33 rfl) (by decide) rfl ?_
      refine SW_iconst h (dt t_B_closes 34 rfl) ?_
      refine SW_istore (lv2 := [some (.ref (xad X 132)), some (.ref (xad X 131)), some (.int (i32 x2)), some (.int (i32 x3)), some (.int (i32 x4)), some (.int (i32 x5)), some (.int (i32 1)), some (.int (i32 0))]) h (dt t_B_closes 35 rfl) (by decide) rfl ?_
      obtain ⟨z6, e6, hk6⟩ := b1_ex hf
      refine SW_fgt [true, true, true, true, true, true, true, true] rfl (l_B_closes_52 h x2 x3 x4 x5 σ hx2 hx3 hx4 hx5 ok (fun x6_6 hz6 hx6_6 => ?_) LF 1 0 (by decide) (by decide) e6)
      have hf := hk6 x6_6 hz6
      refine SW_iload h rfl (dt t_B_closes 52 rfl) ?_
      refine bJ hf (fun J7 e7 hf => ?_)
      have k7 : ∀  (t7 : Mm)  (ot7 : okM t7) (hf : J7 t7 = some res), SW X 0 8 122 [some (.ref (xad X 132)), some (.ref (xad X 131)), some (.int (i32 x2)), some (.int (i32 x3)), some (.int (i32 x4)), some (.int (i32 x5)), none, none] [] t7 := by
        intro t7 ot7 hf
        rw [e7] at hf
        refine SW_iinc (lv2 := [some (.ref (xad X 132)), some (.ref (xad X 131)), some (.int (i32 x2)), some (.int (i32 x3)), some (.int (i32 x4)), some (.int (i32 (x5 + 1))), none, none]) h (dt t_B_closes 76 rfl) rfl (by decide) rfl ?_
        refine SW_goto (tgt := 39) h (dt t_B_closes 77 rfl) rfl ?_
        refine SW_chk hf (fun h8 hf => ?_)
        exact SW_fgt [true, true, true, true, true, true, false, false] rfl (ih (x5 + 1) t7 h8 ot7 hf)
      refine SW_if_eq (tgt := 122) h (fun _ => hx6_6) (dt t_B_closes 53 rfl) rfl hf (fun hf => ?_) (fun hf => ?_)
      · exact SW_fgt [true, true, true, true, true, true, false, false] rfl (k7 σ ok hf)
      · refine SW_aload_n h rfl (dt t_B_closes 54 rfl) ?_
        refine SW_iload h rfl (dt t_B_closes 55 rfl) ?_
        refine SW_bipush h (dt t_B_closes 56 rfl) (by decide) ?_
        refine SW_imul h (dt t_B_closes 57 rfl) ?_
        refine SW_iload h rfl (dt t_B_closes 58 rfl) ?_
        refine SW_iadd h (dt t_B_closes 59 rfl) ?_
        refine aI h a132 (dt t_B_closes 60 rfl) hf (fun hf => ?_)
        refine SW_if_le (tgt := 122) h (fun _ => (okI ok 132 (((x4 * 6) + x5).toNat) (IsA.n3 a132 (by decide)))) (dt t_B_closes 61 rfl) rfl hf (fun hf => ?_) (fun hf => ?_)
        · exact SW_fgt [true, true, true, true, true, true, false, false] rfl (k7 σ ok hf)
        · refine SW_aload_n h rfl (dt t_B_closes 62 rfl) ?_
          refine SW_iload_n h rfl (dt t_B_closes 63 rfl) ?_
          refine SW_iload h rfl (dt t_B_closes 64 rfl) ?_
          refine sI h a131 hx5 (dt t_B_closes 65 rfl) hf (fun hf => SW_bm hf (fun s9 ok9 hf => ?_))
          refine SW_aload_n h rfl (dt t_B_closes 66 rfl) ?_
          refine SW_aload_n h rfl (dt t_B_closes 67 rfl) ?_
          refine SW_iload_n h rfl (dt t_B_closes 68 rfl) ?_
          refine SW_iconst h (dt t_B_closes 69 rfl) ?_
          refine SW_iadd h (dt t_B_closes 70 rfl) ?_
          refine SW_iload_n h rfl (dt t_B_closes 71 rfl) ?_
          refine SW_chk hf (fun h11 hf => ?_)
          obtain ⟨v10, s10, e10, hf⟩ := b1M_of hf
          refine cS h [.ref (xad X 132), .ref (xad X 131), .int (i32 (x2 + 1)), .int (i32 x3)] [] v_X0_closes kX0_43 (ihr (x2 + 1) h11 x3 hx3 e10) rfl rfl (by omega) (by decide) rfl (Nat.le_of_ble_eq_true rfl) (dt t_B_closes 72 rfl) (fun h10 => ?_)
          refine SW_ok (fun ok10 => ?_)
          refine SW_if_eq (tgt := 122) h (fun _ => (r_zo h10)) (dt t_B_closes 73 rfl) rfl hf (fun hf => ?_) (fun hf => ?_)
          · exact SW_fgt [true, true, true, true, true, true, false, false] rfl (k7 s10 ok10 hf)
          · refine SW_iconst h (dt t_B_closes 74 rfl) ?_
            exact SW_zret h (hret _ hf) (by decide) rfl (dt t_B_closes 75 rfl)
def F_B_closes : Nat → Int → Int → Mm → Option (Int × Mm)
  | 0, _, _, _ => none
  | n + 1, x2, x3, σ =>
    bindM (F_B_closes n) fun rec =>
    if 0 ≤ x2 - 1 ∧ x2 - 1 < 6 then
      bindM (σ 131 ((x2 - 1).toNat)) fun v1 =>
      if x2 < x3 then
        bindM ((σ 131 0) + 1) fun v2 =>
        if r32 v2 then
          b0MS (L_B_closes_39 rec LF x2 x3 v1 v2 σ) (fun y => some y) fun s12 =>
          some (0, s12)
        else none
      else
        if 0 ≤ (v1 * 6) + (σ 131 0) ∧ (v1 * 6) + (σ 131 0) < 36 then
          if σ 132 (((v1 * 6) + (σ 131 0)).toNat) ≤ 0 then
            some (0, σ)
          else
            some (1, σ)
        else none
    else none
set_option maxRecDepth 100000 in
set_option maxHeartbeats 4000000 in
theorem c_B_closes : ∀ (dn : Nat) (x2 : Int) (hx2 : r32 x2) (x3 : Int) (hx3 : r32 x3) {σ : Mm} {a : Int} {σ2 : Mm} (hf : F_B_closes dn x2 x3 σ = some (a, σ2)), CT yX0_closes cX0_closes 8 (some .boolean) (0 + dn) 0 (fun ad => [.ref (ad 132), .ref (ad 131), .int (i32 x2), .int (i32 x3)]) σ (a = 0 ∨ a = 1) (some (.int (i32 a))) σ2 := by
  intro dn
  induction dn with
  | zero => intro x2 hx2 x3 hx3 σ a σ2 hf; exact absurd hf (by simp [F_B_closes])
  | succ dn ih =>
    intro x2 hx2 x3 hx3 σ a σ2 hf
    have ihr := @ih
    rw [F_B_closes] at hf
    refine bJ hf (fun rec erec hf => ?_)
    rw [← erec] at ihr
    clear ih
    refine MetJ 4 (by decide +kernel) rfl (fun _ => Nat.le_of_ble_eq_true rfl) ?_
    intro X h hR ok
    obtain ⟨res, er⟩ : ∃ z, z = (a, σ2) := ⟨_, rfl⟩
    have hret : ∀ y : Int × Mm, some y = some res → RX X 0 (y.1 = 0 ∨ y.1 = 1) (some (.int (i32 (y.1)))) y.2 := fun y e => by cases e; cases er; exact hR
    rw [← er] at hf
    clear er hR
    show SW X 0 8 0 [some (.ref (xad X 132)), some (.ref (xad X 131)), some (.int (i32 x2)), some (.int (i32 x3)), none, none, none, none] [] σ
    refine SW_aload_n h rfl (dt t_B_closes 0 rfl) ?_
    refine SW_iload_n h rfl (dt t_B_closes 1 rfl) ?_
    refine SW_iconst h (dt t_B_closes 2 rfl) ?_
    refine SW_isub h (dt t_B_closes 3 rfl) ?_
    refine aI h a131 (dt t_B_closes 4 rfl) hf (fun hf => ?_)
    refine SW_vi hf (okI ok 131 ((x2 - 1).toNat) (IsA.n3 a131 (by decide))) (fun v1 h1 hf => ?_)
    refine SW_istore (lv2 := [some (.ref (xad X 132)), some (.ref (xad X 131)), some (.int (i32 x2)), some (.int (i32 x3)), some (.int (i32 v1)), none, none, none]) h (dt t_B_closes 5 rfl) (by decide) rfl ?_
    refine SW_iload_n h rfl (dt t_B_closes 6 rfl) ?_
    refine SW_iload_n h rfl (dt t_B_closes 7 rfl) ?_
    refine SW_icmp_lt (tgt := 32) h (fun _ => hx2) (fun _ => hx3) (dt t_B_closes 8 rfl) rfl hf (fun hf => ?_) (fun hf => ?_)
    · refine SW_aload_n h rfl (dt t_B_closes 23 rfl) ?_
      refine SW_iconst h (dt t_B_closes 24 rfl) ?_
      refine aIk h a131 (by decide) (dt t_B_closes 25 rfl) ?_
      refine SW_iconst h (dt t_B_closes 26 rfl) ?_
      refine SW_iadd h (dt t_B_closes 27 rfl) ?_
      refine SW_vu hf (fun v2 hf => ?_)
      refine SW_istore (lv2 := [some (.ref (xad X 132)), some (.ref (xad X 131)), some (.int (i32 x2)), some (.int (i32 x3)), some (.int (i32 v1)), some (.int (i32 v2)), none, none]) h (dt t_B_closes 28 rfl) (by decide) rfl ?_
      refine SW_chk hf (fun h13 hf => ?_)
      obtain ⟨z12, e12, g12, hk12⟩ := b0MS_of hf
      refine SW_fgt [true, true, true, true, true, true, false, false] rfl (l_B_closes_39 ihr h x2 x3 v1 hx2 hx3 h1 (fun y e => hret y (g12 y (Option.some.inj e).symm)) (fun s12 hz12 ok12 => ?_) LF v2 σ h13 ok e12)
      have hf := hk12 s12 (Option.some.inj hz12).symm
      refine SW_iconst h (dt t_B_closes 78 rfl) ?_
      exact SW_zret h (hret _ hf) (by decide) rfl (dt t_B_closes 79 rfl)
    · refine SW_aload_n h rfl (dt t_B_closes 9 rfl) ?_
      refine SW_iload h rfl (dt t_B_closes 10 rfl) ?_
      refine SW_bipush h (dt t_B_closes 11 rfl) (by decide) ?_
      refine SW_imul h (dt t_B_closes 12 rfl) ?_
      refine SW_aload_n h rfl (dt t_B_closes 13 rfl) ?_
      refine SW_iconst h (dt t_B_closes 14 rfl) ?_
      refine aIk h a131 (by decide) (dt t_B_closes 15 rfl) ?_
      refine SW_iadd h (dt t_B_closes 16 rfl) ?_
      refine aI h a132 (dt t_B_closes 17 rfl) hf (fun hf => ?_)
      refine SW_if_le (tgt := 30) h (fun _ => (okI ok 132 (((v1 * 6) + (σ 131 0)).toNat) (IsA.n3 a132 (by decide)))) (dt t_B_closes 18 rfl) rfl hf (fun hf => ?_) (fun hf => ?_)
      · refine SW_iconst h (dt t_B_closes 21 rfl) ?_
        exact SW_zret h (hret _ hf) (by decide) rfl (dt t_B_closes 22 rfl)
      · refine SW_iconst h (dt t_B_closes 19 rfl) ?_
        refine SW_goto (tgt := 31) h (dt t_B_closes 20 rfl) rfl ?_
        exact SW_zret h (hret _ hf) (by decide) rfl (dt t_B_closes 22 rfl)
def b_B_leastAround : List (Nat × Instr × Nat) := [(0, .ldc 47, 2), (2, .istore_n 2, 1), (3, .iconst 0, 1), (4, .istore_n 3, 1), (5, .iload_n 3, 1), (6, .iload_n 1, 1), (7, .if_icmp .ge 39, 3), (10, .iload_n 2, 1), (11, .aload_n 0, 1), (12, .getfield 18, 3), (15, .aload_n 0, 1), (16, .getfield 15, 3), (19, .iload_n 3, 1), (20, .iaload, 1), (21, .bipush 6, 2), (23, .imul, 1), (24, .aload_n 0, 1), (25, .getfield 15, 3), (28, .iload_n 3, 1), (29, .iconst 1, 1), (30, .iadd, 1), (31, .iload_n 1, 1), (32, .irem, 1), (33, .iaload, 1), (34, .iadd, 1), (35, .iaload, 1), (36, .invokestatic 48, 3), (39, .istore_n 2, 1), (40, .iinc 3 1, 3), (43, .goto (-38), 3), (46, .iload_n 2, 1), (47, .ireturn, 1)]
theorem t_B_leastAround : DT cX0_leastAround b_B_leastAround := DT.of (by decide +kernel)
def L_B_leastAround_5 : Nat → Int → Int → Int → Mm → Option (Int)
  | 0, _, _, _, _ => none
  | n + 1, x1, x2, x3, σ =>
    if x1 ≤ x3 then
      some x2
    else
      if 0 ≤ x3 ∧ x3 < 6 then
        if r32 (x3 + 1) then
          if ¬ x1 = 0 then
            if 0 ≤ (x3 + 1).tmod x1 ∧ (x3 + 1).tmod x1 < 6 then
              if 0 ≤ ((σ 131 x3.toNat) * 6) + (σ 131 (((x3 + 1).tmod x1).toNat)) ∧ ((σ 131 x3.toNat) * 6) + (σ 131 (((x3 + 1).tmod x1).toNat)) < 36 then
                bindM (min x2 (σ 132 ((((σ 131 x3.toNat) * 6) + (σ 131 (((x3 + 1).tmod x1).toNat))).toNat))) fun v4 =>
                if r32 (x3 + 1) then
                  L_B_leastAround_5 n x1 v4 (x3 + 1) σ
                else none
              else none
            else none
          else none
        else none
      else none
set_option maxRecDepth 100000 in
set_option maxHeartbeats 4000000 in
theorem l_B_leastAround_5 {X : Cx} (h : CX X 0 cX0_leastAround 4 3 (some .int) RX0) (x1 : Int) (σ : Mm) (hx1 : r32 x1) (ok : okM σ) {res : Int} (hex : ∀ (x2 : Int) (hz : some x2 = some res) (hx2 : r32 x2), SW X 0 4 46 [none, none, some (.int (i32 x2)), none] [] σ) : ∀ (n : Nat) (x2 : Int) (x3 : Int) (hx2 : r32 x2) (hx3 : r32 x3) (hf : L_B_leastAround_5 n x1 x2 x3 σ = some res), SW X 0 4 5 [some (.ref (xad X 129)), some (.int (i32 x1)), some (.int (i32 x2)), some (.int (i32 x3))] [] σ := by
  intro n
  induction n with
  | zero => intro x2 x3 hx2 hx3 hf; exact absurd hf (by simp [L_B_leastAround_5])
  | succ n ih =>
    intro x2 x3 hx2 hx3 hf
    rw [L_B_leastAround_5] at hf
    refine SW_iload_n h rfl (dt t_B_leastAround 4 rfl) ?_
    refine SW_iload_n h rfl (dt t_B_leastAround 5 rfl) ?_
    refine SW_icmp_ge (tgt := 46) h (fun _ => hx3) (fun _ => hx1) (dt t_B_leastAround 6 rfl) rfl hf (fun hf => ?_) (fun hf => ?_)
    · exact SW_fgt [false, false, true, false] rfl (hex x2 hf hx2)
    · refine SW_iload_n h rfl (dt t_B_leastAround 7 rfl) ?_
      refine SW_aload_n h rfl (dt t_B_leastAround 8 rfl) ?_
      refine gR h cf0 o129 f0_2 j129_2 lX0_18 (dt t_B_leastAround 9 rfl) ?_
      refine SW_aload_n h rfl (dt t_B_leastAround 10 rfl) ?_
      refine gR h cf0 o129 f0_1 j129_1 lX0_15 (dt t_B_leastAround 11 rfl) ?_
      refine SW_iload_n h rfl (dt t_B_leastAround 12 rfl) ?_
      refine aI h a131 (dt t_B_leastAround 13 rfl) hf (fun hf => ?_)
      refine SW_bipush h (dt t_B_leastAround 14 rfl) (by decide) ?_
      refine SW_imul h (dt t_B_leastAround 15 rfl) ?_
      refine SW_aload_n h rfl (dt t_B_leastAround 16 rfl) ?_
      refine gR h cf0 o129 f0_1 j129_1 lX0_15 (dt t_B_leastAround 17 rfl) ?_
      refine SW_iload_n h rfl (dt t_B_leastAround 18 rfl) ?_
      refine SW_iconst h (dt t_B_leastAround 19 rfl) ?_
      refine SW_iadd h (dt t_B_leastAround 20 rfl) ?_
      refine SW_iload_n h rfl (dt t_B_leastAround 21 rfl) ?_
      refine SW_chk hf (fun h1 hf => ?_)
      refine SW_chk hf (fun h2 hf => ?_)
      refine SW_irem h (fun _ => h1) (fun _ => hx1) h2 (dt t_B_leastAround 22 rfl) ?_
      refine aI h a131 (dt t_B_leastAround 23 rfl) hf (fun hf => ?_)
      refine SW_iadd h (dt t_B_leastAround 24 rfl) ?_
      refine aI h a132 (dt t_B_leastAround 25 rfl) hf (fun hf => ?_)
      refine SW_min h kX0_48 hx2 (okI ok 132 ((((σ 131 x3.toNat) * 6) + (σ 131 (((x3 + 1).tmod x1).toNat))).toNat) (IsA.n3 a132 (by decide))) (Nat.le_of_ble_eq_true rfl) (dt t_B_leastAround 26 rfl) ?_
      refine SW_vi hf (r_min hx2 (okI ok 132 ((((σ 131 x3.toNat) * 6) + (σ 131 (((x3 + 1).tmod x1).toNat))).toNat) (IsA.n3 a132 (by decide)))) (fun v4 h4 hf => ?_)
      refine SW_istore_n (lv2 := [some (.ref (xad X 129)), some (.int (i32 x1)), some (.int (i32 v4)), some (.int (i32 x3))]) h (dt t_B_leastAround 27 rfl) (by decide) rfl ?_
      refine SW_iinc (lv2 := [some (.ref (xad X 129)), some (.int (i32 x1)), some (.int (i32 v4)), some (.int (i32 (x3 + 1)))]) h (dt t_B_leastAround 28 rfl) rfl (by decide) rfl ?_
      refine SW_goto (tgt := 5) h (dt t_B_leastAround 29 rfl) rfl ?_
      refine SW_chk hf (fun h5 hf => ?_)
      exact SW_fgt [true, true, true, true] rfl (ih v4 (x3 + 1) h4 h5 hf)
def F_B_leastAround (x1 : Int) (σ : Mm) : Option (Int) :=
  b1 (L_B_leastAround_5 LF x1 10000000 0 σ) fun x2_6 =>
  some x2_6
set_option maxRecDepth 100000 in
set_option maxHeartbeats 4000000 in
theorem c_B_leastAround (x1 : Int) (hx1 : r32 x1) {σ : Mm} {a : Int} (hf : F_B_leastAround x1 σ = some a) : CT yX0_leastAround cX0_leastAround 4 (some .int) 3 0 (fun ad => [.ref (ad 129), .int (i32 x1)]) σ (r32 a) (some (.int (i32 a))) σ := by
  refine MetJ 2 (by decide +kernel) rfl (fun _ => Nat.le_of_ble_eq_true rfl) ?_
  intro X h hR ok
  obtain ⟨res, er⟩ : ∃ z, z = a := ⟨_, rfl⟩
  have hret : ∀ y : Int, some y = some res → RX X 0 (r32 (y)) (some (.int (i32 (y)))) σ := fun y e => by cases e; cases er; exact hR
  rw [← er] at hf
  clear er hR
  unfold F_B_leastAround at hf
  show SW X 0 4 0 [some (.ref (xad X 129)), some (.int (i32 x1)), none, none] [] σ
  refine SW_ldc (n := 10000000) h nX0_47 (by decide) (dt t_B_leastAround 0 rfl) ?_
  refine SW_istore_n (lv2 := [some (.ref (xad X 129)), some (.int (i32 x1)), some (.int (i32 10000000)), none]) h (dt t_B_leastAround 1 rfl) (by decide) rfl ?_
  refine SW_iconst h (dt t_B_leastAround 2 rfl) ?_
  refine SW_istore_n (lv2 := [some (.ref (xad X 129)), some (.int (i32 x1)), some (.int (i32 10000000)), some (.int (i32 0))]) h (dt t_B_leastAround 3 rfl) (by decide) rfl ?_
  obtain ⟨z6, e6, hk6⟩ := b1_ex hf
  refine SW_fgt [true, true, true, true] rfl (l_B_leastAround_5 h x1 σ hx1 ok (fun x2_6 hz6 hx2_6 => ?_) LF 10000000 0 (by decide) (by decide) e6)
  have hf := hk6 x2_6 hz6
  refine SW_iload_n h rfl (dt t_B_leastAround 30 rfl) ?_
  exact SW_iret h (hret _ hf) (fun _ => hx2_6) rfl (dt t_B_leastAround 31 rfl)
def b_J_fresh : List (Nat × Instr × Nat) := [(0, .aload_n 0, 1), (1, .dup, 1), (2, .getfield 27, 3), (5, .iconst 1, 1), (6, .iadd, 1), (7, .putfield 27, 3), (10, .return_, 1)]
theorem t_J_fresh : DT cX4_fresh b_J_fresh := DT.of (by decide +kernel)
def F_J_fresh  (σ : Mm) : Option (Mm) :=
  if r32 ((σ 2 5) + 1) then
    bindM (st2 σ 2 5 ((σ 2 5) + 1)) fun s3 =>
    some s3
  else none
set_option maxRecDepth 100000 in
set_option maxHeartbeats 4000000 in
theorem c_J_fresh  {σ : Mm} {σ2 : Mm} (hf : F_J_fresh  σ = some σ2) : CT yX4_fresh cX4_fresh 1 none 0 0 (fun ad => [.ref (ad 2)]) σ True none σ2 := by
  refine MetJ 0 (by decide +kernel) rfl (fun _ => Nat.le_of_ble_eq_true rfl) ?_
  intro X h hR ok
  obtain ⟨res, er⟩ : ∃ z, z = σ2 := ⟨_, rfl⟩
  have hret : ∀ y : Mm, some y = some res → RX X 0 True none y := fun y e => by cases e; cases er; exact hR
  rw [← er] at hf
  clear er hR
  unfold F_J_fresh at hf
  show SW X 0 1 0 [some (.ref (xad X 2))] [] σ
  refine SW_aload_n h rfl (dt t_J_fresh 0 rfl) ?_
  refine SW_dup h rfl (dt t_J_fresh 1 rfl) ?_
  refine gI h cf4 o2 f4_5 lX4_27 (dt t_J_fresh 2 rfl) ?_
  refine SW_iconst h (dt t_J_fresh 3 rfl) ?_
  refine SW_iadd h (dt t_J_fresh 4 rfl) ?_
  refine SW_chk hf (fun h2 hf => ?_)
  refine pI h cf4 o2 f4_5 h2 lX4_27 (dt t_J_fresh 5 rfl) (SW_bm hf (fun s3 ok3 hf => ?_))
  exact SW_vret h (hret _ hf) rfl (dt t_J_fresh 6 rfl)
def b_T_has : List (Nat × Instr × Nat) := [(0, .aload_n 0, 1), (1, .getfield 18, 3), (4, .iload_n 1, 1), (5, .iaload, 1), (6, .aload_n 0, 1), (7, .getfield 15, 3), (10, .iload_n 1, 1), (11, .iaload, 1), (12, .if_icmp .le 7, 3), (15, .iconst 1, 1), (16, .goto 4, 3), (19, .iconst 0, 1), (20, .ireturn, 1)]
theorem t_T_has : DT cX9_has b_T_has := DT.of (by decide +kernel)
def F_T_has (r0 : Nat) (x1 : Int) (σ : Mm) : Option (Int) :=
  if 0 ≤ x1 ∧ x1 < 3 then
    if 0 ≤ x1 ∧ x1 < 3 then
      if σ (r0 + 12) x1.toNat ≤ σ (r0 + 8) x1.toNat then
        some 0
      else
        some 1
    else none
  else none
set_option maxRecDepth 100000 in
set_option maxHeartbeats 4000000 in
theorem c_T_has (r0 : Nat) (q0 : IsO 0 9 r0) (x1 : Int) (hx1 : r32 x1) {σ : Mm} {a : Int} (hf : F_T_has r0 x1 σ = some a) : CT yX9_has cX9_has 2 (some .boolean) 0 0 (fun ad => [.ref (ad r0), .int (i32 x1)]) σ (a = 0 ∨ a = 1) (some (.int (i32 a))) σ := by
  refine MetJ 0 (by decide +kernel) rfl (fun _ => Nat.le_of_ble_eq_true rfl) ?_
  intro X h hR ok
  obtain ⟨res, er⟩ : ∃ z, z = a := ⟨_, rfl⟩
  have hret : ∀ y : Int, some y = some res → RX X 0 (y = 0 ∨ y = 1) (some (.int (i32 (y)))) σ := fun y e => by cases e; cases er; exact hR
  rw [← er] at hf
  clear er hR
  unfold F_T_has at hf
  show SW X 0 2 0 [some (.ref (xad X r0)), some (.int (i32 x1))] [] σ
  refine SW_aload_n h rfl (dt t_T_has 0 rfl) ?_
  refine gR h cf9 q0 f9_2 (dy9_2 q0).1 lX9_18 (dt t_T_has 1 rfl) ?_
  refine SW_iload_n h rfl (dt t_T_has 2 rfl) ?_
  refine aI h (dy9_2 q0).2 (dt t_T_has 3 rfl) hf (fun hf => ?_)
  refine SW_aload_n h rfl (dt t_T_has 4 rfl) ?_
  refine gR h cf9 q0 f9_1 (dy9_1 q0).1 lX9_15 (dt t_T_has 5 rfl) ?_
  refine SW_iload_n h rfl (dt t_T_has 6 rfl) ?_
  refine aI h (dy9_1 q0).2 (dt t_T_has 7 rfl) hf (fun hf => ?_)
  refine SW_icmp_le (tgt := 19) h (fun _ => (okI ok (r0 + 12) x1.toNat (IsA.n3 (dy9_2 q0).2 (by decide)))) (fun _ => (okI ok (r0 + 8) x1.toNat (IsA.n3 (dy9_1 q0).2 (by decide)))) (dt t_T_has 8 rfl) rfl hf (fun hf => ?_) (fun hf => ?_)
  · refine SW_iconst h (dt t_T_has 11 rfl) ?_
    exact SW_zret h (hret _ hf) (by decide) rfl (dt t_T_has 12 rfl)
  · refine SW_iconst h (dt t_T_has 9 rfl) ?_
    refine SW_goto (tgt := 20) h (dt t_T_has 10 rfl) rfl ?_
    exact SW_zret h (hret _ hf) (by decide) rfl (dt t_T_has 12 rfl)
def b_J_combine : List (Nat × Instr × Nat) := [(0, .iload_n 0, 1), (1, .tableswitch 222 20000 20013 #[71, 90, 102, 114, 128, 142, 153, 164, 175, 186, 197, 208, 212, 216], 71), (72, .ldc2_w 67, 3), (75, .ldc2_w 69, 3), (78, .iload_n 1, 1), (79, .i2l, 1), (80, .iload_n 2, 1), (81, .i2l, 1), (82, .lmul, 1), (83, .invokestatic 71, 3), (86, .invokestatic 74, 3), (89, .l2i, 1), (90, .ireturn, 1), (91, .iload_n 2, 1), (92, .ifCond .ne 7, 3), (95, .iconst 0, 1), (96, .goto 6, 3), (99, .iload_n 1, 1), (100, .iload_n 2, 1), (101, .idiv, 1), (102, .ireturn, 1), (103, .iload_n 2, 1), (104, .ifCond .ne 7, 3), (107, .iconst 0, 1), (108, .goto 6, 3), (111, .iload_n 1, 1), (112, .iload_n 2, 1), (113, .irem, 1), (114, .ireturn, 1), (115, .ldc 76, 2), (117, .ldc 77, 2), (119, .iload_n 1, 1), (120, .iload_n 2, 1), (121, .iadd, 1), (122, .invokestatic 45, 3), (125, .invokestatic 51, 3), (128, .ireturn, 1), (129, .ldc 76, 2), (131, .ldc 77, 2), (133, .iload_n 1, 1), (134, .iload_n 2, 1), (135, .isub, 1), (136, .invokestatic 45, 3), (139, .invokestatic 51, 3), (142, .ireturn, 1), (143, .iload_n 1, 1), (144, .iload_n 2, 1), (145, .if_icmp .ge 7, 3), (148, .iconst 1, 1), (149, .goto 4, 3), (152, .iconst 0, 1), (153, .ireturn, 1), (154, .iload_n 1, 1), (155, .iload_n 2, 1), (156, .if_icmp .gt 7, 3), (159, .iconst 1, 1), (160, .goto 4, 3), (163, .iconst 0, 1), (164, .ireturn, 1), (165, .iload_n 1, 1), (166, .iload_n 2, 1), (167, .if_icmp .le 7, 3), (170, .iconst 1, 1), (171, .goto 4, 3), (174, .iconst 0, 1), (175, .ireturn, 1), (176, .iload_n 1, 1), (177, .iload_n 2, 1), (178, .if_icmp .lt 7, 3), (181, .iconst 1, 1), (182, .goto 4, 3), (185, .iconst 0, 1), (186, .ireturn, 1), (187, .iload_n 1, 1), (188, .iload_n 2, 1), (189, .if_icmp .ne 7, 3), (192, .iconst 1, 1), (193, .goto 4, 3), (196, .iconst 0, 1), (197, .ireturn, 1), (198, .iload_n 1, 1), (199, .iload_n 2, 1), (200, .if_icmp .eq 7, 3), (203, .iconst 1, 1), (204, .goto 4, 3), (207, .iconst 0, 1), (208, .ireturn, 1), (209, .iload_n 1, 1), (210, .iload_n 2, 1), (211, .iand, 1), (212, .ireturn, 1), (213, .iload_n 1, 1), (214, .iload_n 2, 1), (215, .ior, 1), (216, .ireturn, 1), (217, .iload_n 1, 1), (218, .iload_n 2, 1), (219, .invokestatic 51, 3), (222, .ireturn, 1), (223, .iload_n 1, 1), (224, .iload_n 2, 1), (225, .invokestatic 45, 3), (228, .ireturn, 1)]
theorem t_J_combine : DT cX4_combine b_J_combine := DT.of (by decide +kernel)
def F_J_combine (x0 : Int) (x1 : Int) (x2 : Int) : Option (Int) :=
  if x0 = 20000 then
    if r64 (x1 * x2) then
      some (l2iI (max ((-1000000)) (min 1000000 (x1 * x2))))
    else none
  else
    if x0 = 20001 then
      if x2 = 0 then
        some 0
      else
        if ¬ x2 = 0 then
          if r32 (x1.tdiv x2) then
            some (x1.tdiv x2)
          else none
        else none
    else
      if x0 = 20002 then
        if x2 = 0 then
          some 0
        else
          if ¬ x2 = 0 then
            if r32 (x1.tmod x2) then
              some (x1.tmod x2)
            else none
          else none
      else
        if x0 = 20003 then
          if r32 (x1 + x2) then
            some (max ((-1000000)) (min 1000000 (x1 + x2)))
          else none
        else
          if x0 = 20004 then
            if r32 (x1 - x2) then
              some (max ((-1000000)) (min 1000000 (x1 - x2)))
            else none
          else
            if x0 = 20005 then
              if x2 ≤ x1 then
                some 0
              else
                some 1
            else
              if x0 = 20006 then
                if x2 < x1 then
                  some 0
                else
                  some 1
              else
                if x0 = 20007 then
                  if x1 ≤ x2 then
                    some 0
                  else
                    some 1
                else
                  if x0 = 20008 then
                    if x1 < x2 then
                      some 0
                    else
                      some 1
                  else
                    if x0 = 20009 then
                      if x1 = x2 then
                        some 1
                      else
                        some 0
                    else
                      if x0 = 20010 then
                        if x1 = x2 then
                          some 0
                        else
                          some 1
                      else
                        if x0 = 20011 then
                          some (iand x1 x2)
                        else
                          if x0 = 20012 then
                            some (ior x1 x2)
                          else
                            if x0 = 20013 then
                              some (max x1 x2)
                            else
                              some (min x1 x2)
set_option maxRecDepth 100000 in
set_option maxHeartbeats 4000000 in
theorem c_J_combine (x0 : Int) (hx0 : r32 x0) (x1 : Int) (hx1 : r32 x1) (x2 : Int) (hx2 : r32 x2) {σ : Mm} {a : Int} (hf : F_J_combine x0 x1 x2 = some a) : CT yX4_combine cX4_combine 3 (some .int) 3 0 (fun ad => [.int (i32 x0), .int (i32 x1), .int (i32 x2)]) σ (r32 a) (some (.int (i32 a))) σ := by
  refine MetJ 0 (by decide +kernel) rfl (fun _ => Nat.le_of_ble_eq_true rfl) ?_
  intro X h hR ok
  obtain ⟨res, er⟩ : ∃ z, z = a := ⟨_, rfl⟩
  have hret : ∀ y : Int, some y = some res → RX X 0 (r32 (y)) (some (.int (i32 (y)))) σ := fun y e => by cases e; cases er; exact hR
  rw [← er] at hf
  clear er hR
  unfold F_J_combine at hf
  show SW X 0 3 0 [some (.int (i32 x0)), some (.int (i32 x1)), some (.int (i32 x2))] [] σ
  refine SW_iload_n h rfl (dt t_J_combine 0 rfl) ?_
  refine SW_ite hf (fun h1 hf => ?_) (fun h1 hf => ?_)
  · refine SW_tabIn (tgt := 72) h 0 (fun _ => hx0) (dt t_J_combine 1 rfl) (h1.trans rfl) (by decide) rfl rfl ?_
    refine SW_ldc2 (n := -1000000) h nX4_67 (by decide) (dt t_J_combine 2 rfl) ?_
    refine SW_ldc2 (n := 1000000) h nX4_69 (by decide) (dt t_J_combine 3 rfl) ?_
    refine SW_iload_n h rfl (dt t_J_combine 4 rfl) ?_
    refine SW_i2l h (fun _ => hx1) (dt t_J_combine 5 rfl) ?_
    refine SW_iload_n h rfl (dt t_J_combine 6 rfl) ?_
    refine SW_i2l h (fun _ => hx2) (dt t_J_combine 7 rfl) ?_
    refine SW_lmul h (dt t_J_combine 8 rfl) ?_
    refine SW_chk hf (fun h3 hf => ?_)
    refine SW_lmin h kX4_71 (by decide) h3 (Nat.le_of_ble_eq_true rfl) (dt t_J_combine 9 rfl) ?_
    refine SW_lmax h kX4_74 (by decide) (r_lmin (by decide) h3) (Nat.le_of_ble_eq_true rfl) (dt t_J_combine 10 rfl) ?_
    refine SW_l2i h (dt t_J_combine 11 rfl) ?_
    exact SW_iret h (hret _ hf) (fun _ => (r_l2i _)) rfl (dt t_J_combine 12 rfl)
  · refine SW_ite hf (fun h5 hf => ?_) (fun h5 hf => ?_)
    · refine SW_tabIn (tgt := 91) h 1 (fun _ => hx0) (dt t_J_combine 1 rfl) (h5.trans rfl) (by decide) rfl rfl ?_
      refine SW_iload_n h rfl (dt t_J_combine 13 rfl) ?_
      refine SW_if_ne (tgt := 99) h (fun _ => hx2) (dt t_J_combine 14 rfl) rfl hf (fun hf => ?_) (fun hf => ?_)
      · refine SW_iconst h (dt t_J_combine 15 rfl) ?_
        refine SW_goto (tgt := 102) h (dt t_J_combine 16 rfl) rfl ?_
        exact SW_iret h (hret _ hf) (fun _ => (by decide)) rfl (dt t_J_combine 20 rfl)
      · refine SW_iload_n h rfl (dt t_J_combine 17 rfl) ?_
        refine SW_iload_n h rfl (dt t_J_combine 18 rfl) ?_
        refine SW_chk hf (fun h6 hf => ?_)
        refine SW_idiv h (fun _ => hx1) (fun _ => hx2) h6 (dt t_J_combine 19 rfl) ?_
        refine SW_chk hf (fun h7 hf => ?_)
        exact SW_iret h (hret _ hf) (fun _ => h7) rfl (dt t_J_combine 20 rfl)
    · refine SW_ite hf (fun h8 hf => ?_) (fun h8 hf => ?_)
      · refine SW_tabIn (tgt := 103) h 2 (fun _ => hx0) (dt t_J_combine 1 rfl) (h8.trans rfl) (by decide) rfl rfl ?_
        refine SW_iload_n h rfl (dt t_J_combine 21 rfl) ?_
        refine SW_if_ne (tgt := 111) h (fun _ => hx2) (dt t_J_combine 22 rfl) rfl hf (fun hf => ?_) (fun hf => ?_)
        · refine SW_iconst h (dt t_J_combine 23 rfl) ?_
          refine SW_goto (tgt := 114) h (dt t_J_combine 24 rfl) rfl ?_
          exact SW_iret h (hret _ hf) (fun _ => (by decide)) rfl (dt t_J_combine 28 rfl)
        · refine SW_iload_n h rfl (dt t_J_combine 25 rfl) ?_
          refine SW_iload_n h rfl (dt t_J_combine 26 rfl) ?_
          refine SW_chk hf (fun h9 hf => ?_)
          refine SW_irem h (fun _ => hx1) (fun _ => hx2) h9 (dt t_J_combine 27 rfl) ?_
          refine SW_chk hf (fun h10 hf => ?_)
          exact SW_iret h (hret _ hf) (fun _ => h10) rfl (dt t_J_combine 28 rfl)
      · refine SW_ite hf (fun h11 hf => ?_) (fun h11 hf => ?_)
        · refine SW_tabIn (tgt := 115) h 3 (fun _ => hx0) (dt t_J_combine 1 rfl) (h11.trans rfl) (by decide) rfl rfl ?_
          refine SW_ldc (n := -1000000) h nX4_76 (by decide) (dt t_J_combine 29 rfl) ?_
          refine SW_ldc (n := 1000000) h nX4_77 (by decide) (dt t_J_combine 30 rfl) ?_
          refine SW_iload_n h rfl (dt t_J_combine 31 rfl) ?_
          refine SW_iload_n h rfl (dt t_J_combine 32 rfl) ?_
          refine SW_iadd h (dt t_J_combine 33 rfl) ?_
          refine SW_chk hf (fun h13 hf => ?_)
          refine SW_min h kX4_45 (by decide) h13 (Nat.le_of_ble_eq_true rfl) (dt t_J_combine 34 rfl) ?_
          refine SW_max h kX4_51 (by decide) (r_min (by decide) h13) (Nat.le_of_ble_eq_true rfl) (dt t_J_combine 35 rfl) ?_
          exact SW_iret h (hret _ hf) (fun _ => (r_max (by decide) (r_min (by decide) h13))) rfl (dt t_J_combine 36 rfl)
        · refine SW_ite hf (fun h15 hf => ?_) (fun h15 hf => ?_)
          · refine SW_tabIn (tgt := 129) h 4 (fun _ => hx0) (dt t_J_combine 1 rfl) (h15.trans rfl) (by decide) rfl rfl ?_
            refine SW_ldc (n := -1000000) h nX4_76 (by decide) (dt t_J_combine 37 rfl) ?_
            refine SW_ldc (n := 1000000) h nX4_77 (by decide) (dt t_J_combine 38 rfl) ?_
            refine SW_iload_n h rfl (dt t_J_combine 39 rfl) ?_
            refine SW_iload_n h rfl (dt t_J_combine 40 rfl) ?_
            refine SW_isub h (dt t_J_combine 41 rfl) ?_
            refine SW_chk hf (fun h17 hf => ?_)
            refine SW_min h kX4_45 (by decide) h17 (Nat.le_of_ble_eq_true rfl) (dt t_J_combine 42 rfl) ?_
            refine SW_max h kX4_51 (by decide) (r_min (by decide) h17) (Nat.le_of_ble_eq_true rfl) (dt t_J_combine 43 rfl) ?_
            exact SW_iret h (hret _ hf) (fun _ => (r_max (by decide) (r_min (by decide) h17))) rfl (dt t_J_combine 44 rfl)
          · refine SW_ite hf (fun h19 hf => ?_) (fun h19 hf => ?_)
            · refine SW_tabIn (tgt := 143) h 5 (fun _ => hx0) (dt t_J_combine 1 rfl) (h19.trans rfl) (by decide) rfl rfl ?_
              refine SW_iload_n h rfl (dt t_J_combine 45 rfl) ?_
              refine SW_iload_n h rfl (dt t_J_combine 46 rfl) ?_
              refine SW_icmp_ge (tgt := 152) h (fun _ => hx1) (fun _ => hx2) (dt t_J_combine 47 rfl) rfl hf (fun hf => ?_) (fun hf => ?_)
              · refine SW_iconst h (dt t_J_combine 50 rfl) ?_
                exact SW_iret h (hret _ hf) (fun _ => (by decide)) rfl (dt t_J_combine 51 rfl)
              · refine SW_iconst h (dt t_J_combine 48 rfl) ?_
                refine SW_goto (tgt := 153) h (dt t_J_combine 49 rfl) rfl ?_
                exact SW_iret h (hret _ hf) (fun _ => (by decide)) rfl (dt t_J_combine 51 rfl)
            · refine SW_ite hf (fun h20 hf => ?_) (fun h20 hf => ?_)
              · refine SW_tabIn (tgt := 154) h 6 (fun _ => hx0) (dt t_J_combine 1 rfl) (h20.trans rfl) (by decide) rfl rfl ?_
                refine SW_iload_n h rfl (dt t_J_combine 52 rfl) ?_
                refine SW_iload_n h rfl (dt t_J_combine 53 rfl) ?_
                refine SW_icmp_gt (tgt := 163) h (fun _ => hx1) (fun _ => hx2) (dt t_J_combine 54 rfl) rfl hf (fun hf => ?_) (fun hf => ?_)
                · refine SW_iconst h (dt t_J_combine 57 rfl) ?_
                  exact SW_iret h (hret _ hf) (fun _ => (by decide)) rfl (dt t_J_combine 58 rfl)
                · refine SW_iconst h (dt t_J_combine 55 rfl) ?_
                  refine SW_goto (tgt := 164) h (dt t_J_combine 56 rfl) rfl ?_
                  exact SW_iret h (hret _ hf) (fun _ => (by decide)) rfl (dt t_J_combine 58 rfl)
              · refine SW_ite hf (fun h21 hf => ?_) (fun h21 hf => ?_)
                · refine SW_tabIn (tgt := 165) h 7 (fun _ => hx0) (dt t_J_combine 1 rfl) (h21.trans rfl) (by decide) rfl rfl ?_
                  refine SW_iload_n h rfl (dt t_J_combine 59 rfl) ?_
                  refine SW_iload_n h rfl (dt t_J_combine 60 rfl) ?_
                  refine SW_icmp_le (tgt := 174) h (fun _ => hx1) (fun _ => hx2) (dt t_J_combine 61 rfl) rfl hf (fun hf => ?_) (fun hf => ?_)
                  · refine SW_iconst h (dt t_J_combine 64 rfl) ?_
                    exact SW_iret h (hret _ hf) (fun _ => (by decide)) rfl (dt t_J_combine 65 rfl)
                  · refine SW_iconst h (dt t_J_combine 62 rfl) ?_
                    refine SW_goto (tgt := 175) h (dt t_J_combine 63 rfl) rfl ?_
                    exact SW_iret h (hret _ hf) (fun _ => (by decide)) rfl (dt t_J_combine 65 rfl)
                · refine SW_ite hf (fun h22 hf => ?_) (fun h22 hf => ?_)
                  · refine SW_tabIn (tgt := 176) h 8 (fun _ => hx0) (dt t_J_combine 1 rfl) (h22.trans rfl) (by decide) rfl rfl ?_
                    refine SW_iload_n h rfl (dt t_J_combine 66 rfl) ?_
                    refine SW_iload_n h rfl (dt t_J_combine 67 rfl) ?_
                    refine SW_icmp_lt (tgt := 185) h (fun _ => hx1) (fun _ => hx2) (dt t_J_combine 68 rfl) rfl hf (fun hf => ?_) (fun hf => ?_)
                    · refine SW_iconst h (dt t_J_combine 71 rfl) ?_
                      exact SW_iret h (hret _ hf) (fun _ => (by decide)) rfl (dt t_J_combine 72 rfl)
                    · refine SW_iconst h (dt t_J_combine 69 rfl) ?_
                      refine SW_goto (tgt := 186) h (dt t_J_combine 70 rfl) rfl ?_
                      exact SW_iret h (hret _ hf) (fun _ => (by decide)) rfl (dt t_J_combine 72 rfl)
                  · refine SW_ite hf (fun h23 hf => ?_) (fun h23 hf => ?_)
                    · refine SW_tabIn (tgt := 187) h 9 (fun _ => hx0) (dt t_J_combine 1 rfl) (h23.trans rfl) (by decide) rfl rfl ?_
                      refine SW_iload_n h rfl (dt t_J_combine 73 rfl) ?_
                      refine SW_iload_n h rfl (dt t_J_combine 74 rfl) ?_
                      refine SW_icmp_ne (tgt := 196) h (fun _ => hx1) (fun _ => hx2) (dt t_J_combine 75 rfl) rfl hf (fun hf => ?_) (fun hf => ?_)
                      · refine SW_iconst h (dt t_J_combine 76 rfl) ?_
                        refine SW_goto (tgt := 197) h (dt t_J_combine 77 rfl) rfl ?_
                        exact SW_iret h (hret _ hf) (fun _ => (by decide)) rfl (dt t_J_combine 79 rfl)
                      · refine SW_iconst h (dt t_J_combine 78 rfl) ?_
                        exact SW_iret h (hret _ hf) (fun _ => (by decide)) rfl (dt t_J_combine 79 rfl)
                    · refine SW_ite hf (fun h24 hf => ?_) (fun h24 hf => ?_)
                      · refine SW_tabIn (tgt := 198) h 10 (fun _ => hx0) (dt t_J_combine 1 rfl) (h24.trans rfl) (by decide) rfl rfl ?_
                        refine SW_iload_n h rfl (dt t_J_combine 80 rfl) ?_
                        refine SW_iload_n h rfl (dt t_J_combine 81 rfl) ?_
                        refine SW_icmp_eq (tgt := 207) h (fun _ => hx1) (fun _ => hx2) (dt t_J_combine 82 rfl) rfl hf (fun hf => ?_) (fun hf => ?_)
                        · refine SW_iconst h (dt t_J_combine 85 rfl) ?_
                          exact SW_iret h (hret _ hf) (fun _ => (by decide)) rfl (dt t_J_combine 86 rfl)
                        · refine SW_iconst h (dt t_J_combine 83 rfl) ?_
                          refine SW_goto (tgt := 208) h (dt t_J_combine 84 rfl) rfl ?_
                          exact SW_iret h (hret _ hf) (fun _ => (by decide)) rfl (dt t_J_combine 86 rfl)
                      · refine SW_ite hf (fun h25 hf => ?_) (fun h25 hf => ?_)
                        · refine SW_tabIn (tgt := 209) h 11 (fun _ => hx0) (dt t_J_combine 1 rfl) (h25.trans rfl) (by decide) rfl rfl ?_
                          refine SW_iload_n h rfl (dt t_J_combine 87 rfl) ?_
                          refine SW_iload_n h rfl (dt t_J_combine 88 rfl) ?_
                          refine SW_iand h (dt t_J_combine 89 rfl) ?_
                          exact SW_iret h (hret _ hf) (fun _ => (r_iand _ _)) rfl (dt t_J_combine 90 rfl)
                        · refine SW_ite hf (fun h26 hf => ?_) (fun h26 hf => ?_)
                          · refine SW_tabIn (tgt := 213) h 12 (fun _ => hx0) (dt t_J_combine 1 rfl) (h26.trans rfl) (by decide) rfl rfl ?_
                            refine SW_iload_n h rfl (dt t_J_combine 91 rfl) ?_
                            refine SW_iload_n h rfl (dt t_J_combine 92 rfl) ?_
                            refine SW_ior h (dt t_J_combine 93 rfl) ?_
                            exact SW_iret h (hret _ hf) (fun _ => (r_ior _ _)) rfl (dt t_J_combine 94 rfl)
                          · refine SW_ite hf (fun h27 hf => ?_) (fun h27 hf => ?_)
                            · refine SW_tabIn (tgt := 217) h 13 (fun _ => hx0) (dt t_J_combine 1 rfl) (h27.trans rfl) (by decide) rfl rfl ?_
                              refine SW_iload_n h rfl (dt t_J_combine 95 rfl) ?_
                              refine SW_iload_n h rfl (dt t_J_combine 96 rfl) ?_
                              refine SW_max h kX4_51 hx1 hx2 (Nat.le_of_ble_eq_true rfl) (dt t_J_combine 97 rfl) ?_
                              exact SW_iret h (hret _ hf) (fun _ => (r_max hx1 hx2)) rfl (dt t_J_combine 98 rfl)
                            · refine SW_tabOut (tgt := 223) h (fun _ => hx0) (dt t_J_combine 1 rfl) (by omega) rfl ?_
                              refine SW_iload_n h rfl (dt t_J_combine 99 rfl) ?_
                              refine SW_iload_n h rfl (dt t_J_combine 100 rfl) ?_
                              refine SW_min h kX4_45 hx1 hx2 (Nat.le_of_ble_eq_true rfl) (dt t_J_combine 101 rfl) ?_
                              exact SW_iret h (hret _ hf) (fun _ => (r_min hx1 hx2)) rfl (dt t_J_combine 102 rfl)
def b_J_run : List (Nat × Instr × Nat) := [(0, .iconst 0, 1), (1, .istore_n 2, 1), (2, .aload_n 0, 1), (3, .getfield 31, 3), (6, .getfield 54, 3), (9, .iload_n 1, 1), (10, .iaload, 1), (11, .istore_n 3, 1), (12, .iload_n 3, 1), (13, .aload_n 0, 1), (14, .getfield 31, 3), (17, .getfield 57, 3), (20, .iload_n 1, 1), (21, .iaload, 1), (22, .if_icmp .ge 161, 3), (25, .aload_n 0, 1), (26, .getfield 31, 3), (29, .getfield 60, 3), (32, .iload_n 3, 1), (33, .iaload, 1), (34, .istore 4, 2), (36, .iload 4, 2), (38, .sipush 20000, 3), (41, .if_icmp .ge 48, 3), (44, .iload_n 2, 1), (45, .aload_n 0, 1), (46, .getfield 18, 3), (49, .arraylength, 1), (50, .if_icmp .ge 127, 3), (53, .aload_n 0, 1), (54, .getfield 18, 3), (57, .iload_n 2, 1), (58, .iload 4, 2), (60, .sipush 10000, 3), (63, .if_icmp .ge 8, 3), (66, .iload 4, 2), (68, .goto 14, 3), (71, .aload_n 0, 1), (72, .getfield 15, 3), (75, .iload 4, 2), (77, .sipush 10000, 3), (80, .isub, 1), (81, .iaload, 1), (82, .iastore, 1), (83, .iinc 2 1, 3), (86, .goto 91, 3), (89, .iload 4, 2), (91, .sipush 20015, 3), (94, .if_icmp .lt 48, 3), (97, .iload_n 2, 1), (98, .ifCond .le 79, 3), (101, .aload_n 0, 1), (102, .getfield 18, 3), (105, .iload_n 2, 1), (106, .iconst 1, 1), (107, .isub, 1), (108, .iload 4, 2), (110, .sipush 20015, 3), (113, .if_icmp .ne 15, 3), (116, .aload_n 0, 1), (117, .getfield 18, 3), (120, .iload_n 2, 1), (121, .iconst 1, 1), (122, .isub, 1), (123, .iaload, 1), (124, .ineg, 1), (125, .goto 13, 3), (128, .iconst 1, 1), (129, .aload_n 0, 1), (130, .getfield 18, 3), (133, .iload_n 2, 1), (134, .iconst 1, 1), (135, .isub, 1), (136, .iaload, 1), (137, .isub, 1), (138, .iastore, 1), (139, .goto 38, 3), (142, .iload_n 2, 1), (143, .iconst 1, 1), (144, .if_icmp .le 33, 3), (147, .iinc 2 (-1), 3), (150, .aload_n 0, 1), (151, .getfield 18, 3), (154, .iload_n 2, 1), (155, .iconst 1, 1), (156, .isub, 1), (157, .iload 4, 2), (159, .aload_n 0, 1), (160, .getfield 18, 3), (163, .iload_n 2, 1), (164, .iconst 1, 1), (165, .isub, 1), (166, .iaload, 1), (167, .aload_n 0, 1), (168, .getfield 18, 3), (171, .iload_n 2, 1), (172, .iaload, 1), (173, .invokestatic 63, 3), (176, .iastore, 1), (177, .iinc 3 1, 3), (180, .goto (-168), 3), (183, .iload_n 2, 1), (184, .ifCond .le 14, 3), (187, .aload_n 0, 1), (188, .getfield 18, 3), (191, .iload_n 2, 1), (192, .iconst 1, 1), (193, .isub, 1), (194, .iaload, 1), (195, .goto 4, 3), (198, .iconst 0, 1), (199, .ireturn, 1)]
theorem t_J_run : DT cX4_run b_J_run := DT.of (by decide +kernel)
def L_J_run_12 : Nat → Int → Int → Int → Mm → Option (Int × Mm)
  | 0, _, _, _, _ => none
  | n + 1, x1, x2, x3, σ =>
    if 0 ≤ σ 2 6 ∧ IsO 0 9 (σ 2 6).toNat then
      if 0 ≤ x1 ∧ x1 < 3 then
        if σ (((σ 2 6).toNat) + 12) x1.toNat ≤ x3 then
          some ((x2, σ))
        else
          if 0 ≤ σ 2 6 ∧ IsO 0 9 (σ 2 6).toNat then
            if 0 ≤ x3 ∧ x3 < 300 then
              bindM (σ (((σ 2 6).toNat) + 4) x3.toNat) fun v5 =>
              bindM (fun (x2_6 : Int) (t6 : Mm) =>
                if r32 (x3 + 1) then
                  L_J_run_12 n x1 x2_6 (x3 + 1) t6
                else none) fun J6 =>
              if 20000 ≤ v5 then
                if v5 < 20015 then
                  if x2 ≤ 1 then
                    J6 x2 σ
                  else
                    if 0 ≤ (x2 + (-1)) - 1 ∧ (x2 + (-1)) - 1 < 64 then
                      if 0 ≤ x2 + (-1) ∧ x2 + (-1) < 64 then
                        b1 (F_J_combine v5 (σ 5 (((x2 + (-1)) - 1).toNat)) (σ 5 ((x2 + (-1)).toNat))) fun v8 =>
                        if 0 ≤ (x2 + (-1)) - 1 ∧ (x2 + (-1)) - 1 < 64 then
                          bindM (st2 σ 5 (((x2 + (-1)) - 1).toNat) v8) fun s9 =>
                          if r32 (x2 + (-1)) then
                            J6 (x2 + (-1)) s9
                          else none
                        else none
                      else none
                    else none
                else
                  if x2 ≤ 0 then
                    J6 x2 σ
                  else
                    bindM (fun (y11 : Int) =>
                      if 0 ≤ x2 - 1 ∧ x2 - 1 < 64 then
                        bindM (st2 σ 5 ((x2 - 1).toNat) y11) fun s12 =>
                        J6 x2 s12
                      else none) fun J11 =>
                    if v5 = 20015 then
                      if 0 ≤ x2 - 1 ∧ x2 - 1 < 64 then
                        if r32 (-(σ 5 ((x2 - 1).toNat))) then
                          J11 (-(σ 5 ((x2 - 1).toNat)))
                        else none
                      else none
                    else
                      if 0 ≤ x2 - 1 ∧ x2 - 1 < 64 then
                        if r32 (1 - (σ 5 ((x2 - 1).toNat))) then
                          J11 (1 - (σ 5 ((x2 - 1).toNat)))
                        else none
                      else none
              else
                if ((64 : Nat) : Int) ≤ x2 then
                  J6 x2 σ
                else
                  bindM (fun (y15 : Int) =>
                    if 0 ≤ x2 ∧ x2 < 64 then
                      bindM (st2 σ 5 x2.toNat y15) fun s16 =>
                      if r32 (x2 + 1) then
                        J6 (x2 + 1) s16
                      else none
                    else none) fun J15 =>
                  if 10000 ≤ v5 then
                    if 0 ≤ v5 - 10000 ∧ v5 - 10000 < 13 then
                      J15 (σ 4 ((v5 - 10000).toNat))
                    else none
                  else
                    J15 v5
            else none
          else none
      else none
    else none
set_option maxRecDepth 100000 in
set_option maxHeartbeats 4000000 in
theorem l_J_run_12 {X : Cx} (h : CX X 0 cX4_run 5 4 (some .int) RX4) (x1 : Int) (hx1 : r32 x1) {res : Int × Mm} (hex : ∀ (x2 : Int) (σ : Mm) (hz : some ((x2, σ)) = some res) (hx2 : r32 x2) (ok : okM σ), SW X 0 5 183 [some (.ref (xad X 2)), none, some (.int (i32 x2)), none, none] [] σ) : ∀ (n : Nat) (x2 : Int) (x3 : Int) (σ : Mm) (hx2 : r32 x2) (hx3 : r32 x3) (ok : okM σ) (hf : L_J_run_12 n x1 x2 x3 σ = some res), SW X 0 5 12 [some (.ref (xad X 2)), some (.int (i32 x1)), some (.int (i32 x2)), some (.int (i32 x3)), none] [] σ := by
  intro n
  induction n with
  | zero => intro x2 x3 σ hx2 hx3 ok hf; exact absurd hf (by simp [L_J_run_12])
  | succ n ih =>
    intro x2 x3 σ hx2 hx3 ok hf
    rw [L_J_run_12] at hf
    refine SW_iload_n h rfl (dt t_J_run 8 rfl) ?_
    refine SW_aload_n h rfl (dt t_J_run 9 rfl) ?_
    refine gD h cf4 o2 f4_6 lX4_31 (dt t_J_run 10 rfl) ?_
    refine SW_isO hf (fun h3 hf => ?_)
    refine gR h cf9 h3 f9_2 (dy9_2 h3).1 lX4_57 (dt t_J_run 11 rfl) ?_
    refine SW_iload_n h rfl (dt t_J_run 12 rfl) ?_
    refine aI h (dy9_2 h3).2 (dt t_J_run 13 rfl) hf (fun hf => ?_)
    refine SW_icmp_ge (tgt := 183) h (fun _ => hx3) (fun _ => (okI ok (((σ 2 6).toNat) + 12) x1.toNat (IsA.n3 (dy9_2 h3).2 (by decide)))) (dt t_J_run 14 rfl) rfl hf (fun hf => ?_) (fun hf => ?_)
    · exact SW_fgt [true, false, true, false, false] rfl (hex x2 σ hf hx2 ok)
    · refine SW_aload_n h rfl (dt t_J_run 15 rfl) ?_
      refine gD h cf4 o2 f4_6 lX4_31 (dt t_J_run 16 rfl) ?_
      refine SW_isO hf (fun h4 hf => ?_)
      refine gR h cf9 h4 f9_0 (dy9_0 h4).1 lX4_60 (dt t_J_run 17 rfl) ?_
      refine SW_iload_n h rfl (dt t_J_run 18 rfl) ?_
      refine aI h (dy9_0 h4).2 (dt t_J_run 19 rfl) hf (fun hf => ?_)
      refine SW_vi hf (okI ok (((σ 2 6).toNat) + 4) x3.toNat (IsA.n3 (dy9_0 h4).2 (by decide))) (fun v5 h5 hf => ?_)
      refine SW_istore (lv2 := [some (.ref (xad X 2)), some (.int (i32 x1)), some (.int (i32 x2)), some (.int (i32 x3)), some (.int (i32 v5))]) h (dt t_J_run 20 rfl) (by decide) rfl ?_
      refine SW_iload h rfl (dt t_J_run 21 rfl) ?_
      refine SW_sipush h (dt t_J_run 22 rfl) (by decide) ?_
      refine bJ hf (fun J6 e6 hf => ?_)
      have k6 : ∀ (x2_6 : Int) (t6 : Mm) (hx2_6 : r32 x2_6) (ot6 : okM t6) (hf : J6 x2_6 t6 = some res), SW X 0 5 177 [some (.ref (xad X 2)), some (.int (i32 x1)), some (.int (i32 x2_6)), some (.int (i32 x3)), none] [] t6 := by
        intro x2_6 t6 hx2_6 ot6 hf
        rw [e6] at hf
        refine SW_iinc (lv2 := [some (.ref (xad X 2)), some (.int (i32 x1)), some (.int (i32 x2_6)), some (.int (i32 (x3 + 1))), none]) h (dt t_J_run 99 rfl) rfl (by decide) rfl ?_
        refine SW_goto (tgt := 12) h (dt t_J_run 100 rfl) rfl ?_
        refine SW_chk hf (fun h7 hf => ?_)
        exact SW_fgt [true, true, true, true, false] rfl (ih x2_6 (x3 + 1) t6 hx2_6 h7 ot6 hf)
      refine SW_icmp_ge (tgt := 89) h (fun _ => h5) (fun _ => (by decide)) (dt t_J_run 23 rfl) rfl hf (fun hf => ?_) (fun hf => ?_)
      · refine SW_iload h rfl (dt t_J_run 46 rfl) ?_
        refine SW_sipush h (dt t_J_run 47 rfl) (by decide) ?_
        refine SW_icmp_lt (tgt := 142) h (fun _ => h5) (fun _ => (by decide)) (dt t_J_run 48 rfl) rfl hf (fun hf => ?_) (fun hf => ?_)
        · refine SW_iload_n h rfl (dt t_J_run 77 rfl) ?_
          refine SW_iconst h (dt t_J_run 78 rfl) ?_
          refine SW_icmp_le (tgt := 177) h (fun _ => hx2) (fun _ => (by decide)) (dt t_J_run 79 rfl) rfl hf (fun hf => ?_) (fun hf => ?_)
          · exact SW_fgt [true, true, true, true, false] rfl (k6 x2 σ hx2 ok hf)
          · refine SW_iinc (lv2 := [some (.ref (xad X 2)), some (.int (i32 x1)), some (.int (i32 (x2 + (-1)))), some (.int (i32 x3)), some (.int (i32 v5))]) h (dt t_J_run 80 rfl) rfl (by decide) rfl ?_
            refine SW_aload_n h rfl (dt t_J_run 81 rfl) ?_
            refine gR h cf4 o2 f4_2 j2_2 lX4_18 (dt t_J_run 82 rfl) ?_
            refine SW_iload_n h rfl (dt t_J_run 83 rfl) ?_
            refine SW_iconst h (dt t_J_run 84 rfl) ?_
            refine SW_isub h (dt t_J_run 85 rfl) ?_
            refine SW_iload h rfl (dt t_J_run 86 rfl) ?_
            refine SW_aload_n h rfl (dt t_J_run 87 rfl) ?_
            refine gR h cf4 o2 f4_2 j2_2 lX4_18 (dt t_J_run 88 rfl) ?_
            refine SW_iload_n h rfl (dt t_J_run 89 rfl) ?_
            refine SW_iconst h (dt t_J_run 90 rfl) ?_
            refine SW_isub h (dt t_J_run 91 rfl) ?_
            refine aI h a5 (dt t_J_run 92 rfl) hf (fun hf => ?_)
            refine SW_aload_n h rfl (dt t_J_run 93 rfl) ?_
            refine gR h cf4 o2 f4_2 j2_2 lX4_18 (dt t_J_run 94 rfl) ?_
            refine SW_iload_n h rfl (dt t_J_run 95 rfl) ?_
            refine aI h a5 (dt t_J_run 96 rfl) hf (fun hf => ?_)
            obtain ⟨v8, e8, hf⟩ := b1_of hf
            refine cS h [.int (i32 v5), .int (i32 (σ 5 (((x2 + (-1)) - 1).toNat))), .int (i32 (σ 5 ((x2 + (-1)).toNat)))] [.int (i32 ((x2 + (-1)) - 1)), .ref (xad X 5)] v_X4_combine kX4_63 (c_J_combine v5 h5 (σ 5 (((x2 + (-1)) - 1).toNat)) (okI ok 5 (((x2 + (-1)) - 1).toNat) (IsA.n3 a5 (by decide))) (σ 5 ((x2 + (-1)).toNat)) (okI ok 5 ((x2 + (-1)).toNat) (IsA.n3 a5 (by decide))) e8) rfl rfl (by decide) (by decide) rfl (Nat.le_of_ble_eq_true rfl) (dt t_J_run 97 rfl) (fun h8 => ?_)
            refine sI h a5 h8 (dt t_J_run 98 rfl) hf (fun hf => SW_bm hf (fun s9 ok9 hf => ?_))
            refine SW_chk hf (fun h10 hf => ?_)
            exact SW_fgt [true, true, true, true, false] rfl (k6 (x2 + (-1)) s9 h10 ok9 hf)
        · refine SW_iload_n h rfl (dt t_J_run 49 rfl) ?_
          refine SW_if_le (tgt := 177) h (fun _ => hx2) (dt t_J_run 50 rfl) rfl hf (fun hf => ?_) (fun hf => ?_)
          · exact SW_fgt [true, true, true, true, false] rfl (k6 x2 σ hx2 ok hf)
          · refine SW_aload_n h rfl (dt t_J_run 51 rfl) ?_
            refine gR h cf4 o2 f4_2 j2_2 lX4_18 (dt t_J_run 52 rfl) ?_
            refine SW_iload_n h rfl (dt t_J_run 53 rfl) ?_
            refine SW_iconst h (dt t_J_run 54 rfl) ?_
            refine SW_isub h (dt t_J_run 55 rfl) ?_
            refine SW_iload h rfl (dt t_J_run 56 rfl) ?_
            refine SW_sipush h (dt t_J_run 57 rfl) (by decide) ?_
            refine bJ hf (fun J11 e11 hf => ?_)
            have k11 : ∀ (y11 : Int) (hy11 : r32 y11) (hf : J11 y11 = some res), SW X 0 5 138 [some (.ref (xad X 2)), some (.int (i32 x1)), some (.int (i32 x2)), some (.int (i32 x3)), none] [.int (i32 y11), .int (i32 (x2 - 1)), .ref (xad X 5)] σ := by
              intro y11 hy11 hf
              rw [e11] at hf
              refine sI h a5 hy11 (dt t_J_run 75 rfl) hf (fun hf => SW_bm hf (fun s12 ok12 hf => ?_))
              refine SW_goto (tgt := 177) h (dt t_J_run 76 rfl) rfl ?_
              exact SW_fgt [true, true, true, true, false] rfl (k6 x2 s12 hx2 ok12 hf)
            refine SW_icmp_ne (tgt := 128) h (fun _ => h5) (fun _ => (by decide)) (dt t_J_run 58 rfl) rfl hf (fun hf => ?_) (fun hf => ?_)
            · refine SW_aload_n h rfl (dt t_J_run 59 rfl) ?_
              refine gR h cf4 o2 f4_2 j2_2 lX4_18 (dt t_J_run 60 rfl) ?_
              refine SW_iload_n h rfl (dt t_J_run 61 rfl) ?_
              refine SW_iconst h (dt t_J_run 62 rfl) ?_
              refine SW_isub h (dt t_J_run 63 rfl) ?_
              refine aI h a5 (dt t_J_run 64 rfl) hf (fun hf => ?_)
              refine SW_ineg h (dt t_J_run 65 rfl) ?_
              refine SW_goto (tgt := 138) h (dt t_J_run 66 rfl) rfl ?_
              refine SW_chk hf (fun h13 hf => ?_)
              exact SW_fgt [true, true, true, true, false] rfl (k11 (-(σ 5 ((x2 - 1).toNat))) h13 hf)
            · refine SW_iconst h (dt t_J_run 67 rfl) ?_
              refine SW_aload_n h rfl (dt t_J_run 68 rfl) ?_
              refine gR h cf4 o2 f4_2 j2_2 lX4_18 (dt t_J_run 69 rfl) ?_
              refine SW_iload_n h rfl (dt t_J_run 70 rfl) ?_
              refine SW_iconst h (dt t_J_run 71 rfl) ?_
              refine SW_isub h (dt t_J_run 72 rfl) ?_
              refine aI h a5 (dt t_J_run 73 rfl) hf (fun hf => ?_)
              refine SW_isub h (dt t_J_run 74 rfl) ?_
              refine SW_chk hf (fun h14 hf => ?_)
              exact SW_fgt [true, true, true, true, false] rfl (k11 (1 - (σ 5 ((x2 - 1).toNat))) h14 hf)
      · refine SW_iload_n h rfl (dt t_J_run 24 rfl) ?_
        refine SW_aload_n h rfl (dt t_J_run 25 rfl) ?_
        refine gR h cf4 o2 f4_2 j2_2 lX4_18 (dt t_J_run 26 rfl) ?_
        refine aLen h (by decide) a5 (dt t_J_run 27 rfl) ?_
        refine SW_icmp_ge (tgt := 177) h (fun _ => hx2) (fun _ => (by decide)) (dt t_J_run 28 rfl) rfl hf (fun hf => ?_) (fun hf => ?_)
        · exact SW_fgt [true, true, true, true, false] rfl (k6 x2 σ hx2 ok hf)
        · refine SW_aload_n h rfl (dt t_J_run 29 rfl) ?_
          refine gR h cf4 o2 f4_2 j2_2 lX4_18 (dt t_J_run 30 rfl) ?_
          refine SW_iload_n h rfl (dt t_J_run 31 rfl) ?_
          refine SW_iload h rfl (dt t_J_run 32 rfl) ?_
          refine SW_sipush h (dt t_J_run 33 rfl) (by decide) ?_
          refine bJ hf (fun J15 e15 hf => ?_)
          have k15 : ∀ (y15 : Int) (hy15 : r32 y15) (hf : J15 y15 = some res), SW X 0 5 82 [some (.ref (xad X 2)), some (.int (i32 x1)), some (.int (i32 x2)), some (.int (i32 x3)), none] [.int (i32 y15), .int (i32 x2), .ref (xad X 5)] σ := by
            intro y15 hy15 hf
            rw [e15] at hf
            refine sI h a5 hy15 (dt t_J_run 43 rfl) hf (fun hf => SW_bm hf (fun s16 ok16 hf => ?_))
            refine SW_iinc (lv2 := [some (.ref (xad X 2)), some (.int (i32 x1)), some (.int (i32 (x2 + 1))), some (.int (i32 x3)), none]) h (dt t_J_run 44 rfl) rfl (by decide) rfl ?_
            refine SW_goto (tgt := 177) h (dt t_J_run 45 rfl) rfl ?_
            refine SW_chk hf (fun h17 hf => ?_)
            exact SW_fgt [true, true, true, true, false] rfl (k6 (x2 + 1) s16 h17 ok16 hf)
          refine SW_icmp_ge (tgt := 71) h (fun _ => h5) (fun _ => (by decide)) (dt t_J_run 34 rfl) rfl hf (fun hf => ?_) (fun hf => ?_)
          · refine SW_aload_n h rfl (dt t_J_run 37 rfl) ?_
            refine gR h cf4 o2 f4_1 j2_1 lX4_15 (dt t_J_run 38 rfl) ?_
            refine SW_iload h rfl (dt t_J_run 39 rfl) ?_
            refine SW_sipush h (dt t_J_run 40 rfl) (by decide) ?_
            refine SW_isub h (dt t_J_run 41 rfl) ?_
            refine aI h a4 (dt t_J_run 42 rfl) hf (fun hf => ?_)
            exact SW_fgt [true, true, true, true, false] rfl (k15 (σ 4 ((v5 - 10000).toNat)) (okI ok 4 ((v5 - 10000).toNat) (IsA.n3 a4 (by decide))) hf)
          · refine SW_iload h rfl (dt t_J_run 35 rfl) ?_
            refine SW_goto (tgt := 82) h (dt t_J_run 36 rfl) rfl ?_
            exact SW_fgt [true, true, true, true, false] rfl (k15 v5 h5 hf)
def F_J_run (x1 : Int) (σ : Mm) : Option (Int × Mm) :=
  if 0 ≤ σ 2 6 ∧ IsO 0 9 (σ 2 6).toNat then
    if 0 ≤ x1 ∧ x1 < 3 then
      bindM (σ (((σ 2 6).toNat) + 8) x1.toNat) fun v2 =>
      b1M (L_J_run_12 LF x1 0 v2 σ) fun x2_18 s18 =>
      if x2_18 ≤ 0 then
        some (0, s18)
      else
        if 0 ≤ x2_18 - 1 ∧ x2_18 - 1 < 64 then
          some (s18 5 ((x2_18 - 1).toNat), s18)
        else none
    else none
  else none
set_option maxRecDepth 100000 in
set_option maxHeartbeats 4000000 in
theorem c_J_run (x1 : Int) (hx1 : r32 x1) {σ : Mm} {a : Int} {σ2 : Mm} (hf : F_J_run x1 σ = some (a, σ2)) : CT yX4_run cX4_run 5 (some .int) 4 0 (fun ad => [.ref (ad 2), .int (i32 x1)]) σ (r32 a) (some (.int (i32 a))) σ2 := by
  refine MetJ 3 (by decide +kernel) rfl (fun _ => Nat.le_of_ble_eq_true rfl) ?_
  intro X h hR ok
  obtain ⟨res, er⟩ : ∃ z, z = (a, σ2) := ⟨_, rfl⟩
  have hret : ∀ y : Int × Mm, some y = some res → RX X 0 (r32 (y.1)) (some (.int (i32 (y.1)))) y.2 := fun y e => by cases e; cases er; exact hR
  rw [← er] at hf
  clear er hR
  unfold F_J_run at hf
  show SW X 0 5 0 [some (.ref (xad X 2)), some (.int (i32 x1)), none, none, none] [] σ
  refine SW_iconst h (dt t_J_run 0 rfl) ?_
  refine SW_istore_n (lv2 := [some (.ref (xad X 2)), some (.int (i32 x1)), some (.int (i32 0)), none, none]) h (dt t_J_run 1 rfl) (by decide) rfl ?_
  refine SW_aload_n h rfl (dt t_J_run 2 rfl) ?_
  refine gD h cf4 o2 f4_6 lX4_31 (dt t_J_run 3 rfl) ?_
  refine SW_isO hf (fun h1 hf => ?_)
  refine gR h cf9 h1 f9_1 (dy9_1 h1).1 lX4_54 (dt t_J_run 4 rfl) ?_
  refine SW_iload_n h rfl (dt t_J_run 5 rfl) ?_
  refine aI h (dy9_1 h1).2 (dt t_J_run 6 rfl) hf (fun hf => ?_)
  refine SW_vi hf (okI ok (((σ 2 6).toNat) + 8) x1.toNat (IsA.n3 (dy9_1 h1).2 (by decide))) (fun v2 h2 hf => ?_)
  refine SW_istore_n (lv2 := [some (.ref (xad X 2)), some (.int (i32 x1)), some (.int (i32 0)), some (.int (i32 v2)), none]) h (dt t_J_run 7 rfl) (by decide) rfl ?_
  obtain ⟨z18, e18, hk18⟩ := b1M_ex hf
  refine SW_fgt [true, true, true, true, false] rfl (l_J_run_12 h x1 hx1 (fun x2_18 s18 hz18 hx2_18 ok18 => ?_) LF 0 v2 σ (by decide) h2 ok e18)
  have hf := hk18 x2_18 s18 hz18
  refine SW_iload_n h rfl (dt t_J_run 101 rfl) ?_
  refine SW_if_le (tgt := 198) h (fun _ => hx2_18) (dt t_J_run 102 rfl) rfl hf (fun hf => ?_) (fun hf => ?_)
  · refine SW_iconst h (dt t_J_run 110 rfl) ?_
    exact SW_iret h (hret _ hf) (fun _ => (by decide)) rfl (dt t_J_run 111 rfl)
  · refine SW_aload_n h rfl (dt t_J_run 103 rfl) ?_
    refine gR h cf4 o2 f4_2 j2_2 lX4_18 (dt t_J_run 104 rfl) ?_
    refine SW_iload_n h rfl (dt t_J_run 105 rfl) ?_
    refine SW_iconst h (dt t_J_run 106 rfl) ?_
    refine SW_isub h (dt t_J_run 107 rfl) ?_
    refine aI h a5 (dt t_J_run 108 rfl) hf (fun hf => ?_)
    refine SW_goto (tgt := 199) h (dt t_J_run 109 rfl) rfl ?_
    exact SW_iret h (hret _ hf) (fun _ => (okI ok18 5 ((x2_18 - 1).toNat) (IsA.n3 a5 (by decide)))) rfl (dt t_J_run 111 rfl)
def b_J_two : List (Nat × Instr × Nat) := [(0, .iload_n 1, 1), (1, .bipush 10, 2), (3, .imul, 1), (4, .iload_n 2, 1), (5, .iadd, 1), (6, .iconst 4, 1), (7, .imul, 1), (8, .iload_n 3, 1), (9, .iadd, 1), (10, .istore 4, 2), (12, .aload_n 0, 1), (13, .getfield 21, 3), (16, .iload 4, 2), (18, .iaload, 1), (19, .aload_n 0, 1), (20, .getfield 27, 3), (23, .if_icmp .ne 11, 3), (26, .aload_n 0, 1), (27, .getfield 24, 3), (30, .iload 4, 2), (32, .iaload, 1), (33, .ireturn, 1), (34, .aload_n 0, 1), (35, .getfield 9, 3), (38, .bipush 30, 2), (40, .iload_n 1, 1), (41, .iadd, 1), (42, .iaload, 1), (43, .iload_n 2, 1), (44, .ishr, 1), (45, .iconst 1, 1), (46, .iand, 1), (47, .istore 5, 2), (49, .iload 5, 2), (51, .iconst 1, 1), (52, .if_icmp .ne 7, 3), (55, .iconst 1, 1), (56, .goto 6, 3), (59, .sipush 1000, 3), (62, .istore 6, 2), (64, .aload_n 0, 1), (65, .getfield 31, 3), (68, .ifnull 195, 3), (71, .aload_n 0, 1), (72, .getfield 15, 3), (75, .iconst 0, 1), (76, .aload_n 0, 1), (77, .getfield 9, 3), (80, .bipush 40, 2), (82, .iaload, 1), (83, .iastore, 1), (84, .aload_n 0, 1), (85, .getfield 15, 3), (88, .iconst 1, 1), (89, .iload_n 1, 1), (90, .iastore, 1), (91, .aload_n 0, 1), (92, .getfield 15, 3), (95, .iconst 2, 1), (96, .iload_n 2, 1), (97, .iastore, 1), (98, .aload_n 0, 1), (99, .getfield 15, 3), (102, .iconst 3, 1), (103, .aload_n 0, 1), (104, .getfield 9, 3), (107, .iconst 0, 1), (108, .iload_n 1, 1), (109, .iadd, 1), (110, .iaload, 1), (111, .iastore, 1), (112, .aload_n 0, 1), (113, .getfield 15, 3), (116, .iconst 4, 1), (117, .aload_n 0, 1), (118, .getfield 9, 3), (121, .iconst 0, 1), (122, .iload_n 2, 1), (123, .iadd, 1), (124, .iaload, 1), (125, .iastore, 1), (126, .aload_n 0, 1), (127, .getfield 15, 3), (130, .iconst 5, 1), (131, .aload_n 0, 1), (132, .getfield 9, 3), (135, .bipush 10, 2), (137, .iload_n 1, 1), (138, .iadd, 1), (139, .iaload, 1), (140, .aload_n 0, 1), (141, .getfield 9, 3), (144, .bipush 10, 2), (146, .iload_n 2, 1), (147, .iadd, 1), (148, .iaload, 1), (149, .iadd, 1), (150, .iastore, 1), (151, .aload_n 0, 1), (152, .getfield 15, 3), (155, .bipush 6, 2), (157, .iload_n 3, 1), (158, .iconst 1, 1), (159, .ishr, 1), (160, .iastore, 1), (161, .aload_n 0, 1), (162, .getfield 15, 3), (165, .bipush 7, 2), (167, .iload_n 3, 1), (168, .iconst 1, 1), (169, .iand, 1), (170, .iastore, 1), (171, .aload_n 0, 1), (172, .getfield 15, 3), (175, .bipush 8, 2), (177, .iload 5, 2), (179, .iastore, 1), (180, .aload_n 0, 1), (181, .getfield 31, 3), (184, .iconst 0, 1), (185, .invokevirtual 35, 3), (188, .ifCond .eq 19, 3), (191, .aload_n 0, 1), (192, .iconst 0, 1), (193, .invokevirtual 41, 3), (196, .ifCond .ne 7, 3), (199, .iconst 1, 1), (200, .goto 18, 3), (203, .iconst 0, 1), (204, .goto 14, 3), (207, .iload 5, 2), (209, .iconst 1, 1), (210, .if_icmp .ne 7, 3), (213, .iconst 1, 1), (214, .goto 4, 3), (217, .iconst 0, 1), (218, .istore 7, 2), (220, .iload 7, 2), (222, .ifCond .ne 9, 3), (225, .sipush 1000, 3), (228, .goto 33, 3), (231, .aload_n 0, 1), (232, .getfield 31, 3), (235, .iconst 1, 1), (236, .invokevirtual 35, 3), (239, .ifCond .ne 7, 3), (242, .iconst 1, 1), (243, .goto 18, 3), (246, .bipush (-99), 2), (248, .bipush 99, 2), (250, .aload_n 0, 1), (251, .iconst 1, 1), (252, .invokevirtual 41, 3), (255, .invokestatic 45, 3), (258, .invokestatic 51, 3), (261, .istore 6, 2), (263, .aload_n 0, 1), (264, .getfield 21, 3), (267, .iload 4, 2), (269, .aload_n 0, 1), (270, .getfield 27, 3), (273, .iastore, 1), (274, .aload_n 0, 1), (275, .getfield 24, 3), (278, .iload 4, 2), (280, .iload 6, 2), (282, .iastore, 1), (283, .iload 6, 2), (285, .ireturn, 1)]
theorem t_J_two : DT cX4_two b_J_two := DT.of (by decide +kernel)
def F_J_two (x1 : Int) (x2 : Int) (x3 : Int) (σ : Mm) : Option (Int × Mm) :=
  bindM ((((x1 * 10) + x2) * 4) + x3) fun v1 =>
  if 0 ≤ v1 ∧ v1 < 400 then
    if σ 6 v1.toNat = σ 2 5 then
      if 0 ≤ v1 ∧ v1 < 400 then
        some (σ 7 v1.toNat, σ)
      else none
    else
      if 0 ≤ 30 + x1 ∧ 30 + x1 < 165 then
        bindM (iand (ishr (σ 3 ((30 + x1).toNat)) x2) 1) fun v2 =>
        bindM ((if v2 = 1 then 1 else 1000 : Int)) fun v3 =>
        bindM (fun (x6_4 : Int) (t4 : Mm) =>
          if 0 ≤ v1 ∧ v1 < 400 then
            bindM (st2 t4 6 v1.toNat (t4 2 5)) fun s5 =>
            if 0 ≤ v1 ∧ v1 < 400 then
              bindM (st2 s5 7 v1.toNat x6_4) fun s6 =>
              some (x6_4, s6)
            else none
          else none) fun J4 =>
        if σ 2 6 < 0 then
          J4 v3 σ
        else
          bindM (st2 σ 4 0 (σ 3 40)) fun s7 =>
          bindM (st2 s7 4 1 x1) fun s8 =>
          bindM (st2 s8 4 2 x2) fun s9 =>
          if 0 ≤ 0 + x1 ∧ 0 + x1 < 165 then
            bindM (st2 s9 4 3 (s9 3 ((0 + x1).toNat))) fun s10 =>
            if 0 ≤ 0 + x2 ∧ 0 + x2 < 165 then
              bindM (st2 s10 4 4 (s10 3 ((0 + x2).toNat))) fun s11 =>
              if 0 ≤ 10 + x1 ∧ 10 + x1 < 165 then
                if 0 ≤ 10 + x2 ∧ 10 + x2 < 165 then
                  if r32 ((s11 3 ((10 + x1).toNat)) + (s11 3 ((10 + x2).toNat))) then
                    bindM (st2 s11 4 5 ((s11 3 ((10 + x1).toNat)) + (s11 3 ((10 + x2).toNat)))) fun s13 =>
                    bindM (st2 s13 4 6 (ishr x3 1)) fun s14 =>
                    bindM (st2 s14 4 7 (iand x3 1)) fun s15 =>
                    bindM (st2 s15 4 8 v2) fun s16 =>
                    if 0 ≤ s16 2 6 ∧ IsO 0 9 (s16 2 6).toNat then
                      b1 (F_T_has ((s16 2 6).toNat) 0 s16) fun v18 =>
                      bindM (fun (y19 : Int) (t19 : Mm) =>
                        bindM (fun (y20 : Int) (t20 : Mm) =>
                          J4 y20 t20) fun J20 =>
                        if y19 = 0 then
                          J20 1000 t19
                        else
                          if 0 ≤ t19 2 6 ∧ IsO 0 9 (t19 2 6).toNat then
                            b1 (F_T_has ((t19 2 6).toNat) 1 t19) fun v22 =>
                            if v22 = 0 then
                              J20 1 t19
                            else
                              b1M (F_J_run 1 t19) fun v23 s23 =>
                              J20 (max ((-99)) (min 99 v23)) s23
                          else none) fun J19 =>
                      if v18 = 0 then
                        if v2 = 1 then
                          J19 1 s16
                        else
                          J19 0 s16
                      else
                        b1M (F_J_run 0 s16) fun v26 s26 =>
                        if v26 = 0 then
                          J19 1 s26
                        else
                          J19 0 s26
                    else none
                  else none
                else none
              else none
            else none
          else none
      else none
  else none
set_option maxRecDepth 100000 in
set_option maxHeartbeats 4000000 in
theorem c_J_two (x1 : Int) (hx1 : r32 x1) (x2 : Int) (hx2 : r32 x2) (x3 : Int) (hx3 : r32 x3) {σ : Mm} {a : Int} {σ2 : Mm} (hf : F_J_two x1 x2 x3 σ = some (a, σ2)) : CT yX4_two cX4_two 8 (some .int) 5 0 (fun ad => [.ref (ad 2), .int (i32 x1), .int (i32 x2), .int (i32 x3)]) σ (r32 a) (some (.int (i32 a))) σ2 := by
  refine MetJ 4 (by decide +kernel) rfl (fun _ => Nat.le_of_ble_eq_true rfl) ?_
  intro X h hR ok
  obtain ⟨res, er⟩ : ∃ z, z = (a, σ2) := ⟨_, rfl⟩
  have hret : ∀ y : Int × Mm, some y = some res → RX X 0 (r32 (y.1)) (some (.int (i32 (y.1)))) y.2 := fun y e => by cases e; cases er; exact hR
  rw [← er] at hf
  clear er hR
  unfold F_J_two at hf
  show SW X 0 8 0 [some (.ref (xad X 2)), some (.int (i32 x1)), some (.int (i32 x2)), some (.int (i32 x3)), none, none, none, none] [] σ
  refine SW_iload_n h rfl (dt t_J_two 0 rfl) ?_
  refine SW_bipush h (dt t_J_two 1 rfl) (by decide) ?_
  refine SW_imul h (dt t_J_two 2 rfl) ?_
  refine SW_iload_n h rfl (dt t_J_two 3 rfl) ?_
  refine SW_iadd h (dt t_J_two 4 rfl) ?_
  refine SW_iconst h (dt t_J_two 5 rfl) ?_
  refine SW_imul h (dt t_J_two 6 rfl) ?_
  refine SW_iload_n h rfl (dt t_J_two 7 rfl) ?_
  refine SW_iadd h (dt t_J_two 8 rfl) ?_
  refine SW_vu hf (fun v1 hf => ?_)
  refine SW_istore (lv2 := [some (.ref (xad X 2)), some (.int (i32 x1)), some (.int (i32 x2)), some (.int (i32 x3)), some (.int (i32 v1)), none, none, none]) h (dt t_J_two 9 rfl) (by decide) rfl ?_
  refine SW_aload_n h rfl (dt t_J_two 10 rfl) ?_
  refine gR h cf4 o2 f4_3 j2_3 lX4_21 (dt t_J_two 11 rfl) ?_
  refine SW_iload h rfl (dt t_J_two 12 rfl) ?_
  refine aI h a6 (dt t_J_two 13 rfl) hf (fun hf => ?_)
  refine SW_aload_n h rfl (dt t_J_two 14 rfl) ?_
  refine gI h cf4 o2 f4_5 lX4_27 (dt t_J_two 15 rfl) ?_
  refine SW_icmp_ne (tgt := 34) h (fun _ => (okI ok 6 v1.toNat (IsA.n3 a6 (by decide)))) (fun _ => (okI ok 2 5 (IsO.n3 o2))) (dt t_J_two 16 rfl) rfl hf (fun hf => ?_) (fun hf => ?_)
  · refine SW_aload_n h rfl (dt t_J_two 17 rfl) ?_
    refine gR h cf4 o2 f4_4 j2_4 lX4_24 (dt t_J_two 18 rfl) ?_
    refine SW_iload h rfl (dt t_J_two 19 rfl) ?_
    refine aI h a7 (dt t_J_two 20 rfl) hf (fun hf => ?_)
    exact SW_iret h (hret _ hf) (fun _ => (okI ok 7 v1.toNat (IsA.n3 a7 (by decide)))) rfl (dt t_J_two 21 rfl)
  · refine SW_aload_n h rfl (dt t_J_two 22 rfl) ?_
    refine gR h cf4 o2 f4_0 j2_0 lX4_9 (dt t_J_two 23 rfl) ?_
    refine SW_bipush h (dt t_J_two 24 rfl) (by decide) ?_
    refine SW_iload_n h rfl (dt t_J_two 25 rfl) ?_
    refine SW_iadd h (dt t_J_two 26 rfl) ?_
    refine aI h a3 (dt t_J_two 27 rfl) hf (fun hf => ?_)
    refine SW_iload_n h rfl (dt t_J_two 28 rfl) ?_
    refine SW_ishr h (dt t_J_two 29 rfl) ?_
    refine SW_iconst h (dt t_J_two 30 rfl) ?_
    refine SW_iand h (dt t_J_two 31 rfl) ?_
    refine SW_vi hf (r_iand _ _) (fun v2 h2 hf => ?_)
    refine SW_istore (lv2 := [some (.ref (xad X 2)), some (.int (i32 x1)), some (.int (i32 x2)), some (.int (i32 x3)), some (.int (i32 v1)), some (.int (i32 v2)), none, none]) h (dt t_J_two 32 rfl) (by decide) rfl ?_
    refine SW_iload h rfl (dt t_J_two 33 rfl) ?_
    refine SW_iconst h (dt t_J_two 34 rfl) ?_
    refine bT hf (fun g3 e3 hf => ?_)
    have k3 : ∀ (v3 : Int) (h3 : r32 v3) (hf : g3 v3 = some res), SW X 0 8 62 [some (.ref (xad X 2)), some (.int (i32 x1)), some (.int (i32 x2)), some (.int (i32 x3)), some (.int (i32 v1)), some (.int (i32 v2)), none, none] [.int (i32 v3)] σ := by
      intro v3 h3 hf
      rw [e3] at hf
      refine SW_istore (lv2 := [some (.ref (xad X 2)), some (.int (i32 x1)), some (.int (i32 x2)), some (.int (i32 x3)), some (.int (i32 v1)), some (.int (i32 v2)), some (.int (i32 v3)), none]) h (dt t_J_two 39 rfl) (by decide) rfl ?_
      refine SW_aload_n h rfl (dt t_J_two 40 rfl) ?_
      refine gD h cf4 o2 f4_6 lX4_31 (dt t_J_two 41 rfl) ?_
      refine bJ hf (fun J4 e4 hf => ?_)
      have k4 : ∀ (x6_4 : Int) (t4 : Mm) (hx6_4 : r32 x6_4) (ot4 : okM t4) (hf : J4 x6_4 t4 = some res), SW X 0 8 263 [some (.ref (xad X 2)), none, none, none, some (.int (i32 v1)), none, some (.int (i32 x6_4)), none] [] t4 := by
        intro x6_4 t4 hx6_4 ot4 hf
        rw [e4] at hf
        refine SW_aload_n h rfl (dt t_J_two 156 rfl) ?_
        refine gR h cf4 o2 f4_3 j2_3 lX4_21 (dt t_J_two 157 rfl) ?_
        refine SW_iload h rfl (dt t_J_two 158 rfl) ?_
        refine SW_aload_n h rfl (dt t_J_two 159 rfl) ?_
        refine gI h cf4 o2 f4_5 lX4_27 (dt t_J_two 160 rfl) ?_
        refine sI h a6 (okI ot4 2 5 (IsO.n3 o2)) (dt t_J_two 161 rfl) hf (fun hf => SW_bm hf (fun s5 ok5 hf => ?_))
        refine SW_aload_n h rfl (dt t_J_two 162 rfl) ?_
        refine gR h cf4 o2 f4_4 j2_4 lX4_24 (dt t_J_two 163 rfl) ?_
        refine SW_iload h rfl (dt t_J_two 164 rfl) ?_
        refine SW_iload h rfl (dt t_J_two 165 rfl) ?_
        refine sI h a7 hx6_4 (dt t_J_two 166 rfl) hf (fun hf => SW_bm hf (fun s6 ok6 hf => ?_))
        refine SW_iload h rfl (dt t_J_two 167 rfl) ?_
        exact SW_iret h (hret _ hf) (fun _ => hx6_4) rfl (dt t_J_two 168 rfl)
      refine SW_isN (tgt := 263) h (dt t_J_two 42 rfl) rfl hf (fun hf => ?_) (fun hf => ?_)
      · exact SW_fgt [true, false, false, false, true, false, true, false] rfl (k4 v3 σ h3 ok hf)
      · refine SW_aload_n h rfl (dt t_J_two 43 rfl) ?_
        refine gR h cf4 o2 f4_1 j2_1 lX4_15 (dt t_J_two 44 rfl) ?_
        refine SW_iconst h (dt t_J_two 45 rfl) ?_
        refine SW_aload_n h rfl (dt t_J_two 46 rfl) ?_
        refine gR h cf4 o2 f4_0 j2_0 lX4_9 (dt t_J_two 47 rfl) ?_
        refine SW_bipush h (dt t_J_two 48 rfl) (by decide) ?_
        refine aIk h a3 (by decide) (dt t_J_two 49 rfl) ?_
        refine sIk h a4 (by decide) (okI ok 3 40 (IsA.n3 a3 (by decide))) (dt t_J_two 50 rfl) (SW_bm hf (fun s7 ok7 hf => ?_))
        refine SW_aload_n h rfl (dt t_J_two 51 rfl) ?_
        refine gR h cf4 o2 f4_1 j2_1 lX4_15 (dt t_J_two 52 rfl) ?_
        refine SW_iconst h (dt t_J_two 53 rfl) ?_
        refine SW_iload_n h rfl (dt t_J_two 54 rfl) ?_
        refine sIk h a4 (by decide) hx1 (dt t_J_two 55 rfl) (SW_bm hf (fun s8 ok8 hf => ?_))
        refine SW_aload_n h rfl (dt t_J_two 56 rfl) ?_
        refine gR h cf4 o2 f4_1 j2_1 lX4_15 (dt t_J_two 57 rfl) ?_
        refine SW_iconst h (dt t_J_two 58 rfl) ?_
        refine SW_iload_n h rfl (dt t_J_two 59 rfl) ?_
        refine sIk h a4 (by decide) hx2 (dt t_J_two 60 rfl) (SW_bm hf (fun s9 ok9 hf => ?_))
        refine SW_aload_n h rfl (dt t_J_two 61 rfl) ?_
        refine gR h cf4 o2 f4_1 j2_1 lX4_15 (dt t_J_two 62 rfl) ?_
        refine SW_iconst h (dt t_J_two 63 rfl) ?_
        refine SW_aload_n h rfl (dt t_J_two 64 rfl) ?_
        refine gR h cf4 o2 f4_0 j2_0 lX4_9 (dt t_J_two 65 rfl) ?_
        refine SW_iconst h (dt t_J_two 66 rfl) ?_
        refine SW_iload_n h rfl (dt t_J_two 67 rfl) ?_
        refine SW_iadd h (dt t_J_two 68 rfl) ?_
        refine aI h a3 (dt t_J_two 69 rfl) hf (fun hf => ?_)
        refine sIk h a4 (by decide) (okI ok9 3 ((0 + x1).toNat) (IsA.n3 a3 (by decide))) (dt t_J_two 70 rfl) (SW_bm hf (fun s10 ok10 hf => ?_))
        refine SW_aload_n h rfl (dt t_J_two 71 rfl) ?_
        refine gR h cf4 o2 f4_1 j2_1 lX4_15 (dt t_J_two 72 rfl) ?_
        refine SW_iconst h (dt t_J_two 73 rfl) ?_
        refine SW_aload_n h rfl (dt t_J_two 74 rfl) ?_
        refine gR h cf4 o2 f4_0 j2_0 lX4_9 (dt t_J_two 75 rfl) ?_
        refine SW_iconst h (dt t_J_two 76 rfl) ?_
        refine SW_iload_n h rfl (dt t_J_two 77 rfl) ?_
        refine SW_iadd h (dt t_J_two 78 rfl) ?_
        refine aI h a3 (dt t_J_two 79 rfl) hf (fun hf => ?_)
        refine sIk h a4 (by decide) (okI ok10 3 ((0 + x2).toNat) (IsA.n3 a3 (by decide))) (dt t_J_two 80 rfl) (SW_bm hf (fun s11 ok11 hf => ?_))
        refine SW_aload_n h rfl (dt t_J_two 81 rfl) ?_
        refine gR h cf4 o2 f4_1 j2_1 lX4_15 (dt t_J_two 82 rfl) ?_
        refine SW_iconst h (dt t_J_two 83 rfl) ?_
        refine SW_aload_n h rfl (dt t_J_two 84 rfl) ?_
        refine gR h cf4 o2 f4_0 j2_0 lX4_9 (dt t_J_two 85 rfl) ?_
        refine SW_bipush h (dt t_J_two 86 rfl) (by decide) ?_
        refine SW_iload_n h rfl (dt t_J_two 87 rfl) ?_
        refine SW_iadd h (dt t_J_two 88 rfl) ?_
        refine aI h a3 (dt t_J_two 89 rfl) hf (fun hf => ?_)
        refine SW_aload_n h rfl (dt t_J_two 90 rfl) ?_
        refine gR h cf4 o2 f4_0 j2_0 lX4_9 (dt t_J_two 91 rfl) ?_
        refine SW_bipush h (dt t_J_two 92 rfl) (by decide) ?_
        refine SW_iload_n h rfl (dt t_J_two 93 rfl) ?_
        refine SW_iadd h (dt t_J_two 94 rfl) ?_
        refine aI h a3 (dt t_J_two 95 rfl) hf (fun hf => ?_)
        refine SW_iadd h (dt t_J_two 96 rfl) ?_
        refine SW_chk hf (fun h12 hf => ?_)
        refine sIk h a4 (by decide) h12 (dt t_J_two 97 rfl) (SW_bm hf (fun s13 ok13 hf => ?_))
        refine SW_aload_n h rfl (dt t_J_two 98 rfl) ?_
        refine gR h cf4 o2 f4_1 j2_1 lX4_15 (dt t_J_two 99 rfl) ?_
        refine SW_bipush h (dt t_J_two 100 rfl) (by decide) ?_
        refine SW_iload_n h rfl (dt t_J_two 101 rfl) ?_
        refine SW_iconst h (dt t_J_two 102 rfl) ?_
        refine SW_ishr h (dt t_J_two 103 rfl) ?_
        refine sIk h a4 (by decide) (r_ishr _ _) (dt t_J_two 104 rfl) (SW_bm hf (fun s14 ok14 hf => ?_))
        refine SW_aload_n h rfl (dt t_J_two 105 rfl) ?_
        refine gR h cf4 o2 f4_1 j2_1 lX4_15 (dt t_J_two 106 rfl) ?_
        refine SW_bipush h (dt t_J_two 107 rfl) (by decide) ?_
        refine SW_iload_n h rfl (dt t_J_two 108 rfl) ?_
        refine SW_iconst h (dt t_J_two 109 rfl) ?_
        refine SW_iand h (dt t_J_two 110 rfl) ?_
        refine sIk h a4 (by decide) (r_iand _ _) (dt t_J_two 111 rfl) (SW_bm hf (fun s15 ok15 hf => ?_))
        refine SW_aload_n h rfl (dt t_J_two 112 rfl) ?_
        refine gR h cf4 o2 f4_1 j2_1 lX4_15 (dt t_J_two 113 rfl) ?_
        refine SW_bipush h (dt t_J_two 114 rfl) (by decide) ?_
        refine SW_iload h rfl (dt t_J_two 115 rfl) ?_
        refine sIk h a4 (by decide) h2 (dt t_J_two 116 rfl) (SW_bm hf (fun s16 ok16 hf => ?_))
        refine SW_aload_n h rfl (dt t_J_two 117 rfl) ?_
        refine gD h cf4 o2 f4_6 lX4_31 (dt t_J_two 118 rfl) ?_
        refine SW_isO hf (fun h17 hf => ?_)
        refine SW_iconst h (dt t_J_two 119 rfl) ?_
        obtain ⟨v18, e18, hf⟩ := b1_of hf
        refine cV h [.int (i32 0)] [] v_X9_has kX4_35 h17 (c_T_has ((s16 2 6).toNat) h17 0 (by decide) e18) rfl rfl (by decide) (by decide) rfl (Nat.le_of_ble_eq_true rfl) (dt t_J_two 120 rfl) (fun h18 => ?_)
        refine bJ hf (fun J19 e19 hf => ?_)
        have k19 : ∀ (y19 : Int) (t19 : Mm) (hy19 : r32 y19) (ot19 : okM t19) (hf : J19 y19 t19 = some res), SW X 0 8 218 [some (.ref (xad X 2)), none, none, none, some (.int (i32 v1)), none, none, none] [.int (i32 y19)] t19 := by
          intro y19 t19 hy19 ot19 hf
          rw [e19] at hf
          refine SW_istore (lv2 := [some (.ref (xad X 2)), none, none, none, some (.int (i32 v1)), none, none, some (.int (i32 y19))]) h (dt t_J_two 136 rfl) (by decide) rfl ?_
          refine SW_iload h rfl (dt t_J_two 137 rfl) ?_
          refine bJ hf (fun J20 e20 hf => ?_)
          have k20 : ∀ (y20 : Int) (t20 : Mm) (hy20 : r32 y20) (ot20 : okM t20) (hf : J20 y20 t20 = some res), SW X 0 8 261 [some (.ref (xad X 2)), none, none, none, some (.int (i32 v1)), none, none, none] [.int (i32 y20)] t20 := by
            intro y20 t20 hy20 ot20 hf
            rw [e20] at hf
            refine SW_istore (lv2 := [some (.ref (xad X 2)), none, none, none, some (.int (i32 v1)), none, some (.int (i32 y20)), none]) h (dt t_J_two 155 rfl) (by decide) rfl ?_
            exact SW_fgt [true, false, false, false, true, false, true, false] rfl (k4 y20 t20 hy20 ot20 hf)
          refine SW_if_ne (tgt := 231) h (fun _ => hy19) (dt t_J_two 138 rfl) rfl hf (fun hf => ?_) (fun hf => ?_)
          · refine SW_sipush h (dt t_J_two 139 rfl) (by decide) ?_
            refine SW_goto (tgt := 261) h (dt t_J_two 140 rfl) rfl ?_
            exact SW_fgt [true, false, false, false, true, false, false, false] rfl (k20 1000 t19 (by decide) ot19 hf)
          · refine SW_aload_n h rfl (dt t_J_two 141 rfl) ?_
            refine gD h cf4 o2 f4_6 lX4_31 (dt t_J_two 142 rfl) ?_
            refine SW_isO hf (fun h21 hf => ?_)
            refine SW_iconst h (dt t_J_two 143 rfl) ?_
            obtain ⟨v22, e22, hf⟩ := b1_of hf
            refine cV h [.int (i32 1)] [] v_X9_has kX4_35 h21 (c_T_has ((t19 2 6).toNat) h21 1 (by decide) e22) rfl rfl (by decide) (by decide) rfl (Nat.le_of_ble_eq_true rfl) (dt t_J_two 144 rfl) (fun h22 => ?_)
            refine SW_if_ne (tgt := 246) h (fun _ => (r_zo h22)) (dt t_J_two 145 rfl) rfl hf (fun hf => ?_) (fun hf => ?_)
            · refine SW_iconst h (dt t_J_two 146 rfl) ?_
              refine SW_goto (tgt := 261) h (dt t_J_two 147 rfl) rfl ?_
              exact SW_fgt [true, false, false, false, true, false, false, false] rfl (k20 1 t19 (by decide) ot19 hf)
            · refine SW_bipush h (dt t_J_two 148 rfl) (by decide) ?_
              refine SW_bipush h (dt t_J_two 149 rfl) (by decide) ?_
              refine SW_aload_n h rfl (dt t_J_two 150 rfl) ?_
              refine SW_iconst h (dt t_J_two 151 rfl) ?_
              obtain ⟨v23, s23, e23, hf⟩ := b1M_of hf
              refine cV h [.int (i32 1)] [.int (i32 99), .int (i32 ((-99)))] v_X4_run kX4_41 o2 (c_J_run 1 (by decide) e23) rfl rfl (by decide) (by decide) rfl (Nat.le_of_ble_eq_true rfl) (dt t_J_two 152 rfl) (fun h23 => ?_)
              refine SW_ok (fun ok23 => ?_)
              refine SW_min h kX4_45 (by decide) h23 (Nat.le_of_ble_eq_true rfl) (dt t_J_two 153 rfl) ?_
              refine SW_max h kX4_51 (by decide) (r_min (by decide) h23) (Nat.le_of_ble_eq_true rfl) (dt t_J_two 154 rfl) ?_
              exact SW_fgt [true, false, false, false, true, false, false, false] rfl (k20 (max ((-99)) (min 99 v23)) s23 (r_max (by decide) (r_min (by decide) h23)) ok23 hf)
        refine SW_if_eq (tgt := 207) h (fun _ => (r_zo h18)) (dt t_J_two 121 rfl) rfl hf (fun hf => ?_) (fun hf => ?_)
        · refine SW_iload h rfl (dt t_J_two 130 rfl) ?_
          refine SW_iconst h (dt t_J_two 131 rfl) ?_
          refine SW_icmp_ne (tgt := 217) h (fun _ => h2) (fun _ => (by decide)) (dt t_J_two 132 rfl) rfl hf (fun hf => ?_) (fun hf => ?_)
          · refine SW_iconst h (dt t_J_two 133 rfl) ?_
            refine SW_goto (tgt := 218) h (dt t_J_two 134 rfl) rfl ?_
            exact SW_fgt [true, false, false, false, true, false, false, false] rfl (k19 1 s16 (by decide) ok16 hf)
          · refine SW_iconst h (dt t_J_two 135 rfl) ?_
            exact SW_fgt [true, false, false, false, true, false, false, false] rfl (k19 0 s16 (by decide) ok16 hf)
        · refine SW_aload_n h rfl (dt t_J_two 122 rfl) ?_
          refine SW_iconst h (dt t_J_two 123 rfl) ?_
          obtain ⟨v26, s26, e26, hf⟩ := b1M_of hf
          refine cV h [.int (i32 0)] [] v_X4_run kX4_41 o2 (c_J_run 0 (by decide) e26) rfl rfl (by decide) (by decide) rfl (Nat.le_of_ble_eq_true rfl) (dt t_J_two 124 rfl) (fun h26 => ?_)
          refine SW_ok (fun ok26 => ?_)
          refine SW_if_ne (tgt := 203) h (fun _ => h26) (dt t_J_two 125 rfl) rfl hf (fun hf => ?_) (fun hf => ?_)
          · refine SW_iconst h (dt t_J_two 126 rfl) ?_
            refine SW_goto (tgt := 218) h (dt t_J_two 127 rfl) rfl ?_
            exact SW_fgt [true, false, false, false, true, false, false, false] rfl (k19 1 s26 (by decide) ok26 hf)
          · refine SW_iconst h (dt t_J_two 128 rfl) ?_
            refine SW_goto (tgt := 218) h (dt t_J_two 129 rfl) rfl ?_
            exact SW_fgt [true, false, false, false, true, false, false, false] rfl (k19 0 s26 (by decide) ok26 hf)
    have hf := bIte hf
    refine SW_icmp_ne (tgt := 59) h (fun _ => h2) (fun _ => (by decide)) (dt t_J_two 35 rfl) rfl hf (fun hf => ?_) (fun hf => ?_)
    · refine SW_iconst h (dt t_J_two 36 rfl) ?_
      refine SW_goto (tgt := 62) h (dt t_J_two 37 rfl) rfl ?_
      exact k3 1 (by decide) hf
    · refine SW_sipush h (dt t_J_two 38 rfl) (by decide) ?_
      exact k3 1000 (by decide) hf
def b_J_within : List (Nat × Instr × Nat) := [(0, .iconst 0, 1), (1, .istore_n 2, 1), (2, .iconst 1, 1), (3, .istore_n 3, 1), (4, .iload_n 1, 1), (5, .istore 4, 2), (7, .iload 4, 2), (9, .bipush 10, 2), (11, .if_icmp .lt 52, 3), (14, .aload_n 0, 1), (15, .iload 4, 2), (17, .bipush 10, 2), (19, .idiv, 1), (20, .bipush 10, 2), (22, .irem, 1), (23, .iload 4, 2), (25, .bipush 10, 2), (27, .irem, 1), (28, .iload_n 3, 1), (29, .invokevirtual 89, 3), (32, .istore 5, 2), (34, .iload_n 2, 1), (35, .iload 5, 2), (37, .sipush 1000, 3), (40, .if_icmp .ne 7, 3), (43, .iconst 0, 1), (44, .goto 5, 3), (47, .iload 5, 2), (49, .iadd, 1), (50, .istore_n 2, 1), (51, .iconst 0, 1), (52, .istore_n 3, 1), (53, .iload 4, 2), (55, .bipush 10, 2), (57, .idiv, 1), (58, .istore 4, 2), (60, .goto (-53), 3), (63, .iload_n 2, 1), (64, .ireturn, 1)]
theorem t_J_within : DT cX4_within b_J_within := DT.of (by decide +kernel)
def L_J_within_7 : Nat → Int → Int → Int → Mm → Option (Int × Mm)
  | 0, _, _, _, _ => none
  | n + 1, x2, x3, x4, σ =>
    if x4 < 10 then
      some ((x2, σ))
    else
      b1M (F_J_two ((x4.tdiv 10).tmod 10) (x4.tmod 10) x3 σ) fun v1 s1 =>
      bindM ((if v1 = 1000 then 0 else v1 : Int)) fun v2 =>
      if r32 (x2 + v2) then
        L_J_within_7 n (x2 + v2) 0 (x4.tdiv 10) s1
      else none
set_option maxRecDepth 100000 in
set_option maxHeartbeats 4000000 in
theorem l_J_within_7 {X : Cx} (h : CX X 0 cX4_within 6 6 (some .int) RX4)   {res : Int × Mm} (hex : ∀ (x2 : Int) (σ : Mm) (hz : some ((x2, σ)) = some res) (hx2 : r32 x2) (ok : okM σ), SW X 0 6 63 [none, none, some (.int (i32 x2)), none, none, none] [] σ) : ∀ (n : Nat) (x2 : Int) (x3 : Int) (x4 : Int) (σ : Mm) (hx2 : r32 x2) (hx3 : r32 x3) (hx4 : r32 x4) (ok : okM σ) (hf : L_J_within_7 n x2 x3 x4 σ = some res), SW X 0 6 7 [some (.ref (xad X 2)), none, some (.int (i32 x2)), some (.int (i32 x3)), some (.int (i32 x4)), none] [] σ := by
  intro n
  induction n with
  | zero => intro x2 x3 x4 σ hx2 hx3 hx4 ok hf; exact absurd hf (by simp [L_J_within_7])
  | succ n ih =>
    intro x2 x3 x4 σ hx2 hx3 hx4 ok hf
    rw [L_J_within_7] at hf
    refine SW_iload h rfl (dt t_J_within 6 rfl) ?_
    refine SW_bipush h (dt t_J_within 7 rfl) (by decide) ?_
    refine SW_icmp_lt (tgt := 63) h (fun _ => hx4) (fun _ => (by decide)) (dt t_J_within 8 rfl) rfl hf (fun hf => ?_) (fun hf => ?_)
    · exact SW_fgt [false, false, true, false, false, false] rfl (hex x2 σ hf hx2 ok)
    · refine SW_aload_n h rfl (dt t_J_within 9 rfl) ?_
      refine SW_iload h rfl (dt t_J_within 10 rfl) ?_
      refine SW_bipush h (dt t_J_within 11 rfl) (by decide) ?_
      refine SW_idiv h (fun _ => hx4) (fun _ => (by decide)) (by decide) (dt t_J_within 12 rfl) ?_
      refine SW_bipush h (dt t_J_within 13 rfl) (by decide) ?_
      refine SW_irem h (fun _ => (r_tdiv hx4 (by decide))) (fun _ => (by decide)) (by decide) (dt t_J_within 14 rfl) ?_
      refine SW_iload h rfl (dt t_J_within 15 rfl) ?_
      refine SW_bipush h (dt t_J_within 16 rfl) (by decide) ?_
      refine SW_irem h (fun _ => hx4) (fun _ => (by decide)) (by decide) (dt t_J_within 17 rfl) ?_
      refine SW_iload_n h rfl (dt t_J_within 18 rfl) ?_
      obtain ⟨v1, s1, e1, hf⟩ := b1M_of hf
      refine cV h [.int (i32 ((x4.tdiv 10).tmod 10)), .int (i32 (x4.tmod 10)), .int (i32 x3)] [] v_X4_two kX4_89 o2 (c_J_two ((x4.tdiv 10).tmod 10) (r_tmod (r_tdiv hx4 (by decide)) (by decide)) (x4.tmod 10) (r_tmod hx4 (by decide)) x3 hx3 e1) rfl rfl (by decide) (by decide) rfl (Nat.le_of_ble_eq_true rfl) (dt t_J_within 19 rfl) (fun h1 => ?_)
      refine SW_ok (fun ok1 => ?_)
      refine SW_istore (lv2 := [some (.ref (xad X 2)), none, some (.int (i32 x2)), some (.int (i32 x3)), some (.int (i32 x4)), some (.int (i32 v1))]) h (dt t_J_within 20 rfl) (by decide) rfl ?_
      refine SW_iload_n h rfl (dt t_J_within 21 rfl) ?_
      refine SW_iload h rfl (dt t_J_within 22 rfl) ?_
      refine SW_sipush h (dt t_J_within 23 rfl) (by decide) ?_
      refine bT hf (fun g2 e2 hf => ?_)
      have k2 : ∀ (v2 : Int) (h2 : r32 v2) (hf : g2 v2 = some res), SW X 0 6 49 [some (.ref (xad X 2)), none, some (.int (i32 x2)), some (.int (i32 x3)), some (.int (i32 x4)), some (.int (i32 v1))] [.int (i32 v2), .int (i32 x2)] s1 := by
        intro v2 h2 hf
        rw [e2] at hf
        refine SW_iadd h (dt t_J_within 28 rfl) ?_
        refine SW_istore_n (lv2 := [some (.ref (xad X 2)), none, some (.int (i32 (x2 + v2))), some (.int (i32 x3)), some (.int (i32 x4)), some (.int (i32 v1))]) h (dt t_J_within 29 rfl) (by decide) rfl ?_
        refine SW_iconst h (dt t_J_within 30 rfl) ?_
        refine SW_istore_n (lv2 := [some (.ref (xad X 2)), none, some (.int (i32 (x2 + v2))), some (.int (i32 0)), some (.int (i32 x4)), some (.int (i32 v1))]) h (dt t_J_within 31 rfl) (by decide) rfl ?_
        refine SW_iload h rfl (dt t_J_within 32 rfl) ?_
        refine SW_bipush h (dt t_J_within 33 rfl) (by decide) ?_
        refine SW_idiv h (fun _ => hx4) (fun _ => (by decide)) (by decide) (dt t_J_within 34 rfl) ?_
        refine SW_istore (lv2 := [some (.ref (xad X 2)), none, some (.int (i32 (x2 + v2))), some (.int (i32 0)), some (.int (i32 (x4.tdiv 10))), some (.int (i32 v1))]) h (dt t_J_within 35 rfl) (by decide) rfl ?_
        refine SW_goto (tgt := 7) h (dt t_J_within 36 rfl) rfl ?_
        refine SW_chk hf (fun h3 hf => ?_)
        exact SW_fgt [true, false, true, true, true, false] rfl (ih (x2 + v2) 0 (x4.tdiv 10) s1 h3 (by decide) (r_tdiv hx4 (by decide)) ok1 hf)
      have hf := bIte hf
      refine SW_icmp_ne (tgt := 47) h (fun _ => h1) (fun _ => (by decide)) (dt t_J_within 24 rfl) rfl hf (fun hf => ?_) (fun hf => ?_)
      · refine SW_iconst h (dt t_J_within 25 rfl) ?_
        refine SW_goto (tgt := 49) h (dt t_J_within 26 rfl) rfl ?_
        exact k2 0 (by decide) hf
      · refine SW_iload h rfl (dt t_J_within 27 rfl) ?_
        exact k2 v1 h1 hf
def F_J_within (x1 : Int) (σ : Mm) : Option (Int × Mm) :=
  b1M (L_J_within_7 LF 0 1 x1 σ) fun x2_4 s4 =>
  some (x2_4, s4)
set_option maxRecDepth 100000 in
set_option maxHeartbeats 4000000 in
theorem c_J_within (x1 : Int) (hx1 : r32 x1) {σ : Mm} {a : Int} {σ2 : Mm} (hf : F_J_within x1 σ = some (a, σ2)) : CT yX4_within cX4_within 6 (some .int) 6 0 (fun ad => [.ref (ad 2), .int (i32 x1)]) σ (r32 a) (some (.int (i32 a))) σ2 := by
  refine MetJ 4 (by decide +kernel) rfl (fun _ => Nat.le_of_ble_eq_true rfl) ?_
  intro X h hR ok
  obtain ⟨res, er⟩ : ∃ z, z = (a, σ2) := ⟨_, rfl⟩
  have hret : ∀ y : Int × Mm, some y = some res → RX X 0 (r32 (y.1)) (some (.int (i32 (y.1)))) y.2 := fun y e => by cases e; cases er; exact hR
  rw [← er] at hf
  clear er hR
  unfold F_J_within at hf
  show SW X 0 6 0 [some (.ref (xad X 2)), some (.int (i32 x1)), none, none, none, none] [] σ
  refine SW_iconst h (dt t_J_within 0 rfl) ?_
  refine SW_istore_n (lv2 := [some (.ref (xad X 2)), some (.int (i32 x1)), some (.int (i32 0)), none, none, none]) h (dt t_J_within 1 rfl) (by decide) rfl ?_
  refine SW_iconst h (dt t_J_within 2 rfl) ?_
  refine SW_istore_n (lv2 := [some (.ref (xad X 2)), some (.int (i32 x1)), some (.int (i32 0)), some (.int (i32 1)), none, none]) h (dt t_J_within 3 rfl) (by decide) rfl ?_
  refine SW_iload_n h rfl (dt t_J_within 4 rfl) ?_
  refine SW_istore (lv2 := [some (.ref (xad X 2)), some (.int (i32 x1)), some (.int (i32 0)), some (.int (i32 1)), some (.int (i32 x1)), none]) h (dt t_J_within 5 rfl) (by decide) rfl ?_
  obtain ⟨z4, e4, hk4⟩ := b1M_ex hf
  refine SW_fgt [true, false, true, true, true, false] rfl (l_J_within_7 h (fun x2_4 s4 hz4 hx2_4 ok4 => ?_) LF 0 1 x1 σ (by decide) (by decide) hx1 ok e4)
  have hf := hk4 x2_4 s4 hz4
  refine SW_iload_n h rfl (dt t_J_within 37 rfl) ?_
  exact SW_iret h (hret _ hf) (fun _ => hx2_4) rfl (dt t_J_within 38 rfl)
def b_B_reckonAll : List (Nat × Instr × Nat) := [(0, .aload_n 0, 1), (1, .getfield 21, 3), (4, .invokevirtual 25, 3), (7, .iconst 0, 1), (8, .istore_n 1, 1), (9, .iload_n 1, 1), (10, .aload_n 0, 1), (11, .getfield 18, 3), (14, .arraylength, 1), (15, .if_icmp .ge 39, 3), (18, .aload_n 0, 1), (19, .getfield 18, 3), (22, .iload_n 1, 1), (23, .iconst 0, 1), (24, .aload_n 0, 1), (25, .getfield 9, 3), (28, .iload_n 1, 1), (29, .iaload, 1), (30, .aload_n 0, 1), (31, .getfield 21, 3), (34, .aload_n 0, 1), (35, .getfield 9, 3), (38, .iload_n 1, 1), (39, .iaload, 1), (40, .invokevirtual 30, 3), (43, .iadd, 1), (44, .invokestatic 34, 3), (47, .iastore, 1), (48, .iinc 1 1, 3), (51, .goto (-42), 3), (54, .return_, 1)]
theorem t_B_reckonAll : DT cX0_reckonAll b_B_reckonAll := DT.of (by decide +kernel)
def L_B_reckonAll_9 : Nat → Int → Mm → Option (Mm)
  | 0, _, _ => none
  | n + 1, x1, σ =>
    if ((36 : Nat) : Int) ≤ x1 then
      some σ
    else
      if 0 ≤ x1 ∧ x1 < 36 then
        if 0 ≤ x1 ∧ x1 < 36 then
          b1M (F_J_within (σ 130 x1.toNat) σ) fun v2 s2 =>
          if r32 ((σ 130 x1.toNat) + v2) then
            if 0 ≤ x1 ∧ x1 < 36 then
              bindM (st2 s2 132 x1.toNat (max 0 ((σ 130 x1.toNat) + v2))) fun s5 =>
              if r32 (x1 + 1) then
                L_B_reckonAll_9 n (x1 + 1) s5
              else none
            else none
          else none
        else none
      else none
set_option maxRecDepth 100000 in
set_option maxHeartbeats 4000000 in
theorem l_B_reckonAll_9 {X : Cx} (h : CX X 0 cX0_reckonAll 2 7 none RX0)   {res : Mm} (hex : ∀  (σ : Mm) (hz : some σ = some res)  (ok : okM σ), SW X 0 2 54 [none, none] [] σ) : ∀ (n : Nat) (x1 : Int) (σ : Mm) (hx1 : r32 x1) (ok : okM σ) (hf : L_B_reckonAll_9 n x1 σ = some res), SW X 0 2 9 [some (.ref (xad X 129)), some (.int (i32 x1))] [] σ := by
  intro n
  induction n with
  | zero => intro x1 σ hx1 ok hf; exact absurd hf (by simp [L_B_reckonAll_9])
  | succ n ih =>
    intro x1 σ hx1 ok hf
    rw [L_B_reckonAll_9] at hf
    refine SW_iload_n h rfl (dt t_B_reckonAll 5 rfl) ?_
    refine SW_aload_n h rfl (dt t_B_reckonAll 6 rfl) ?_
    refine gR h cf0 o129 f0_2 j129_2 lX0_18 (dt t_B_reckonAll 7 rfl) ?_
    refine aLen h (by decide) a132 (dt t_B_reckonAll 8 rfl) ?_
    refine SW_icmp_ge (tgt := 54) h (fun _ => hx1) (fun _ => (by decide)) (dt t_B_reckonAll 9 rfl) rfl hf (fun hf => ?_) (fun hf => ?_)
    · exact SW_fgt [false, false] rfl (hex σ hf ok)
    · refine SW_aload_n h rfl (dt t_B_reckonAll 10 rfl) ?_
      refine gR h cf0 o129 f0_2 j129_2 lX0_18 (dt t_B_reckonAll 11 rfl) ?_
      refine SW_iload_n h rfl (dt t_B_reckonAll 12 rfl) ?_
      refine SW_iconst h (dt t_B_reckonAll 13 rfl) ?_
      refine SW_aload_n h rfl (dt t_B_reckonAll 14 rfl) ?_
      refine gR h cf0 o129 f0_0 j129_0 lX0_9 (dt t_B_reckonAll 15 rfl) ?_
      refine SW_iload_n h rfl (dt t_B_reckonAll 16 rfl) ?_
      refine aI h a130 (dt t_B_reckonAll 17 rfl) hf (fun hf => ?_)
      refine SW_aload_n h rfl (dt t_B_reckonAll 18 rfl) ?_
      refine gR h cf0 o129 f0_3 j129_3 lX0_21 (dt t_B_reckonAll 19 rfl) ?_
      refine SW_aload_n h rfl (dt t_B_reckonAll 20 rfl) ?_
      refine gR h cf0 o129 f0_0 j129_0 lX0_9 (dt t_B_reckonAll 21 rfl) ?_
      refine SW_iload_n h rfl (dt t_B_reckonAll 22 rfl) ?_
      refine aI h a130 (dt t_B_reckonAll 23 rfl) hf (fun hf => ?_)
      obtain ⟨v2, s2, e2, hf⟩ := b1M_of hf
      refine cV h [.int (i32 (σ 130 x1.toNat))] [.int (i32 (σ 130 x1.toNat)), .int (i32 0), .int (i32 x1), .ref (xad X 132)] v_X4_within kX0_30 o2 (c_J_within (σ 130 x1.toNat) (okI ok 130 x1.toNat (IsA.n3 a130 (by decide))) e2) rfl rfl (by decide) (by decide) rfl (Nat.le_of_ble_eq_true rfl) (dt t_B_reckonAll 24 rfl) (fun h2 => ?_)
      refine SW_ok (fun ok2 => ?_)
      refine SW_iadd h (dt t_B_reckonAll 25 rfl) ?_
      refine SW_chk hf (fun h4 hf => ?_)
      refine SW_max h kX0_34 (by decide) h4 (Nat.le_of_ble_eq_true rfl) (dt t_B_reckonAll 26 rfl) ?_
      refine sI h a132 (r_max (by decide) h4) (dt t_B_reckonAll 27 rfl) hf (fun hf => SW_bm hf (fun s5 ok5 hf => ?_))
      refine SW_iinc (lv2 := [some (.ref (xad X 129)), some (.int (i32 (x1 + 1)))]) h (dt t_B_reckonAll 28 rfl) rfl (by decide) rfl ?_
      refine SW_goto (tgt := 9) h (dt t_B_reckonAll 29 rfl) rfl ?_
      refine SW_chk hf (fun h6 hf => ?_)
      exact SW_fgt [true, true] rfl (ih (x1 + 1) s5 h6 ok5 hf)
def F_B_reckonAll  (σ : Mm) : Option (Mm) :=
  b0M (F_J_fresh  σ) fun s1 =>
  b0M (L_B_reckonAll_9 LF 0 s1) fun s7 =>
  some s7
set_option maxRecDepth 100000 in
set_option maxHeartbeats 4000000 in
theorem c_B_reckonAll  {σ : Mm} {σ2 : Mm} (hf : F_B_reckonAll  σ = some σ2) : CT yX0_reckonAll cX0_reckonAll 2 none 7 0 (fun ad => [.ref (ad 129)]) σ True none σ2 := by
  refine MetJ 1 (by decide +kernel) rfl (fun _ => Nat.le_of_ble_eq_true rfl) ?_
  intro X h hR ok
  obtain ⟨res, er⟩ : ∃ z, z = σ2 := ⟨_, rfl⟩
  have hret : ∀ y : Mm, some y = some res → RX X 0 True none y := fun y e => by cases e; cases er; exact hR
  rw [← er] at hf
  clear er hR
  unfold F_B_reckonAll at hf
  show SW X 0 2 0 [some (.ref (xad X 129)), none] [] σ
  refine SW_aload_n h rfl (dt t_B_reckonAll 0 rfl) ?_
  refine gR h cf0 o129 f0_3 j129_3 lX0_21 (dt t_B_reckonAll 1 rfl) ?_
  obtain ⟨s1, e1, hf⟩ := b0M_of hf
  refine cVv h [] [] v_X4_fresh kX0_25 o2 (c_J_fresh  e1) rfl rfl (by decide) (by decide) rfl (Nat.le_of_ble_eq_true rfl) (dt t_B_reckonAll 2 rfl) (fun h1 => ?_)
  refine SW_ok (fun ok1 => ?_)
  refine SW_iconst h (dt t_B_reckonAll 3 rfl) ?_
  refine SW_istore_n (lv2 := [some (.ref (xad X 129)), some (.int (i32 0))]) h (dt t_B_reckonAll 4 rfl) (by decide) rfl ?_
  obtain ⟨z7, e7, hk7⟩ := b0M_ex hf
  refine SW_fgt [true, true] rfl (l_B_reckonAll_9 h (fun s7 hz7 ok7 => ?_) LF 0 s1 (by decide) ok1 e7)
  have hf := hk7 s7 hz7
  exact SW_vret h (hret _ hf) rfl (dt t_B_reckonAll 30 rfl)
def b_B_shortestRing : List (Nat × Instr × Nat) := [(0, .aload_n 0, 1), (1, .invokevirtual 40, 3), (4, .iconst 2, 1), (5, .istore_n 1, 1), (6, .iload_n 1, 1), (7, .bipush 6, 2), (9, .if_icmp .gt 48, 3), (12, .iconst 0, 1), (13, .istore_n 2, 1), (14, .iload_n 2, 1), (15, .bipush 6, 2), (17, .if_icmp .ge 34, 3), (20, .aload_n 0, 1), (21, .getfield 15, 3), (24, .iconst 0, 1), (25, .iload_n 2, 1), (26, .iastore, 1), (27, .aload_n 0, 1), (28, .getfield 18, 3), (31, .aload_n 0, 1), (32, .getfield 15, 3), (35, .iconst 1, 1), (36, .iload_n 1, 1), (37, .invokestatic 43, 3), (40, .ifCond .eq 5, 3), (43, .iload_n 1, 1), (44, .ireturn, 1), (45, .iinc 2 1, 3), (48, .goto (-34), 3), (51, .iinc 1 1, 3), (54, .goto (-48), 3), (57, .iconst 0, 1), (58, .ireturn, 1)]
theorem t_B_shortestRing : DT cX0_shortestRing b_B_shortestRing := DT.of (by decide +kernel)
def L_B_shortestRing_14 : Nat → Int → Int → Mm → Option ((Int × Mm) ⊕ (Mm))
  | 0, _, _, _ => none
  | n + 1, x1, x2, σ =>
    if 6 ≤ x2 then
      some (.inr σ)
    else
      bindM (st2 σ 131 0 x2) fun s2 =>
      b1M (F_B_closes 12 1 x1 s2) fun v3 s3 =>
      if v3 = 0 then
        if r32 (x2 + 1) then
          L_B_shortestRing_14 n x1 (x2 + 1) s3
        else none
      else
        some (.inl (x1, s3))
set_option maxRecDepth 100000 in
set_option maxHeartbeats 4000000 in
theorem l_B_shortestRing_14 {X : Cx} (h : CX X 0 cX0_shortestRing 3 13 (some .int) RX0) (x1 : Int) (hx1 : r32 x1) {res : (Int × Mm) ⊕ (Mm)} (hret : ∀ y : Int × Mm, some (.inl y) = some res → RX X 0 (r32 (y.1)) (some (.int (i32 (y.1)))) y.2) (hex : ∀  (σ : Mm) (hz : some (.inr σ) = some res)  (ok : okM σ), SW X 0 3 51 [some (.ref (xad X 129)), some (.int (i32 x1)), none] [] σ) : ∀ (n : Nat) (x2 : Int) (σ : Mm) (hx2 : r32 x2) (ok : okM σ) (hf : L_B_shortestRing_14 n x1 x2 σ = some res), SW X 0 3 14 [some (.ref (xad X 129)), some (.int (i32 x1)), some (.int (i32 x2))] [] σ := by
  intro n
  induction n with
  | zero => intro x2 σ hx2 ok hf; exact absurd hf (by simp [L_B_shortestRing_14])
  | succ n ih =>
    intro x2 σ hx2 ok hf
    rw [L_B_shortestRing_14] at hf
    refine SW_iload_n h rfl (dt t_B_shortestRing 9 rfl) ?_
    refine SW_bipush h (dt t_B_shortestRing 10 rfl) (by decide) ?_
    refine SW_icmp_ge (tgt := 51) h (fun _ => hx2) (fun _ => (by decide)) (dt t_B_shortestRing 11 rfl) rfl hf (fun hf => ?_) (fun hf => ?_)
    · exact SW_fgt [true, true, false] rfl (hex σ hf ok)
    · refine SW_aload_n h rfl (dt t_B_shortestRing 12 rfl) ?_
      refine gR h cf0 o129 f0_1 j129_1 lX0_15 (dt t_B_shortestRing 13 rfl) ?_
      refine SW_iconst h (dt t_B_shortestRing 14 rfl) ?_
      refine SW_iload_n h rfl (dt t_B_shortestRing 15 rfl) ?_
      refine sIk h a131 (by decide) hx2 (dt t_B_shortestRing 16 rfl) (SW_bm hf (fun s2 ok2 hf => ?_))
      refine SW_aload_n h rfl (dt t_B_shortestRing 17 rfl) ?_
      refine gR h cf0 o129 f0_2 j129_2 lX0_18 (dt t_B_shortestRing 18 rfl) ?_
      refine SW_aload_n h rfl (dt t_B_shortestRing 19 rfl) ?_
      refine gR h cf0 o129 f0_1 j129_1 lX0_15 (dt t_B_shortestRing 20 rfl) ?_
      refine SW_iconst h (dt t_B_shortestRing 21 rfl) ?_
      refine SW_iload_n h rfl (dt t_B_shortestRing 22 rfl) ?_
      obtain ⟨v3, s3, e3, hf⟩ := b1M_of hf
      refine cS h [.ref (xad X 132), .ref (xad X 131), .int (i32 1), .int (i32 x1)] [] v_X0_closes kX0_43 (c_B_closes 12 1 (by decide) x1 hx1 e3) rfl rfl (by decide) (by decide) rfl (Nat.le_of_ble_eq_true rfl) (dt t_B_shortestRing 23 rfl) (fun h3 => ?_)
      refine SW_ok (fun ok3 => ?_)
      refine SW_if_eq (tgt := 45) h (fun _ => (r_zo h3)) (dt t_B_shortestRing 24 rfl) rfl hf (fun hf => ?_) (fun hf => ?_)
      · refine SW_iinc (lv2 := [some (.ref (xad X 129)), some (.int (i32 x1)), some (.int (i32 (x2 + 1)))]) h (dt t_B_shortestRing 27 rfl) rfl (by decide) rfl ?_
        refine SW_goto (tgt := 14) h (dt t_B_shortestRing 28 rfl) rfl ?_
        refine SW_chk hf (fun h4 hf => ?_)
        exact SW_fgt [true, true, true] rfl (ih (x2 + 1) s3 h4 ok3 hf)
      · refine SW_iload_n h rfl (dt t_B_shortestRing 25 rfl) ?_
        exact SW_iret h (hret _ hf) (fun _ => hx1) rfl (dt t_B_shortestRing 26 rfl)
def L_B_shortestRing_6 : Nat → Int → Mm → Option ((Int × Mm) ⊕ (Mm))
  | 0, _, _ => none
  | n + 1, x1, σ =>
    if 6 < x1 then
      some (.inr σ)
    else
      b0MS (L_B_shortestRing_14 LF x1 0 σ) (fun y => some (.inl y)) fun s5 =>
      if r32 (x1 + 1) then
        L_B_shortestRing_6 n (x1 + 1) s5
      else none
set_option maxRecDepth 100000 in
set_option maxHeartbeats 4000000 in
theorem l_B_shortestRing_6 {X : Cx} (h : CX X 0 cX0_shortestRing 3 13 (some .int) RX0)   {res : (Int × Mm) ⊕ (Mm)} (hret : ∀ y : Int × Mm, some (.inl y) = some res → RX X 0 (r32 (y.1)) (some (.int (i32 (y.1)))) y.2) (hex : ∀  (σ : Mm) (hz : some (.inr σ) = some res)  (ok : okM σ), SW X 0 3 57 [none, none, none] [] σ) : ∀ (n : Nat) (x1 : Int) (σ : Mm) (hx1 : r32 x1) (ok : okM σ) (hf : L_B_shortestRing_6 n x1 σ = some res), SW X 0 3 6 [some (.ref (xad X 129)), some (.int (i32 x1)), none] [] σ := by
  intro n
  induction n with
  | zero => intro x1 σ hx1 ok hf; exact absurd hf (by simp [L_B_shortestRing_6])
  | succ n ih =>
    intro x1 σ hx1 ok hf
    rw [L_B_shortestRing_6] at hf
    refine SW_iload_n h rfl (dt t_B_shortestRing 4 rfl) ?_
    refine SW_bipush h (dt t_B_shortestRing 5 rfl) (by decide) ?_
    refine SW_icmp_gt (tgt := 57) h (fun _ => hx1) (fun _ => (by decide)) (dt t_B_shortestRing 6 rfl) rfl hf (fun hf => ?_) (fun hf => ?_)
    · exact SW_fgt [false, false, false] rfl (hex σ hf ok)
    · refine SW_iconst h (dt t_B_shortestRing 7 rfl) ?_
      refine SW_istore_n (lv2 := [some (.ref (xad X 129)), some (.int (i32 x1)), some (.int (i32 0))]) h (dt t_B_shortestRing 8 rfl) (by decide) rfl ?_
      obtain ⟨z5, e5, g5, hk5⟩ := b0MS_of hf
      refine SW_fgt [true, true, true] rfl (l_B_shortestRing_14 h x1 hx1 (fun y e => hret y (g5 y (Option.some.inj e).symm)) (fun s5 hz5 ok5 => ?_) LF 0 σ (by decide) ok e5)
      have hf := hk5 s5 (Option.some.inj hz5).symm
      refine SW_iinc (lv2 := [some (.ref (xad X 129)), some (.int (i32 (x1 + 1))), none]) h (dt t_B_shortestRing 29 rfl) rfl (by decide) rfl ?_
      refine SW_goto (tgt := 6) h (dt t_B_shortestRing 30 rfl) rfl ?_
      refine SW_chk hf (fun h6 hf => ?_)
      exact SW_fgt [true, true, false] rfl (ih (x1 + 1) s5 h6 ok5 hf)
def F_B_shortestRing  (σ : Mm) : Option (Int × Mm) :=
  b0M (F_B_reckonAll  σ) fun s1 =>
  b0MS (L_B_shortestRing_6 LF 2 s1) (fun y => some y) fun s7 =>
  some (0, s7)
set_option maxRecDepth 100000 in
set_option maxHeartbeats 4000000 in
theorem c_B_shortestRing  {σ : Mm} {a : Int} {σ2 : Mm} (hf : F_B_shortestRing  σ = some (a, σ2)) : CT yX0_shortestRing cX0_shortestRing 3 (some .int) 13 0 (fun ad => [.ref (ad 129)]) σ (r32 a) (some (.int (i32 a))) σ2 := by
  refine MetJ 2 (by decide +kernel) rfl (fun _ => Nat.le_of_ble_eq_true rfl) ?_
  intro X h hR ok
  obtain ⟨res, er⟩ : ∃ z, z = (a, σ2) := ⟨_, rfl⟩
  have hret : ∀ y : Int × Mm, some y = some res → RX X 0 (r32 (y.1)) (some (.int (i32 (y.1)))) y.2 := fun y e => by cases e; cases er; exact hR
  rw [← er] at hf
  clear er hR
  unfold F_B_shortestRing at hf
  show SW X 0 3 0 [some (.ref (xad X 129)), none, none] [] σ
  refine SW_aload_n h rfl (dt t_B_shortestRing 0 rfl) ?_
  obtain ⟨s1, e1, hf⟩ := b0M_of hf
  refine cVv h [] [] v_X0_reckonAll kX0_40 o129 (c_B_reckonAll  e1) rfl rfl (by decide) (by decide) rfl (Nat.le_of_ble_eq_true rfl) (dt t_B_shortestRing 1 rfl) (fun h1 => ?_)
  refine SW_ok (fun ok1 => ?_)
  refine SW_iconst h (dt t_B_shortestRing 2 rfl) ?_
  refine SW_istore_n (lv2 := [some (.ref (xad X 129)), some (.int (i32 2)), none]) h (dt t_B_shortestRing 3 rfl) (by decide) rfl ?_
  obtain ⟨z7, e7, g7, hk7⟩ := b0MS_of hf
  refine SW_fgt [true, true, false] rfl (l_B_shortestRing_6 h (fun y e => hret y (g7 y (Option.some.inj e).symm)) (fun s7 hz7 ok7 => ?_) LF 2 s1 (by decide) ok1 e7)
  have hf := hk7 s7 (Option.some.inj hz7).symm
  refine SW_iconst h (dt t_B_shortestRing 31 rfl) ?_
  exact SW_iret h (hret _ hf) (fun _ => (by decide)) rfl (dt t_B_shortestRing 32 rfl)
def b_B_worthOf : List (Nat × Instr × Nat) := [(0, .aload_n 0, 1), (1, .invokevirtual 40, 3), (4, .iconst 0, 1), (5, .istore_n 2, 1), (6, .iconst 0, 1), (7, .istore_n 3, 1), (8, .iload_n 3, 1), (9, .bipush 6, 2), (11, .if_icmp .ge 35, 3), (14, .iload_n 2, 1), (15, .aload_n 0, 1), (16, .getfield 18, 3), (19, .iload_n 3, 1), (20, .bipush 6, 2), (22, .imul, 1), (23, .iload_n 1, 1), (24, .iadd, 1), (25, .iaload, 1), (26, .aload_n 0, 1), (27, .getfield 18, 3), (30, .iload_n 1, 1), (31, .bipush 6, 2), (33, .imul, 1), (34, .iload_n 3, 1), (35, .iadd, 1), (36, .iaload, 1), (37, .isub, 1), (38, .iadd, 1), (39, .istore_n 2, 1), (40, .iinc 3 1, 3), (43, .goto (-35), 3), (46, .iload_n 2, 1), (47, .ireturn, 1)]
theorem t_B_worthOf : DT cX0_worthOf b_B_worthOf := DT.of (by decide +kernel)
def L_B_worthOf_8 : Nat → Int → Int → Int → Mm → Option (Int)
  | 0, _, _, _, _ => none
  | n + 1, x1, x2, x3, σ =>
    if 6 ≤ x3 then
      some x2
    else
      if 0 ≤ (x3 * 6) + x1 ∧ (x3 * 6) + x1 < 36 then
        if 0 ≤ (x1 * 6) + x3 ∧ (x1 * 6) + x3 < 36 then
          bindM (x2 + ((σ 132 (((x3 * 6) + x1).toNat)) - (σ 132 (((x1 * 6) + x3).toNat)))) fun v2 =>
          if r32 v2 then
            if r32 (x3 + 1) then
              L_B_worthOf_8 n x1 v2 (x3 + 1) σ
            else none
          else none
        else none
      else none
set_option maxRecDepth 100000 in
set_option maxHeartbeats 4000000 in
theorem l_B_worthOf_8 {X : Cx} (h : CX X 0 cX0_worthOf 4 8 (some .int) RX0) (x1 : Int) (σ : Mm) (hx1 : r32 x1) (ok : okM σ) {res : Int} (hex : ∀ (x2 : Int) (hz : some x2 = some res) (hx2 : r32 x2), SW X 0 4 46 [none, none, some (.int (i32 x2)), none] [] σ) : ∀ (n : Nat) (x2 : Int) (x3 : Int) (hx2 : r32 x2) (hx3 : r32 x3) (hf : L_B_worthOf_8 n x1 x2 x3 σ = some res), SW X 0 4 8 [some (.ref (xad X 129)), some (.int (i32 x1)), some (.int (i32 x2)), some (.int (i32 x3))] [] σ := by
  intro n
  induction n with
  | zero => intro x2 x3 hx2 hx3 hf; exact absurd hf (by simp [L_B_worthOf_8])
  | succ n ih =>
    intro x2 x3 hx2 hx3 hf
    rw [L_B_worthOf_8] at hf
    refine SW_iload_n h rfl (dt t_B_worthOf 6 rfl) ?_
    refine SW_bipush h (dt t_B_worthOf 7 rfl) (by decide) ?_
    refine SW_icmp_ge (tgt := 46) h (fun _ => hx3) (fun _ => (by decide)) (dt t_B_worthOf 8 rfl) rfl hf (fun hf => ?_) (fun hf => ?_)
    · exact SW_fgt [false, false, true, false] rfl (hex x2 hf hx2)
    · refine SW_iload_n h rfl (dt t_B_worthOf 9 rfl) ?_
      refine SW_aload_n h rfl (dt t_B_worthOf 10 rfl) ?_
      refine gR h cf0 o129 f0_2 j129_2 lX0_18 (dt t_B_worthOf 11 rfl) ?_
      refine SW_iload_n h rfl (dt t_B_worthOf 12 rfl) ?_
      refine SW_bipush h (dt t_B_worthOf 13 rfl) (by decide) ?_
      refine SW_imul h (dt t_B_worthOf 14 rfl) ?_
      refine SW_iload_n h rfl (dt t_B_worthOf 15 rfl) ?_
      refine SW_iadd h (dt t_B_worthOf 16 rfl) ?_
      refine aI h a132 (dt t_B_worthOf 17 rfl) hf (fun hf => ?_)
      refine SW_aload_n h rfl (dt t_B_worthOf 18 rfl) ?_
      refine gR h cf0 o129 f0_2 j129_2 lX0_18 (dt t_B_worthOf 19 rfl) ?_
      refine SW_iload_n h rfl (dt t_B_worthOf 20 rfl) ?_
      refine SW_bipush h (dt t_B_worthOf 21 rfl) (by decide) ?_
      refine SW_imul h (dt t_B_worthOf 22 rfl) ?_
      refine SW_iload_n h rfl (dt t_B_worthOf 23 rfl) ?_
      refine SW_iadd h (dt t_B_worthOf 24 rfl) ?_
      refine aI h a132 (dt t_B_worthOf 25 rfl) hf (fun hf => ?_)
      refine SW_isub h (dt t_B_worthOf 26 rfl) ?_
      refine SW_iadd h (dt t_B_worthOf 27 rfl) ?_
      refine SW_vu hf (fun v2 hf => ?_)
      refine SW_istore_n (lv2 := [some (.ref (xad X 129)), some (.int (i32 x1)), some (.int (i32 v2)), some (.int (i32 x3))]) h (dt t_B_worthOf 28 rfl) (by decide) rfl ?_
      refine SW_iinc (lv2 := [some (.ref (xad X 129)), some (.int (i32 x1)), some (.int (i32 v2)), some (.int (i32 (x3 + 1)))]) h (dt t_B_worthOf 29 rfl) rfl (by decide) rfl ?_
      refine SW_goto (tgt := 8) h (dt t_B_worthOf 30 rfl) rfl ?_
      refine SW_chk hf (fun h3 hf => ?_)
      refine SW_chk hf (fun h4 hf => ?_)
      exact SW_fgt [true, true, true, true] rfl (ih v2 (x3 + 1) h3 h4 hf)
def F_B_worthOf (x1 : Int) (σ : Mm) : Option (Int × Mm) :=
  b0M (F_B_reckonAll  σ) fun s1 =>
  b1 (L_B_worthOf_8 LF x1 0 0 s1) fun x2_5 =>
  some (x2_5, s1)
set_option maxRecDepth 100000 in
set_option maxHeartbeats 4000000 in
theorem c_B_worthOf (x1 : Int) (hx1 : r32 x1) {σ : Mm} {a : Int} {σ2 : Mm} (hf : F_B_worthOf x1 σ = some (a, σ2)) : CT yX0_worthOf cX0_worthOf 4 (some .int) 8 0 (fun ad => [.ref (ad 129), .int (i32 x1)]) σ (r32 a) (some (.int (i32 a))) σ2 := by
  refine MetJ 2 (by decide +kernel) rfl (fun _ => Nat.le_of_ble_eq_true rfl) ?_
  intro X h hR ok
  obtain ⟨res, er⟩ : ∃ z, z = (a, σ2) := ⟨_, rfl⟩
  have hret : ∀ y : Int × Mm, some y = some res → RX X 0 (r32 (y.1)) (some (.int (i32 (y.1)))) y.2 := fun y e => by cases e; cases er; exact hR
  rw [← er] at hf
  clear er hR
  unfold F_B_worthOf at hf
  show SW X 0 4 0 [some (.ref (xad X 129)), some (.int (i32 x1)), none, none] [] σ
  refine SW_aload_n h rfl (dt t_B_worthOf 0 rfl) ?_
  obtain ⟨s1, e1, hf⟩ := b0M_of hf
  refine cVv h [] [] v_X0_reckonAll kX0_40 o129 (c_B_reckonAll  e1) rfl rfl (by decide) (by decide) rfl (Nat.le_of_ble_eq_true rfl) (dt t_B_worthOf 1 rfl) (fun h1 => ?_)
  refine SW_ok (fun ok1 => ?_)
  refine SW_iconst h (dt t_B_worthOf 2 rfl) ?_
  refine SW_istore_n (lv2 := [some (.ref (xad X 129)), some (.int (i32 x1)), some (.int (i32 0)), none]) h (dt t_B_worthOf 3 rfl) (by decide) rfl ?_
  refine SW_iconst h (dt t_B_worthOf 4 rfl) ?_
  refine SW_istore_n (lv2 := [some (.ref (xad X 129)), some (.int (i32 x1)), some (.int (i32 0)), some (.int (i32 0))]) h (dt t_B_worthOf 5 rfl) (by decide) rfl ?_
  obtain ⟨z5, e5, hk5⟩ := b1_ex hf
  refine SW_fgt [true, true, true, true] rfl (l_B_worthOf_8 h x1 s1 hx1 ok1 (fun x2_5 hz5 hx2_5 => ?_) LF 0 0 (by decide) (by decide) e5)
  have hf := hk5 x2_5 hz5
  refine SW_iload_n h rfl (dt t_B_worthOf 31 rfl) ?_
  exact SW_iret h (hret _ hf) (fun _ => hx2_5) rfl (dt t_B_worthOf 32 rfl)
