def b_G_spread : List (Nat × Instr × Nat) := [(0, .aload_n 0, 1), (1, .getfield 25, 3), (4, .iconst 0, 1), (5, .invokestatic 68, 3), (8, .iconst 1, 1), (9, .istore_n 2, 1), (10, .iload_n 2, 1), (11, .aload_n 1, 1), (12, .getfield 80, 3), (15, .if_icmp .ge 141, 3), (18, .aload_n 1, 1), (19, .getfield 83, 3), (22, .iload_n 2, 1), (23, .iconst 1, 1), (24, .isub, 1), (25, .iaload, 1), (26, .istore_n 3, 1), (27, .aload_n 1, 1), (28, .getfield 83, 3), (31, .iload_n 2, 1), (32, .iaload, 1), (33, .istore 4, 2), (35, .aload_n 0, 1), (36, .iload_n 3, 1), (37, .iload 4, 2), (39, .aload_n 1, 1), (40, .getfield 86, 3), (43, .iload_n 2, 1), (44, .iaload, 1), (45, .invokevirtual 89, 3), (48, .ifCond .ne 6, 3), (51, .goto 99, 3), (54, .aload_n 0, 1), (55, .getfield 18, 3), (58, .iload_n 3, 1), (59, .iaload, 1), (60, .istore 5, 2), (62, .aload_n 0, 1), (63, .getfield 18, 3), (66, .iload 4, 2), (68, .iaload, 1), (69, .istore 6, 2), (71, .iconst 0, 1), (72, .istore 7, 2), (74, .iload 7, 2), (76, .aload_n 0, 1), (77, .getfield 38, 3), (80, .if_icmp .ge 70, 3), (83, .iload 5, 2), (85, .ifCond .le 14, 3), (88, .iload 7, 2), (90, .iload 5, 2), (92, .idiv, 1), (93, .bipush 10, 2), (95, .irem, 1), (96, .goto 4, 3), (99, .iconst 0, 1), (100, .istore 8, 2), (102, .iload 6, 2), (104, .ifCond .le 14, 3), (107, .iload 7, 2), (109, .iload 6, 2), (111, .idiv, 1), (112, .bipush 10, 2), (114, .irem, 1), (115, .goto 4, 3), (118, .iconst 0, 1), (119, .istore 9, 2), (121, .aload_n 0, 1), (122, .getfield 25, 3), (125, .iload 7, 2), (127, .dup2, 1), (128, .iaload, 1), (129, .aload_n 0, 1), (130, .getfield 28, 3), (133, .iload 8, 2), (135, .bipush 10, 2), (137, .imul, 1), (138, .iload 9, 2), (140, .iadd, 1), (141, .iaload, 1), (142, .iadd, 1), (143, .iastore, 1), (144, .iinc 7 1, 3), (147, .goto (-73), 3), (150, .iinc 2 1, 3), (153, .goto (-143), 3), (156, .return_, 1)]
theorem t_G_spread : DT cX1_spread b_G_spread := DT.of (by decide +kernel)
def L_G_spread_74 : Nat → Int → Int → Int → Mm → Option (Mm)
  | 0, _, _, _, _ => none
  | n + 1, x5, x6, x7, σ =>
    if σ 121 9 ≤ x7 then
      some σ
    else
      bindM (fun (y9 : Int) =>
        bindM (fun (y10 : Int) =>
          if 0 ≤ x7 ∧ x7 < 1000 then
            if 0 ≤ (y9 * 10) + y10 ∧ (y9 * 10) + y10 < 100 then
              if r32 ((σ 126 x7.toNat) + (σ 127 (((y9 * 10) + y10).toNat))) then
                if 0 ≤ x7 ∧ x7 < 1000 then
                  bindM (st2 σ 126 x7.toNat ((σ 126 x7.toNat) + (σ 127 (((y9 * 10) + y10).toNat)))) fun s12 =>
                  if r32 (x7 + 1) then
                    L_G_spread_74 n x5 x6 (x7 + 1) s12
                  else none
                else none
              else none
            else none
          else none) fun J10 =>
        if x6 ≤ 0 then
          J10 0
        else
          if ¬ x6 = 0 then
            if r32 (x7.tdiv x6) then
              J10 ((x7.tdiv x6).tmod 10)
            else none
          else none) fun J9 =>
      if x5 ≤ 0 then
        J9 0
      else
        if ¬ x5 = 0 then
          if r32 (x7.tdiv x5) then
            J9 ((x7.tdiv x5).tmod 10)
          else none
        else none
set_option maxRecDepth 100000 in
set_option maxHeartbeats 4000000 in
theorem l_G_spread_74 {X : Cx} (h : CX X 0 cX1_spread 10 7 none RX1) (r1 : Nat) (x2 : Int) (x5 : Int) (x6 : Int) (q1 : IsO 0 6 r1) (hx2 : r32 x2) (hx5 : r32 x5) (hx6 : r32 x6) {res : Mm} (hex : ∀  (σ : Mm) (hz : some σ = some res)  (ok : okM σ), SW X 0 10 150 [some (.ref (xad X 121)), some (.ref (xad X r1)), some (.int (i32 x2)), none, none, none, none, none, none, none] [] σ) : ∀ (n : Nat) (x7 : Int) (σ : Mm) (hx7 : r32 x7) (ok : okM σ) (hf : L_G_spread_74 n x5 x6 x7 σ = some res), SW X 0 10 74 [some (.ref (xad X 121)), some (.ref (xad X r1)), some (.int (i32 x2)), none, none, some (.int (i32 x5)), some (.int (i32 x6)), some (.int (i32 x7)), none, none] [] σ := by
  intro n
  induction n with
  | zero => intro x7 σ hx7 ok hf; exact absurd hf (by simp [L_G_spread_74])
  | succ n ih =>
    intro x7 σ hx7 ok hf
    rw [L_G_spread_74] at hf
    refine SW_iload h rfl (dt t_G_spread 44 rfl) ?_
    refine SW_aload_n h rfl (dt t_G_spread 45 rfl) ?_
    refine gI h cf1 o121 f1_9 lX1_38 (dt t_G_spread 46 rfl) ?_
    refine SW_icmp_ge (tgt := 150) h (fun _ => hx7) (fun _ => (okI ok 121 9 (IsO.n3 o121))) (dt t_G_spread 47 rfl) rfl hf (fun hf => ?_) (fun hf => ?_)
    · exact SW_fgt [true, true, true, false, false, false, false, false, false, false] rfl (hex σ hf ok)
    · refine SW_iload h rfl (dt t_G_spread 48 rfl) ?_
      refine bJ hf (fun J9 e9 hf => ?_)
      have k9 : ∀ (y9 : Int) (hy9 : r32 y9) (hf : J9 y9 = some res), SW X 0 10 100 [some (.ref (xad X 121)), some (.ref (xad X r1)), some (.int (i32 x2)), none, none, some (.int (i32 x5)), some (.int (i32 x6)), some (.int (i32 x7)), none, none] [.int (i32 y9)] σ := by
        intro y9 hy9 hf
        rw [e9] at hf
        refine SW_istore (lv2 := [some (.ref (xad X 121)), some (.ref (xad X r1)), some (.int (i32 x2)), none, none, some (.int (i32 x5)), some (.int (i32 x6)), some (.int (i32 x7)), some (.int (i32 y9)), none]) h (dt t_G_spread 57 rfl) (by decide) rfl ?_
        refine SW_iload h rfl (dt t_G_spread 58 rfl) ?_
        refine bJ hf (fun J10 e10 hf => ?_)
        have k10 : ∀ (y10 : Int) (hy10 : r32 y10) (hf : J10 y10 = some res), SW X 0 10 119 [some (.ref (xad X 121)), some (.ref (xad X r1)), some (.int (i32 x2)), none, none, some (.int (i32 x5)), some (.int (i32 x6)), some (.int (i32 x7)), some (.int (i32 y9)), none] [.int (i32 y10)] σ := by
          intro y10 hy10 hf
          rw [e10] at hf
          refine SW_istore (lv2 := [some (.ref (xad X 121)), some (.ref (xad X r1)), some (.int (i32 x2)), none, none, some (.int (i32 x5)), some (.int (i32 x6)), some (.int (i32 x7)), some (.int (i32 y9)), some (.int (i32 y10))]) h (dt t_G_spread 67 rfl) (by decide) rfl ?_
          refine SW_aload_n h rfl (dt t_G_spread 68 rfl) ?_
          refine gR h cf1 o121 f1_6 j121_6 lX1_25 (dt t_G_spread 69 rfl) ?_
          refine SW_iload h rfl (dt t_G_spread 70 rfl) ?_
          refine SW_dup2 h rfl rfl (dt t_G_spread 71 rfl) ?_
          refine aI h a126 (dt t_G_spread 72 rfl) hf (fun hf => ?_)
          refine SW_aload_n h rfl (dt t_G_spread 73 rfl) ?_
          refine gR h cf1 o121 f1_7 j121_7 lX1_28 (dt t_G_spread 74 rfl) ?_
          refine SW_iload h rfl (dt t_G_spread 75 rfl) ?_
          refine SW_bipush h (dt t_G_spread 76 rfl) (by decide) ?_
          refine SW_imul h (dt t_G_spread 77 rfl) ?_
          refine SW_iload h rfl (dt t_G_spread 78 rfl) ?_
          refine SW_iadd h (dt t_G_spread 79 rfl) ?_
          refine aI h a127 (dt t_G_spread 80 rfl) hf (fun hf => ?_)
          refine SW_iadd h (dt t_G_spread 81 rfl) ?_
          refine SW_chk hf (fun h11 hf => ?_)
          refine sI h a126 h11 (dt t_G_spread 82 rfl) hf (fun hf => SW_bm hf (fun s12 ok12 hf => ?_))
          refine SW_iinc (lv2 := [some (.ref (xad X 121)), some (.ref (xad X r1)), some (.int (i32 x2)), none, none, some (.int (i32 x5)), some (.int (i32 x6)), some (.int (i32 (x7 + 1))), some (.int (i32 y9)), some (.int (i32 y10))]) h (dt t_G_spread 83 rfl) rfl (by decide) rfl ?_
          refine SW_goto (tgt := 74) h (dt t_G_spread 84 rfl) rfl ?_
          refine SW_chk hf (fun h13 hf => ?_)
          exact SW_fgt [true, true, true, false, false, true, true, true, false, false] rfl (ih (x7 + 1) s12 h13 ok12 hf)
        refine SW_if_le (tgt := 118) h (fun _ => hx6) (dt t_G_spread 59 rfl) rfl hf (fun hf => ?_) (fun hf => ?_)
        · refine SW_iconst h (dt t_G_spread 66 rfl) ?_
          exact SW_fgt [true, true, true, false, false, true, true, true, true, false] rfl (k10 0 (by decide) hf)
        · refine SW_iload h rfl (dt t_G_spread 60 rfl) ?_
          refine SW_iload h rfl (dt t_G_spread 61 rfl) ?_
          refine SW_chk hf (fun h14 hf => ?_)
          refine SW_idiv h (fun _ => hx7) (fun _ => hx6) h14 (dt t_G_spread 62 rfl) ?_
          refine SW_bipush h (dt t_G_spread 63 rfl) (by decide) ?_
          refine SW_chk hf (fun h15 hf => ?_)
          refine SW_irem h (fun _ => h15) (fun _ => (by decide)) (by decide) (dt t_G_spread 64 rfl) ?_
          refine SW_goto (tgt := 119) h (dt t_G_spread 65 rfl) rfl ?_
          exact SW_fgt [true, true, true, false, false, true, true, true, true, false] rfl (k10 ((x7.tdiv x6).tmod 10) (r_tmod h15 (by decide)) hf)
      refine SW_if_le (tgt := 99) h (fun _ => hx5) (dt t_G_spread 49 rfl) rfl hf (fun hf => ?_) (fun hf => ?_)
      · refine SW_iconst h (dt t_G_spread 56 rfl) ?_
        exact SW_fgt [true, true, true, false, false, true, true, true, false, false] rfl (k9 0 (by decide) hf)
      · refine SW_iload h rfl (dt t_G_spread 50 rfl) ?_
        refine SW_iload h rfl (dt t_G_spread 51 rfl) ?_
        refine SW_chk hf (fun h16 hf => ?_)
        refine SW_idiv h (fun _ => hx7) (fun _ => hx5) h16 (dt t_G_spread 52 rfl) ?_
        refine SW_bipush h (dt t_G_spread 53 rfl) (by decide) ?_
        refine SW_chk hf (fun h17 hf => ?_)
        refine SW_irem h (fun _ => h17) (fun _ => (by decide)) (by decide) (dt t_G_spread 54 rfl) ?_
        refine SW_goto (tgt := 100) h (dt t_G_spread 55 rfl) rfl ?_
        exact SW_fgt [true, true, true, false, false, true, true, true, false, false] rfl (k9 ((x7.tdiv x5).tmod 10) (r_tmod h17 (by decide)) hf)
def L_G_spread_10 : Nat → Nat → Int → Mm → Option (Mm)
  | 0, _, _, _ => none
  | n + 1, r1, x2, σ =>
    if σ r1 4 ≤ x2 then
      some σ
    else
      if 0 ≤ x2 - 1 ∧ x2 - 1 < 16 then
        bindM (σ (r1 + 24) ((x2 - 1).toNat)) fun v2 =>
        if 0 ≤ x2 ∧ x2 < 16 then
          bindM (σ (r1 + 24) x2.toNat) fun v3 =>
          if 0 ≤ x2 ∧ x2 < 16 then
            b1M (F_G_ask v2 v3 (σ (r1 + 36) x2.toNat) σ) fun v4 s4 =>
            bindM (fun  (t5 : Mm) =>
              if r32 (x2 + 1) then
                L_G_spread_10 n r1 (x2 + 1) t5
              else none) fun J5 =>
            if v4 = 0 then
              J5 s4
            else
              if 0 ≤ v2 ∧ v2 < 10 then
                bindM (s4 124 v2.toNat) fun v7 =>
                if 0 ≤ v3 ∧ v3 < 10 then
                  bindM (s4 124 v3.toNat) fun v8 =>
                  b0M (L_G_spread_74 LF v7 v8 0 s4) fun s18 =>
                  J5 s18
                else none
              else none
          else none
        else none
      else none
set_option maxRecDepth 100000 in
set_option maxHeartbeats 4000000 in
theorem l_G_spread_10 {X : Cx} (h : CX X 0 cX1_spread 10 7 none RX1) (r1 : Nat) (q1 : IsO 0 6 r1) {res : Mm} (hex : ∀  (σ : Mm) (hz : some σ = some res)  (ok : okM σ), SW X 0 10 156 [none, none, none, none, none, none, none, none, none, none] [] σ) : ∀ (n : Nat) (x2 : Int) (σ : Mm) (hx2 : r32 x2) (ok : okM σ) (hf : L_G_spread_10 n r1 x2 σ = some res), SW X 0 10 10 [some (.ref (xad X 121)), some (.ref (xad X r1)), some (.int (i32 x2)), none, none, none, none, none, none, none] [] σ := by
  intro n
  induction n with
  | zero => intro x2 σ hx2 ok hf; exact absurd hf (by simp [L_G_spread_10])
  | succ n ih =>
    intro x2 σ hx2 ok hf
    rw [L_G_spread_10] at hf
    refine SW_iload_n h rfl (dt t_G_spread 6 rfl) ?_
    refine SW_aload_n h rfl (dt t_G_spread 7 rfl) ?_
    refine gI h cf6 q1 f6_4 lX1_80 (dt t_G_spread 8 rfl) ?_
    refine SW_icmp_ge (tgt := 156) h (fun _ => hx2) (fun _ => (okI ok r1 4 (IsO.n3 q1))) (dt t_G_spread 9 rfl) rfl hf (fun hf => ?_) (fun hf => ?_)
    · exact SW_fgt [false, false, false, false, false, false, false, false, false, false] rfl (hex σ hf ok)
    · refine SW_aload_n h rfl (dt t_G_spread 10 rfl) ?_
      refine gR h cf6 q1 f6_1 (dy6_1 q1).1 lX1_83 (dt t_G_spread 11 rfl) ?_
      refine SW_iload_n h rfl (dt t_G_spread 12 rfl) ?_
      refine SW_iconst h (dt t_G_spread 13 rfl) ?_
      refine SW_isub h (dt t_G_spread 14 rfl) ?_
      refine aI h (dy6_1 q1).2 (dt t_G_spread 15 rfl) hf (fun hf => ?_)
      refine SW_vi hf (okI ok (r1 + 24) ((x2 - 1).toNat) (IsA.n3 (dy6_1 q1).2 (by decide))) (fun v2 h2 hf => ?_)
      refine SW_istore_n (lv2 := [some (.ref (xad X 121)), some (.ref (xad X r1)), some (.int (i32 x2)), some (.int (i32 v2)), none, none, none, none, none, none]) h (dt t_G_spread 16 rfl) (by decide) rfl ?_
      refine SW_aload_n h rfl (dt t_G_spread 17 rfl) ?_
      refine gR h cf6 q1 f6_1 (dy6_1 q1).1 lX1_83 (dt t_G_spread 18 rfl) ?_
      refine SW_iload_n h rfl (dt t_G_spread 19 rfl) ?_
      refine aI h (dy6_1 q1).2 (dt t_G_spread 20 rfl) hf (fun hf => ?_)
      refine SW_vi hf (okI ok (r1 + 24) x2.toNat (IsA.n3 (dy6_1 q1).2 (by decide))) (fun v3 h3 hf => ?_)
      refine SW_istore (lv2 := [some (.ref (xad X 121)), some (.ref (xad X r1)), some (.int (i32 x2)), some (.int (i32 v2)), some (.int (i32 v3)), none, none, none, none, none]) h (dt t_G_spread 21 rfl) (by decide) rfl ?_
      refine SW_aload_n h rfl (dt t_G_spread 22 rfl) ?_
      refine SW_iload_n h rfl (dt t_G_spread 23 rfl) ?_
      refine SW_iload h rfl (dt t_G_spread 24 rfl) ?_
      refine SW_aload_n h rfl (dt t_G_spread 25 rfl) ?_
      refine gR h cf6 q1 f6_2 (dy6_2 q1).1 lX1_86 (dt t_G_spread 26 rfl) ?_
      refine SW_iload_n h rfl (dt t_G_spread 27 rfl) ?_
      refine aI h (dy6_2 q1).2 (dt t_G_spread 28 rfl) hf (fun hf => ?_)
      obtain ⟨v4, s4, e4, hf⟩ := b1M_of hf
      refine cV h [.int (i32 v2), .int (i32 v3), .int (i32 (σ (r1 + 36) x2.toNat))] [] v_X1_ask kX1_89 o121 (c_G_ask v2 h2 v3 h3 (σ (r1 + 36) x2.toNat) (okI ok (r1 + 36) x2.toNat (IsA.n3 (dy6_2 q1).2 (by decide))) e4) rfl rfl (by decide) (by decide) rfl (Nat.le_of_ble_eq_true rfl) (dt t_G_spread 29 rfl) (fun h4 => ?_)
      refine SW_ok (fun ok4 => ?_)
      refine bJ hf (fun J5 e5 hf => ?_)
      have k5 : ∀  (t5 : Mm)  (ot5 : okM t5) (hf : J5 t5 = some res), SW X 0 10 150 [some (.ref (xad X 121)), some (.ref (xad X r1)), some (.int (i32 x2)), none, none, none, none, none, none, none] [] t5 := by
        intro t5 ot5 hf
        rw [e5] at hf
        refine SW_iinc (lv2 := [some (.ref (xad X 121)), some (.ref (xad X r1)), some (.int (i32 (x2 + 1))), none, none, none, none, none, none, none]) h (dt t_G_spread 85 rfl) rfl (by decide) rfl ?_
        refine SW_goto (tgt := 10) h (dt t_G_spread 86 rfl) rfl ?_
        refine SW_chk hf (fun h6 hf => ?_)
        exact SW_fgt [true, true, true, false, false, false, false, false, false, false] rfl (ih (x2 + 1) t5 h6 ot5 hf)
      refine SW_if_ne (tgt := 54) h (fun _ => (r_zo h4)) (dt t_G_spread 30 rfl) rfl hf (fun hf => ?_) (fun hf => ?_)
      · refine SW_goto (tgt := 150) h (dt t_G_spread 31 rfl) rfl ?_
        exact SW_fgt [true, true, true, false, false, false, false, false, false, false] rfl (k5 s4 ok4 hf)
      · refine SW_aload_n h rfl (dt t_G_spread 32 rfl) ?_
        refine gR h cf1 o121 f1_4 j121_4 lX1_18 (dt t_G_spread 33 rfl) ?_
        refine SW_iload_n h rfl (dt t_G_spread 34 rfl) ?_
        refine aI h a124 (dt t_G_spread 35 rfl) hf (fun hf => ?_)
        refine SW_vi hf (okI ok4 124 v2.toNat (IsA.n3 a124 (by decide))) (fun v7 h7 hf => ?_)
        refine SW_istore (lv2 := [some (.ref (xad X 121)), some (.ref (xad X r1)), some (.int (i32 x2)), some (.int (i32 v2)), some (.int (i32 v3)), some (.int (i32 v7)), none, none, none, none]) h (dt t_G_spread 36 rfl) (by decide) rfl ?_
        refine SW_aload_n h rfl (dt t_G_spread 37 rfl) ?_
        refine gR h cf1 o121 f1_4 j121_4 lX1_18 (dt t_G_spread 38 rfl) ?_
        refine SW_iload h rfl (dt t_G_spread 39 rfl) ?_
        refine aI h a124 (dt t_G_spread 40 rfl) hf (fun hf => ?_)
        refine SW_vi hf (okI ok4 124 v3.toNat (IsA.n3 a124 (by decide))) (fun v8 h8 hf => ?_)
        refine SW_istore (lv2 := [some (.ref (xad X 121)), some (.ref (xad X r1)), some (.int (i32 x2)), some (.int (i32 v2)), some (.int (i32 v3)), some (.int (i32 v7)), some (.int (i32 v8)), none, none, none]) h (dt t_G_spread 41 rfl) (by decide) rfl ?_
        refine SW_iconst h (dt t_G_spread 42 rfl) ?_
        refine SW_istore (lv2 := [some (.ref (xad X 121)), some (.ref (xad X r1)), some (.int (i32 x2)), some (.int (i32 v2)), some (.int (i32 v3)), some (.int (i32 v7)), some (.int (i32 v8)), some (.int (i32 0)), none, none]) h (dt t_G_spread 43 rfl) (by decide) rfl ?_
        obtain ⟨z18, e18, hk18⟩ := b0M_ex hf
        refine SW_fgt [true, true, true, false, false, true, true, true, false, false] rfl (l_G_spread_74 h r1 x2 v7 v8 q1 hx2 h7 h8 (fun s18 hz18 ok18 => ?_) LF 0 s4 (by decide) ok4 e18)
        have hf := hk18 s18 hz18
        exact SW_fgt [true, true, true, false, false, false, false, false, false, false] rfl (k5 s18 ok18 hf)
def F_G_spread (r1 : Nat) (σ : Mm) : Option (Mm) :=
  b0M (F_K_fill 126 0 σ) fun s1 =>
  b0M (L_G_spread_10 LF r1 1 s1) fun s19 =>
  some s19
set_option maxRecDepth 100000 in
set_option maxHeartbeats 4000000 in
theorem c_G_spread (r1 : Nat) (q1 : IsO 0 6 r1) {σ : Mm} {σ2 : Mm} (hf : F_G_spread r1 σ = some σ2) : CT yX1_spread cX1_spread 10 none 7 0 (fun ad => [.ref (ad 121), .ref (ad r1)]) σ True none σ2 := by
  refine MetJ 8 (by decide +kernel) rfl (fun _ => Nat.le_of_ble_eq_true rfl) ?_
  intro X h hR ok
  obtain ⟨res, er⟩ : ∃ z, z = σ2 := ⟨_, rfl⟩
  have hret : ∀ y : Mm, some y = some res → RX X 0 True none y := fun y e => by cases e; cases er; exact hR
  rw [← er] at hf
  clear er hR
  unfold F_G_spread at hf
  show SW X 0 10 0 [some (.ref (xad X 121)), some (.ref (xad X r1)), none, none, none, none, none, none, none, none] [] σ
  refine SW_aload_n h rfl (dt t_G_spread 0 rfl) ?_
  refine gR h cf1 o121 f1_6 j121_6 lX1_25 (dt t_G_spread 1 rfl) ?_
  refine SW_iconst h (dt t_G_spread 2 rfl) ?_
  obtain ⟨s1, e1, hf⟩ := b0M_of hf
  refine cSv h [.ref (xad X 126), .int (i32 0)] [] v_J7_fill_53178 kX1_68 (c_K_fill 126 ⟨(a126).1, (a126).2.1, rfl⟩ 0 (by decide) e1) rfl rfl (by decide) (by decide) rfl (Nat.le_of_ble_eq_true rfl) (dt t_G_spread 3 rfl) (fun h1 => ?_)
  refine SW_ok (fun ok1 => ?_)
  refine SW_iconst h (dt t_G_spread 4 rfl) ?_
  refine SW_istore_n (lv2 := [some (.ref (xad X 121)), some (.ref (xad X r1)), some (.int (i32 1)), none, none, none, none, none, none, none]) h (dt t_G_spread 5 rfl) (by decide) rfl ?_
  obtain ⟨z19, e19, hk19⟩ := b0M_ex hf
  refine SW_fgt [true, true, true, false, false, false, false, false, false, false] rfl (l_G_spread_10 h r1 q1 (fun s19 hz19 ok19 => ?_) LF 1 s1 (by decide) ok1 e19)
  have hf := hk19 s19 hz19
  exact SW_vret h (hret _ hf) rfl (dt t_G_spread 87 rfl)
def b_G_find : List (Nat × Instr × Nat) := [(0, .aload_n 0, 1), (1, .iconst 1, 1), (2, .putfield 38, 3), (5, .bipush 9, 2), (7, .istore_n 2, 1), (8, .iload_n 2, 1), (9, .ifCond .lt 61, 3), (12, .iload_n 1, 1), (13, .iload_n 2, 1), (14, .ishr, 1), (15, .iconst 1, 1), (16, .iand, 1), (17, .iconst 1, 1), (18, .if_icmp .ne 7, 3), (21, .iconst 1, 1), (22, .goto 4, 3), (25, .iconst 0, 1), (26, .istore_n 3, 1), (27, .aload_n 0, 1), (28, .getfield 18, 3), (31, .iload_n 2, 1), (32, .iload_n 3, 1), (33, .ifCond .eq 10, 3), (36, .aload_n 0, 1), (37, .getfield 38, 3), (40, .goto 4, 3), (43, .iconst 0, 1), (44, .iastore, 1), (45, .aload_n 0, 1), (46, .dup, 1), (47, .getfield 38, 3), (50, .iload_n 3, 1), (51, .ifCond .eq 8, 3), (54, .bipush 10, 2), (56, .goto 4, 3), (59, .iconst 1, 1), (60, .imul, 1), (61, .putfield 38, 3), (64, .iinc 2 (-1), 3), (67, .goto (-59), 3), (70, .iconst 0, 1), (71, .istore_n 2, 1), (72, .iload_n 2, 1), (73, .aload_n 0, 1), (74, .getfield 38, 3), (77, .if_icmp .ge 16, 3), (80, .aload_n 0, 1), (81, .getfield 21, 3), (84, .iload_n 2, 1), (85, .iconst 1, 1), (86, .bastore, 1), (87, .iinc 2 1, 3), (90, .goto (-18), 3), (93, .iconst 0, 1), (94, .istore_n 2, 1), (95, .iload_n 2, 1), (96, .aload_n 0, 1), (97, .getfield 42, 3), (100, .if_icmp .ge 90, 3), (103, .aload_n 0, 1), (104, .getfield 34, 3), (107, .getfield 45, 3), (110, .aload_n 0, 1), (111, .getfield 9, 3), (114, .iload_n 2, 1), (115, .iaload, 1), (116, .aaload, 1), (117, .astore_n 3, 1), (118, .aload_n 0, 1), (119, .aload_n 3, 1), (120, .invokevirtual 51, 3), (123, .iconst 0, 1), (124, .istore 4, 2), (126, .iload 4, 2), (128, .aload_n 0, 1), (129, .getfield 38, 3), (132, .if_icmp .ge 52, 3), (135, .aload_n 0, 1), (136, .getfield 21, 3), (139, .iload 4, 2), (141, .aload_n 0, 1), (142, .getfield 21, 3), (145, .iload 4, 2), (147, .baload, 1), (148, .ifCond .eq 28, 3), (151, .aload_n 3, 1), (152, .getfield 55, 3), (155, .aload_n 0, 1), (156, .getfield 25, 3), (159, .iload 4, 2), (161, .iaload, 1), (162, .iadd, 1), (163, .aload_n 0, 1), (164, .getfield 15, 3), (167, .iload_n 2, 1), (168, .iaload, 1), (169, .if_icmp .ne 7, 3), (172, .iconst 1, 1), (173, .goto 4, 3), (176, .iconst 0, 1), (177, .bastore, 1), (178, .iinc 4 1, 3), (181, .goto (-55), 3), (184, .iinc 2 1, 3), (187, .goto (-92), 3), (190, .iconst 0, 1), (191, .istore_n 2, 1), (192, .iconst 0, 1), (193, .istore_n 3, 1), (194, .iload_n 3, 1), (195, .aload_n 0, 1), (196, .getfield 38, 3), (199, .if_icmp .ge 26, 3), (202, .iload_n 2, 1), (203, .aload_n 0, 1), (204, .getfield 21, 3), (207, .iload_n 3, 1), (208, .baload, 1), (209, .ifCond .eq 7, 3), (212, .iconst 1, 1), (213, .goto 4, 3), (216, .iconst 0, 1), (217, .iadd, 1), (218, .istore_n 2, 1), (219, .iinc 3 1, 3), (222, .goto (-28), 3), (225, .iload_n 2, 1), (226, .ireturn, 1)]
theorem t_G_find : DT cX1_find b_G_find := DT.of (by decide +kernel)
def L_G_find_8 : Nat → Int → Int → Mm → Option (Mm)
  | 0, _, _, _ => none
  | n + 1, x1, x2, σ =>
    if x2 < 0 then
      some σ
    else
      bindM ((if iand (ishr x1 x2) 1 = 1 then 1 else 0 : Int)) fun v3 =>
      bindM (fun (y4 : Int) =>
        if 0 ≤ x2 ∧ x2 < 10 then
          bindM (st2 σ 124 x2.toNat y4) fun s5 =>
          bindM ((if v3 = 0 then 1 else 10 : Int)) fun v6 =>
          if r32 ((s5 121 9) * v6) then
            bindM (st2 s5 121 9 ((s5 121 9) * v6)) fun s9 =>
            if r32 (x2 + (-1)) then
              L_G_find_8 n x1 (x2 + (-1)) s9
            else none
          else none
        else none) fun J4 =>
      if v3 = 0 then
        J4 0
      else
        J4 (σ 121 9)
set_option maxRecDepth 100000 in
set_option maxHeartbeats 4000000 in
theorem l_G_find_8 {X : Cx} (h : CX X 0 cX1_find 5 8 (some .int) RX1) (x1 : Int) (hx1 : r32 x1) {res : Mm} (hex : ∀  (σ : Mm) (hz : some σ = some res)  (ok : okM σ), SW X 0 5 70 [some (.ref (xad X 121)), none, none, none, none] [] σ) : ∀ (n : Nat) (x2 : Int) (σ : Mm) (hx2 : r32 x2) (ok : okM σ) (hf : L_G_find_8 n x1 x2 σ = some res), SW X 0 5 8 [some (.ref (xad X 121)), some (.int (i32 x1)), some (.int (i32 x2)), none, none] [] σ := by
  intro n
  induction n with
  | zero => intro x2 σ hx2 ok hf; exact absurd hf (by simp [L_G_find_8])
  | succ n ih =>
    intro x2 σ hx2 ok hf
    rw [L_G_find_8] at hf
    refine SW_iload_n h rfl (dt t_G_find 5 rfl) ?_
    refine SW_if_lt (tgt := 70) h (fun _ => hx2) (dt t_G_find 6 rfl) rfl hf (fun hf => ?_) (fun hf => ?_)
    · exact SW_fgt [true, false, false, false, false] rfl (hex σ hf ok)
    · refine SW_iload_n h rfl (dt t_G_find 7 rfl) ?_
      refine SW_iload_n h rfl (dt t_G_find 8 rfl) ?_
      refine SW_ishr h (dt t_G_find 9 rfl) ?_
      refine SW_iconst h (dt t_G_find 10 rfl) ?_
      refine SW_iand h (dt t_G_find 11 rfl) ?_
      refine SW_iconst h (dt t_G_find 12 rfl) ?_
      refine bT hf (fun g3 e3 hf => ?_)
      have k3 : ∀ (v3 : Int) (h3 : r32 v3) (hf : g3 v3 = some res), SW X 0 5 26 [some (.ref (xad X 121)), some (.int (i32 x1)), some (.int (i32 x2)), none, none] [.int (i32 v3)] σ := by
        intro v3 h3 hf
        rw [e3] at hf
        refine SW_istore_n (lv2 := [some (.ref (xad X 121)), some (.int (i32 x1)), some (.int (i32 x2)), some (.int (i32 v3)), none]) h (dt t_G_find 17 rfl) (by decide) rfl ?_
        refine SW_aload_n h rfl (dt t_G_find 18 rfl) ?_
        refine gR h cf1 o121 f1_4 j121_4 lX1_18 (dt t_G_find 19 rfl) ?_
        refine SW_iload_n h rfl (dt t_G_find 20 rfl) ?_
        refine SW_iload_n h rfl (dt t_G_find 21 rfl) ?_
        refine bJ hf (fun J4 e4 hf => ?_)
        have k4 : ∀ (y4 : Int) (hy4 : r32 y4) (hf : J4 y4 = some res), SW X 0 5 44 [some (.ref (xad X 121)), some (.int (i32 x1)), some (.int (i32 x2)), some (.int (i32 v3)), none] [.int (i32 y4), .int (i32 x2), .ref (xad X 124)] σ := by
          intro y4 hy4 hf
          rw [e4] at hf
          refine sI h a124 hy4 (dt t_G_find 27 rfl) hf (fun hf => SW_bm hf (fun s5 ok5 hf => ?_))
          refine SW_aload_n h rfl (dt t_G_find 28 rfl) ?_
          refine SW_dup h rfl (dt t_G_find 29 rfl) ?_
          refine gI h cf1 o121 f1_9 lX1_38 (dt t_G_find 30 rfl) ?_
          refine SW_iload_n h rfl (dt t_G_find 31 rfl) ?_
          refine bT hf (fun g6 e6 hf => ?_)
          have k6 : ∀ (v6 : Int) (h6 : r32 v6) (hf : g6 v6 = some res), SW X 0 5 60 [some (.ref (xad X 121)), some (.int (i32 x1)), some (.int (i32 x2)), some (.int (i32 v3)), none] [.int (i32 v6), .int (i32 (s5 121 9)), .ref (xad X 121)] s5 := by
            intro v6 h6 hf
            rw [e6] at hf
            refine SW_imul h (dt t_G_find 36 rfl) ?_
            refine SW_chk hf (fun h8 hf => ?_)
            refine pI h cf1 o121 f1_9 h8 lX1_38 (dt t_G_find 37 rfl) (SW_bm hf (fun s9 ok9 hf => ?_))
            refine SW_iinc (lv2 := [some (.ref (xad X 121)), some (.int (i32 x1)), some (.int (i32 (x2 + (-1)))), some (.int (i32 v3)), none]) h (dt t_G_find 38 rfl) rfl (by decide) rfl ?_
            refine SW_goto (tgt := 8) h (dt t_G_find 39 rfl) rfl ?_
            refine SW_chk hf (fun h10 hf => ?_)
            exact SW_fgt [true, true, true, false, false] rfl (ih (x2 + (-1)) s9 h10 ok9 hf)
          have hf := bIte hf
          refine SW_if_eq (tgt := 59) h (fun _ => h3) (dt t_G_find 32 rfl) rfl hf (fun hf => ?_) (fun hf => ?_)
          · refine SW_iconst h (dt t_G_find 35 rfl) ?_
            exact k6 1 (by decide) hf
          · refine SW_bipush h (dt t_G_find 33 rfl) (by decide) ?_
            refine SW_goto (tgt := 60) h (dt t_G_find 34 rfl) rfl ?_
            exact k6 10 (by decide) hf
        refine SW_if_eq (tgt := 43) h (fun _ => h3) (dt t_G_find 22 rfl) rfl hf (fun hf => ?_) (fun hf => ?_)
        · refine SW_iconst h (dt t_G_find 26 rfl) ?_
          exact SW_fgt [true, true, true, true, false] rfl (k4 0 (by decide) hf)
        · refine SW_aload_n h rfl (dt t_G_find 23 rfl) ?_
          refine gI h cf1 o121 f1_9 lX1_38 (dt t_G_find 24 rfl) ?_
          refine SW_goto (tgt := 44) h (dt t_G_find 25 rfl) rfl ?_
          exact SW_fgt [true, true, true, true, false] rfl (k4 (σ 121 9) (okI ok 121 9 (IsO.n3 o121)) hf)
      have hf := bIte hf
      refine SW_icmp_ne (tgt := 25) h (fun _ => (r_iand _ _)) (fun _ => (by decide)) (dt t_G_find 13 rfl) rfl hf (fun hf => ?_) (fun hf => ?_)
      · refine SW_iconst h (dt t_G_find 14 rfl) ?_
        refine SW_goto (tgt := 26) h (dt t_G_find 15 rfl) rfl ?_
        exact k3 1 (by decide) hf
      · refine SW_iconst h (dt t_G_find 16 rfl) ?_
        exact k3 0 (by decide) hf
def L_G_find_72 : Nat → Int → Mm → Option (Mm)
  | 0, _, _ => none
  | n + 1, x2, σ =>
    if σ 121 9 ≤ x2 then
      some σ
    else
      if 0 ≤ x2 ∧ x2 < 1000 then
        bindM (st2 σ 125 x2.toNat (nzI 1)) fun s12 =>
        if r32 (x2 + 1) then
          L_G_find_72 n (x2 + 1) s12
        else none
      else none
set_option maxRecDepth 100000 in
set_option maxHeartbeats 4000000 in
theorem l_G_find_72 {X : Cx} (h : CX X 0 cX1_find 5 8 (some .int) RX1)   {res : Mm} (hex : ∀  (σ : Mm) (hz : some σ = some res)  (ok : okM σ), SW X 0 5 93 [some (.ref (xad X 121)), none, none, none, none] [] σ) : ∀ (n : Nat) (x2 : Int) (σ : Mm) (hx2 : r32 x2) (ok : okM σ) (hf : L_G_find_72 n x2 σ = some res), SW X 0 5 72 [some (.ref (xad X 121)), none, some (.int (i32 x2)), none, none] [] σ := by
  intro n
  induction n with
  | zero => intro x2 σ hx2 ok hf; exact absurd hf (by simp [L_G_find_72])
  | succ n ih =>
    intro x2 σ hx2 ok hf
    rw [L_G_find_72] at hf
    refine SW_iload_n h rfl (dt t_G_find 42 rfl) ?_
    refine SW_aload_n h rfl (dt t_G_find 43 rfl) ?_
    refine gI h cf1 o121 f1_9 lX1_38 (dt t_G_find 44 rfl) ?_
    refine SW_icmp_ge (tgt := 93) h (fun _ => hx2) (fun _ => (okI ok 121 9 (IsO.n3 o121))) (dt t_G_find 45 rfl) rfl hf (fun hf => ?_) (fun hf => ?_)
    · exact SW_fgt [true, false, false, false, false] rfl (hex σ hf ok)
    · refine SW_aload_n h rfl (dt t_G_find 46 rfl) ?_
      refine gR h cf1 o121 f1_5 j121_5 lX1_21 (dt t_G_find 47 rfl) ?_
      refine SW_iload_n h rfl (dt t_G_find 48 rfl) ?_
      refine SW_iconst h (dt t_G_find 49 rfl) ?_
      refine sZ h a125 (dt t_G_find 50 rfl) hf (fun hf => SW_bm hf (fun s12 ok12 hf => ?_))
      refine SW_iinc (lv2 := [some (.ref (xad X 121)), none, some (.int (i32 (x2 + 1))), none, none]) h (dt t_G_find 51 rfl) rfl (by decide) rfl ?_
      refine SW_goto (tgt := 72) h (dt t_G_find 52 rfl) rfl ?_
      refine SW_chk hf (fun h13 hf => ?_)
      exact SW_fgt [true, false, true, false, false] rfl (ih (x2 + 1) s12 h13 ok12 hf)
def L_G_find_126 : Nat → Int → Nat → Int → Mm → Option (Mm)
  | 0, _, _, _, _ => none
  | n + 1, x2, r3, x4, σ =>
    if σ 121 9 ≤ x4 then
      some σ
    else
      if 0 ≤ x4 ∧ x4 < 1000 then
        bindM (fun (y17 : Int) =>
          if 0 ≤ x4 ∧ x4 < 1000 then
            bindM (st2 σ 125 x4.toNat (nzI y17)) fun s18 =>
            if r32 (x4 + 1) then
              L_G_find_126 n x2 r3 (x4 + 1) s18
            else none
          else none) fun J17 =>
        bindM (
          J17 0) fun J20 =>
        if σ 125 x4.toNat = 0 then
          J20
        else
          if 0 ≤ x4 ∧ x4 < 1000 then
            if 0 ≤ x2 ∧ x2 < 6 then
              if r32 ((σ r3 6) + (σ 126 x4.toNat)) then
                if (σ r3 6) + (σ 126 x4.toNat) = σ 123 x2.toNat then
                  J17 1
                else
                  J20
              else none
            else none
          else none
      else none
set_option maxRecDepth 100000 in
set_option maxHeartbeats 4000000 in
theorem l_G_find_126 {X : Cx} (h : CX X 0 cX1_find 5 8 (some .int) RX1) (x2 : Int) (r3 : Nat) (hx2 : r32 x2) (q3 : IsO 0 6 r3) {res : Mm} (hex : ∀  (σ : Mm) (hz : some σ = some res)  (ok : okM σ), SW X 0 5 184 [some (.ref (xad X 121)), none, some (.int (i32 x2)), none, none] [] σ) : ∀ (n : Nat) (x4 : Int) (σ : Mm) (hx4 : r32 x4) (ok : okM σ) (hf : L_G_find_126 n x2 r3 x4 σ = some res), SW X 0 5 126 [some (.ref (xad X 121)), none, some (.int (i32 x2)), some (.ref (xad X r3)), some (.int (i32 x4))] [] σ := by
  intro n
  induction n with
  | zero => intro x4 σ hx4 ok hf; exact absurd hf (by simp [L_G_find_126])
  | succ n ih =>
    intro x4 σ hx4 ok hf
    rw [L_G_find_126] at hf
    refine SW_iload h rfl (dt t_G_find 73 rfl) ?_
    refine SW_aload_n h rfl (dt t_G_find 74 rfl) ?_
    refine gI h cf1 o121 f1_9 lX1_38 (dt t_G_find 75 rfl) ?_
    refine SW_icmp_ge (tgt := 184) h (fun _ => hx4) (fun _ => (okI ok 121 9 (IsO.n3 o121))) (dt t_G_find 76 rfl) rfl hf (fun hf => ?_) (fun hf => ?_)
    · exact SW_fgt [true, false, true, false, false] rfl (hex σ hf ok)
    · refine SW_aload_n h rfl (dt t_G_find 77 rfl) ?_
      refine gR h cf1 o121 f1_5 j121_5 lX1_21 (dt t_G_find 78 rfl) ?_
      refine SW_iload h rfl (dt t_G_find 79 rfl) ?_
      refine SW_aload_n h rfl (dt t_G_find 80 rfl) ?_
      refine gR h cf1 o121 f1_5 j121_5 lX1_21 (dt t_G_find 81 rfl) ?_
      refine SW_iload h rfl (dt t_G_find 82 rfl) ?_
      refine aZ h a125 (dt t_G_find 83 rfl) hf (fun hf => ?_)
      refine bJ hf (fun J17 e17 hf => ?_)
      have k17 : ∀ (y17 : Int) (hy17 : r32 y17) (hf : J17 y17 = some res), SW X 0 5 177 [some (.ref (xad X 121)), none, some (.int (i32 x2)), some (.ref (xad X r3)), some (.int (i32 x4))] [.int (i32 y17), .int (i32 x4), .ref (xad X 125)] σ := by
        intro y17 hy17 hf
        rw [e17] at hf
        refine sZ h a125 (dt t_G_find 100 rfl) hf (fun hf => SW_bm hf (fun s18 ok18 hf => ?_))
        refine SW_iinc (lv2 := [some (.ref (xad X 121)), none, some (.int (i32 x2)), some (.ref (xad X r3)), some (.int (i32 (x4 + 1)))]) h (dt t_G_find 101 rfl) rfl (by decide) rfl ?_
        refine SW_goto (tgt := 126) h (dt t_G_find 102 rfl) rfl ?_
        refine SW_chk hf (fun h19 hf => ?_)
        exact SW_fgt [true, false, true, true, true] rfl (ih (x4 + 1) s18 h19 ok18 hf)
      refine bJ hf (fun J20 e20 hf => ?_)
      have k20 : ∀ (hf : J20 = some res), SW X 0 5 176 [some (.ref (xad X 121)), none, some (.int (i32 x2)), some (.ref (xad X r3)), some (.int (i32 x4))] [.int (i32 x4), .ref (xad X 125)] σ := by
        intro hf
        rw [e20] at hf
        refine SW_iconst h (dt t_G_find 99 rfl) ?_
        exact SW_fgt [true, false, true, true, true] rfl (k17 0 (by decide) hf)
      refine SW_if_eq (tgt := 176) h (fun _ => (okI ok 125 x4.toNat (IsA.n3 a125 (by decide)))) (dt t_G_find 84 rfl) rfl hf (fun hf => ?_) (fun hf => ?_)
      · exact SW_fgt [true, false, true, true, true] rfl (k20 hf)
      · refine SW_aload_n h rfl (dt t_G_find 85 rfl) ?_
        refine gI h cf6 q3 f6_6 lX1_55 (dt t_G_find 86 rfl) ?_
        refine SW_aload_n h rfl (dt t_G_find 87 rfl) ?_
        refine gR h cf1 o121 f1_6 j121_6 lX1_25 (dt t_G_find 88 rfl) ?_
        refine SW_iload h rfl (dt t_G_find 89 rfl) ?_
        refine aI h a126 (dt t_G_find 90 rfl) hf (fun hf => ?_)
        refine SW_iadd h (dt t_G_find 91 rfl) ?_
        refine SW_aload_n h rfl (dt t_G_find 92 rfl) ?_
        refine gR h cf1 o121 f1_1 j121_1 lX1_15 (dt t_G_find 93 rfl) ?_
        refine SW_iload_n h rfl (dt t_G_find 94 rfl) ?_
        refine aI h a123 (dt t_G_find 95 rfl) hf (fun hf => ?_)
        refine SW_chk hf (fun h21 hf => ?_)
        refine SW_icmp_ne (tgt := 176) h (fun _ => h21) (fun _ => (okI ok 123 x2.toNat (IsA.n3 a123 (by decide)))) (dt t_G_find 96 rfl) rfl hf (fun hf => ?_) (fun hf => ?_)
        · refine SW_iconst h (dt t_G_find 97 rfl) ?_
          refine SW_goto (tgt := 177) h (dt t_G_find 98 rfl) rfl ?_
          exact SW_fgt [true, false, true, true, true] rfl (k17 1 (by decide) hf)
        · exact SW_fgt [true, false, true, true, true] rfl (k20 hf)
def L_G_find_95 : Nat → Int → Mm → Option (Mm)
  | 0, _, _ => none
  | n + 1, x2, σ =>
    if σ 121 2 ≤ x2 then
      some σ
    else
      if 0 ≤ x2 ∧ x2 < 6 then
        if 0 ≤ σ 122 x2.toNat ∧ σ 122 x2.toNat < 12 then
          b0M (F_G_spread (10 + (σ 122 x2.toNat).toNat) σ) fun s16 =>
          b0M (L_G_find_126 LF x2 (10 + (σ 122 x2.toNat).toNat) 0 s16) fun s22 =>
          if r32 (x2 + 1) then
            L_G_find_95 n (x2 + 1) s22
          else none
        else none
      else none
set_option maxRecDepth 100000 in
set_option maxHeartbeats 4000000 in
theorem l_G_find_95 {X : Cx} (h : CX X 0 cX1_find 5 8 (some .int) RX1)   {res : Mm} (hex : ∀  (σ : Mm) (hz : some σ = some res)  (ok : okM σ), SW X 0 5 190 [some (.ref (xad X 121)), none, none, none, none] [] σ) : ∀ (n : Nat) (x2 : Int) (σ : Mm) (hx2 : r32 x2) (ok : okM σ) (hf : L_G_find_95 n x2 σ = some res), SW X 0 5 95 [some (.ref (xad X 121)), none, some (.int (i32 x2)), none, none] [] σ := by
  intro n
  induction n with
  | zero => intro x2 σ hx2 ok hf; exact absurd hf (by simp [L_G_find_95])
  | succ n ih =>
    intro x2 σ hx2 ok hf
    rw [L_G_find_95] at hf
    refine SW_iload_n h rfl (dt t_G_find 55 rfl) ?_
    refine SW_aload_n h rfl (dt t_G_find 56 rfl) ?_
    refine gI h cf1 o121 f1_2 lX1_42 (dt t_G_find 57 rfl) ?_
    refine SW_icmp_ge (tgt := 190) h (fun _ => hx2) (fun _ => (okI ok 121 2 (IsO.n3 o121))) (dt t_G_find 58 rfl) rfl hf (fun hf => ?_) (fun hf => ?_)
    · exact SW_fgt [true, false, false, false, false] rfl (hex σ hf ok)
    · refine SW_aload_n h rfl (dt t_G_find 59 rfl) ?_
      refine gR h cf1 o121 f1_3 j121_3 lX1_34 (dt t_G_find 60 rfl) ?_
      refine gR h cf2 o1 f2_2 j1_2 lX1_45 (dt t_G_find 61 rfl) ?_
      refine SW_aload_n h rfl (dt t_G_find 62 rfl) ?_
      refine gR h cf1 o121 f1_0 j121_0 lX1_9 (dt t_G_find 63 rfl) ?_
      refine SW_iload_n h rfl (dt t_G_find 64 rfl) ?_
      refine aI h a122 (dt t_G_find 65 rfl) hf (fun hf => ?_)
      refine aR h (by decide) a8 rfl (dt t_G_find 66 rfl) hf (fun h15 hf => ?_)
      refine SW_astore_n (lv2 := [some (.ref (xad X 121)), none, some (.int (i32 x2)), some (.ref (xad X (10 + (σ 122 x2.toNat).toNat))), none]) h (dt t_G_find 67 rfl) (by decide) rfl ?_
      refine SW_aload_n h rfl (dt t_G_find 68 rfl) ?_
      refine SW_aload_n h rfl (dt t_G_find 69 rfl) ?_
      obtain ⟨s16, e16, hf⟩ := b0M_of hf
      refine cVv h [.ref (xad X (10 + (σ 122 x2.toNat).toNat))] [] v_X1_spread kX1_51 o121 (c_G_spread (10 + (σ 122 x2.toNat).toNat) (mk_row h15) e16) rfl rfl (by decide) (by decide) rfl (Nat.le_of_ble_eq_true rfl) (dt t_G_find 70 rfl) (fun h16 => ?_)
      refine SW_ok (fun ok16 => ?_)
      refine SW_iconst h (dt t_G_find 71 rfl) ?_
      refine SW_istore (lv2 := [some (.ref (xad X 121)), none, some (.int (i32 x2)), some (.ref (xad X (10 + (σ 122 x2.toNat).toNat))), some (.int (i32 0))]) h (dt t_G_find 72 rfl) (by decide) rfl ?_
      obtain ⟨z22, e22, hk22⟩ := b0M_ex hf
      refine SW_fgt [true, false, true, true, true] rfl (l_G_find_126 h x2 (10 + (σ 122 x2.toNat).toNat) hx2 (mk_row h15) (fun s22 hz22 ok22 => ?_) LF 0 s16 (by decide) ok16 e22)
      have hf := hk22 s22 hz22
      refine SW_iinc (lv2 := [some (.ref (xad X 121)), none, some (.int (i32 (x2 + 1))), none, none]) h (dt t_G_find 103 rfl) rfl (by decide) rfl ?_
      refine SW_goto (tgt := 95) h (dt t_G_find 104 rfl) rfl ?_
      refine SW_chk hf (fun h23 hf => ?_)
      exact SW_fgt [true, false, true, false, false] rfl (ih (x2 + 1) s22 h23 ok22 hf)
def L_G_find_194 : Nat → Int → Int → Mm → Option (Int)
  | 0, _, _, _ => none
  | n + 1, x2, x3, σ =>
    if σ 121 9 ≤ x3 then
      some x2
    else
      if 0 ≤ x3 ∧ x3 < 1000 then
        bindM ((if σ 125 x3.toNat = 0 then 0 else 1 : Int)) fun v25 =>
        if r32 (x2 + v25) then
          if r32 (x3 + 1) then
            L_G_find_194 n (x2 + v25) (x3 + 1) σ
          else none
        else none
      else none
set_option maxRecDepth 100000 in
set_option maxHeartbeats 4000000 in
theorem l_G_find_194 {X : Cx} (h : CX X 0 cX1_find 5 8 (some .int) RX1)  (σ : Mm)  (ok : okM σ) {res : Int} (hex : ∀ (x2 : Int) (hz : some x2 = some res) (hx2 : r32 x2), SW X 0 5 225 [none, none, some (.int (i32 x2)), none, none] [] σ) : ∀ (n : Nat) (x2 : Int) (x3 : Int) (hx2 : r32 x2) (hx3 : r32 x3) (hf : L_G_find_194 n x2 x3 σ = some res), SW X 0 5 194 [some (.ref (xad X 121)), none, some (.int (i32 x2)), some (.int (i32 x3)), none] [] σ := by
  intro n
  induction n with
  | zero => intro x2 x3 hx2 hx3 hf; exact absurd hf (by simp [L_G_find_194])
  | succ n ih =>
    intro x2 x3 hx2 hx3 hf
    rw [L_G_find_194] at hf
    refine SW_iload_n h rfl (dt t_G_find 109 rfl) ?_
    refine SW_aload_n h rfl (dt t_G_find 110 rfl) ?_
    refine gI h cf1 o121 f1_9 lX1_38 (dt t_G_find 111 rfl) ?_
    refine SW_icmp_ge (tgt := 225) h (fun _ => hx3) (fun _ => (okI ok 121 9 (IsO.n3 o121))) (dt t_G_find 112 rfl) rfl hf (fun hf => ?_) (fun hf => ?_)
    · exact SW_fgt [false, false, true, false, false] rfl (hex x2 hf hx2)
    · refine SW_iload_n h rfl (dt t_G_find 113 rfl) ?_
      refine SW_aload_n h rfl (dt t_G_find 114 rfl) ?_
      refine gR h cf1 o121 f1_5 j121_5 lX1_21 (dt t_G_find 115 rfl) ?_
      refine SW_iload_n h rfl (dt t_G_find 116 rfl) ?_
      refine aZ h a125 (dt t_G_find 117 rfl) hf (fun hf => ?_)
      refine bT hf (fun g25 e25 hf => ?_)
      have k25 : ∀ (v25 : Int) (h25 : r32 v25) (hf : g25 v25 = some res), SW X 0 5 217 [some (.ref (xad X 121)), none, some (.int (i32 x2)), some (.int (i32 x3)), none] [.int (i32 v25), .int (i32 x2)] σ := by
        intro v25 h25 hf
        rw [e25] at hf
        refine SW_iadd h (dt t_G_find 122 rfl) ?_
        refine SW_istore_n (lv2 := [some (.ref (xad X 121)), none, some (.int (i32 (x2 + v25))), some (.int (i32 x3)), none]) h (dt t_G_find 123 rfl) (by decide) rfl ?_
        refine SW_iinc (lv2 := [some (.ref (xad X 121)), none, some (.int (i32 (x2 + v25))), some (.int (i32 (x3 + 1))), none]) h (dt t_G_find 124 rfl) rfl (by decide) rfl ?_
        refine SW_goto (tgt := 194) h (dt t_G_find 125 rfl) rfl ?_
        refine SW_chk hf (fun h26 hf => ?_)
        refine SW_chk hf (fun h27 hf => ?_)
        exact SW_fgt [true, false, true, true, false] rfl (ih (x2 + v25) (x3 + 1) h26 h27 hf)
      have hf := bIte hf
      refine SW_if_eq (tgt := 216) h (fun _ => (okI ok 125 x3.toNat (IsA.n3 a125 (by decide)))) (dt t_G_find 118 rfl) rfl hf (fun hf => ?_) (fun hf => ?_)
      · refine SW_iconst h (dt t_G_find 121 rfl) ?_
        exact k25 0 (by decide) hf
      · refine SW_iconst h (dt t_G_find 119 rfl) ?_
        refine SW_goto (tgt := 217) h (dt t_G_find 120 rfl) rfl ?_
        exact k25 1 (by decide) hf
def F_G_find (x1 : Int) (σ : Mm) : Option (Int × Mm) :=
  bindM (st2 σ 121 9 1) fun s2 =>
  b0M (L_G_find_8 LF x1 9 s2) fun s11 =>
  b0M (L_G_find_72 LF 0 s11) fun s14 =>
  b0M (L_G_find_95 LF 0 s14) fun s24 =>
  b1 (L_G_find_194 LF 0 0 s24) fun x2_28 =>
  some (x2_28, s24)
set_option maxRecDepth 100000 in
set_option maxHeartbeats 4000000 in
theorem c_G_find (x1 : Int) (hx1 : r32 x1) {σ : Mm} {a : Int} {σ2 : Mm} (hf : F_G_find x1 σ = some (a, σ2)) : CT yX1_find cX1_find 5 (some .int) 8 0 (fun ad => [.ref (ad 121), .int (i32 x1)]) σ (r32 a) (some (.int (i32 a))) σ2 := by
  refine MetJ 3 (by decide +kernel) rfl (fun _ => Nat.le_of_ble_eq_true rfl) ?_
  intro X h hR ok
  obtain ⟨res, er⟩ : ∃ z, z = (a, σ2) := ⟨_, rfl⟩
  have hret : ∀ y : Int × Mm, some y = some res → RX X 0 (r32 (y.1)) (some (.int (i32 (y.1)))) y.2 := fun y e => by cases e; cases er; exact hR
  rw [← er] at hf
  clear er hR
  unfold F_G_find at hf
  show SW X 0 5 0 [some (.ref (xad X 121)), some (.int (i32 x1)), none, none, none] [] σ
  refine SW_aload_n h rfl (dt t_G_find 0 rfl) ?_
  refine SW_iconst h (dt t_G_find 1 rfl) ?_
  refine pI h cf1 o121 f1_9 (by decide) lX1_38 (dt t_G_find 2 rfl) (SW_bm hf (fun s2 ok2 hf => ?_))
  refine SW_bipush h (dt t_G_find 3 rfl) (by decide) ?_
  refine SW_istore_n (lv2 := [some (.ref (xad X 121)), some (.int (i32 x1)), some (.int (i32 9)), none, none]) h (dt t_G_find 4 rfl) (by decide) rfl ?_
  obtain ⟨z11, e11, hk11⟩ := b0M_ex hf
  refine SW_fgt [true, true, true, false, false] rfl (l_G_find_8 h x1 hx1 (fun s11 hz11 ok11 => ?_) LF 9 s2 (by decide) ok2 e11)
  have hf := hk11 s11 hz11
  refine SW_iconst h (dt t_G_find 40 rfl) ?_
  refine SW_istore_n (lv2 := [some (.ref (xad X 121)), none, some (.int (i32 0)), none, none]) h (dt t_G_find 41 rfl) (by decide) rfl ?_
  obtain ⟨z14, e14, hk14⟩ := b0M_ex hf
  refine SW_fgt [true, false, true, false, false] rfl (l_G_find_72 h (fun s14 hz14 ok14 => ?_) LF 0 s11 (by decide) ok11 e14)
  have hf := hk14 s14 hz14
  refine SW_iconst h (dt t_G_find 53 rfl) ?_
  refine SW_istore_n (lv2 := [some (.ref (xad X 121)), none, some (.int (i32 0)), none, none]) h (dt t_G_find 54 rfl) (by decide) rfl ?_
  obtain ⟨z24, e24, hk24⟩ := b0M_ex hf
  refine SW_fgt [true, false, true, false, false] rfl (l_G_find_95 h (fun s24 hz24 ok24 => ?_) LF 0 s14 (by decide) ok14 e24)
  have hf := hk24 s24 hz24
  refine SW_iconst h (dt t_G_find 105 rfl) ?_
  refine SW_istore_n (lv2 := [some (.ref (xad X 121)), none, some (.int (i32 0)), none, none]) h (dt t_G_find 106 rfl) (by decide) rfl ?_
  refine SW_iconst h (dt t_G_find 107 rfl) ?_
  refine SW_istore_n (lv2 := [some (.ref (xad X 121)), none, some (.int (i32 0)), some (.int (i32 0)), none]) h (dt t_G_find 108 rfl) (by decide) rfl ?_
  obtain ⟨z28, e28, hk28⟩ := b1_ex hf
  refine SW_fgt [true, false, true, true, false] rfl (l_G_find_194 h s24 ok24 (fun x2_28 hz28 hx2_28 => ?_) LF 0 0 (by decide) (by decide) e28)
  have hf := hk28 x2_28 hz28
  refine SW_iload_n h rfl (dt t_G_find 126 rfl) ?_
  exact SW_iret h (hret _ hf) (fun _ => hx2_28) rfl (dt t_G_find 127 rfl)
def b_G_temperIn : List (Nat × Instr × Nat) := [(0, .iload_n 1, 1), (1, .istore_n 3, 1), (2, .iconst 0, 1), (3, .istore 4, 2), (5, .iload 4, 2), (7, .aload_n 0, 1), (8, .getfield 38, 3), (11, .if_icmp .ge 48, 3), (14, .aload_n 0, 1), (15, .getfield 18, 3), (18, .iload_n 2, 1), (19, .iaload, 1), (20, .ifCond .le 39, 3), (23, .aload_n 0, 1), (24, .getfield 21, 3), (27, .iload 4, 2), (29, .baload, 1), (30, .ifCond .eq 23, 3), (33, .iload_n 3, 1), (34, .ifCond .ne 16, 3), (37, .iload 4, 2), (39, .aload_n 0, 1), (40, .getfield 18, 3), (43, .iload_n 2, 1), (44, .iaload, 1), (45, .idiv, 1), (46, .bipush 10, 2), (48, .irem, 1), (49, .ireturn, 1), (50, .iinc 3 (-1), 3), (53, .iinc 4 1, 3), (56, .goto (-51), 3), (59, .iconst (-1), 1), (60, .ireturn, 1)]
theorem t_G_temperIn : DT cX1_temperIn b_G_temperIn := DT.of (by decide +kernel)
def L_G_temperIn_5 : Nat → Int → Int → Int → Mm → Option ((Int) ⊕ (Unit))
  | 0, _, _, _, _ => none
  | n + 1, x2, x3, x4, σ =>
    if σ 121 9 ≤ x4 then
      some (.inr (()))
    else
      if 0 ≤ x2 ∧ x2 < 10 then
        if σ 124 x2.toNat ≤ 0 then
          some (.inr (()))
        else
          if 0 ≤ x4 ∧ x4 < 1000 then
            bindM (fun (x3_1 : Int) =>
              if r32 (x4 + 1) then
                L_G_temperIn_5 n x2 x3_1 (x4 + 1) σ
              else none) fun J1 =>
            if σ 125 x4.toNat = 0 then
              J1 x3
            else
              if x3 = 0 then
                if 0 ≤ x2 ∧ x2 < 10 then
                  if ¬ (σ 124 x2.toNat) = 0 then
                    if r32 (x4.tdiv (σ 124 x2.toNat)) then
                      some (.inl ((x4.tdiv (σ 124 x2.toNat)).tmod 10))
                    else none
                  else none
                else none
              else
                if r32 (x3 + (-1)) then
                  J1 (x3 + (-1))
                else none
          else none
      else none
set_option maxRecDepth 100000 in
set_option maxHeartbeats 4000000 in
theorem l_G_temperIn_5 {X : Cx} (h : CX X 0 cX1_temperIn 5 0 (some .int) RX1) (x2 : Int) (σ : Mm) (hx2 : r32 x2) (ok : okM σ) {res : (Int) ⊕ (Unit)} (hret : ∀ y : Int, some (.inl y) = some res → RX X 0 (r32 (y)) (some (.int (i32 (y)))) σ) (hex : ∀ (hz : some (.inr (())) = some res), SW X 0 5 59 [none, none, none, none, none] [] σ) : ∀ (n : Nat) (x3 : Int) (x4 : Int) (hx3 : r32 x3) (hx4 : r32 x4) (hf : L_G_temperIn_5 n x2 x3 x4 σ = some res), SW X 0 5 5 [some (.ref (xad X 121)), none, some (.int (i32 x2)), some (.int (i32 x3)), some (.int (i32 x4))] [] σ := by
  intro n
  induction n with
  | zero => intro x3 x4 hx3 hx4 hf; exact absurd hf (by simp [L_G_temperIn_5])
  | succ n ih =>
    intro x3 x4 hx3 hx4 hf
    rw [L_G_temperIn_5] at hf
    refine SW_iload h rfl (dt t_G_temperIn 4 rfl) ?_
    refine SW_aload_n h rfl (dt t_G_temperIn 5 rfl) ?_
    refine gI h cf1 o121 f1_9 lX1_38 (dt t_G_temperIn 6 rfl) ?_
    refine SW_icmp_ge (tgt := 59) h (fun _ => hx4) (fun _ => (okI ok 121 9 (IsO.n3 o121))) (dt t_G_temperIn 7 rfl) rfl hf (fun hf => ?_) (fun hf => ?_)
    · exact SW_fgt [false, false, false, false, false] rfl (hex hf)
    · refine SW_aload_n h rfl (dt t_G_temperIn 8 rfl) ?_
      refine gR h cf1 o121 f1_4 j121_4 lX1_18 (dt t_G_temperIn 9 rfl) ?_
      refine SW_iload_n h rfl (dt t_G_temperIn 10 rfl) ?_
      refine aI h a124 (dt t_G_temperIn 11 rfl) hf (fun hf => ?_)
      refine SW_if_le (tgt := 59) h (fun _ => (okI ok 124 x2.toNat (IsA.n3 a124 (by decide)))) (dt t_G_temperIn 12 rfl) rfl hf (fun hf => ?_) (fun hf => ?_)
      · exact SW_fgt [false, false, false, false, false] rfl (hex hf)
      · refine SW_aload_n h rfl (dt t_G_temperIn 13 rfl) ?_
        refine gR h cf1 o121 f1_5 j121_5 lX1_21 (dt t_G_temperIn 14 rfl) ?_
        refine SW_iload h rfl (dt t_G_temperIn 15 rfl) ?_
        refine aZ h a125 (dt t_G_temperIn 16 rfl) hf (fun hf => ?_)
        refine bJ hf (fun J1 e1 hf => ?_)
        have k1 : ∀ (x3_1 : Int) (hx3_1 : r32 x3_1) (hf : J1 x3_1 = some res), SW X 0 5 53 [some (.ref (xad X 121)), none, some (.int (i32 x2)), some (.int (i32 x3_1)), some (.int (i32 x4))] [] σ := by
          intro x3_1 hx3_1 hf
          rw [e1] at hf
          refine SW_iinc (lv2 := [some (.ref (xad X 121)), none, some (.int (i32 x2)), some (.int (i32 x3_1)), some (.int (i32 (x4 + 1)))]) h (dt t_G_temperIn 30 rfl) rfl (by decide) rfl ?_
          refine SW_goto (tgt := 5) h (dt t_G_temperIn 31 rfl) rfl ?_
          refine SW_chk hf (fun h2 hf => ?_)
          exact SW_fgt [true, false, true, true, true] rfl (ih x3_1 (x4 + 1) hx3_1 h2 hf)
        refine SW_if_eq (tgt := 53) h (fun _ => (okI ok 125 x4.toNat (IsA.n3 a125 (by decide)))) (dt t_G_temperIn 17 rfl) rfl hf (fun hf => ?_) (fun hf => ?_)
        · exact SW_fgt [true, false, true, true, true] rfl (k1 x3 hx3 hf)
        · refine SW_iload_n h rfl (dt t_G_temperIn 18 rfl) ?_
          refine SW_if_ne (tgt := 50) h (fun _ => hx3) (dt t_G_temperIn 19 rfl) rfl hf (fun hf => ?_) (fun hf => ?_)
          · refine SW_iload h rfl (dt t_G_temperIn 20 rfl) ?_
            refine SW_aload_n h rfl (dt t_G_temperIn 21 rfl) ?_
            refine gR h cf1 o121 f1_4 j121_4 lX1_18 (dt t_G_temperIn 22 rfl) ?_
            refine SW_iload_n h rfl (dt t_G_temperIn 23 rfl) ?_
            refine aI h a124 (dt t_G_temperIn 24 rfl) hf (fun hf => ?_)
            refine SW_chk hf (fun h3 hf => ?_)
            refine SW_idiv h (fun _ => hx4) (fun _ => (okI ok 124 x2.toNat (IsA.n3 a124 (by decide)))) h3 (dt t_G_temperIn 25 rfl) ?_
            refine SW_bipush h (dt t_G_temperIn 26 rfl) (by decide) ?_
            refine SW_chk hf (fun h4 hf => ?_)
            refine SW_irem h (fun _ => h4) (fun _ => (by decide)) (by decide) (dt t_G_temperIn 27 rfl) ?_
            exact SW_iret h (hret _ hf) (fun _ => (r_tmod h4 (by decide))) rfl (dt t_G_temperIn 28 rfl)
          · refine SW_iinc (lv2 := [some (.ref (xad X 121)), none, some (.int (i32 x2)), some (.int (i32 (x3 + (-1)))), some (.int (i32 x4))]) h (dt t_G_temperIn 29 rfl) rfl (by decide) rfl ?_
            refine SW_chk hf (fun h5 hf => ?_)
            exact SW_fgt [true, false, true, true, true] rfl (k1 (x3 + (-1)) h5 hf)
def F_G_temperIn (x1 : Int) (x2 : Int) (σ : Mm) : Option (Int) :=
  b0S (L_G_temperIn_5 LF x2 x1 0 σ) (fun y => some y) <|
  some ((-1))
set_option maxRecDepth 100000 in
set_option maxHeartbeats 4000000 in
theorem c_G_temperIn (x1 : Int) (hx1 : r32 x1) (x2 : Int) (hx2 : r32 x2) {σ : Mm} {a : Int} (hf : F_G_temperIn x1 x2 σ = some a) : CT yX1_temperIn cX1_temperIn 5 (some .int) 0 0 (fun ad => [.ref (ad 121), .int (i32 x1), .int (i32 x2)]) σ (r32 a) (some (.int (i32 a))) σ := by
  refine MetJ 2 (by decide +kernel) rfl (fun _ => Nat.le_of_ble_eq_true rfl) ?_
  intro X h hR ok
  obtain ⟨res, er⟩ : ∃ z, z = a := ⟨_, rfl⟩
  have hret : ∀ y : Int, some y = some res → RX X 0 (r32 (y)) (some (.int (i32 (y)))) σ := fun y e => by cases e; cases er; exact hR
  rw [← er] at hf
  clear er hR
  unfold F_G_temperIn at hf
  show SW X 0 5 0 [some (.ref (xad X 121)), some (.int (i32 x1)), some (.int (i32 x2)), none, none] [] σ
  refine SW_iload_n h rfl (dt t_G_temperIn 0 rfl) ?_
  refine SW_istore_n (lv2 := [some (.ref (xad X 121)), some (.int (i32 x1)), some (.int (i32 x2)), some (.int (i32 x1)), none]) h (dt t_G_temperIn 1 rfl) (by decide) rfl ?_
  refine SW_iconst h (dt t_G_temperIn 2 rfl) ?_
  refine SW_istore (lv2 := [some (.ref (xad X 121)), some (.int (i32 x1)), some (.int (i32 x2)), some (.int (i32 x1)), some (.int (i32 0))]) h (dt t_G_temperIn 3 rfl) (by decide) rfl ?_
  obtain ⟨z6, e6, g6, hk6⟩ := b0S_of hf
  refine SW_fgt [true, false, true, true, true] rfl (l_G_temperIn_5 h x2 σ hx2 ok (fun y e => hret y (g6 y (Option.some.inj e).symm)) (fun hz6 => ?_) LF x1 0 hx1 (by decide) e6)
  have hf := hk6 (Option.some.inj hz6).symm
  refine SW_iconst h (dt t_G_temperIn 32 rfl) ?_
  exact SW_iret h (hret _ hf) (fun _ => (by decide)) rfl (dt t_G_temperIn 33 rfl)
def b_A_fits : List (Nat × Instr × Nat) := [(0, .iload_n 1, 1), (1, .iconst 3, 1), (2, .invokestatic 266, 3), (5, .ifCond .eq 8, 3), (8, .iload_n 2, 1), (9, .iconst (-1), 1), (10, .if_icmp .ge 5, 3), (13, .iconst (-1), 1), (14, .ireturn, 1), (15, .iload_n 2, 1), (16, .iconst (-1), 1), (17, .if_icmp .eq 20, 3), (20, .iload_n 3, 1), (21, .invokestatic 125, 3), (24, .ifCond .eq 11, 3), (27, .iload_n 1, 1), (28, .iload_n 3, 1), (29, .ishr, 1), (30, .iconst 1, 1), (31, .iand, 1), (32, .ifCond .ne 5, 3), (35, .iconst (-1), 1), (36, .ireturn, 1), (37, .aload_n 0, 1), (38, .getfield 49, 3), (41, .iload_n 1, 1), (42, .invokevirtual 269, 3), (45, .istore 4, 2), (47, .iload_n 2, 1), (48, .iconst (-1), 1), (49, .if_icmp .ne 6, 3), (52, .iload 4, 2), (54, .ireturn, 1), (55, .iload_n 2, 1), (56, .iload 4, 2), (58, .if_icmp .ge 15, 3), (61, .aload_n 0, 1), (62, .getfield 49, 3), (65, .iload_n 2, 1), (66, .iload_n 3, 1), (67, .invokevirtual 272, 3), (70, .goto 4, 3), (73, .iconst (-1), 1), (74, .ireturn, 1)]
theorem t_A_fits : DT cX10_fits b_A_fits := DT.of (by decide +kernel)
def F_A_fits (x1 : Int) (x2 : Int) (x3 : Int) (σ : Mm) : Option (Int × Mm) :=
  b1 (F_A_isSet x1 3) fun v1 =>
  if v1 = 0 then
    some ((-1), σ)
  else
    if (-1) ≤ x2 then
      bindM (
        b1M (F_G_find x1 σ) fun v3 s3 =>
        if x2 = (-1) then
          some (v3, s3)
        else
          if v3 ≤ x2 then
            some ((-1), s3)
          else
            b1 (F_G_temperIn x2 x3 s3) fun v4 =>
            some (v4, s3)) fun J2 =>
      if x2 = (-1) then
        J2
      else
        b1 (F_A_isFigure x3) fun v5 =>
        if v5 = 0 then
          some ((-1), σ)
        else
          if iand (ishr x1 x3) 1 = 0 then
            some ((-1), σ)
          else
            J2
    else
      some ((-1), σ)
set_option maxRecDepth 100000 in
set_option maxHeartbeats 4000000 in
theorem c_A_fits (x1 : Int) (hx1 : r32 x1) (x2 : Int) (hx2 : r32 x2) (x3 : Int) (hx3 : r32 x3) {σ : Mm} {a : Int} {σ2 : Mm} (hf : F_A_fits x1 x2 x3 σ = some (a, σ2)) : CT yX10_fits cX10_fits 5 (some .int) 9 0 (fun ad => [.ref (ad 0), .int (i32 x1), .int (i32 x2), .int (i32 x3)]) σ (r32 a) (some (.int (i32 a))) σ2 := by
  refine MetJ 1 (by decide +kernel) rfl (fun _ => Nat.le_of_ble_eq_true rfl) ?_
  intro X h hR ok
  obtain ⟨res, er⟩ : ∃ z, z = (a, σ2) := ⟨_, rfl⟩
  have hret : ∀ y : Int × Mm, some y = some res → RX X 0 (r32 (y.1)) (some (.int (i32 (y.1)))) y.2 := fun y e => by cases e; cases er; exact hR
  rw [← er] at hf
  clear er hR
  unfold F_A_fits at hf
  show SW X 0 5 0 [some (.ref (xad X 0)), some (.int (i32 x1)), some (.int (i32 x2)), some (.int (i32 x3)), none] [] σ
  refine SW_iload_n h rfl (dt t_A_fits 0 rfl) ?_
  refine SW_iconst h (dt t_A_fits 1 rfl) ?_
  obtain ⟨v1, e1, hf⟩ := b1_of hf
  refine cS h [.int (i32 x1), .int (i32 3)] [] v_X10_isSet kX10_266 (c_A_isSet x1 hx1 3 (by decide) e1) rfl rfl (by decide) (by decide) rfl (Nat.le_of_ble_eq_true rfl) (dt t_A_fits 2 rfl) (fun h1 => ?_)
  refine SW_if_eq (tgt := 13) h (fun _ => (r_zo h1)) (dt t_A_fits 3 rfl) rfl hf (fun hf => ?_) (fun hf => ?_)
  · refine SW_iconst h (dt t_A_fits 7 rfl) ?_
    exact SW_iret h (hret _ hf) (fun _ => (by decide)) rfl (dt t_A_fits 8 rfl)
  · refine SW_iload_n h rfl (dt t_A_fits 4 rfl) ?_
    refine SW_iconst h (dt t_A_fits 5 rfl) ?_
    refine SW_icmp_ge (tgt := 15) h (fun _ => hx2) (fun _ => (by decide)) (dt t_A_fits 6 rfl) rfl hf (fun hf => ?_) (fun hf => ?_)
    · refine SW_iload_n h rfl (dt t_A_fits 9 rfl) ?_
      refine SW_iconst h (dt t_A_fits 10 rfl) ?_
      refine bJ hf (fun J2 e2 hf => ?_)
      have k2 : ∀ (hf : J2 = some res), SW X 0 5 37 [some (.ref (xad X 0)), some (.int (i32 x1)), some (.int (i32 x2)), some (.int (i32 x3)), none] [] σ := by
        intro hf
        rw [e2] at hf
        refine SW_aload_n h rfl (dt t_A_fits 23 rfl) ?_
        refine gR h cf10 o0 f10_5 j0_5 lX10_49 (dt t_A_fits 24 rfl) ?_
        refine SW_iload_n h rfl (dt t_A_fits 25 rfl) ?_
        obtain ⟨v3, s3, e3, hf⟩ := b1M_of hf
        refine cV h [.int (i32 x1)] [] v_X1_find kX10_269 o121 (c_G_find x1 hx1 e3) rfl rfl (by decide) (by decide) rfl (Nat.le_of_ble_eq_true rfl) (dt t_A_fits 26 rfl) (fun h3 => ?_)
        refine SW_ok (fun ok3 => ?_)
        refine SW_istore (lv2 := [some (.ref (xad X 0)), some (.int (i32 x1)), some (.int (i32 x2)), some (.int (i32 x3)), some (.int (i32 v3))]) h (dt t_A_fits 27 rfl) (by decide) rfl ?_
        refine SW_iload_n h rfl (dt t_A_fits 28 rfl) ?_
        refine SW_iconst h (dt t_A_fits 29 rfl) ?_
        refine SW_icmp_ne (tgt := 55) h (fun _ => hx2) (fun _ => (by decide)) (dt t_A_fits 30 rfl) rfl hf (fun hf => ?_) (fun hf => ?_)
        · refine SW_iload h rfl (dt t_A_fits 31 rfl) ?_
          exact SW_iret h (hret _ hf) (fun _ => h3) rfl (dt t_A_fits 32 rfl)
        · refine SW_iload_n h rfl (dt t_A_fits 33 rfl) ?_
          refine SW_iload h rfl (dt t_A_fits 34 rfl) ?_
          refine SW_icmp_ge (tgt := 73) h (fun _ => hx2) (fun _ => h3) (dt t_A_fits 35 rfl) rfl hf (fun hf => ?_) (fun hf => ?_)
          · refine SW_iconst h (dt t_A_fits 42 rfl) ?_
            exact SW_iret h (hret _ hf) (fun _ => (by decide)) rfl (dt t_A_fits 43 rfl)
          · refine SW_aload_n h rfl (dt t_A_fits 36 rfl) ?_
            refine gR h cf10 o0 f10_5 j0_5 lX10_49 (dt t_A_fits 37 rfl) ?_
            refine SW_iload_n h rfl (dt t_A_fits 38 rfl) ?_
            refine SW_iload_n h rfl (dt t_A_fits 39 rfl) ?_
            obtain ⟨v4, e4, hf⟩ := b1_of hf
            refine cV h [.int (i32 x2), .int (i32 x3)] [] v_X1_temperIn kX10_272 o121 (c_G_temperIn x2 hx2 x3 hx3 e4) rfl rfl (by decide) (by decide) rfl (Nat.le_of_ble_eq_true rfl) (dt t_A_fits 40 rfl) (fun h4 => ?_)
            refine SW_goto (tgt := 74) h (dt t_A_fits 41 rfl) rfl ?_
            exact SW_iret h (hret _ hf) (fun _ => h4) rfl (dt t_A_fits 43 rfl)
      refine SW_icmp_eq (tgt := 37) h (fun _ => hx2) (fun _ => (by decide)) (dt t_A_fits 11 rfl) rfl hf (fun hf => ?_) (fun hf => ?_)
      · exact SW_fgt [true, true, true, true, false] rfl (k2 hf)
      · refine SW_iload_n h rfl (dt t_A_fits 12 rfl) ?_
        obtain ⟨v5, e5, hf⟩ := b1_of hf
        refine cS h [.int (i32 x3)] [] v_X10_isFigure kX10_125 (c_A_isFigure x3 hx3 e5) rfl rfl (by decide) (by decide) rfl (Nat.le_of_ble_eq_true rfl) (dt t_A_fits 13 rfl) (fun h5 => ?_)
        refine SW_if_eq (tgt := 35) h (fun _ => (r_zo h5)) (dt t_A_fits 14 rfl) rfl hf (fun hf => ?_) (fun hf => ?_)
        · refine SW_iconst h (dt t_A_fits 21 rfl) ?_
          exact SW_iret h (hret _ hf) (fun _ => (by decide)) rfl (dt t_A_fits 22 rfl)
        · refine SW_iload_n h rfl (dt t_A_fits 15 rfl) ?_
          refine SW_iload_n h rfl (dt t_A_fits 16 rfl) ?_
          refine SW_ishr h (dt t_A_fits 17 rfl) ?_
          refine SW_iconst h (dt t_A_fits 18 rfl) ?_
          refine SW_iand h (dt t_A_fits 19 rfl) ?_
          refine SW_if_ne (tgt := 37) h (fun _ => (r_iand _ _)) (dt t_A_fits 20 rfl) rfl hf (fun hf => ?_) (fun hf => ?_)
          · refine SW_iconst h (dt t_A_fits 21 rfl) ?_
            exact SW_iret h (hret _ hf) (fun _ => (by decide)) rfl (dt t_A_fits 22 rfl)
          · exact SW_fgt [true, true, true, true, false] rfl (k2 hf)
    · refine SW_iconst h (dt t_A_fits 7 rfl) ?_
      exact SW_iret h (hret _ hf) (fun _ => (by decide)) rfl (dt t_A_fits 8 rfl)
def b_A_foretold : List (Nat × Instr × Nat) := [(0, .iload_n 1, 1), (1, .iconst 1, 1), (2, .if_icmp .lt 21, 3), (5, .iload_n 1, 1), (6, .bipush 30, 2), (8, .if_icmp .gt 15, 3), (11, .iload_n 2, 1), (12, .iconst (-1), 1), (13, .if_icmp .eq 13, 3), (16, .iload_n 2, 1), (17, .invokestatic 125, 3), (20, .ifCond .ne 6, 3), (23, .ldc 118, 2), (25, .ireturn, 1), (26, .aload_n 0, 1), (27, .getfield 10, 3), (30, .invokevirtual 231, 3), (33, .iconst 0, 1), (34, .istore_n 3, 1), (35, .iload_n 3, 1), (36, .iload_n 1, 1), (37, .if_icmp .ge 17, 3), (40, .aload_n 0, 1), (41, .getfield 10, 3), (44, .invokevirtual 122, 3), (47, .pop, 1), (48, .iinc 3 1, 3), (51, .goto (-16), 3), (54, .aload_n 0, 1), (55, .getfield 10, 3), (58, .getfield 106, 3), (61, .iload_n 2, 1), (62, .iconst (-1), 1), (63, .if_icmp .ne 8, 3), (66, .bipush 41, 2), (68, .goto 6, 3), (71, .iconst 0, 1), (72, .iload_n 2, 1), (73, .iadd, 1), (74, .iaload, 1), (75, .istore_n 3, 1), (76, .aload_n 0, 1), (77, .getfield 10, 3), (80, .invokevirtual 234, 3), (83, .iload_n 3, 1), (84, .ireturn, 1)]
theorem t_A_foretold : DT cX10_foretold b_A_foretold := DT.of (by decide +kernel)
def L_A_foretold_35 : Nat → Int → Int → Mm → Option (Mm)
  | 0, _, _, _ => none
  | n + 1, x1, x3, σ =>
    if x1 ≤ x3 then
      some σ
    else
      b1M (F_H_passDay  σ) fun v3 s3 =>
      if r32 (x3 + 1) then
        L_A_foretold_35 n x1 (x3 + 1) s3
      else none
set_option maxRecDepth 100000 in
set_option maxHeartbeats 4000000 in
theorem l_A_foretold_35 {X : Cx} (h : CX X 0 cX10_foretold 4 8 (some .int) RX10) (x1 : Int) (x2 : Int) (hx1 : r32 x1) (hx2 : r32 x2) {res : Mm} (hex : ∀  (σ : Mm) (hz : some σ = some res)  (ok : okM σ), SW X 0 4 54 [some (.ref (xad X 0)), none, some (.int (i32 x2)), none] [] σ) : ∀ (n : Nat) (x3 : Int) (σ : Mm) (hx3 : r32 x3) (ok : okM σ) (hf : L_A_foretold_35 n x1 x3 σ = some res), SW X 0 4 35 [some (.ref (xad X 0)), some (.int (i32 x1)), some (.int (i32 x2)), some (.int (i32 x3))] [] σ := by
  intro n
  induction n with
  | zero => intro x3 σ hx3 ok hf; exact absurd hf (by simp [L_A_foretold_35])
  | succ n ih =>
    intro x3 σ hx3 ok hf
    rw [L_A_foretold_35] at hf
    refine SW_iload_n h rfl (dt t_A_foretold 19 rfl) ?_
    refine SW_iload_n h rfl (dt t_A_foretold 20 rfl) ?_
    refine SW_icmp_ge (tgt := 54) h (fun _ => hx3) (fun _ => hx1) (dt t_A_foretold 21 rfl) rfl hf (fun hf => ?_) (fun hf => ?_)
    · exact SW_fgt [true, false, true, false] rfl (hex σ hf ok)
    · refine SW_aload_n h rfl (dt t_A_foretold 22 rfl) ?_
      refine gR h cf10 o0 f10_0 j0_0 lX10_10 (dt t_A_foretold 23 rfl) ?_
      obtain ⟨v3, s3, e3, hf⟩ := b1M_of hf
      refine cV h [] [] v_X2_passDay kX10_122 o1 (c_H_passDay  e3) rfl rfl (by decide) (by decide) rfl (Nat.le_of_ble_eq_true rfl) (dt t_A_foretold 24 rfl) (fun h3 => ?_)
      refine SW_ok (fun ok3 => ?_)
      refine SW_pop h rfl (dt t_A_foretold 25 rfl) ?_
      refine SW_iinc (lv2 := [some (.ref (xad X 0)), some (.int (i32 x1)), some (.int (i32 x2)), some (.int (i32 (x3 + 1)))]) h (dt t_A_foretold 26 rfl) rfl (by decide) rfl ?_
      refine SW_goto (tgt := 35) h (dt t_A_foretold 27 rfl) rfl ?_
      refine SW_chk hf (fun h4 hf => ?_)
      exact SW_fgt [true, true, true, true] rfl (ih (x3 + 1) s3 h4 ok3 hf)
def F_A_foretold (x1 : Int) (x2 : Int) (σ : Mm) : Option (Int × Mm) :=
  if x1 < 1 then
    some ((-10000000), σ)
  else
    if 30 < x1 then
      some ((-10000000), σ)
    else
      bindM (
        b0M (F_H_save  σ) fun s2 =>
        b0M (L_A_foretold_35 LF x1 0 s2) fun s5 =>
        bindM ((if x2 = (-1) then 41 else (0 + x2) : Int)) fun v6 =>
        if 0 ≤ v6 ∧ v6 < 165 then
          bindM (s5 3 v6.toNat) fun v7 =>
          b0M (F_H_restore  s5) fun s8 =>
          some (v7, s8)
        else none) fun J1 =>
      if x2 = (-1) then
        J1
      else
        b1 (F_A_isFigure x2) fun v9 =>
        if v9 = 0 then
          some ((-10000000), σ)
        else
          J1
set_option maxRecDepth 100000 in
set_option maxHeartbeats 4000000 in
theorem c_A_foretold (x1 : Int) (hx1 : r32 x1) (x2 : Int) (hx2 : r32 x2) {σ : Mm} {a : Int} {σ2 : Mm} (hf : F_A_foretold x1 x2 σ = some (a, σ2)) : CT yX10_foretold cX10_foretold 4 (some .int) 8 0 (fun ad => [.ref (ad 0), .int (i32 x1), .int (i32 x2)]) σ (r32 a) (some (.int (i32 a))) σ2 := by
  refine MetJ 1 (by decide +kernel) rfl (fun _ => Nat.le_of_ble_eq_true rfl) ?_
  intro X h hR ok
  obtain ⟨res, er⟩ : ∃ z, z = (a, σ2) := ⟨_, rfl⟩
  have hret : ∀ y : Int × Mm, some y = some res → RX X 0 (r32 (y.1)) (some (.int (i32 (y.1)))) y.2 := fun y e => by cases e; cases er; exact hR
  rw [← er] at hf
  clear er hR
  unfold F_A_foretold at hf
  show SW X 0 4 0 [some (.ref (xad X 0)), some (.int (i32 x1)), some (.int (i32 x2)), none] [] σ
  refine SW_iload_n h rfl (dt t_A_foretold 0 rfl) ?_
  refine SW_iconst h (dt t_A_foretold 1 rfl) ?_
  refine SW_icmp_lt (tgt := 23) h (fun _ => hx1) (fun _ => (by decide)) (dt t_A_foretold 2 rfl) rfl hf (fun hf => ?_) (fun hf => ?_)
  · refine SW_ldc (n := -10000000) h nX10_118 (by decide) (dt t_A_foretold 12 rfl) ?_
    exact SW_iret h (hret _ hf) (fun _ => (by decide)) rfl (dt t_A_foretold 13 rfl)
  · refine SW_iload_n h rfl (dt t_A_foretold 3 rfl) ?_
    refine SW_bipush h (dt t_A_foretold 4 rfl) (by decide) ?_
    refine SW_icmp_gt (tgt := 23) h (fun _ => hx1) (fun _ => (by decide)) (dt t_A_foretold 5 rfl) rfl hf (fun hf => ?_) (fun hf => ?_)
    · refine SW_ldc (n := -10000000) h nX10_118 (by decide) (dt t_A_foretold 12 rfl) ?_
      exact SW_iret h (hret _ hf) (fun _ => (by decide)) rfl (dt t_A_foretold 13 rfl)
    · refine SW_iload_n h rfl (dt t_A_foretold 6 rfl) ?_
      refine SW_iconst h (dt t_A_foretold 7 rfl) ?_
      refine bJ hf (fun J1 e1 hf => ?_)
      have k1 : ∀ (hf : J1 = some res), SW X 0 4 26 [some (.ref (xad X 0)), some (.int (i32 x1)), some (.int (i32 x2)), none] [] σ := by
        intro hf
        rw [e1] at hf
        refine SW_aload_n h rfl (dt t_A_foretold 14 rfl) ?_
        refine gR h cf10 o0 f10_0 j0_0 lX10_10 (dt t_A_foretold 15 rfl) ?_
        obtain ⟨s2, e2, hf⟩ := b0M_of hf
        refine cVv h [] [] v_X2_save kX10_231 o1 (c_H_save  e2) rfl rfl (by decide) (by decide) rfl (Nat.le_of_ble_eq_true rfl) (dt t_A_foretold 16 rfl) (fun h2 => ?_)
        refine SW_ok (fun ok2 => ?_)
        refine SW_iconst h (dt t_A_foretold 17 rfl) ?_
        refine SW_istore_n (lv2 := [some (.ref (xad X 0)), some (.int (i32 x1)), some (.int (i32 x2)), some (.int (i32 0))]) h (dt t_A_foretold 18 rfl) (by decide) rfl ?_
        obtain ⟨z5, e5, hk5⟩ := b0M_ex hf
        refine SW_fgt [true, true, true, true] rfl (l_A_foretold_35 h x1 x2 hx1 hx2 (fun s5 hz5 ok5 => ?_) LF 0 s2 (by decide) ok2 e5)
        have hf := hk5 s5 hz5
        refine SW_aload_n h rfl (dt t_A_foretold 28 rfl) ?_
        refine gR h cf10 o0 f10_0 j0_0 lX10_10 (dt t_A_foretold 29 rfl) ?_
        refine gR h cf2 o1 f2_1 j1_1 lX10_106 (dt t_A_foretold 30 rfl) ?_
        refine SW_iload_n h rfl (dt t_A_foretold 31 rfl) ?_
        refine SW_iconst h (dt t_A_foretold 32 rfl) ?_
        refine bT hf (fun g6 e6 hf => ?_)
        have k6 : ∀ (v6 : Int) (hf : g6 v6 = some res), SW X 0 4 74 [some (.ref (xad X 0)), none, some (.int (i32 x2)), none] [.int (i32 v6), .ref (xad X 3)] s5 := by
          intro v6 hf
          rw [e6] at hf
          refine aI h a3 (dt t_A_foretold 39 rfl) hf (fun hf => ?_)
          refine SW_vi hf (okI ok5 3 v6.toNat (IsA.n3 a3 (by decide))) (fun v7 h7 hf => ?_)
          refine SW_istore_n (lv2 := [some (.ref (xad X 0)), none, some (.int (i32 x2)), some (.int (i32 v7))]) h (dt t_A_foretold 40 rfl) (by decide) rfl ?_
          refine SW_aload_n h rfl (dt t_A_foretold 41 rfl) ?_
          refine gR h cf10 o0 f10_0 j0_0 lX10_10 (dt t_A_foretold 42 rfl) ?_
          obtain ⟨s8, e8, hf⟩ := b0M_of hf
          refine cVv h [] [] v_X2_restore kX10_234 o1 (c_H_restore  e8) rfl rfl (by decide) (by decide) rfl (Nat.le_of_ble_eq_true rfl) (dt t_A_foretold 43 rfl) (fun h8 => ?_)
          refine SW_ok (fun ok8 => ?_)
          refine SW_iload_n h rfl (dt t_A_foretold 44 rfl) ?_
          exact SW_iret h (hret _ hf) (fun _ => h7) rfl (dt t_A_foretold 45 rfl)
        have hf := bIte hf
        refine SW_icmp_ne (tgt := 71) h (fun _ => hx2) (fun _ => (by decide)) (dt t_A_foretold 33 rfl) rfl hf (fun hf => ?_) (fun hf => ?_)
        · refine SW_bipush h (dt t_A_foretold 34 rfl) (by decide) ?_
          refine SW_goto (tgt := 74) h (dt t_A_foretold 35 rfl) rfl ?_
          exact k6 41 hf
        · refine SW_iconst h (dt t_A_foretold 36 rfl) ?_
          refine SW_iload_n h rfl (dt t_A_foretold 37 rfl) ?_
          refine SW_iadd h (dt t_A_foretold 38 rfl) ?_
          exact k6 (0 + x2) hf
      refine SW_icmp_eq (tgt := 26) h (fun _ => hx2) (fun _ => (by decide)) (dt t_A_foretold 8 rfl) rfl hf (fun hf => ?_) (fun hf => ?_)
      · exact SW_fgt [true, true, true, false] rfl (k1 hf)
      · refine SW_iload_n h rfl (dt t_A_foretold 9 rfl) ?_
        obtain ⟨v9, e9, hf⟩ := b1_of hf
        refine cS h [.int (i32 x2)] [] v_X10_isFigure kX10_125 (c_A_isFigure x2 hx2 e9) rfl rfl (by decide) (by decide) rfl (Nat.le_of_ble_eq_true rfl) (dt t_A_foretold 10 rfl) (fun h9 => ?_)
        refine SW_if_ne (tgt := 26) h (fun _ => (r_zo h9)) (dt t_A_foretold 11 rfl) rfl hf (fun hf => ?_) (fun hf => ?_)
        · refine SW_ldc (n := -10000000) h nX10_118 (by decide) (dt t_A_foretold 12 rfl) ?_
          exact SW_iret h (hret _ hf) (fun _ => (by decide)) rfl (dt t_A_foretold 13 rfl)
        · exact SW_fgt [true, true, true, false] rfl (k1 hf)
def b_E_listMembers : List (Nat × Instr × Nat) := [(0, .iconst 0, 1), (1, .istore_n 3, 1), (2, .iconst 0, 1), (3, .istore 4, 2), (5, .iload 4, 2), (7, .iload_n 2, 1), (8, .if_icmp .ge 39, 3), (11, .iload_n 3, 1), (12, .aload_n 0, 1), (13, .getfield 18, 3), (16, .arraylength, 1), (17, .if_icmp .ge 30, 3), (20, .iload_n 1, 1), (21, .iload 4, 2), (23, .ishr, 1), (24, .iconst 1, 1), (25, .iand, 1), (26, .iconst 1, 1), (27, .if_icmp .ne 14, 3), (30, .aload_n 0, 1), (31, .getfield 18, 3), (34, .iload_n 3, 1), (35, .iload 4, 2), (37, .iastore, 1), (38, .iinc 3 1, 3), (41, .iinc 4 1, 3), (44, .goto (-39), 3), (47, .iload_n 3, 1), (48, .ireturn, 1)]
theorem t_E_listMembers : DT cX7_listMembers b_E_listMembers := DT.of (by decide +kernel)
def L_E_listMembers_5 : Nat → Int → Int → Int → Int → Mm → Option (Int × Mm)
  | 0, _, _, _, _, _ => none
  | n + 1, x1, x2, x3, x4, σ =>
    if x2 ≤ x4 then
      some ((x3, σ))
    else
      if ((6 : Nat) : Int) ≤ x3 then
        some ((x3, σ))
      else
        bindM (fun (x3_1 : Int) (t1 : Mm) =>
          if r32 (x4 + 1) then
            L_E_listMembers_5 n x1 x2 x3_1 (x4 + 1) t1
          else none) fun J1 =>
        if iand (ishr x1 x4) 1 = 1 then
          if 0 ≤ x3 ∧ x3 < 6 then
            bindM (st2 σ 117 x3.toNat x4) fun s3 =>
            if r32 (x3 + 1) then
              J1 (x3 + 1) s3
            else none
          else none
        else
          J1 x3 σ
set_option maxRecDepth 100000 in
set_option maxHeartbeats 4000000 in
theorem l_E_listMembers_5 {X : Cx} (h : CX X 0 cX7_listMembers 5 0 (some .int) RX7) (x1 : Int) (x2 : Int) (hx1 : r32 x1) (hx2 : r32 x2) {res : Int × Mm} (hex : ∀ (x3 : Int) (σ : Mm) (hz : some ((x3, σ)) = some res) (hx3 : r32 x3) (ok : okM σ), SW X 0 5 47 [none, none, none, some (.int (i32 x3)), none] [] σ) : ∀ (n : Nat) (x3 : Int) (x4 : Int) (σ : Mm) (hx3 : r32 x3) (hx4 : r32 x4) (ok : okM σ) (hf : L_E_listMembers_5 n x1 x2 x3 x4 σ = some res), SW X 0 5 5 [some (.ref (xad X 114)), some (.int (i32 x1)), some (.int (i32 x2)), some (.int (i32 x3)), some (.int (i32 x4))] [] σ := by
  intro n
  induction n with
  | zero => intro x3 x4 σ hx3 hx4 ok hf; exact absurd hf (by simp [L_E_listMembers_5])
  | succ n ih =>
    intro x3 x4 σ hx3 hx4 ok hf
    rw [L_E_listMembers_5] at hf
    refine SW_iload h rfl (dt t_E_listMembers 4 rfl) ?_
    refine SW_iload_n h rfl (dt t_E_listMembers 5 rfl) ?_
    refine SW_icmp_ge (tgt := 47) h (fun _ => hx4) (fun _ => hx2) (dt t_E_listMembers 6 rfl) rfl hf (fun hf => ?_) (fun hf => ?_)
    · exact SW_fgt [false, false, false, true, false] rfl (hex x3 σ hf hx3 ok)
    · refine SW_iload_n h rfl (dt t_E_listMembers 7 rfl) ?_
      refine SW_aload_n h rfl (dt t_E_listMembers 8 rfl) ?_
      refine gR h cf7 o114 f7_4 j114_4 lX7_18 (dt t_E_listMembers 9 rfl) ?_
      refine aLen h (by decide) a117 (dt t_E_listMembers 10 rfl) ?_
      refine SW_icmp_ge (tgt := 47) h (fun _ => hx3) (fun _ => (by decide)) (dt t_E_listMembers 11 rfl) rfl hf (fun hf => ?_) (fun hf => ?_)
      · exact SW_fgt [false, false, false, true, false] rfl (hex x3 σ hf hx3 ok)
      · refine SW_iload_n h rfl (dt t_E_listMembers 12 rfl) ?_
        refine SW_iload h rfl (dt t_E_listMembers 13 rfl) ?_
        refine SW_ishr h (dt t_E_listMembers 14 rfl) ?_
        refine SW_iconst h (dt t_E_listMembers 15 rfl) ?_
        refine SW_iand h (dt t_E_listMembers 16 rfl) ?_
        refine SW_iconst h (dt t_E_listMembers 17 rfl) ?_
        refine bJ hf (fun J1 e1 hf => ?_)
        have k1 : ∀ (x3_1 : Int) (t1 : Mm) (hx3_1 : r32 x3_1) (ot1 : okM t1) (hf : J1 x3_1 t1 = some res), SW X 0 5 41 [some (.ref (xad X 114)), some (.int (i32 x1)), some (.int (i32 x2)), some (.int (i32 x3_1)), some (.int (i32 x4))] [] t1 := by
          intro x3_1 t1 hx3_1 ot1 hf
          rw [e1] at hf
          refine SW_iinc (lv2 := [some (.ref (xad X 114)), some (.int (i32 x1)), some (.int (i32 x2)), some (.int (i32 x3_1)), some (.int (i32 (x4 + 1)))]) h (dt t_E_listMembers 25 rfl) rfl (by decide) rfl ?_
          refine SW_goto (tgt := 5) h (dt t_E_listMembers 26 rfl) rfl ?_
          refine SW_chk hf (fun h2 hf => ?_)
          exact SW_fgt [true, true, true, true, true] rfl (ih x3_1 (x4 + 1) t1 hx3_1 h2 ot1 hf)
        refine SW_icmp_ne (tgt := 41) h (fun _ => (r_iand _ _)) (fun _ => (by decide)) (dt t_E_listMembers 18 rfl) rfl hf (fun hf => ?_) (fun hf => ?_)
        · refine SW_aload_n h rfl (dt t_E_listMembers 19 rfl) ?_
          refine gR h cf7 o114 f7_4 j114_4 lX7_18 (dt t_E_listMembers 20 rfl) ?_
          refine SW_iload_n h rfl (dt t_E_listMembers 21 rfl) ?_
          refine SW_iload h rfl (dt t_E_listMembers 22 rfl) ?_
          refine sI h a117 hx4 (dt t_E_listMembers 23 rfl) hf (fun hf => SW_bm hf (fun s3 ok3 hf => ?_))
          refine SW_iinc (lv2 := [some (.ref (xad X 114)), some (.int (i32 x1)), some (.int (i32 x2)), some (.int (i32 (x3 + 1))), some (.int (i32 x4))]) h (dt t_E_listMembers 24 rfl) rfl (by decide) rfl ?_
          refine SW_chk hf (fun h4 hf => ?_)
          exact SW_fgt [true, true, true, true, true] rfl (k1 (x3 + 1) s3 h4 ok3 hf)
        · exact SW_fgt [true, true, true, true, true] rfl (k1 x3 σ hx3 ok hf)
def F_E_listMembers (x1 : Int) (x2 : Int) (σ : Mm) : Option (Int × Mm) :=
  b1M (L_E_listMembers_5 LF x1 x2 0 0 σ) fun x3_5 s5 =>
  some (x3_5, s5)
set_option maxRecDepth 100000 in
set_option maxHeartbeats 4000000 in
theorem c_E_listMembers (x1 : Int) (hx1 : r32 x1) (x2 : Int) (hx2 : r32 x2) {σ : Mm} {a : Int} {σ2 : Mm} (hf : F_E_listMembers x1 x2 σ = some (a, σ2)) : CT yX7_listMembers cX7_listMembers 5 (some .int) 0 0 (fun ad => [.ref (ad 114), .int (i32 x1), .int (i32 x2)]) σ (r32 a) (some (.int (i32 a))) σ2 := by
  refine MetJ 2 (by decide +kernel) rfl (fun _ => Nat.le_of_ble_eq_true rfl) ?_
  intro X h hR ok
  obtain ⟨res, er⟩ : ∃ z, z = (a, σ2) := ⟨_, rfl⟩
  have hret : ∀ y : Int × Mm, some y = some res → RX X 0 (r32 (y.1)) (some (.int (i32 (y.1)))) y.2 := fun y e => by cases e; cases er; exact hR
  rw [← er] at hf
  clear er hR
  unfold F_E_listMembers at hf
  show SW X 0 5 0 [some (.ref (xad X 114)), some (.int (i32 x1)), some (.int (i32 x2)), none, none] [] σ
  refine SW_iconst h (dt t_E_listMembers 0 rfl) ?_
  refine SW_istore_n (lv2 := [some (.ref (xad X 114)), some (.int (i32 x1)), some (.int (i32 x2)), some (.int (i32 0)), none]) h (dt t_E_listMembers 1 rfl) (by decide) rfl ?_
  refine SW_iconst h (dt t_E_listMembers 2 rfl) ?_
  refine SW_istore (lv2 := [some (.ref (xad X 114)), some (.int (i32 x1)), some (.int (i32 x2)), some (.int (i32 0)), some (.int (i32 0))]) h (dt t_E_listMembers 3 rfl) (by decide) rfl ?_
  obtain ⟨z5, e5, hk5⟩ := b1M_ex hf
  refine SW_fgt [true, true, true, true, true] rfl (l_E_listMembers_5 h x1 x2 hx1 hx2 (fun x3_5 s5 hz5 hx3_5 ok5 => ?_) LF 0 0 σ (by decide) (by decide) ok e5)
  have hf := hk5 x3_5 s5 hz5
  refine SW_iload_n h rfl (dt t_E_listMembers 27 rfl) ?_
  exact SW_iret h (hret _ hf) (fun _ => hx3_5) rfl (dt t_E_listMembers 28 rfl)
def b_E_canWin : List (Nat × Instr × Nat) := [(0, .iconst 0, 1), (1, .istore 4, 2), (3, .iload 4, 2), (5, .iload_n 3, 1), (6, .if_icmp .ge 68, 3), (9, .iload_n 1, 1), (10, .iload 4, 2), (12, .ishr, 1), (13, .iconst 1, 1), (14, .iand, 1), (15, .iconst 1, 1), (16, .if_icmp .ne 52, 3), (19, .aload_n 0, 1), (20, .getfield 21, 3), (23, .iload_n 1, 1), (24, .iconst 1, 1), (25, .iload 4, 2), (27, .ishl, 1), (28, .ixor, 1), (29, .bipush 6, 2), (31, .imul, 1), (32, .iload 4, 2), (34, .iadd, 1), (35, .baload, 1), (36, .ifCond .ne 32, 3), (39, .aload_n 0, 1), (40, .getfield 41, 3), (43, .aload_n 0, 1), (44, .getfield 18, 3), (47, .iload_n 2, 1), (48, .iaload, 1), (49, .aload_n 0, 1), (50, .getfield 18, 3), (53, .iload 4, 2), (55, .iaload, 1), (56, .iconst 1, 1), (57, .invokevirtual 95, 3), (60, .sipush 1000, 3), (63, .if_icmp .ne 5, 3), (66, .iconst 1, 1), (67, .ireturn, 1), (68, .iinc 4 1, 3), (71, .goto (-68), 3), (74, .iconst 0, 1), (75, .ireturn, 1)]
theorem t_E_canWin : DT cX7_canWin b_E_canWin := DT.of (by decide +kernel)
def L_E_canWin_3 : Nat → Int → Int → Int → Int → Mm → Option ((Int × Mm) ⊕ (Mm))
  | 0, _, _, _, _, _ => none
  | n + 1, x1, x2, x3, x4, σ =>
    if x3 ≤ x4 then
      some (.inr σ)
    else
      bindM (fun  (t1 : Mm) =>
        if r32 (x4 + 1) then
          L_E_canWin_3 n x1 x2 x3 (x4 + 1) t1
        else none) fun J1 =>
      if iand (ishr x1 x4) 1 = 1 then
        if 0 ≤ ((ixor x1 (ishl 1 x4)) * 6) + x4 ∧ ((ixor x1 (ishl 1 x4)) * 6) + x4 < 384 then
          if σ 118 ((((ixor x1 (ishl 1 x4)) * 6) + x4).toNat) = 0 then
            if 0 ≤ x2 ∧ x2 < 6 then
              if 0 ≤ x4 ∧ x4 < 6 then
                b1M (F_J_two (σ 117 x2.toNat) (σ 117 x4.toNat) 1 σ) fun v3 s3 =>
                if v3 = 1000 then
                  some (.inl (1, s3))
                else
                  J1 s3
              else none
            else none
          else
            J1 σ
        else none
      else
        J1 σ
set_option maxRecDepth 100000 in
set_option maxHeartbeats 4000000 in
theorem l_E_canWin_3 {X : Cx} (h : CX X 0 cX7_canWin 5 6 (some .boolean) RX7) (x1 : Int) (x2 : Int) (x3 : Int) (hx1 : r32 x1) (hx2 : r32 x2) (hx3 : r32 x3) {res : (Int × Mm) ⊕ (Mm)} (hret : ∀ y : Int × Mm, some (.inl y) = some res → RX X 0 (y.1 = 0 ∨ y.1 = 1) (some (.int (i32 (y.1)))) y.2) (hex : ∀  (σ : Mm) (hz : some (.inr σ) = some res)  (ok : okM σ), SW X 0 5 74 [none, none, none, none, none] [] σ) : ∀ (n : Nat) (x4 : Int) (σ : Mm) (hx4 : r32 x4) (ok : okM σ) (hf : L_E_canWin_3 n x1 x2 x3 x4 σ = some res), SW X 0 5 3 [some (.ref (xad X 114)), some (.int (i32 x1)), some (.int (i32 x2)), some (.int (i32 x3)), some (.int (i32 x4))] [] σ := by
  intro n
  induction n with
  | zero => intro x4 σ hx4 ok hf; exact absurd hf (by simp [L_E_canWin_3])
  | succ n ih =>
    intro x4 σ hx4 ok hf
    rw [L_E_canWin_3] at hf
    refine SW_iload h rfl (dt t_E_canWin 2 rfl) ?_
    refine SW_iload_n h rfl (dt t_E_canWin 3 rfl) ?_
    refine SW_icmp_ge (tgt := 74) h (fun _ => hx4) (fun _ => hx3) (dt t_E_canWin 4 rfl) rfl hf (fun hf => ?_) (fun hf => ?_)
    · exact SW_fgt [false, false, false, false, false] rfl (hex σ hf ok)
    · refine SW_iload_n h rfl (dt t_E_canWin 5 rfl) ?_
      refine SW_iload h rfl (dt t_E_canWin 6 rfl) ?_
      refine SW_ishr h (dt t_E_canWin 7 rfl) ?_
      refine SW_iconst h (dt t_E_canWin 8 rfl) ?_
      refine SW_iand h (dt t_E_canWin 9 rfl) ?_
      refine SW_iconst h (dt t_E_canWin 10 rfl) ?_
      refine bJ hf (fun J1 e1 hf => ?_)
      have k1 : ∀  (t1 : Mm)  (ot1 : okM t1) (hf : J1 t1 = some res), SW X 0 5 68 [some (.ref (xad X 114)), some (.int (i32 x1)), some (.int (i32 x2)), some (.int (i32 x3)), some (.int (i32 x4))] [] t1 := by
        intro t1 ot1 hf
        rw [e1] at hf
        refine SW_iinc (lv2 := [some (.ref (xad X 114)), some (.int (i32 x1)), some (.int (i32 x2)), some (.int (i32 x3)), some (.int (i32 (x4 + 1)))]) h (dt t_E_canWin 41 rfl) rfl (by decide) rfl ?_
        refine SW_goto (tgt := 3) h (dt t_E_canWin 42 rfl) rfl ?_
        refine SW_chk hf (fun h2 hf => ?_)
        exact SW_fgt [true, true, true, true, true] rfl (ih (x4 + 1) t1 h2 ot1 hf)
      refine SW_icmp_ne (tgt := 68) h (fun _ => (r_iand _ _)) (fun _ => (by decide)) (dt t_E_canWin 11 rfl) rfl hf (fun hf => ?_) (fun hf => ?_)
      · refine SW_aload_n h rfl (dt t_E_canWin 12 rfl) ?_
        refine gR h cf7 o114 f7_5 j114_5 lX7_21 (dt t_E_canWin 13 rfl) ?_
        refine SW_iload_n h rfl (dt t_E_canWin 14 rfl) ?_
        refine SW_iconst h (dt t_E_canWin 15 rfl) ?_
        refine SW_iload h rfl (dt t_E_canWin 16 rfl) ?_
        refine SW_ishl h (dt t_E_canWin 17 rfl) ?_
        refine SW_ixor h (dt t_E_canWin 18 rfl) ?_
        refine SW_bipush h (dt t_E_canWin 19 rfl) (by decide) ?_
        refine SW_imul h (dt t_E_canWin 20 rfl) ?_
        refine SW_iload h rfl (dt t_E_canWin 21 rfl) ?_
        refine SW_iadd h (dt t_E_canWin 22 rfl) ?_
        refine aZ h a118 (dt t_E_canWin 23 rfl) hf (fun hf => ?_)
        refine SW_if_ne (tgt := 68) h (fun _ => (okI ok 118 ((((ixor x1 (ishl 1 x4)) * 6) + x4).toNat) (IsA.n3 a118 (by decide)))) (dt t_E_canWin 24 rfl) rfl hf (fun hf => ?_) (fun hf => ?_)
        · refine SW_aload_n h rfl (dt t_E_canWin 25 rfl) ?_
          refine gR h cf7 o114 f7_1 j114_1 lX7_41 (dt t_E_canWin 26 rfl) ?_
          refine SW_aload_n h rfl (dt t_E_canWin 27 rfl) ?_
          refine gR h cf7 o114 f7_4 j114_4 lX7_18 (dt t_E_canWin 28 rfl) ?_
          refine SW_iload_n h rfl (dt t_E_canWin 29 rfl) ?_
          refine aI h a117 (dt t_E_canWin 30 rfl) hf (fun hf => ?_)
          refine SW_aload_n h rfl (dt t_E_canWin 31 rfl) ?_
          refine gR h cf7 o114 f7_4 j114_4 lX7_18 (dt t_E_canWin 32 rfl) ?_
          refine SW_iload h rfl (dt t_E_canWin 33 rfl) ?_
          refine aI h a117 (dt t_E_canWin 34 rfl) hf (fun hf => ?_)
          refine SW_iconst h (dt t_E_canWin 35 rfl) ?_
          obtain ⟨v3, s3, e3, hf⟩ := b1M_of hf
          refine cV h [.int (i32 (σ 117 x2.toNat)), .int (i32 (σ 117 x4.toNat)), .int (i32 1)] [] v_X4_two kX7_95 o2 (c_J_two (σ 117 x2.toNat) (okI ok 117 x2.toNat (IsA.n3 a117 (by decide))) (σ 117 x4.toNat) (okI ok 117 x4.toNat (IsA.n3 a117 (by decide))) 1 (by decide) e3) rfl rfl (by decide) (by decide) rfl (Nat.le_of_ble_eq_true rfl) (dt t_E_canWin 36 rfl) (fun h3 => ?_)
          refine SW_ok (fun ok3 => ?_)
          refine SW_sipush h (dt t_E_canWin 37 rfl) (by decide) ?_
          refine SW_icmp_ne (tgt := 68) h (fun _ => h3) (fun _ => (by decide)) (dt t_E_canWin 38 rfl) rfl hf (fun hf => ?_) (fun hf => ?_)
          · refine SW_iconst h (dt t_E_canWin 39 rfl) ?_
            exact SW_zret h (hret _ hf) (by decide) rfl (dt t_E_canWin 40 rfl)
          · exact SW_fgt [true, true, true, true, true] rfl (k1 s3 ok3 hf)
        · exact SW_fgt [true, true, true, true, true] rfl (k1 σ ok hf)
      · exact SW_fgt [true, true, true, true, true] rfl (k1 σ ok hf)
def F_E_canWin (x1 : Int) (x2 : Int) (x3 : Int) (σ : Mm) : Option (Int × Mm) :=
  b0MS (L_E_canWin_3 LF x1 x2 x3 0 σ) (fun y => some y) fun s4 =>
  some (0, s4)
set_option maxRecDepth 100000 in
set_option maxHeartbeats 4000000 in
theorem c_E_canWin (x1 : Int) (hx1 : r32 x1) (x2 : Int) (hx2 : r32 x2) (x3 : Int) (hx3 : r32 x3) {σ : Mm} {a : Int} {σ2 : Mm} (hf : F_E_canWin x1 x2 x3 σ = some (a, σ2)) : CT yX7_canWin cX7_canWin 5 (some .boolean) 6 0 (fun ad => [.ref (ad 114), .int (i32 x1), .int (i32 x2), .int (i32 x3)]) σ (a = 0 ∨ a = 1) (some (.int (i32 a))) σ2 := by
  refine MetJ 1 (by decide +kernel) rfl (fun _ => Nat.le_of_ble_eq_true rfl) ?_
  intro X h hR ok
  obtain ⟨res, er⟩ : ∃ z, z = (a, σ2) := ⟨_, rfl⟩
  have hret : ∀ y : Int × Mm, some y = some res → RX X 0 (y.1 = 0 ∨ y.1 = 1) (some (.int (i32 (y.1)))) y.2 := fun y e => by cases e; cases er; exact hR
  rw [← er] at hf
  clear er hR
  unfold F_E_canWin at hf
  show SW X 0 5 0 [some (.ref (xad X 114)), some (.int (i32 x1)), some (.int (i32 x2)), some (.int (i32 x3)), none] [] σ
  refine SW_iconst h (dt t_E_canWin 0 rfl) ?_
  refine SW_istore (lv2 := [some (.ref (xad X 114)), some (.int (i32 x1)), some (.int (i32 x2)), some (.int (i32 x3)), some (.int (i32 0))]) h (dt t_E_canWin 1 rfl) (by decide) rfl ?_
  obtain ⟨z4, e4, g4, hk4⟩ := b0MS_of hf
  refine SW_fgt [true, true, true, true, true] rfl (l_E_canWin_3 h x1 x2 x3 hx1 hx2 hx3 (fun y e => hret y (g4 y (Option.some.inj e).symm)) (fun s4 hz4 ok4 => ?_) LF 0 σ (by decide) ok e4)
  have hf := hk4 s4 (Option.some.inj hz4).symm
  refine SW_iconst h (dt t_E_canWin 43 rfl) ?_
  exact SW_zret h (hret _ hf) (by decide) rfl (dt t_E_canWin 44 rfl)
def b_E_bestBeginning : List (Nat × Instr × Nat) := [(0, .aload_n 0, 1), (1, .getfield 41, 3), (4, .invokevirtual 42, 3), (7, .aload_n 0, 1), (8, .iload_n 1, 1), (9, .bipush 10, 2), (11, .invokevirtual 99, 3), (14, .istore_n 2, 1), (15, .iconst 0, 1), (16, .istore_n 3, 1), (17, .iload_n 3, 1), (18, .iconst 1, 1), (19, .iload_n 2, 1), (20, .ishl, 1), (21, .if_icmp .ge 56, 3), (24, .iconst 0, 1), (25, .istore 4, 2), (27, .iload 4, 2), (29, .iload_n 2, 1), (30, .if_icmp .ge 41, 3), (33, .aload_n 0, 1), (34, .getfield 21, 3), (37, .iload_n 3, 1), (38, .bipush 6, 2), (40, .imul, 1), (41, .iload 4, 2), (43, .iadd, 1), (44, .iload_n 3, 1), (45, .ifCond .eq 14, 3), (48, .aload_n 0, 1), (49, .iload_n 3, 1), (50, .iload 4, 2), (52, .iload_n 2, 1), (53, .invokevirtual 102, 3), (56, .ifCond .eq 7, 3), (59, .iconst 1, 1), (60, .goto 4, 3), (63, .iconst 0, 1), (64, .bastore, 1), (65, .iinc 4 1, 3), (68, .goto (-41), 3), (71, .iinc 3 1, 3), (74, .goto (-57), 3), (77, .iconst 1, 1), (78, .iload_n 2, 1), (79, .ishl, 1), (80, .iconst 1, 1), (81, .isub, 1), (82, .istore_n 3, 1), (83, .iconst 0, 1), (84, .istore 4, 2), (86, .iload 4, 2), (88, .iload_n 2, 1), (89, .if_icmp .ge 37, 3), (92, .aload_n 0, 1), (93, .getfield 21, 3), (96, .iload_n 3, 1), (97, .iconst 1, 1), (98, .iload 4, 2), (100, .ishl, 1), (101, .ixor, 1), (102, .bipush 6, 2), (104, .imul, 1), (105, .iload 4, 2), (107, .iadd, 1), (108, .baload, 1), (109, .ifCond .ne 11, 3), (112, .aload_n 0, 1), (113, .getfield 18, 3), (116, .iload 4, 2), (118, .iaload, 1), (119, .ireturn, 1), (120, .iinc 4 1, 3), (123, .goto (-37), 3), (126, .iconst (-1), 1), (127, .ireturn, 1)]
theorem t_E_bestBeginning : DT cX7_bestBeginning b_E_bestBeginning := DT.of (by decide +kernel)
def L_E_bestBeginning_27 : Nat → Int → Int → Int → Mm → Option (Mm)
  | 0, _, _, _, _ => none
  | n + 1, x2, x3, x4, σ =>
    if x2 ≤ x4 then
      some σ
    else
      bindM (fun (y3 : Int) (t3 : Mm) =>
        if 0 ≤ (x3 * 6) + x4 ∧ (x3 * 6) + x4 < 384 then
          bindM (st2 t3 118 (((x3 * 6) + x4).toNat) (nzI y3)) fun s4 =>
          if r32 (x4 + 1) then
            L_E_bestBeginning_27 n x2 x3 (x4 + 1) s4
          else none
        else none) fun J3 =>
      bindM (fun  (t6 : Mm) =>
        J3 1 t6) fun J6 =>
      if x3 = 0 then
        J6 σ
      else
        b1M (F_E_canWin x3 x4 x2 σ) fun v7 s7 =>
        if v7 = 0 then
          J3 0 s7
        else
          J6 s7
set_option maxRecDepth 100000 in
set_option maxHeartbeats 4000000 in
theorem l_E_bestBeginning_27 {X : Cx} (h : CX X 0 cX7_bestBeginning 5 7 (some .int) RX7) (x2 : Int) (x3 : Int) (hx2 : r32 x2) (hx3 : r32 x3) {res : Mm} (hex : ∀  (σ : Mm) (hz : some σ = some res)  (ok : okM σ), SW X 0 5 71 [some (.ref (xad X 114)), none, some (.int (i32 x2)), some (.int (i32 x3)), none] [] σ) : ∀ (n : Nat) (x4 : Int) (σ : Mm) (hx4 : r32 x4) (ok : okM σ) (hf : L_E_bestBeginning_27 n x2 x3 x4 σ = some res), SW X 0 5 27 [some (.ref (xad X 114)), none, some (.int (i32 x2)), some (.int (i32 x3)), some (.int (i32 x4))] [] σ := by
  intro n
  induction n with
  | zero => intro x4 σ hx4 ok hf; exact absurd hf (by simp [L_E_bestBeginning_27])
  | succ n ih =>
    intro x4 σ hx4 ok hf
    rw [L_E_bestBeginning_27] at hf
    refine SW_iload h rfl (dt t_E_bestBeginning 17 rfl) ?_
    refine SW_iload_n h rfl (dt t_E_bestBeginning 18 rfl) ?_
    refine SW_icmp_ge (tgt := 71) h (fun _ => hx4) (fun _ => hx2) (dt t_E_bestBeginning 19 rfl) rfl hf (fun hf => ?_) (fun hf => ?_)
    · exact SW_fgt [true, false, true, true, false] rfl (hex σ hf ok)
    · refine SW_aload_n h rfl (dt t_E_bestBeginning 20 rfl) ?_
      refine gR h cf7 o114 f7_5 j114_5 lX7_21 (dt t_E_bestBeginning 21 rfl) ?_
      refine SW_iload_n h rfl (dt t_E_bestBeginning 22 rfl) ?_
      refine SW_bipush h (dt t_E_bestBeginning 23 rfl) (by decide) ?_
      refine SW_imul h (dt t_E_bestBeginning 24 rfl) ?_
      refine SW_iload h rfl (dt t_E_bestBeginning 25 rfl) ?_
      refine SW_iadd h (dt t_E_bestBeginning 26 rfl) ?_
      refine SW_iload_n h rfl (dt t_E_bestBeginning 27 rfl) ?_
      refine bJ hf (fun J3 e3 hf => ?_)
      have k3 : ∀ (y3 : Int) (t3 : Mm) (hy3 : r32 y3) (ot3 : okM t3) (hf : J3 y3 t3 = some res), SW X 0 5 64 [some (.ref (xad X 114)), none, some (.int (i32 x2)), some (.int (i32 x3)), some (.int (i32 x4))] [.int (i32 y3), .int (i32 ((x3 * 6) + x4)), .ref (xad X 118)] t3 := by
        intro y3 t3 hy3 ot3 hf
        rw [e3] at hf
        refine sZ h a118 (dt t_E_bestBeginning 38 rfl) hf (fun hf => SW_bm hf (fun s4 ok4 hf => ?_))
        refine SW_iinc (lv2 := [some (.ref (xad X 114)), none, some (.int (i32 x2)), some (.int (i32 x3)), some (.int (i32 (x4 + 1)))]) h (dt t_E_bestBeginning 39 rfl) rfl (by decide) rfl ?_
        refine SW_goto (tgt := 27) h (dt t_E_bestBeginning 40 rfl) rfl ?_
        refine SW_chk hf (fun h5 hf => ?_)
        exact SW_fgt [true, false, true, true, true] rfl (ih (x4 + 1) s4 h5 ok4 hf)
      refine bJ hf (fun J6 e6 hf => ?_)
      have k6 : ∀  (t6 : Mm)  (ot6 : okM t6) (hf : J6 t6 = some res), SW X 0 5 59 [some (.ref (xad X 114)), none, some (.int (i32 x2)), some (.int (i32 x3)), some (.int (i32 x4))] [.int (i32 ((x3 * 6) + x4)), .ref (xad X 118)] t6 := by
        intro t6 ot6 hf
        rw [e6] at hf
        refine SW_iconst h (dt t_E_bestBeginning 35 rfl) ?_
        refine SW_goto (tgt := 64) h (dt t_E_bestBeginning 36 rfl) rfl ?_
        exact SW_fgt [true, false, true, true, true] rfl (k3 1 t6 (by decide) ot6 hf)
      refine SW_if_eq (tgt := 59) h (fun _ => hx3) (dt t_E_bestBeginning 28 rfl) rfl hf (fun hf => ?_) (fun hf => ?_)
      · exact SW_fgt [true, false, true, true, true] rfl (k6 σ ok hf)
      · refine SW_aload_n h rfl (dt t_E_bestBeginning 29 rfl) ?_
        refine SW_iload_n h rfl (dt t_E_bestBeginning 30 rfl) ?_
        refine SW_iload h rfl (dt t_E_bestBeginning 31 rfl) ?_
        refine SW_iload_n h rfl (dt t_E_bestBeginning 32 rfl) ?_
        obtain ⟨v7, s7, e7, hf⟩ := b1M_of hf
        refine cV h [.int (i32 x3), .int (i32 x4), .int (i32 x2)] [.int (i32 ((x3 * 6) + x4)), .ref (xad X 118)] v_X7_canWin kX7_102 o114 (c_E_canWin x3 hx3 x4 hx4 x2 hx2 e7) rfl rfl (by decide) (by decide) rfl (Nat.le_of_ble_eq_true rfl) (dt t_E_bestBeginning 33 rfl) (fun h7 => ?_)
        refine SW_ok (fun ok7 => ?_)
        refine SW_if_eq (tgt := 63) h (fun _ => (r_zo h7)) (dt t_E_bestBeginning 34 rfl) rfl hf (fun hf => ?_) (fun hf => ?_)
        · refine SW_iconst h (dt t_E_bestBeginning 37 rfl) ?_
          exact SW_fgt [true, false, true, true, true] rfl (k3 0 s7 (by decide) ok7 hf)
        · exact SW_fgt [true, false, true, true, true] rfl (k6 s7 ok7 hf)
def L_E_bestBeginning_17 : Nat → Int → Int → Mm → Option (Mm)
  | 0, _, _, _ => none
  | n + 1, x2, x3, σ =>
    if ishl 1 x2 ≤ x3 then
      some σ
    else
      b0M (L_E_bestBeginning_27 LF x2 x3 0 σ) fun s8 =>
      if r32 (x3 + 1) then
        L_E_bestBeginning_17 n x2 (x3 + 1) s8
      else none
set_option maxRecDepth 100000 in
set_option maxHeartbeats 4000000 in
theorem l_E_bestBeginning_17 {X : Cx} (h : CX X 0 cX7_bestBeginning 5 7 (some .int) RX7) (x2 : Int) (hx2 : r32 x2) {res : Mm} (hex : ∀  (σ : Mm) (hz : some σ = some res)  (ok : okM σ), SW X 0 5 77 [some (.ref (xad X 114)), none, some (.int (i32 x2)), none, none] [] σ) : ∀ (n : Nat) (x3 : Int) (σ : Mm) (hx3 : r32 x3) (ok : okM σ) (hf : L_E_bestBeginning_17 n x2 x3 σ = some res), SW X 0 5 17 [some (.ref (xad X 114)), none, some (.int (i32 x2)), some (.int (i32 x3)), none] [] σ := by
  intro n
  induction n with
  | zero => intro x3 σ hx3 ok hf; exact absurd hf (by simp [L_E_bestBeginning_17])
  | succ n ih =>
    intro x3 σ hx3 ok hf
    rw [L_E_bestBeginning_17] at hf
    refine SW_iload_n h rfl (dt t_E_bestBeginning 10 rfl) ?_
    refine SW_iconst h (dt t_E_bestBeginning 11 rfl) ?_
    refine SW_iload_n h rfl (dt t_E_bestBeginning 12 rfl) ?_
    refine SW_ishl h (dt t_E_bestBeginning 13 rfl) ?_
    refine SW_icmp_ge (tgt := 77) h (fun _ => hx3) (fun _ => (r_ishl _ _)) (dt t_E_bestBeginning 14 rfl) rfl hf (fun hf => ?_) (fun hf => ?_)
    · exact SW_fgt [true, false, true, false, false] rfl (hex σ hf ok)
    · refine SW_iconst h (dt t_E_bestBeginning 15 rfl) ?_
      refine SW_istore (lv2 := [some (.ref (xad X 114)), none, some (.int (i32 x2)), some (.int (i32 x3)), some (.int (i32 0))]) h (dt t_E_bestBeginning 16 rfl) (by decide) rfl ?_
      obtain ⟨z8, e8, hk8⟩ := b0M_ex hf
      refine SW_fgt [true, false, true, true, true] rfl (l_E_bestBeginning_27 h x2 x3 hx2 hx3 (fun s8 hz8 ok8 => ?_) LF 0 σ (by decide) ok e8)
      have hf := hk8 s8 hz8
      refine SW_iinc (lv2 := [some (.ref (xad X 114)), none, some (.int (i32 x2)), some (.int (i32 (x3 + 1))), none]) h (dt t_E_bestBeginning 41 rfl) rfl (by decide) rfl ?_
      refine SW_goto (tgt := 17) h (dt t_E_bestBeginning 42 rfl) rfl ?_
      refine SW_chk hf (fun h9 hf => ?_)
      exact SW_fgt [true, false, true, true, false] rfl (ih (x3 + 1) s8 h9 ok8 hf)
def L_E_bestBeginning_86 : Nat → Int → Int → Int → Mm → Option ((Int × Mm) ⊕ (Unit))
  | 0, _, _, _, _ => none
  | n + 1, x2, x3, x4, σ =>
    if x2 ≤ x4 then
      some (.inr (()))
    else
      if 0 ≤ ((ixor x3 (ishl 1 x4)) * 6) + x4 ∧ ((ixor x3 (ishl 1 x4)) * 6) + x4 < 384 then
        if σ 118 ((((ixor x3 (ishl 1 x4)) * 6) + x4).toNat) = 0 then
          if 0 ≤ x4 ∧ x4 < 6 then
            some (.inl (σ 117 x4.toNat, σ))
          else none
        else
          if r32 (x4 + 1) then
            L_E_bestBeginning_86 n x2 x3 (x4 + 1) σ
          else none
      else none
set_option maxRecDepth 100000 in
set_option maxHeartbeats 4000000 in
theorem l_E_bestBeginning_86 {X : Cx} (h : CX X 0 cX7_bestBeginning 5 7 (some .int) RX7) (x2 : Int) (x3 : Int) (σ : Mm) (hx2 : r32 x2) (hx3 : r32 x3) (ok : okM σ) {res : (Int × Mm) ⊕ (Unit)} (hret : ∀ y : Int × Mm, some (.inl y) = some res → RX X 0 (r32 (y.1)) (some (.int (i32 (y.1)))) y.2) (hex : ∀ (hz : some (.inr (())) = some res), SW X 0 5 126 [none, none, none, none, none] [] σ) : ∀ (n : Nat) (x4 : Int) (hx4 : r32 x4) (hf : L_E_bestBeginning_86 n x2 x3 x4 σ = some res), SW X 0 5 86 [some (.ref (xad X 114)), none, some (.int (i32 x2)), some (.int (i32 x3)), some (.int (i32 x4))] [] σ := by
  intro n
  induction n with
  | zero => intro x4 hx4 hf; exact absurd hf (by simp [L_E_bestBeginning_86])
  | succ n ih =>
    intro x4 hx4 hf
    rw [L_E_bestBeginning_86] at hf
    refine SW_iload h rfl (dt t_E_bestBeginning 51 rfl) ?_
    refine SW_iload_n h rfl (dt t_E_bestBeginning 52 rfl) ?_
    refine SW_icmp_ge (tgt := 126) h (fun _ => hx4) (fun _ => hx2) (dt t_E_bestBeginning 53 rfl) rfl hf (fun hf => ?_) (fun hf => ?_)
    · exact SW_fgt [false, false, false, false, false] rfl (hex hf)
    · refine SW_aload_n h rfl (dt t_E_bestBeginning 54 rfl) ?_
      refine gR h cf7 o114 f7_5 j114_5 lX7_21 (dt t_E_bestBeginning 55 rfl) ?_
      refine SW_iload_n h rfl (dt t_E_bestBeginning 56 rfl) ?_
      refine SW_iconst h (dt t_E_bestBeginning 57 rfl) ?_
      refine SW_iload h rfl (dt t_E_bestBeginning 58 rfl) ?_
      refine SW_ishl h (dt t_E_bestBeginning 59 rfl) ?_
      refine SW_ixor h (dt t_E_bestBeginning 60 rfl) ?_
      refine SW_bipush h (dt t_E_bestBeginning 61 rfl) (by decide) ?_
      refine SW_imul h (dt t_E_bestBeginning 62 rfl) ?_
      refine SW_iload h rfl (dt t_E_bestBeginning 63 rfl) ?_
      refine SW_iadd h (dt t_E_bestBeginning 64 rfl) ?_
      refine aZ h a118 (dt t_E_bestBeginning 65 rfl) hf (fun hf => ?_)
      refine SW_if_ne (tgt := 120) h (fun _ => (okI ok 118 ((((ixor x3 (ishl 1 x4)) * 6) + x4).toNat) (IsA.n3 a118 (by decide)))) (dt t_E_bestBeginning 66 rfl) rfl hf (fun hf => ?_) (fun hf => ?_)
      · refine SW_aload_n h rfl (dt t_E_bestBeginning 67 rfl) ?_
        refine gR h cf7 o114 f7_4 j114_4 lX7_18 (dt t_E_bestBeginning 68 rfl) ?_
        refine SW_iload h rfl (dt t_E_bestBeginning 69 rfl) ?_
        refine aI h a117 (dt t_E_bestBeginning 70 rfl) hf (fun hf => ?_)
        exact SW_iret h (hret _ hf) (fun _ => (okI ok 117 x4.toNat (IsA.n3 a117 (by decide)))) rfl (dt t_E_bestBeginning 71 rfl)
      · refine SW_iinc (lv2 := [some (.ref (xad X 114)), none, some (.int (i32 x2)), some (.int (i32 x3)), some (.int (i32 (x4 + 1)))]) h (dt t_E_bestBeginning 72 rfl) rfl (by decide) rfl ?_
        refine SW_goto (tgt := 86) h (dt t_E_bestBeginning 73 rfl) rfl ?_
        refine SW_chk hf (fun h12 hf => ?_)
        exact SW_fgt [true, false, true, true, true] rfl (ih (x4 + 1) h12 hf)
def F_E_bestBeginning (x1 : Int) (σ : Mm) : Option (Int × Mm) :=
  b0M (F_J_fresh  σ) fun s1 =>
  b1M (F_E_listMembers x1 10 s1) fun v2 s2 =>
  b0M (L_E_bestBeginning_17 LF v2 0 s2) fun s10 =>
  bindM ((ishl 1 v2) - 1) fun v11 =>
  if r32 v11 then
    b0S (L_E_bestBeginning_86 LF v2 v11 0 s10) (fun y => some y) <|
    some ((-1), s10)
  else none
set_option maxRecDepth 100000 in
set_option maxHeartbeats 4000000 in
theorem c_E_bestBeginning (x1 : Int) (hx1 : r32 x1) {σ : Mm} {a : Int} {σ2 : Mm} (hf : F_E_bestBeginning x1 σ = some (a, σ2)) : CT yX7_bestBeginning cX7_bestBeginning 5 (some .int) 7 0 (fun ad => [.ref (ad 114), .int (i32 x1)]) σ (r32 a) (some (.int (i32 a))) σ2 := by
  refine MetJ 3 (by decide +kernel) rfl (fun _ => Nat.le_of_ble_eq_true rfl) ?_
  intro X h hR ok
  obtain ⟨res, er⟩ : ∃ z, z = (a, σ2) := ⟨_, rfl⟩
  have hret : ∀ y : Int × Mm, some y = some res → RX X 0 (r32 (y.1)) (some (.int (i32 (y.1)))) y.2 := fun y e => by cases e; cases er; exact hR
  rw [← er] at hf
  clear er hR
  unfold F_E_bestBeginning at hf
  show SW X 0 5 0 [some (.ref (xad X 114)), some (.int (i32 x1)), none, none, none] [] σ
  refine SW_aload_n h rfl (dt t_E_bestBeginning 0 rfl) ?_
  refine gR h cf7 o114 f7_1 j114_1 lX7_41 (dt t_E_bestBeginning 1 rfl) ?_
  obtain ⟨s1, e1, hf⟩ := b0M_of hf
  refine cVv h [] [] v_X4_fresh kX7_42 o2 (c_J_fresh  e1) rfl rfl (by decide) (by decide) rfl (Nat.le_of_ble_eq_true rfl) (dt t_E_bestBeginning 2 rfl) (fun h1 => ?_)
  refine SW_ok (fun ok1 => ?_)
  refine SW_aload_n h rfl (dt t_E_bestBeginning 3 rfl) ?_
  refine SW_iload_n h rfl (dt t_E_bestBeginning 4 rfl) ?_
  refine SW_bipush h (dt t_E_bestBeginning 5 rfl) (by decide) ?_
  obtain ⟨v2, s2, e2, hf⟩ := b1M_of hf
  refine cV h [.int (i32 x1), .int (i32 10)] [] v_X7_listMembers kX7_99 o114 (c_E_listMembers x1 hx1 10 (by decide) e2) rfl rfl (by decide) (by decide) rfl (Nat.le_of_ble_eq_true rfl) (dt t_E_bestBeginning 6 rfl) (fun h2 => ?_)
  refine SW_ok (fun ok2 => ?_)
  refine SW_istore_n (lv2 := [some (.ref (xad X 114)), some (.int (i32 x1)), some (.int (i32 v2)), none, none]) h (dt t_E_bestBeginning 7 rfl) (by decide) rfl ?_
  refine SW_iconst h (dt t_E_bestBeginning 8 rfl) ?_
  refine SW_istore_n (lv2 := [some (.ref (xad X 114)), some (.int (i32 x1)), some (.int (i32 v2)), some (.int (i32 0)), none]) h (dt t_E_bestBeginning 9 rfl) (by decide) rfl ?_
  obtain ⟨z10, e10, hk10⟩ := b0M_ex hf
  refine SW_fgt [true, false, true, true, false] rfl (l_E_bestBeginning_17 h v2 h2 (fun s10 hz10 ok10 => ?_) LF 0 s2 (by decide) ok2 e10)
  have hf := hk10 s10 hz10
  refine SW_iconst h (dt t_E_bestBeginning 43 rfl) ?_
  refine SW_iload_n h rfl (dt t_E_bestBeginning 44 rfl) ?_
  refine SW_ishl h (dt t_E_bestBeginning 45 rfl) ?_
  refine SW_iconst h (dt t_E_bestBeginning 46 rfl) ?_
  refine SW_isub h (dt t_E_bestBeginning 47 rfl) ?_
  refine SW_vu hf (fun v11 hf => ?_)
  refine SW_istore_n (lv2 := [some (.ref (xad X 114)), none, some (.int (i32 v2)), some (.int (i32 v11)), none]) h (dt t_E_bestBeginning 48 rfl) (by decide) rfl ?_
  refine SW_iconst h (dt t_E_bestBeginning 49 rfl) ?_
  refine SW_istore (lv2 := [some (.ref (xad X 114)), none, some (.int (i32 v2)), some (.int (i32 v11)), some (.int (i32 0))]) h (dt t_E_bestBeginning 50 rfl) (by decide) rfl ?_
  refine SW_chk hf (fun h14 hf => ?_)
  obtain ⟨z13, e13, g13, hk13⟩ := b0S_of hf
  refine SW_fgt [true, false, true, true, true] rfl (l_E_bestBeginning_86 h v2 v11 s10 h2 h14 ok10 (fun y e => hret y (g13 y (Option.some.inj e).symm)) (fun hz13 => ?_) LF 0 (by decide) e13)
  have hf := hk13 (Option.some.inj hz13).symm
  refine SW_iconst h (dt t_E_bestBeginning 74 rfl) ?_
  exact SW_iret h (hret _ hf) (fun _ => (by decide)) rfl (dt t_E_bestBeginning 75 rfl)
def b_A_game : List (Nat × Instr × Nat) := [(0, .iload_n 1, 1), (1, .bipush 6, 2), (3, .invokestatic 266, 3), (6, .ifCond .ne 6, 3), (9, .bipush (-2), 2), (11, .ireturn, 1), (12, .aload_n 0, 1), (13, .getfield 42, 3), (16, .iload_n 1, 1), (17, .invokevirtual 296, 3), (20, .istore_n 3, 1), (21, .iload_n 2, 1), (22, .ifCond .eq 5, 3), (25, .iload_n 3, 1), (26, .ireturn, 1), (27, .iload_n 3, 1), (28, .iconst (-1), 1), (29, .if_icmp .ne 7, 3), (32, .iconst 0, 1), (33, .goto 4, 3), (36, .iconst 1, 1), (37, .ireturn, 1)]
theorem t_A_game : DT cX10_game b_A_game := DT.of (by decide +kernel)
def F_A_game (x1 : Int) (x2 : Int) (σ : Mm) : Option (Int × Mm) :=
  b1 (F_A_isSet x1 6) fun v1 =>
  if v1 = 0 then
    some ((-2), σ)
  else
    b1M (F_E_bestBeginning x1 σ) fun v2 s2 =>
    if x2 = 0 then
      if v2 = (-1) then
        some (0, s2)
      else
        some (1, s2)
    else
      some (v2, s2)
set_option maxRecDepth 100000 in
set_option maxHeartbeats 4000000 in
theorem c_A_game (x1 : Int) (hx1 : r32 x1) (x2 : Int) (hx2 : r32 x2) {σ : Mm} {a : Int} {σ2 : Mm} (hf : F_A_game x1 x2 σ = some (a, σ2)) : CT yX10_game cX10_game 4 (some .int) 8 0 (fun ad => [.ref (ad 0), .int (i32 x1), .int (i32 x2)]) σ (r32 a) (some (.int (i32 a))) σ2 := by
  refine MetJ 1 (by decide +kernel) rfl (fun _ => Nat.le_of_ble_eq_true rfl) ?_
  intro X h hR ok
  obtain ⟨res, er⟩ : ∃ z, z = (a, σ2) := ⟨_, rfl⟩
  have hret : ∀ y : Int × Mm, some y = some res → RX X 0 (r32 (y.1)) (some (.int (i32 (y.1)))) y.2 := fun y e => by cases e; cases er; exact hR
  rw [← er] at hf
  clear er hR
  unfold F_A_game at hf
  show SW X 0 4 0 [some (.ref (xad X 0)), some (.int (i32 x1)), some (.int (i32 x2)), none] [] σ
  refine SW_iload_n h rfl (dt t_A_game 0 rfl) ?_
  refine SW_bipush h (dt t_A_game 1 rfl) (by decide) ?_
  obtain ⟨v1, e1, hf⟩ := b1_of hf
  refine cS h [.int (i32 x1), .int (i32 6)] [] v_X10_isSet kX10_266 (c_A_isSet x1 hx1 6 (by decide) e1) rfl rfl (by decide) (by decide) rfl (Nat.le_of_ble_eq_true rfl) (dt t_A_game 2 rfl) (fun h1 => ?_)
  refine SW_if_ne (tgt := 12) h (fun _ => (r_zo h1)) (dt t_A_game 3 rfl) rfl hf (fun hf => ?_) (fun hf => ?_)
  · refine SW_bipush h (dt t_A_game 4 rfl) (by decide) ?_
    exact SW_iret h (hret _ hf) (fun _ => (by decide)) rfl (dt t_A_game 5 rfl)
  · refine SW_aload_n h rfl (dt t_A_game 6 rfl) ?_
    refine gR h cf10 o0 f10_4 j0_4 lX10_42 (dt t_A_game 7 rfl) ?_
    refine SW_iload_n h rfl (dt t_A_game 8 rfl) ?_
    obtain ⟨v2, s2, e2, hf⟩ := b1M_of hf
    refine cV h [.int (i32 x1)] [] v_X7_bestBeginning kX10_296 o114 (c_E_bestBeginning x1 hx1 e2) rfl rfl (by decide) (by decide) rfl (Nat.le_of_ble_eq_true rfl) (dt t_A_game 9 rfl) (fun h2 => ?_)
    refine SW_ok (fun ok2 => ?_)
    refine SW_istore_n (lv2 := [some (.ref (xad X 0)), some (.int (i32 x1)), some (.int (i32 x2)), some (.int (i32 v2))]) h (dt t_A_game 10 rfl) (by decide) rfl ?_
    refine SW_iload_n h rfl (dt t_A_game 11 rfl) ?_
    refine SW_if_eq (tgt := 27) h (fun _ => hx2) (dt t_A_game 12 rfl) rfl hf (fun hf => ?_) (fun hf => ?_)
    · refine SW_iload_n h rfl (dt t_A_game 15 rfl) ?_
      refine SW_iconst h (dt t_A_game 16 rfl) ?_
      refine SW_icmp_ne (tgt := 36) h (fun _ => h2) (fun _ => (by decide)) (dt t_A_game 17 rfl) rfl hf (fun hf => ?_) (fun hf => ?_)
      · refine SW_iconst h (dt t_A_game 18 rfl) ?_
        refine SW_goto (tgt := 37) h (dt t_A_game 19 rfl) rfl ?_
        exact SW_iret h (hret _ hf) (fun _ => (by decide)) rfl (dt t_A_game 21 rfl)
      · refine SW_iconst h (dt t_A_game 20 rfl) ?_
        exact SW_iret h (hret _ hf) (fun _ => (by decide)) rfl (dt t_A_game 21 rfl)
    · refine SW_iload_n h rfl (dt t_A_game 13 rfl) ?_
      exact SW_iret h (hret _ hf) (fun _ => h2) rfl (dt t_A_game 14 rfl)
def b_E_outOfTwo : List (Nat × Instr × Nat) := [(0, .iload_n 1, 1), (1, .invokestatic 90, 3), (4, .istore_n 3, 1), (5, .iload_n 2, 1), (6, .invokestatic 90, 3), (9, .istore 4, 2), (11, .iload_n 1, 1), (12, .iload_n 2, 1), (13, .iadd, 1), (14, .aload_n 0, 1), (15, .getfield 41, 3), (18, .iload_n 3, 1), (19, .invokevirtual 56, 3), (22, .iadd, 1), (23, .aload_n 0, 1), (24, .getfield 41, 3), (27, .iload_n 3, 1), (28, .iload 4, 2), (30, .invokevirtual 72, 3), (33, .iadd, 1), (34, .aload_n 0, 1), (35, .getfield 41, 3), (38, .iload 4, 2), (40, .invokevirtual 56, 3), (43, .iadd, 1), (44, .ireturn, 1)]
theorem t_E_outOfTwo : DT cX7_outOfTwo b_E_outOfTwo := DT.of (by decide +kernel)
def F_E_outOfTwo (x1 : Int) (x2 : Int) (σ : Mm) : Option (Int × Mm) :=
  if ¬ x1 = -2147483648 then
    bindM (((x1).natAbs : Int)) fun v2 =>
    if ¬ x2 = -2147483648 then
      bindM (((x2).natAbs : Int)) fun v4 =>
      b1M (F_J_within v2 σ) fun v5 s5 =>
      b1M (F_J_between v2 v4 s5) fun v6 s6 =>
      b1M (F_J_within v4 s6) fun v7 s7 =>
      if r32 ((((x1 + x2) + v5) + v6) + v7) then
        some ((((x1 + x2) + v5) + v6) + v7, s7)
      else none
    else none
  else none
set_option maxRecDepth 100000 in
set_option maxHeartbeats 4000000 in
theorem c_E_outOfTwo (x1 : Int) (hx1 : r32 x1) (x2 : Int) (hx2 : r32 x2) {σ : Mm} {a : Int} {σ2 : Mm} (hf : F_E_outOfTwo x1 x2 σ = some (a, σ2)) : CT yX7_outOfTwo cX7_outOfTwo 5 (some .int) 7 0 (fun ad => [.ref (ad 114), .int (i32 x1), .int (i32 x2)]) σ (r32 a) (some (.int (i32 a))) σ2 := by
  refine MetJ 2 (by decide +kernel) rfl (fun _ => Nat.le_of_ble_eq_true rfl) ?_
  intro X h hR ok
  obtain ⟨res, er⟩ : ∃ z, z = (a, σ2) := ⟨_, rfl⟩
  have hret : ∀ y : Int × Mm, some y = some res → RX X 0 (r32 (y.1)) (some (.int (i32 (y.1)))) y.2 := fun y e => by cases e; cases er; exact hR
  rw [← er] at hf
  clear er hR
  unfold F_E_outOfTwo at hf
  show SW X 0 5 0 [some (.ref (xad X 114)), some (.int (i32 x1)), some (.int (i32 x2)), none, none] [] σ
  refine SW_iload_n h rfl (dt t_E_outOfTwo 0 rfl) ?_
  refine SW_chk hf (fun h1 hf => ?_)
  refine SW_abs h kX7_90 hx1 h1 (Nat.le_of_ble_eq_true rfl) (dt t_E_outOfTwo 1 rfl) ?_
  refine SW_vi hf (r_abs hx1 h1) (fun v2 h2 hf => ?_)
  refine SW_istore_n (lv2 := [some (.ref (xad X 114)), some (.int (i32 x1)), some (.int (i32 x2)), some (.int (i32 v2)), none]) h (dt t_E_outOfTwo 2 rfl) (by decide) rfl ?_
  refine SW_iload_n h rfl (dt t_E_outOfTwo 3 rfl) ?_
  refine SW_chk hf (fun h3 hf => ?_)
  refine SW_abs h kX7_90 hx2 h3 (Nat.le_of_ble_eq_true rfl) (dt t_E_outOfTwo 4 rfl) ?_
  refine SW_vi hf (r_abs hx2 h3) (fun v4 h4 hf => ?_)
  refine SW_istore (lv2 := [some (.ref (xad X 114)), some (.int (i32 x1)), some (.int (i32 x2)), some (.int (i32 v2)), some (.int (i32 v4))]) h (dt t_E_outOfTwo 5 rfl) (by decide) rfl ?_
  refine SW_iload_n h rfl (dt t_E_outOfTwo 6 rfl) ?_
  refine SW_iload_n h rfl (dt t_E_outOfTwo 7 rfl) ?_
  refine SW_iadd h (dt t_E_outOfTwo 8 rfl) ?_
  refine SW_aload_n h rfl (dt t_E_outOfTwo 9 rfl) ?_
  refine gR h cf7 o114 f7_1 j114_1 lX7_41 (dt t_E_outOfTwo 10 rfl) ?_
  refine SW_iload_n h rfl (dt t_E_outOfTwo 11 rfl) ?_
  obtain ⟨v5, s5, e5, hf⟩ := b1M_of hf
  refine cV h [.int (i32 v2)] [.int (i32 (x1 + x2))] v_X4_within kX7_56 o2 (c_J_within v2 h2 e5) rfl rfl (by decide) (by decide) rfl (Nat.le_of_ble_eq_true rfl) (dt t_E_outOfTwo 12 rfl) (fun h5 => ?_)
  refine SW_ok (fun ok5 => ?_)
  refine SW_iadd h (dt t_E_outOfTwo 13 rfl) ?_
  refine SW_aload_n h rfl (dt t_E_outOfTwo 14 rfl) ?_
  refine gR h cf7 o114 f7_1 j114_1 lX7_41 (dt t_E_outOfTwo 15 rfl) ?_
  refine SW_iload_n h rfl (dt t_E_outOfTwo 16 rfl) ?_
  refine SW_iload h rfl (dt t_E_outOfTwo 17 rfl) ?_
  obtain ⟨v6, s6, e6, hf⟩ := b1M_of hf
  refine cV h [.int (i32 v2), .int (i32 v4)] [.int (i32 ((x1 + x2) + v5))] v_X4_between kX7_72 o2 (c_J_between v2 h2 v4 h4 e6) rfl rfl (by decide) (by decide) rfl (Nat.le_of_ble_eq_true rfl) (dt t_E_outOfTwo 18 rfl) (fun h6 => ?_)
  refine SW_ok (fun ok6 => ?_)
  refine SW_iadd h (dt t_E_outOfTwo 19 rfl) ?_
  refine SW_aload_n h rfl (dt t_E_outOfTwo 20 rfl) ?_
  refine gR h cf7 o114 f7_1 j114_1 lX7_41 (dt t_E_outOfTwo 21 rfl) ?_
  refine SW_iload h rfl (dt t_E_outOfTwo 22 rfl) ?_
  obtain ⟨v7, s7, e7, hf⟩ := b1M_of hf
  refine cV h [.int (i32 v4)] [.int (i32 (((x1 + x2) + v5) + v6))] v_X4_within kX7_56 o2 (c_J_within v4 h4 e7) rfl rfl (by decide) (by decide) rfl (Nat.le_of_ble_eq_true rfl) (dt t_E_outOfTwo 23 rfl) (fun h7 => ?_)
  refine SW_ok (fun ok7 => ?_)
  refine SW_iadd h (dt t_E_outOfTwo 24 rfl) ?_
  refine SW_chk hf (fun h8 hf => ?_)
  exact SW_iret h (hret _ hf) (fun _ => h8) rfl (dt t_E_outOfTwo 25 rfl)
def b_E_leastGrouping : List (Nat × Instr × Nat) := [(0, .aload_n 0, 1), (1, .getfield 41, 3), (4, .invokevirtual 42, 3), (7, .iconst 0, 1), (8, .istore_n 2, 1), (9, .iload_n 2, 1), (10, .iload_n 1, 1), (11, .iload_n 1, 1), (12, .imul, 1), (13, .if_icmp .ge 25, 3), (16, .aload_n 0, 1), (17, .getfield 15, 3), (20, .iload_n 2, 1), (21, .aload_n 0, 1), (22, .iload_n 2, 1), (23, .iload_n 1, 1), (24, .idiv, 1), (25, .iload_n 2, 1), (26, .iload_n 1, 1), (27, .irem, 1), (28, .invokevirtual 87, 3), (31, .iastore, 1), (32, .iinc 2 1, 3), (35, .goto (-26), 3), (38, .iconst 0, 1), (39, .istore_n 2, 1), (40, .iload_n 2, 1), (41, .iload_n 1, 1), (42, .if_icmp .ge 86, 3), (45, .iconst 0, 1), (46, .istore_n 3, 1), (47, .iload_n 3, 1), (48, .iload_n 1, 1), (49, .if_icmp .ge 73, 3), (52, .iconst 0, 1), (53, .istore 4, 2), (55, .iload 4, 2), (57, .iload_n 1, 1), (58, .if_icmp .ge 58, 3), (61, .aload_n 0, 1), (62, .aload_n 0, 1), (63, .getfield 15, 3), (66, .iload_n 2, 1), (67, .iload_n 1, 1), (68, .imul, 1), (69, .iload_n 3, 1), (70, .iadd, 1), (71, .iaload, 1), (72, .iload 4, 2), (74, .invokevirtual 87, 3), (77, .aload_n 0, 1), (78, .iload_n 2, 1), (79, .aload_n 0, 1), (80, .getfield 15, 3), (83, .iload_n 3, 1), (84, .iload_n 1, 1), (85, .imul, 1), (86, .iload 4, 2), (88, .iadd, 1), (89, .iaload, 1), (90, .invokevirtual 87, 3), (93, .if_icmp .eq 17, 3), (96, .sipush 10000, 3), (99, .iload_n 2, 1), (100, .imul, 1), (101, .bipush 100, 2), (103, .iload_n 3, 1), (104, .imul, 1), (105, .iadd, 1), (106, .iload 4, 2), (108, .iadd, 1), (109, .ireturn, 1), (110, .iinc 4 1, 3), (113, .goto (-58), 3), (116, .iinc 3 1, 3), (119, .goto (-72), 3), (122, .iinc 2 1, 3), (125, .goto (-85), 3), (128, .iconst (-1), 1), (129, .ireturn, 1)]
theorem t_E_leastGrouping : DT cX7_leastGrouping b_E_leastGrouping := DT.of (by decide +kernel)
def L_E_leastGrouping_9 : Nat → Int → Int → Mm → Option (Mm)
  | 0, _, _, _ => none
  | n + 1, x1, x2, σ =>
    if r32 (x1 * x1) then
      if x1 * x1 ≤ x2 then
        some σ
      else
        if ¬ x1 = 0 then
          if ¬ x1 = 0 then
            if r32 (x2.tdiv x1) then
              if r32 (x2.tmod x1) then
                b1M (F_E_outOfTwo (x2.tdiv x1) (x2.tmod x1) σ) fun v5 s5 =>
                if 0 ≤ x2 ∧ x2 < 144 then
                  bindM (st2 s5 116 x2.toNat v5) fun s8 =>
                  if r32 (x2 + 1) then
                    L_E_leastGrouping_9 n x1 (x2 + 1) s8
                  else none
                else none
              else none
            else none
          else none
        else none
    else none
set_option maxRecDepth 100000 in
set_option maxHeartbeats 4000000 in
theorem l_E_leastGrouping_9 {X : Cx} (h : CX X 0 cX7_leastGrouping 5 8 (some .int) RX7) (x1 : Int) (hx1 : r32 x1) {res : Mm} (hex : ∀  (σ : Mm) (hz : some σ = some res)  (ok : okM σ), SW X 0 5 38 [some (.ref (xad X 114)), some (.int (i32 x1)), none, none, none] [] σ) : ∀ (n : Nat) (x2 : Int) (σ : Mm) (hx2 : r32 x2) (ok : okM σ) (hf : L_E_leastGrouping_9 n x1 x2 σ = some res), SW X 0 5 9 [some (.ref (xad X 114)), some (.int (i32 x1)), some (.int (i32 x2)), none, none] [] σ := by
  intro n
  induction n with
  | zero => intro x2 σ hx2 ok hf; exact absurd hf (by simp [L_E_leastGrouping_9])
  | succ n ih =>
    intro x2 σ hx2 ok hf
    rw [L_E_leastGrouping_9] at hf
    refine SW_iload_n h rfl (dt t_E_leastGrouping 5 rfl) ?_
    refine SW_iload_n h rfl (dt t_E_leastGrouping 6 rfl) ?_
    refine SW_iload_n h rfl (dt t_E_leastGrouping 7 rfl) ?_
    refine SW_imul h (dt t_E_leastGrouping 8 rfl) ?_
    refine SW_chk hf (fun h2 hf => ?_)
    refine SW_icmp_ge (tgt := 38) h (fun _ => hx2) (fun _ => h2) (dt t_E_leastGrouping 9 rfl) rfl hf (fun hf => ?_) (fun hf => ?_)
    · exact SW_fgt [true, true, false, false, false] rfl (hex σ hf ok)
    · refine SW_aload_n h rfl (dt t_E_leastGrouping 10 rfl) ?_
      refine gR h cf7 o114 f7_3 j114_3 lX7_15 (dt t_E_leastGrouping 11 rfl) ?_
      refine SW_iload_n h rfl (dt t_E_leastGrouping 12 rfl) ?_
      refine SW_aload_n h rfl (dt t_E_leastGrouping 13 rfl) ?_
      refine SW_iload_n h rfl (dt t_E_leastGrouping 14 rfl) ?_
      refine SW_iload_n h rfl (dt t_E_leastGrouping 15 rfl) ?_
      refine SW_chk hf (fun h3 hf => ?_)
      refine SW_idiv h (fun _ => hx2) (fun _ => hx1) h3 (dt t_E_leastGrouping 16 rfl) ?_
      refine SW_iload_n h rfl (dt t_E_leastGrouping 17 rfl) ?_
      refine SW_iload_n h rfl (dt t_E_leastGrouping 18 rfl) ?_
      refine SW_chk hf (fun h4 hf => ?_)
      refine SW_irem h (fun _ => hx2) (fun _ => hx1) h4 (dt t_E_leastGrouping 19 rfl) ?_
      refine SW_chk hf (fun h6 hf => ?_)
      refine SW_chk hf (fun h7 hf => ?_)
      obtain ⟨v5, s5, e5, hf⟩ := b1M_of hf
      refine cV h [.int (i32 (x2.tdiv x1)), .int (i32 (x2.tmod x1))] [.int (i32 x2), .ref (xad X 116)] v_X7_outOfTwo kX7_87 o114 (c_E_outOfTwo (x2.tdiv x1) h6 (x2.tmod x1) h7 e5) rfl rfl (by decide) (by decide) rfl (Nat.le_of_ble_eq_true rfl) (dt t_E_leastGrouping 20 rfl) (fun h5 => ?_)
      refine SW_ok (fun ok5 => ?_)
      refine sI h a116 h5 (dt t_E_leastGrouping 21 rfl) hf (fun hf => SW_bm hf (fun s8 ok8 hf => ?_))
      refine SW_iinc (lv2 := [some (.ref (xad X 114)), some (.int (i32 x1)), some (.int (i32 (x2 + 1))), none, none]) h (dt t_E_leastGrouping 22 rfl) rfl (by decide) rfl ?_
      refine SW_goto (tgt := 9) h (dt t_E_leastGrouping 23 rfl) rfl ?_
      refine SW_chk hf (fun h9 hf => ?_)
      exact SW_fgt [true, true, true, false, false] rfl (ih (x2 + 1) s8 h9 ok8 hf)
def L_E_leastGrouping_55 : Nat → Int → Int → Int → Int → Mm → Option ((Int × Mm) ⊕ (Mm))
  | 0, _, _, _, _, _ => none
  | n + 1, x1, x2, x3, x4, σ =>
    if x1 ≤ x4 then
      some (.inr σ)
    else
      if 0 ≤ (x2 * x1) + x3 ∧ (x2 * x1) + x3 < 144 then
        b1M (F_E_outOfTwo (σ 116 (((x2 * x1) + x3).toNat)) x4 σ) fun v11 s11 =>
        if 0 ≤ (x3 * x1) + x4 ∧ (x3 * x1) + x4 < 144 then
          b1M (F_E_outOfTwo x2 (s11 116 (((x3 * x1) + x4).toNat)) s11) fun v12 s12 =>
          if v11 = v12 then
            if r32 (x4 + 1) then
              L_E_leastGrouping_55 n x1 x2 x3 (x4 + 1) s12
            else none
          else
            if r32 (((10000 * x2) + (100 * x3)) + x4) then
              some (.inl (((10000 * x2) + (100 * x3)) + x4, s12))
            else none
        else none
      else none
set_option maxRecDepth 100000 in
set_option maxHeartbeats 4000000 in
theorem l_E_leastGrouping_55 {X : Cx} (h : CX X 0 cX7_leastGrouping 5 8 (some .int) RX7) (x1 : Int) (x2 : Int) (x3 : Int) (hx1 : r32 x1) (hx2 : r32 x2) (hx3 : r32 x3) {res : (Int × Mm) ⊕ (Mm)} (hret : ∀ y : Int × Mm, some (.inl y) = some res → RX X 0 (r32 (y.1)) (some (.int (i32 (y.1)))) y.2) (hex : ∀  (σ : Mm) (hz : some (.inr σ) = some res)  (ok : okM σ), SW X 0 5 116 [some (.ref (xad X 114)), some (.int (i32 x1)), some (.int (i32 x2)), some (.int (i32 x3)), none] [] σ) : ∀ (n : Nat) (x4 : Int) (σ : Mm) (hx4 : r32 x4) (ok : okM σ) (hf : L_E_leastGrouping_55 n x1 x2 x3 x4 σ = some res), SW X 0 5 55 [some (.ref (xad X 114)), some (.int (i32 x1)), some (.int (i32 x2)), some (.int (i32 x3)), some (.int (i32 x4))] [] σ := by
  intro n
  induction n with
  | zero => intro x4 σ hx4 ok hf; exact absurd hf (by simp [L_E_leastGrouping_55])
  | succ n ih =>
    intro x4 σ hx4 ok hf
    rw [L_E_leastGrouping_55] at hf
    refine SW_iload h rfl (dt t_E_leastGrouping 36 rfl) ?_
    refine SW_iload_n h rfl (dt t_E_leastGrouping 37 rfl) ?_
    refine SW_icmp_ge (tgt := 116) h (fun _ => hx4) (fun _ => hx1) (dt t_E_leastGrouping 38 rfl) rfl hf (fun hf => ?_) (fun hf => ?_)
    · exact SW_fgt [true, true, true, true, false] rfl (hex σ hf ok)
    · refine SW_aload_n h rfl (dt t_E_leastGrouping 39 rfl) ?_
      refine SW_aload_n h rfl (dt t_E_leastGrouping 40 rfl) ?_
      refine gR h cf7 o114 f7_3 j114_3 lX7_15 (dt t_E_leastGrouping 41 rfl) ?_
      refine SW_iload_n h rfl (dt t_E_leastGrouping 42 rfl) ?_
      refine SW_iload_n h rfl (dt t_E_leastGrouping 43 rfl) ?_
      refine SW_imul h (dt t_E_leastGrouping 44 rfl) ?_
      refine SW_iload_n h rfl (dt t_E_leastGrouping 45 rfl) ?_
      refine SW_iadd h (dt t_E_leastGrouping 46 rfl) ?_
      refine aI h a116 (dt t_E_leastGrouping 47 rfl) hf (fun hf => ?_)
      refine SW_iload h rfl (dt t_E_leastGrouping 48 rfl) ?_
      obtain ⟨v11, s11, e11, hf⟩ := b1M_of hf
      refine cV h [.int (i32 (σ 116 (((x2 * x1) + x3).toNat))), .int (i32 x4)] [] v_X7_outOfTwo kX7_87 o114 (c_E_outOfTwo (σ 116 (((x2 * x1) + x3).toNat)) (okI ok 116 (((x2 * x1) + x3).toNat) (IsA.n3 a116 (by decide))) x4 hx4 e11) rfl rfl (by decide) (by decide) rfl (Nat.le_of_ble_eq_true rfl) (dt t_E_leastGrouping 49 rfl) (fun h11 => ?_)
      refine SW_ok (fun ok11 => ?_)
      refine SW_aload_n h rfl (dt t_E_leastGrouping 50 rfl) ?_
      refine SW_iload_n h rfl (dt t_E_leastGrouping 51 rfl) ?_
      refine SW_aload_n h rfl (dt t_E_leastGrouping 52 rfl) ?_
      refine gR h cf7 o114 f7_3 j114_3 lX7_15 (dt t_E_leastGrouping 53 rfl) ?_
      refine SW_iload_n h rfl (dt t_E_leastGrouping 54 rfl) ?_
      refine SW_iload_n h rfl (dt t_E_leastGrouping 55 rfl) ?_
      refine SW_imul h (dt t_E_leastGrouping 56 rfl) ?_
      refine SW_iload h rfl (dt t_E_leastGrouping 57 rfl) ?_
      refine SW_iadd h (dt t_E_leastGrouping 58 rfl) ?_
      refine aI h a116 (dt t_E_leastGrouping 59 rfl) hf (fun hf => ?_)
      obtain ⟨v12, s12, e12, hf⟩ := b1M_of hf
      refine cV h [.int (i32 x2), .int (i32 (s11 116 (((x3 * x1) + x4).toNat)))] [.int (i32 v11)] v_X7_outOfTwo kX7_87 o114 (c_E_outOfTwo x2 hx2 (s11 116 (((x3 * x1) + x4).toNat)) (okI ok11 116 (((x3 * x1) + x4).toNat) (IsA.n3 a116 (by decide))) e12) rfl rfl (by decide) (by decide) rfl (Nat.le_of_ble_eq_true rfl) (dt t_E_leastGrouping 60 rfl) (fun h12 => ?_)
      refine SW_ok (fun ok12 => ?_)
      refine SW_icmp_eq (tgt := 110) h (fun _ => h11) (fun _ => h12) (dt t_E_leastGrouping 61 rfl) rfl hf (fun hf => ?_) (fun hf => ?_)
      · refine SW_iinc (lv2 := [some (.ref (xad X 114)), some (.int (i32 x1)), some (.int (i32 x2)), some (.int (i32 x3)), some (.int (i32 (x4 + 1)))]) h (dt t_E_leastGrouping 72 rfl) rfl (by decide) rfl ?_
        refine SW_goto (tgt := 55) h (dt t_E_leastGrouping 73 rfl) rfl ?_
        refine SW_chk hf (fun h13 hf => ?_)
        exact SW_fgt [true, true, true, true, true] rfl (ih (x4 + 1) s12 h13 ok12 hf)
      · refine SW_sipush h (dt t_E_leastGrouping 62 rfl) (by decide) ?_
        refine SW_iload_n h rfl (dt t_E_leastGrouping 63 rfl) ?_
        refine SW_imul h (dt t_E_leastGrouping 64 rfl) ?_
        refine SW_bipush h (dt t_E_leastGrouping 65 rfl) (by decide) ?_
        refine SW_iload_n h rfl (dt t_E_leastGrouping 66 rfl) ?_
        refine SW_imul h (dt t_E_leastGrouping 67 rfl) ?_
        refine SW_iadd h (dt t_E_leastGrouping 68 rfl) ?_
        refine SW_iload h rfl (dt t_E_leastGrouping 69 rfl) ?_
        refine SW_iadd h (dt t_E_leastGrouping 70 rfl) ?_
        refine SW_chk hf (fun h14 hf => ?_)
        exact SW_iret h (hret _ hf) (fun _ => h14) rfl (dt t_E_leastGrouping 71 rfl)
def L_E_leastGrouping_47 : Nat → Int → Int → Int → Mm → Option ((Int × Mm) ⊕ (Mm))
  | 0, _, _, _, _ => none
  | n + 1, x1, x2, x3, σ =>
    if x1 ≤ x3 then
      some (.inr σ)
    else
      b0MS (L_E_leastGrouping_55 LF x1 x2 x3 0 σ) (fun y => some (.inl y)) fun s15 =>
      if r32 (x3 + 1) then
        L_E_leastGrouping_47 n x1 x2 (x3 + 1) s15
      else none
set_option maxRecDepth 100000 in
set_option maxHeartbeats 4000000 in
theorem l_E_leastGrouping_47 {X : Cx} (h : CX X 0 cX7_leastGrouping 5 8 (some .int) RX7) (x1 : Int) (x2 : Int) (hx1 : r32 x1) (hx2 : r32 x2) {res : (Int × Mm) ⊕ (Mm)} (hret : ∀ y : Int × Mm, some (.inl y) = some res → RX X 0 (r32 (y.1)) (some (.int (i32 (y.1)))) y.2) (hex : ∀  (σ : Mm) (hz : some (.inr σ) = some res)  (ok : okM σ), SW X 0 5 122 [some (.ref (xad X 114)), some (.int (i32 x1)), some (.int (i32 x2)), none, none] [] σ) : ∀ (n : Nat) (x3 : Int) (σ : Mm) (hx3 : r32 x3) (ok : okM σ) (hf : L_E_leastGrouping_47 n x1 x2 x3 σ = some res), SW X 0 5 47 [some (.ref (xad X 114)), some (.int (i32 x1)), some (.int (i32 x2)), some (.int (i32 x3)), none] [] σ := by
  intro n
  induction n with
  | zero => intro x3 σ hx3 ok hf; exact absurd hf (by simp [L_E_leastGrouping_47])
  | succ n ih =>
    intro x3 σ hx3 ok hf
    rw [L_E_leastGrouping_47] at hf
    refine SW_iload_n h rfl (dt t_E_leastGrouping 31 rfl) ?_
    refine SW_iload_n h rfl (dt t_E_leastGrouping 32 rfl) ?_
    refine SW_icmp_ge (tgt := 122) h (fun _ => hx3) (fun _ => hx1) (dt t_E_leastGrouping 33 rfl) rfl hf (fun hf => ?_) (fun hf => ?_)
    · exact SW_fgt [true, true, true, false, false] rfl (hex σ hf ok)
    · refine SW_iconst h (dt t_E_leastGrouping 34 rfl) ?_
      refine SW_istore (lv2 := [some (.ref (xad X 114)), some (.int (i32 x1)), some (.int (i32 x2)), some (.int (i32 x3)), some (.int (i32 0))]) h (dt t_E_leastGrouping 35 rfl) (by decide) rfl ?_
      obtain ⟨z15, e15, g15, hk15⟩ := b0MS_of hf
      refine SW_fgt [true, true, true, true, true] rfl (l_E_leastGrouping_55 h x1 x2 x3 hx1 hx2 hx3 (fun y e => hret y (g15 y (Option.some.inj e).symm)) (fun s15 hz15 ok15 => ?_) LF 0 σ (by decide) ok e15)
      have hf := hk15 s15 (Option.some.inj hz15).symm
      refine SW_iinc (lv2 := [some (.ref (xad X 114)), some (.int (i32 x1)), some (.int (i32 x2)), some (.int (i32 (x3 + 1))), none]) h (dt t_E_leastGrouping 74 rfl) rfl (by decide) rfl ?_
      refine SW_goto (tgt := 47) h (dt t_E_leastGrouping 75 rfl) rfl ?_
      refine SW_chk hf (fun h16 hf => ?_)
      exact SW_fgt [true, true, true, true, false] rfl (ih (x3 + 1) s15 h16 ok15 hf)
def L_E_leastGrouping_40 : Nat → Int → Int → Mm → Option ((Int × Mm) ⊕ (Mm))
  | 0, _, _, _ => none
  | n + 1, x1, x2, σ =>
    if x1 ≤ x2 then
      some (.inr σ)
    else
      b0MS (L_E_leastGrouping_47 LF x1 x2 0 σ) (fun y => some (.inl y)) fun s17 =>
      if r32 (x2 + 1) then
        L_E_leastGrouping_40 n x1 (x2 + 1) s17
      else none
set_option maxRecDepth 100000 in
set_option maxHeartbeats 4000000 in
theorem l_E_leastGrouping_40 {X : Cx} (h : CX X 0 cX7_leastGrouping 5 8 (some .int) RX7) (x1 : Int) (hx1 : r32 x1) {res : (Int × Mm) ⊕ (Mm)} (hret : ∀ y : Int × Mm, some (.inl y) = some res → RX X 0 (r32 (y.1)) (some (.int (i32 (y.1)))) y.2) (hex : ∀  (σ : Mm) (hz : some (.inr σ) = some res)  (ok : okM σ), SW X 0 5 128 [none, none, none, none, none] [] σ) : ∀ (n : Nat) (x2 : Int) (σ : Mm) (hx2 : r32 x2) (ok : okM σ) (hf : L_E_leastGrouping_40 n x1 x2 σ = some res), SW X 0 5 40 [some (.ref (xad X 114)), some (.int (i32 x1)), some (.int (i32 x2)), none, none] [] σ := by
  intro n
  induction n with
  | zero => intro x2 σ hx2 ok hf; exact absurd hf (by simp [L_E_leastGrouping_40])
  | succ n ih =>
    intro x2 σ hx2 ok hf
    rw [L_E_leastGrouping_40] at hf
    refine SW_iload_n h rfl (dt t_E_leastGrouping 26 rfl) ?_
    refine SW_iload_n h rfl (dt t_E_leastGrouping 27 rfl) ?_
    refine SW_icmp_ge (tgt := 128) h (fun _ => hx2) (fun _ => hx1) (dt t_E_leastGrouping 28 rfl) rfl hf (fun hf => ?_) (fun hf => ?_)
    · exact SW_fgt [false, false, false, false, false] rfl (hex σ hf ok)
    · refine SW_iconst h (dt t_E_leastGrouping 29 rfl) ?_
      refine SW_istore_n (lv2 := [some (.ref (xad X 114)), some (.int (i32 x1)), some (.int (i32 x2)), some (.int (i32 0)), none]) h (dt t_E_leastGrouping 30 rfl) (by decide) rfl ?_
      obtain ⟨z17, e17, g17, hk17⟩ := b0MS_of hf
      refine SW_fgt [true, true, true, true, false] rfl (l_E_leastGrouping_47 h x1 x2 hx1 hx2 (fun y e => hret y (g17 y (Option.some.inj e).symm)) (fun s17 hz17 ok17 => ?_) LF 0 σ (by decide) ok e17)
      have hf := hk17 s17 (Option.some.inj hz17).symm
      refine SW_iinc (lv2 := [some (.ref (xad X 114)), some (.int (i32 x1)), some (.int (i32 (x2 + 1))), none, none]) h (dt t_E_leastGrouping 76 rfl) rfl (by decide) rfl ?_
      refine SW_goto (tgt := 40) h (dt t_E_leastGrouping 77 rfl) rfl ?_
      refine SW_chk hf (fun h18 hf => ?_)
      exact SW_fgt [true, true, true, false, false] rfl (ih (x2 + 1) s17 h18 ok17 hf)
def F_E_leastGrouping (x1 : Int) (σ : Mm) : Option (Int × Mm) :=
  b0M (F_J_fresh  σ) fun s1 =>
  b0M (L_E_leastGrouping_9 LF x1 0 s1) fun s10 =>
  b0MS (L_E_leastGrouping_40 LF x1 0 s10) (fun y => some y) fun s19 =>
  some ((-1), s19)
set_option maxRecDepth 100000 in
set_option maxHeartbeats 4000000 in
theorem c_E_leastGrouping (x1 : Int) (hx1 : r32 x1) {σ : Mm} {a : Int} {σ2 : Mm} (hf : F_E_leastGrouping x1 σ = some (a, σ2)) : CT yX7_leastGrouping cX7_leastGrouping 5 (some .int) 8 0 (fun ad => [.ref (ad 114), .int (i32 x1)]) σ (r32 a) (some (.int (i32 a))) σ2 := by
  refine MetJ 3 (by decide +kernel) rfl (fun _ => Nat.le_of_ble_eq_true rfl) ?_
  intro X h hR ok
  obtain ⟨res, er⟩ : ∃ z, z = (a, σ2) := ⟨_, rfl⟩
  have hret : ∀ y : Int × Mm, some y = some res → RX X 0 (r32 (y.1)) (some (.int (i32 (y.1)))) y.2 := fun y e => by cases e; cases er; exact hR
  rw [← er] at hf
  clear er hR
  unfold F_E_leastGrouping at hf
  show SW X 0 5 0 [some (.ref (xad X 114)), some (.int (i32 x1)), none, none, none] [] σ
  refine SW_aload_n h rfl (dt t_E_leastGrouping 0 rfl) ?_
  refine gR h cf7 o114 f7_1 j114_1 lX7_41 (dt t_E_leastGrouping 1 rfl) ?_
  obtain ⟨s1, e1, hf⟩ := b0M_of hf
  refine cVv h [] [] v_X4_fresh kX7_42 o2 (c_J_fresh  e1) rfl rfl (by decide) (by decide) rfl (Nat.le_of_ble_eq_true rfl) (dt t_E_leastGrouping 2 rfl) (fun h1 => ?_)
  refine SW_ok (fun ok1 => ?_)
  refine SW_iconst h (dt t_E_leastGrouping 3 rfl) ?_
  refine SW_istore_n (lv2 := [some (.ref (xad X 114)), some (.int (i32 x1)), some (.int (i32 0)), none, none]) h (dt t_E_leastGrouping 4 rfl) (by decide) rfl ?_
  obtain ⟨z10, e10, hk10⟩ := b0M_ex hf
  refine SW_fgt [true, true, true, false, false] rfl (l_E_leastGrouping_9 h x1 hx1 (fun s10 hz10 ok10 => ?_) LF 0 s1 (by decide) ok1 e10)
  have hf := hk10 s10 hz10
  refine SW_iconst h (dt t_E_leastGrouping 24 rfl) ?_
  refine SW_istore_n (lv2 := [some (.ref (xad X 114)), some (.int (i32 x1)), some (.int (i32 0)), none, none]) h (dt t_E_leastGrouping 25 rfl) (by decide) rfl ?_
  obtain ⟨z19, e19, g19, hk19⟩ := b0MS_of hf
  refine SW_fgt [true, true, true, false, false] rfl (l_E_leastGrouping_40 h x1 hx1 (fun y e => hret y (g19 y (Option.some.inj e).symm)) (fun s19 hz19 ok19 => ?_) LF 0 s10 (by decide) ok10 e19)
  have hf := hk19 s19 (Option.some.inj hz19).symm
  refine SW_iconst h (dt t_E_leastGrouping 78 rfl) ?_
  exact SW_iret h (hret _ hf) (fun _ => (by decide)) rfl (dt t_E_leastGrouping 79 rfl)
def b_A_grouping : List (Nat × Instr × Nat) := [(0, .iload_n 1, 1), (1, .iconst 1, 1), (2, .if_icmp .lt 9, 3), (5, .iload_n 1, 1), (6, .bipush 12, 2), (8, .if_icmp .le 7, 3), (11, .iconst (-1), 1), (12, .goto 11, 3), (15, .aload_n 0, 1), (16, .getfield 42, 3), (19, .iload_n 1, 1), (20, .invokevirtual 289, 3), (23, .ireturn, 1)]
theorem t_A_grouping : DT cX10_grouping b_A_grouping := DT.of (by decide +kernel)
def F_A_grouping (x1 : Int) (σ : Mm) : Option (Int × Mm) :=
  if x1 < 1 then
    some ((-1), σ)
  else
    if x1 ≤ 12 then
      b1M (F_E_leastGrouping x1 σ) fun v1 s1 =>
      some (v1, s1)
    else
      some ((-1), σ)
set_option maxRecDepth 100000 in
set_option maxHeartbeats 4000000 in
theorem c_A_grouping (x1 : Int) (hx1 : r32 x1) {σ : Mm} {a : Int} {σ2 : Mm} (hf : F_A_grouping x1 σ = some (a, σ2)) : CT yX10_grouping cX10_grouping 2 (some .int) 9 0 (fun ad => [.ref (ad 0), .int (i32 x1)]) σ (r32 a) (some (.int (i32 a))) σ2 := by
  refine MetJ 0 (by decide +kernel) rfl (fun _ => Nat.le_of_ble_eq_true rfl) ?_
  intro X h hR ok
  obtain ⟨res, er⟩ : ∃ z, z = (a, σ2) := ⟨_, rfl⟩
  have hret : ∀ y : Int × Mm, some y = some res → RX X 0 (r32 (y.1)) (some (.int (i32 (y.1)))) y.2 := fun y e => by cases e; cases er; exact hR
  rw [← er] at hf
  clear er hR
  unfold F_A_grouping at hf
  show SW X 0 2 0 [some (.ref (xad X 0)), some (.int (i32 x1))] [] σ
  refine SW_iload_n h rfl (dt t_A_grouping 0 rfl) ?_
  refine SW_iconst h (dt t_A_grouping 1 rfl) ?_
  refine SW_icmp_lt (tgt := 11) h (fun _ => hx1) (fun _ => (by decide)) (dt t_A_grouping 2 rfl) rfl hf (fun hf => ?_) (fun hf => ?_)
  · refine SW_iconst h (dt t_A_grouping 6 rfl) ?_
    refine SW_goto (tgt := 23) h (dt t_A_grouping 7 rfl) rfl ?_
    exact SW_iret h (hret _ hf) (fun _ => (by decide)) rfl (dt t_A_grouping 12 rfl)
  · refine SW_iload_n h rfl (dt t_A_grouping 3 rfl) ?_
    refine SW_bipush h (dt t_A_grouping 4 rfl) (by decide) ?_
    refine SW_icmp_le (tgt := 15) h (fun _ => hx1) (fun _ => (by decide)) (dt t_A_grouping 5 rfl) rfl hf (fun hf => ?_) (fun hf => ?_)
    · refine SW_aload_n h rfl (dt t_A_grouping 8 rfl) ?_
      refine gR h cf10 o0 f10_4 j0_4 lX10_42 (dt t_A_grouping 9 rfl) ?_
      refine SW_iload_n h rfl (dt t_A_grouping 10 rfl) ?_
      obtain ⟨v1, s1, e1, hf⟩ := b1M_of hf
      refine cV h [.int (i32 x1)] [] v_X7_leastGrouping kX10_289 o114 (c_E_leastGrouping x1 hx1 e1) rfl rfl (by decide) (by decide) rfl (Nat.le_of_ble_eq_true rfl) (dt t_A_grouping 11 rfl) (fun h1 => ?_)
      refine SW_ok (fun ok1 => ?_)
      exact SW_iret h (hret _ hf) (fun _ => h1) rfl (dt t_A_grouping 12 rfl)
    · refine SW_iconst h (dt t_A_grouping 6 rfl) ?_
      refine SW_goto (tgt := 23) h (dt t_A_grouping 7 rfl) rfl ?_
      exact SW_iret h (hret _ hf) (fun _ => (by decide)) rfl (dt t_A_grouping 12 rfl)
