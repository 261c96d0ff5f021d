def b_M_clause : List (Nat × Instr × Nat) := [(0, .aload_n 0, 1), (1, .getfield 234, 3), (4, .iconst 1, 1), (5, .if_icmp .ne 12, 3), (8, .aload_n 0, 1), (9, .getfield 247, 3), (12, .bipush 7, 2), (14, .if_icmp .le 9, 3), (17, .aload_n 0, 1), (18, .iconst 1, 1), (19, .invokevirtual 266, 3), (22, .return_, 1), (23, .aload_n 0, 1), (24, .aload_n 0, 1), (25, .getfield 247, 3), (28, .putfield 307, 3), (31, .aload_n 0, 1), (32, .getfield 307, 3), (35, .iconst 2, 1), (36, .if_icmp .gt 22, 3), (39, .aload_n 0, 1), (40, .aload_n 0, 1), (41, .getfield 307, 3), (44, .invokevirtual 343, 3), (47, .ifCond .eq 11, 3), (50, .aload_n 0, 1), (51, .iconst 4, 1), (52, .invokevirtual 266, 3), (55, .goto 18, 3), (58, .aload_n 0, 1), (59, .getfield 332, 3), (62, .bipush 24, 2), (64, .if_icmp .ne 9, 3), (67, .aload_n 0, 1), (68, .bipush 6, 2), (70, .invokevirtual 266, 3), (73, .aload_n 0, 1), (74, .getfield 251, 3), (77, .ifCond .le 4, 3), (80, .return_, 1), (81, .aload_n 0, 1), (82, .getfield 63, 3), (85, .aload_n 0, 1), (86, .getfield 332, 3), (89, .aload_n 0, 1), (90, .getfield 307, 3), (93, .iastore, 1), (94, .aload_n 0, 1), (95, .getfield 66, 3), (98, .aload_n 0, 1), (99, .getfield 332, 3), (102, .aload_n 0, 1), (103, .getfield 257, 3), (106, .iastore, 1), (107, .aload_n 0, 1), (108, .invokevirtual 272, 3), (111, .aload_n 0, 1), (112, .getfield 307, 3), (115, .iconst 2, 1), (116, .if_icmp .gt 36, 3), (119, .aload_n 0, 1), (120, .aload_n 0, 1), (121, .getfield 307, 3), (124, .ifCond .ne 7, 3), (127, .iconst 2, 1), (128, .goto 4, 3), (131, .iconst 1, 1), (132, .invokevirtual 269, 3), (135, .aload_n 0, 1), (136, .aload_n 0, 1), (137, .getfield 307, 3), (140, .ifCond .ne 7, 3), (143, .iconst 0, 1), (144, .goto 4, 3), (147, .iconst 1, 1), (148, .putfield 295, 3), (151, .return_, 1), (152, .aload_n 0, 1), (153, .getfield 307, 3), (156, .iconst 3, 1), (157, .if_icmp .ne 10, 3), (160, .aload_n 0, 1), (161, .invokevirtual 346, 3), (164, .goto 7, 3), (167, .aload_n 0, 1), (168, .invokevirtual 349, 3), (171, .aload_n 0, 1), (172, .getfield 251, 3), (175, .ifCond .ne 17, 3), (178, .aload_n 0, 1), (179, .bipush 59, 2), (181, .invokevirtual 298, 3), (184, .ifCond .ne 8, 3), (187, .aload_n 0, 1), (188, .iconst 1, 1), (189, .invokevirtual 266, 3), (192, .aload_n 0, 1), (193, .getfield 251, 3), (196, .ifCond .ne 7, 3), (199, .aload_n 0, 1), (200, .invokevirtual 329, 3), (203, .return_, 1)]
theorem t_M_clause : DT cX11_clause b_M_clause := DT.of (by decide +kernel)
def F_M_clause  (σ : Mm) : Option (Mm) :=
  bindM (
    b0M (F_M_errs 1 σ) fun s2 =>
    some s2) fun J1 =>
  if σ 200 17 = 1 then
    if σ 200 18 ≤ 7 then
      bindM (st2 σ 200 30 (σ 200 18)) fun s4 =>
      bindM (fun  (t5 : Mm) =>
        if t5 200 19 ≤ 0 then
          if 0 ≤ t5 200 29 ∧ t5 200 29 < 24 then
            bindM (st2 t5 216 ((t5 200 29).toNat) (t5 200 30)) fun s6 =>
            if 0 ≤ s6 200 29 ∧ s6 200 29 < 24 then
              bindM (st2 s6 217 ((s6 200 29).toNat) (s6 200 36)) fun s7 =>
              b0M (F_M_next  s7) fun s8 =>
              if 2 < s8 200 30 then
                bindM (fun  (t9 : Mm) =>
                  bindM (fun  (t10 : Mm) =>
                    if t10 200 19 = 0 then
                      b0M (F_M_clauseIsOver  t10) fun s11 =>
                      some s11
                    else
                      some t10) fun J10 =>
                  if t9 200 19 = 0 then
                    b1 (F_M_isSign 59 t9) fun v12 =>
                    if v12 = 0 then
                      b0M (F_M_errs 1 t9) fun s13 =>
                      J10 s13
                    else
                      J10 t9
                  else
                    J10 t9) fun J9 =>
                if s8 200 30 = 3 then
                  b0M (F_M_rowTold  s8) fun s14 =>
                  J9 s14
                else
                  b0M (F_M_doing  s8) fun s15 =>
                  J9 s15
              else
                bindM ((if s8 200 30 = 0 then 2 else 1 : Int)) fun v16 =>
                b0M (F_M_opensFrame v16 s8) fun s17 =>
                bindM ((if s17 200 30 = 0 then 0 else 1 : Int)) fun v18 =>
                bindM (st2 s17 200 28 v18) fun s20 =>
                some s20
            else none
          else none
        else
          some t5) fun J5 =>
      bindM (
        if s4 200 29 = 24 then
          b0M (F_M_errs 6 s4) fun s22 =>
          J5 s22
        else
          J5 s4) fun J21 =>
      if 2 < s4 200 30 then
        J21
      else
        b1 (F_M_wasTold (s4 200 30) s4) fun v23 =>
        if v23 = 0 then
          J21
        else
          b0M (F_M_errs 4 s4) fun s24 =>
          J5 s24
    else
      J1
  else
    J1
set_option maxRecDepth 100000 in
set_option maxHeartbeats 4000000 in
theorem c_M_clause  {σ : Mm} {σ2 : Mm} (hf : F_M_clause  σ = some σ2) : CT yX11_clause cX11_clause 1 none 6 1 (fun ad => [.ref (ad 200)]) σ True none σ2 := by
  refine MetJ 0 (by decide +kernel) rfl (fun _ => Nat.le_of_ble_eq_true rfl) ?_
  intro X h hR ok
  obtain ⟨res, er⟩ : ∃ z, z = σ2 := ⟨_, rfl⟩
  have hret : ∀ y : Mm, some y = some res → RX X 1 True none y := fun y e => by cases e; cases er; exact hR
  rw [← er] at hf
  clear er hR
  unfold F_M_clause at hf
  show SW X 1 1 0 [some (.ref (xad X 200))] [] σ
  refine SW_aload_n h rfl (dt t_M_clause 0 rfl) ?_
  refine gI h cf11 o200 f11_17 lX11_234 (dt t_M_clause 1 rfl) ?_
  refine SW_iconst h (dt t_M_clause 2 rfl) ?_
  refine bJ hf (fun J1 e1 hf => ?_)
  have k1 : ∀ (hf : J1 = some res), SW X 1 1 17 [some (.ref (xad X 200))] [] σ := by
    intro hf
    rw [e1] at hf
    refine SW_aload_n h rfl (dt t_M_clause 8 rfl) ?_
    refine SW_iconst h (dt t_M_clause 9 rfl) ?_
    obtain ⟨s2, e2, hf⟩ := b0M_of hf
    refine cVv h [.int (i32 1)] [] v_X11_errs kX11_266 o200 (c_M_errs 1 (by decide) e2) rfl rfl (by decide) (by decide) rfl (Nat.le_of_ble_eq_true rfl) (dt t_M_clause 10 rfl) (fun h2 => ?_)
    refine SW_ok (fun ok2 => ?_)
    exact SW_vret h (hret _ hf) rfl (dt t_M_clause 11 rfl)
  refine SW_icmp_ne (tgt := 17) h (fun _ => (okI ok 200 17 (IsO.n3 o200))) (fun _ => (by decide)) (dt t_M_clause 3 rfl) rfl hf (fun hf => ?_) (fun hf => ?_)
  · refine SW_aload_n h rfl (dt t_M_clause 4 rfl) ?_
    refine gI h cf11 o200 f11_18 lX11_247 (dt t_M_clause 5 rfl) ?_
    refine SW_bipush h (dt t_M_clause 6 rfl) (by decide) ?_
    refine SW_icmp_le (tgt := 23) h (fun _ => (okI ok 200 18 (IsO.n3 o200))) (fun _ => (by decide)) (dt t_M_clause 7 rfl) rfl hf (fun hf => ?_) (fun hf => ?_)
    · refine SW_aload_n h rfl (dt t_M_clause 12 rfl) ?_
      refine SW_aload_n h rfl (dt t_M_clause 13 rfl) ?_
      refine gI h cf11 o200 f11_18 lX11_247 (dt t_M_clause 14 rfl) ?_
      refine pI h cf11 o200 f11_30 (okI ok 200 18 (IsO.n3 o200)) lX11_307 (dt t_M_clause 15 rfl) (SW_bm hf (fun s4 ok4 hf => ?_))
      refine SW_aload_n h rfl (dt t_M_clause 16 rfl) ?_
      refine gI h cf11 o200 f11_30 lX11_307 (dt t_M_clause 17 rfl) ?_
      refine SW_iconst h (dt t_M_clause 18 rfl) ?_
      refine bJ hf (fun J5 e5 hf => ?_)
      have k5 : ∀  (t5 : Mm)  (ot5 : okM t5) (hf : J5 t5 = some res), SW X 1 1 73 [some (.ref (xad X 200))] [] t5 := by
        intro t5 ot5 hf
        rw [e5] at hf
        refine SW_aload_n h rfl (dt t_M_clause 36 rfl) ?_
        refine gI h cf11 o200 f11_19 lX11_251 (dt t_M_clause 37 rfl) ?_
        refine SW_if_le (tgt := 81) h (fun _ => (okI ot5 200 19 (IsO.n3 o200))) (dt t_M_clause 38 rfl) rfl hf (fun hf => ?_) (fun hf => ?_)
        · refine SW_aload_n h rfl (dt t_M_clause 40 rfl) ?_
          refine gR h cf11 o200 f11_31 j200_31 lX11_63 (dt t_M_clause 41 rfl) ?_
          refine SW_aload_n h rfl (dt t_M_clause 42 rfl) ?_
          refine gI h cf11 o200 f11_29 lX11_332 (dt t_M_clause 43 rfl) ?_
          refine SW_aload_n h rfl (dt t_M_clause 44 rfl) ?_
          refine gI h cf11 o200 f11_30 lX11_307 (dt t_M_clause 45 rfl) ?_
          refine sI h a216 (okI ot5 200 30 (IsO.n3 o200)) (dt t_M_clause 46 rfl) hf (fun hf => SW_bm hf (fun s6 ok6 hf => ?_))
          refine SW_aload_n h rfl (dt t_M_clause 47 rfl) ?_
          refine gR h cf11 o200 f11_32 j200_32 lX11_66 (dt t_M_clause 48 rfl) ?_
          refine SW_aload_n h rfl (dt t_M_clause 49 rfl) ?_
          refine gI h cf11 o200 f11_29 lX11_332 (dt t_M_clause 50 rfl) ?_
          refine SW_aload_n h rfl (dt t_M_clause 51 rfl) ?_
          refine gI h cf11 o200 f11_36 lX11_257 (dt t_M_clause 52 rfl) ?_
          refine sI h a217 (okI ok6 200 36 (IsO.n3 o200)) (dt t_M_clause 53 rfl) hf (fun hf => SW_bm hf (fun s7 ok7 hf => ?_))
          refine SW_aload_n h rfl (dt t_M_clause 54 rfl) ?_
          obtain ⟨s8, e8, hf⟩ := b0M_of hf
          refine cVv h [] [] v_X11_next kX11_272 o200 (c_M_next  e8) rfl rfl (by decide) (by decide) rfl (Nat.le_of_ble_eq_true rfl) (dt t_M_clause 55 rfl) (fun h8 => ?_)
          refine SW_ok (fun ok8 => ?_)
          refine SW_aload_n h rfl (dt t_M_clause 56 rfl) ?_
          refine gI h cf11 o200 f11_30 lX11_307 (dt t_M_clause 57 rfl) ?_
          refine SW_iconst h (dt t_M_clause 58 rfl) ?_
          refine SW_icmp_gt (tgt := 152) h (fun _ => (okI ok8 200 30 (IsO.n3 o200))) (fun _ => (by decide)) (dt t_M_clause 59 rfl) rfl hf (fun hf => ?_) (fun hf => ?_)
          · refine SW_aload_n h rfl (dt t_M_clause 77 rfl) ?_
            refine gI h cf11 o200 f11_30 lX11_307 (dt t_M_clause 78 rfl) ?_
            refine SW_iconst h (dt t_M_clause 79 rfl) ?_
            refine bJ hf (fun J9 e9 hf => ?_)
            have k9 : ∀  (t9 : Mm)  (ot9 : okM t9) (hf : J9 t9 = some res), SW X 1 1 171 [some (.ref (xad X 200))] [] t9 := by
              intro t9 ot9 hf
              rw [e9] at hf
              refine SW_aload_n h rfl (dt t_M_clause 86 rfl) ?_
              refine gI h cf11 o200 f11_19 lX11_251 (dt t_M_clause 87 rfl) ?_
              refine bJ hf (fun J10 e10 hf => ?_)
              have k10 : ∀  (t10 : Mm)  (ot10 : okM t10) (hf : J10 t10 = some res), SW X 1 1 192 [some (.ref (xad X 200))] [] t10 := by
                intro t10 ot10 hf
                rw [e10] at hf
                refine SW_aload_n h rfl (dt t_M_clause 96 rfl) ?_
                refine gI h cf11 o200 f11_19 lX11_251 (dt t_M_clause 97 rfl) ?_
                refine SW_if_ne (tgt := 203) h (fun _ => (okI ot10 200 19 (IsO.n3 o200))) (dt t_M_clause 98 rfl) rfl hf (fun hf => ?_) (fun hf => ?_)
                · refine SW_aload_n h rfl (dt t_M_clause 99 rfl) ?_
                  obtain ⟨s11, e11, hf⟩ := b0M_of hf
                  refine cVv h [] [] v_X11_clauseIsOver kX11_329 o200 (c_M_clauseIsOver  e11) rfl rfl (by decide) (by decide) rfl (Nat.le_of_ble_eq_true rfl) (dt t_M_clause 100 rfl) (fun h11 => ?_)
                  refine SW_ok (fun ok11 => ?_)
                  exact SW_vret h (hret _ hf) rfl (dt t_M_clause 101 rfl)
                · exact SW_vret h (hret _ hf) rfl (dt t_M_clause 101 rfl)
              refine SW_if_ne (tgt := 192) h (fun _ => (okI ot9 200 19 (IsO.n3 o200))) (dt t_M_clause 88 rfl) rfl hf (fun hf => ?_) (fun hf => ?_)
              · refine SW_aload_n h rfl (dt t_M_clause 89 rfl) ?_
                refine SW_bipush h (dt t_M_clause 90 rfl) (by decide) ?_
                obtain ⟨v12, e12, hf⟩ := b1_of hf
                refine cV h [.int (i32 59)] [] v_X11_isSign kX11_298 o200 (c_M_isSign 59 (by decide) e12) rfl rfl (by decide) (by decide) rfl (Nat.le_of_ble_eq_true rfl) (dt t_M_clause 91 rfl) (fun h12 => ?_)
                refine SW_if_ne (tgt := 192) h (fun _ => (r_zo h12)) (dt t_M_clause 92 rfl) rfl hf (fun hf => ?_) (fun hf => ?_)
                · refine SW_aload_n h rfl (dt t_M_clause 93 rfl) ?_
                  refine SW_iconst h (dt t_M_clause 94 rfl) ?_
                  obtain ⟨s13, e13, hf⟩ := b0M_of hf
                  refine cVv h [.int (i32 1)] [] v_X11_errs kX11_266 o200 (c_M_errs 1 (by decide) e13) rfl rfl (by decide) (by decide) rfl (Nat.le_of_ble_eq_true rfl) (dt t_M_clause 95 rfl) (fun h13 => ?_)
                  refine SW_ok (fun ok13 => ?_)
                  exact SW_fgt [true] rfl (k10 s13 ok13 hf)
                · exact SW_fgt [true] rfl (k10 t9 ot9 hf)
              · exact SW_fgt [true] rfl (k10 t9 ot9 hf)
            refine SW_icmp_ne (tgt := 167) h (fun _ => (okI ok8 200 30 (IsO.n3 o200))) (fun _ => (by decide)) (dt t_M_clause 80 rfl) rfl hf (fun hf => ?_) (fun hf => ?_)
            · refine SW_aload_n h rfl (dt t_M_clause 81 rfl) ?_
              obtain ⟨s14, e14, hf⟩ := b0M_of hf
              refine cVv h [] [] v_X11_rowTold kX11_346 o200 (c_M_rowTold  e14) rfl rfl (by decide) (by decide) rfl (Nat.le_of_ble_eq_true rfl) (dt t_M_clause 82 rfl) (fun h14 => ?_)
              refine SW_ok (fun ok14 => ?_)
              refine SW_goto (tgt := 171) h (dt t_M_clause 83 rfl) rfl ?_
              exact SW_fgt [true] rfl (k9 s14 ok14 hf)
            · refine SW_aload_n h rfl (dt t_M_clause 84 rfl) ?_
              obtain ⟨s15, e15, hf⟩ := b0M_of hf
              refine cVv h [] [] v_X11_doing kX11_349 o200 (c_M_doing  e15) rfl rfl (by decide) (by decide) rfl (Nat.le_of_ble_eq_true rfl) (dt t_M_clause 85 rfl) (fun h15 => ?_)
              refine SW_ok (fun ok15 => ?_)
              exact SW_fgt [true] rfl (k9 s15 ok15 hf)
          · refine SW_aload_n h rfl (dt t_M_clause 60 rfl) ?_
            refine SW_aload_n h rfl (dt t_M_clause 61 rfl) ?_
            refine gI h cf11 o200 f11_30 lX11_307 (dt t_M_clause 62 rfl) ?_
            refine bT hf (fun g16 e16 hf => ?_)
            have k16 : ∀ (v16 : Int) (h16 : r32 v16) (hf : g16 v16 = some res), SW X 1 1 132 [some (.ref (xad X 200))] [.int (i32 v16), .ref (xad X 200)] s8 := by
              intro v16 h16 hf
              rw [e16] at hf
              obtain ⟨s17, e17, hf⟩ := b0M_of hf
              refine cVv h [.int (i32 v16)] [] v_X11_opensFrame kX11_269 o200 (c_M_opensFrame v16 h16 e17) rfl rfl (by decide) (by decide) rfl (Nat.le_of_ble_eq_true rfl) (dt t_M_clause 67 rfl) (fun h17 => ?_)
              refine SW_ok (fun ok17 => ?_)
              refine SW_aload_n h rfl (dt t_M_clause 68 rfl) ?_
              refine SW_aload_n h rfl (dt t_M_clause 69 rfl) ?_
              refine gI h cf11 o200 f11_30 lX11_307 (dt t_M_clause 70 rfl) ?_
              refine bT hf (fun g18 e18 hf => ?_)
              have k18 : ∀ (v18 : Int) (h18 : r32 v18) (hf : g18 v18 = some res), SW X 1 1 148 [some (.ref (xad X 200))] [.int (i32 v18), .ref (xad X 200)] s17 := by
                intro v18 h18 hf
                rw [e18] at hf
                refine pI h cf11 o200 f11_28 h18 lX11_295 (dt t_M_clause 75 rfl) (SW_bm hf (fun s20 ok20 hf => ?_))
                exact SW_vret h (hret _ hf) rfl (dt t_M_clause 76 rfl)
              have hf := bIte hf
              refine SW_if_ne (tgt := 147) h (fun _ => (okI ok17 200 30 (IsO.n3 o200))) (dt t_M_clause 71 rfl) rfl hf (fun hf => ?_) (fun hf => ?_)
              · refine SW_iconst h (dt t_M_clause 72 rfl) ?_
                refine SW_goto (tgt := 148) h (dt t_M_clause 73 rfl) rfl ?_
                exact k18 0 (by decide) hf
              · refine SW_iconst h (dt t_M_clause 74 rfl) ?_
                exact k18 1 (by decide) hf
            have hf := bIte hf
            refine SW_if_ne (tgt := 131) h (fun _ => (okI ok8 200 30 (IsO.n3 o200))) (dt t_M_clause 63 rfl) rfl hf (fun hf => ?_) (fun hf => ?_)
            · refine SW_iconst h (dt t_M_clause 64 rfl) ?_
              refine SW_goto (tgt := 132) h (dt t_M_clause 65 rfl) rfl ?_
              exact k16 2 (by decide) hf
            · refine SW_iconst h (dt t_M_clause 66 rfl) ?_
              exact k16 1 (by decide) hf
        · exact SW_vret h (hret _ hf) rfl (dt t_M_clause 39 rfl)
      refine bJ hf (fun J21 e21 hf => ?_)
      have k21 : ∀ (hf : J21 = some res), SW X 1 1 58 [some (.ref (xad X 200))] [] s4 := by
        intro hf
        rw [e21] at hf
        refine SW_aload_n h rfl (dt t_M_clause 29 rfl) ?_
        refine gI h cf11 o200 f11_29 lX11_332 (dt t_M_clause 30 rfl) ?_
        refine SW_bipush h (dt t_M_clause 31 rfl) (by decide) ?_
        refine SW_icmp_ne (tgt := 73) h (fun _ => (okI ok4 200 29 (IsO.n3 o200))) (fun _ => (by decide)) (dt t_M_clause 32 rfl) rfl hf (fun hf => ?_) (fun hf => ?_)
        · refine SW_aload_n h rfl (dt t_M_clause 33 rfl) ?_
          refine SW_bipush h (dt t_M_clause 34 rfl) (by decide) ?_
          obtain ⟨s22, e22, hf⟩ := b0M_of hf
          refine cVv h [.int (i32 6)] [] v_X11_errs kX11_266 o200 (c_M_errs 6 (by decide) e22) rfl rfl (by decide) (by decide) rfl (Nat.le_of_ble_eq_true rfl) (dt t_M_clause 35 rfl) (fun h22 => ?_)
          refine SW_ok (fun ok22 => ?_)
          exact SW_fgt [true] rfl (k5 s22 ok22 hf)
        · exact SW_fgt [true] rfl (k5 s4 ok4 hf)
      refine SW_icmp_gt (tgt := 58) h (fun _ => (okI ok4 200 30 (IsO.n3 o200))) (fun _ => (by decide)) (dt t_M_clause 19 rfl) rfl hf (fun hf => ?_) (fun hf => ?_)
      · exact SW_fgt [true] rfl (k21 hf)
      · refine SW_aload_n h rfl (dt t_M_clause 20 rfl) ?_
        refine SW_aload_n h rfl (dt t_M_clause 21 rfl) ?_
        refine gI h cf11 o200 f11_30 lX11_307 (dt t_M_clause 22 rfl) ?_
        obtain ⟨v23, e23, hf⟩ := b1_of hf
        refine cV h [.int (i32 (s4 200 30))] [] v_X11_wasTold kX11_343 o200 (c_M_wasTold (s4 200 30) (okI ok4 200 30 (IsO.n3 o200)) e23) rfl rfl (by decide) (by decide) rfl (Nat.le_of_ble_eq_true rfl) (dt t_M_clause 23 rfl) (fun h23 => ?_)
        refine SW_if_eq (tgt := 58) h (fun _ => (r_zo h23)) (dt t_M_clause 24 rfl) rfl hf (fun hf => ?_) (fun hf => ?_)
        · exact SW_fgt [true] rfl (k21 hf)
        · refine SW_aload_n h rfl (dt t_M_clause 25 rfl) ?_
          refine SW_iconst h (dt t_M_clause 26 rfl) ?_
          obtain ⟨s24, e24, hf⟩ := b0M_of hf
          refine cVv h [.int (i32 4)] [] v_X11_errs kX11_266 o200 (c_M_errs 4 (by decide) e24) rfl rfl (by decide) (by decide) rfl (Nat.le_of_ble_eq_true rfl) (dt t_M_clause 27 rfl) (fun h24 => ?_)
          refine SW_ok (fun ok24 => ?_)
          refine SW_goto (tgt := 73) h (dt t_M_clause 28 rfl) rfl ?_
          exact SW_fgt [true] rfl (k5 s24 ok24 hf)
    · exact SW_fgt [true] rfl (k1 hf)
  · exact SW_fgt [true] rfl (k1 hf)
def b_M_keepsStep : List (Nat × Instr × Nat) := [(0, .aload_n 0, 1), (1, .getfield 7, 3), (4, .iconst 3, 1), (5, .iaload, 1), (6, .bipush 30, 2), (8, .if_icmp .ne 44, 3), (11, .sipush 320, 3), (14, .istore_n 1, 1), (15, .iload_n 1, 1), (16, .sipush 5076, 3), (19, .if_icmp .ge 25, 3), (22, .aload_n 0, 1), (23, .getfield 7, 3), (26, .iload_n 1, 1), (27, .aload_n 0, 1), (28, .getfield 7, 3), (31, .iload_n 1, 1), (32, .sipush 164, 3), (35, .iadd, 1), (36, .iaload, 1), (37, .iastore, 1), (38, .iinc 1 1, 3), (41, .goto (-26), 3), (44, .aload_n 0, 1), (45, .getfield 7, 3), (48, .iconst 3, 1), (49, .bipush 29, 2), (51, .iastore, 1), (52, .iconst 0, 1), (53, .istore_n 1, 1), (54, .iload_n 1, 1), (55, .sipush 164, 3), (58, .if_icmp .ge 40, 3), (61, .aload_n 0, 1), (62, .getfield 7, 3), (65, .sipush 320, 3), (68, .sipush 164, 3), (71, .aload_n 0, 1), (72, .getfield 7, 3), (75, .iconst 3, 1), (76, .iaload, 1), (77, .imul, 1), (78, .iadd, 1), (79, .iload_n 1, 1), (80, .iadd, 1), (81, .aload_n 0, 1), (82, .getfield 7, 3), (85, .sipush 140, 3), (88, .iload_n 1, 1), (89, .iadd, 1), (90, .iaload, 1), (91, .iastore, 1), (92, .iinc 1 1, 3), (95, .goto (-41), 3), (98, .aload_n 0, 1), (99, .getfield 7, 3), (102, .iconst 3, 1), (103, .dup2, 1), (104, .iaload, 1), (105, .iconst 1, 1), (106, .iadd, 1), (107, .iastore, 1), (108, .return_, 1)]
theorem t_M_keepsStep : DT cX11_keepsStep b_M_keepsStep := DT.of (by decide +kernel)
def L_M_keepsStep_54 : Nat → Int → Mm → Option (Mm)
  | 0, _, _ => none
  | n + 1, x1, σ =>
    if 164 ≤ x1 then
      some σ
    else
      if 0 ≤ 140 + x1 ∧ 140 + x1 < 5240 then
        if 0 ≤ (320 + (164 * (σ 201 3))) + x1 ∧ (320 + (164 * (σ 201 3))) + x1 < 5240 then
          bindM (st2 σ 201 (((320 + (164 * (σ 201 3))) + x1).toNat) (σ 201 ((140 + x1).toNat))) fun s2 =>
          if r32 (x1 + 1) then
            L_M_keepsStep_54 n (x1 + 1) s2
          else none
        else none
      else none
set_option maxRecDepth 100000 in
set_option maxHeartbeats 4000000 in
theorem l_M_keepsStep_54 {X : Cx} (h : CX X 1 cX11_keepsStep 2 0 none RX11)   {res : Mm} (hex : ∀  (σ : Mm) (hz : some σ = some res)  (ok : okM σ), SW X 1 2 98 [some (.ref (xad X 200)), none] [] σ) : ∀ (n : Nat) (x1 : Int) (σ : Mm) (hx1 : r32 x1) (ok : okM σ) (hf : L_M_keepsStep_54 n x1 σ = some res), SW X 1 2 54 [some (.ref (xad X 200)), some (.int (i32 x1))] [] σ := by
  intro n
  induction n with
  | zero => intro x1 σ hx1 ok hf; exact absurd hf (by simp [L_M_keepsStep_54])
  | succ n ih =>
    intro x1 σ hx1 ok hf
    rw [L_M_keepsStep_54] at hf
    refine SW_iload_n h rfl (dt t_M_keepsStep 30 rfl) ?_
    refine SW_sipush h (dt t_M_keepsStep 31 rfl) (by decide) ?_
    refine SW_icmp_ge (tgt := 98) h (fun _ => hx1) (fun _ => (by decide)) (dt t_M_keepsStep 32 rfl) rfl hf (fun hf => ?_) (fun hf => ?_)
    · exact SW_fgt [true, false] rfl (hex σ hf ok)
    · refine SW_aload_n h rfl (dt t_M_keepsStep 33 rfl) ?_
      refine gR h cf11 o200 f11_0 j200_0 lX11_7 (dt t_M_keepsStep 34 rfl) ?_
      refine SW_sipush h (dt t_M_keepsStep 35 rfl) (by decide) ?_
      refine SW_sipush h (dt t_M_keepsStep 36 rfl) (by decide) ?_
      refine SW_aload_n h rfl (dt t_M_keepsStep 37 rfl) ?_
      refine gR h cf11 o200 f11_0 j200_0 lX11_7 (dt t_M_keepsStep 38 rfl) ?_
      refine SW_iconst h (dt t_M_keepsStep 39 rfl) ?_
      refine aIk h a201 (by decide) (dt t_M_keepsStep 40 rfl) ?_
      refine SW_imul h (dt t_M_keepsStep 41 rfl) ?_
      refine SW_iadd h (dt t_M_keepsStep 42 rfl) ?_
      refine SW_iload_n h rfl (dt t_M_keepsStep 43 rfl) ?_
      refine SW_iadd h (dt t_M_keepsStep 44 rfl) ?_
      refine SW_aload_n h rfl (dt t_M_keepsStep 45 rfl) ?_
      refine gR h cf11 o200 f11_0 j200_0 lX11_7 (dt t_M_keepsStep 46 rfl) ?_
      refine SW_sipush h (dt t_M_keepsStep 47 rfl) (by decide) ?_
      refine SW_iload_n h rfl (dt t_M_keepsStep 48 rfl) ?_
      refine SW_iadd h (dt t_M_keepsStep 49 rfl) ?_
      refine aI h a201 (dt t_M_keepsStep 50 rfl) hf (fun hf => ?_)
      refine sI h a201 (okI ok 201 ((140 + x1).toNat) (IsA.n3 a201 (by decide))) (dt t_M_keepsStep 51 rfl) hf (fun hf => SW_bm hf (fun s2 ok2 hf => ?_))
      refine SW_iinc (lv2 := [some (.ref (xad X 200)), some (.int (i32 (x1 + 1)))]) h (dt t_M_keepsStep 52 rfl) rfl (by decide) rfl ?_
      refine SW_goto (tgt := 54) h (dt t_M_keepsStep 53 rfl) rfl ?_
      refine SW_chk hf (fun h3 hf => ?_)
      exact SW_fgt [true, true] rfl (ih (x1 + 1) s2 h3 ok2 hf)
def L_M_keepsStep_15 : Nat → Int → Mm → Option (Mm)
  | 0, _, _ => none
  | n + 1, x1, σ =>
    if 5076 ≤ x1 then
      some σ
    else
      if 0 ≤ x1 + 164 ∧ x1 + 164 < 5240 then
        if 0 ≤ x1 ∧ x1 < 5240 then
          bindM (st2 σ 201 x1.toNat (σ 201 ((x1 + 164).toNat))) fun s7 =>
          if r32 (x1 + 1) then
            L_M_keepsStep_15 n (x1 + 1) s7
          else none
        else none
      else none
set_option maxRecDepth 100000 in
set_option maxHeartbeats 4000000 in
theorem l_M_keepsStep_15 {X : Cx} (h : CX X 1 cX11_keepsStep 2 0 none RX11)   {res : Mm} (hex : ∀  (σ : Mm) (hz : some σ = some res)  (ok : okM σ), SW X 1 2 44 [some (.ref (xad X 200)), none] [] σ) : ∀ (n : Nat) (x1 : Int) (σ : Mm) (hx1 : r32 x1) (ok : okM σ) (hf : L_M_keepsStep_15 n x1 σ = some res), SW X 1 2 15 [some (.ref (xad X 200)), some (.int (i32 x1))] [] σ := by
  intro n
  induction n with
  | zero => intro x1 σ hx1 ok hf; exact absurd hf (by simp [L_M_keepsStep_15])
  | succ n ih =>
    intro x1 σ hx1 ok hf
    rw [L_M_keepsStep_15] at hf
    refine SW_iload_n h rfl (dt t_M_keepsStep 8 rfl) ?_
    refine SW_sipush h (dt t_M_keepsStep 9 rfl) (by decide) ?_
    refine SW_icmp_ge (tgt := 44) h (fun _ => hx1) (fun _ => (by decide)) (dt t_M_keepsStep 10 rfl) rfl hf (fun hf => ?_) (fun hf => ?_)
    · exact SW_fgt [true, false] rfl (hex σ hf ok)
    · refine SW_aload_n h rfl (dt t_M_keepsStep 11 rfl) ?_
      refine gR h cf11 o200 f11_0 j200_0 lX11_7 (dt t_M_keepsStep 12 rfl) ?_
      refine SW_iload_n h rfl (dt t_M_keepsStep 13 rfl) ?_
      refine SW_aload_n h rfl (dt t_M_keepsStep 14 rfl) ?_
      refine gR h cf11 o200 f11_0 j200_0 lX11_7 (dt t_M_keepsStep 15 rfl) ?_
      refine SW_iload_n h rfl (dt t_M_keepsStep 16 rfl) ?_
      refine SW_sipush h (dt t_M_keepsStep 17 rfl) (by decide) ?_
      refine SW_iadd h (dt t_M_keepsStep 18 rfl) ?_
      refine aI h a201 (dt t_M_keepsStep 19 rfl) hf (fun hf => ?_)
      refine sI h a201 (okI ok 201 ((x1 + 164).toNat) (IsA.n3 a201 (by decide))) (dt t_M_keepsStep 20 rfl) hf (fun hf => SW_bm hf (fun s7 ok7 hf => ?_))
      refine SW_iinc (lv2 := [some (.ref (xad X 200)), some (.int (i32 (x1 + 1)))]) h (dt t_M_keepsStep 21 rfl) rfl (by decide) rfl ?_
      refine SW_goto (tgt := 15) h (dt t_M_keepsStep 22 rfl) rfl ?_
      refine SW_chk hf (fun h8 hf => ?_)
      exact SW_fgt [true, true] rfl (ih (x1 + 1) s7 h8 ok7 hf)
def F_M_keepsStep  (σ : Mm) : Option (Mm) :=
  bindM (fun  (t1 : Mm) =>
    b0M (L_M_keepsStep_54 LF 0 t1) fun s4 =>
    if r32 ((s4 201 3) + 1) then
      bindM (st2 s4 201 3 ((s4 201 3) + 1)) fun s6 =>
      some s6
    else none) fun J1 =>
  if σ 201 3 = 30 then
    b0M (L_M_keepsStep_15 LF 320 σ) fun s9 =>
    bindM (st2 s9 201 3 29) fun s10 =>
    J1 s10
  else
    J1 σ
set_option maxRecDepth 100000 in
set_option maxHeartbeats 4000000 in
theorem c_M_keepsStep  {σ : Mm} {σ2 : Mm} (hf : F_M_keepsStep  σ = some σ2) : CT yX11_keepsStep cX11_keepsStep 2 none 0 1 (fun ad => [.ref (ad 200)]) σ True none σ2 := by
  refine MetJ 1 (by decide +kernel) rfl (fun _ => Nat.le_of_ble_eq_true rfl) ?_
  intro X h hR ok
  obtain ⟨res, er⟩ : ∃ z, z = σ2 := ⟨_, rfl⟩
  have hret : ∀ y : Mm, some y = some res → RX X 1 True none y := fun y e => by cases e; cases er; exact hR
  rw [← er] at hf
  clear er hR
  unfold F_M_keepsStep at hf
  show SW X 1 2 0 [some (.ref (xad X 200)), none] [] σ
  refine SW_aload_n h rfl (dt t_M_keepsStep 0 rfl) ?_
  refine gR h cf11 o200 f11_0 j200_0 lX11_7 (dt t_M_keepsStep 1 rfl) ?_
  refine SW_iconst h (dt t_M_keepsStep 2 rfl) ?_
  refine aIk h a201 (by decide) (dt t_M_keepsStep 3 rfl) ?_
  refine SW_bipush h (dt t_M_keepsStep 4 rfl) (by decide) ?_
  refine bJ hf (fun J1 e1 hf => ?_)
  have k1 : ∀  (t1 : Mm)  (ot1 : okM t1) (hf : J1 t1 = some res), SW X 1 2 52 [some (.ref (xad X 200)), none] [] t1 := by
    intro t1 ot1 hf
    rw [e1] at hf
    refine SW_iconst h (dt t_M_keepsStep 28 rfl) ?_
    refine SW_istore_n (lv2 := [some (.ref (xad X 200)), some (.int (i32 0))]) h (dt t_M_keepsStep 29 rfl) (by decide) rfl ?_
    obtain ⟨z4, e4, hk4⟩ := b0M_ex hf
    refine SW_fgt [true, true] rfl (l_M_keepsStep_54 h (fun s4 hz4 ok4 => ?_) LF 0 t1 (by decide) ot1 e4)
    have hf := hk4 s4 hz4
    refine SW_aload_n h rfl (dt t_M_keepsStep 54 rfl) ?_
    refine gR h cf11 o200 f11_0 j200_0 lX11_7 (dt t_M_keepsStep 55 rfl) ?_
    refine SW_iconst h (dt t_M_keepsStep 56 rfl) ?_
    refine SW_dup2 h rfl rfl (dt t_M_keepsStep 57 rfl) ?_
    refine aIk h a201 (by decide) (dt t_M_keepsStep 58 rfl) ?_
    refine SW_iconst h (dt t_M_keepsStep 59 rfl) ?_
    refine SW_iadd h (dt t_M_keepsStep 60 rfl) ?_
    refine SW_chk hf (fun h5 hf => ?_)
    refine sIk h a201 (by decide) h5 (dt t_M_keepsStep 61 rfl) (SW_bm hf (fun s6 ok6 hf => ?_))
    exact SW_vret h (hret _ hf) rfl (dt t_M_keepsStep 62 rfl)
  refine SW_icmp_ne (tgt := 52) h (fun _ => (okI ok 201 3 (IsA.n3 a201 (by decide)))) (fun _ => (by decide)) (dt t_M_keepsStep 5 rfl) rfl hf (fun hf => ?_) (fun hf => ?_)
  · refine SW_sipush h (dt t_M_keepsStep 6 rfl) (by decide) ?_
    refine SW_istore_n (lv2 := [some (.ref (xad X 200)), some (.int (i32 320))]) h (dt t_M_keepsStep 7 rfl) (by decide) rfl ?_
    obtain ⟨z9, e9, hk9⟩ := b0M_ex hf
    refine SW_fgt [true, true] rfl (l_M_keepsStep_15 h (fun s9 hz9 ok9 => ?_) LF 320 σ (by decide) ok e9)
    have hf := hk9 s9 hz9
    refine SW_aload_n h rfl (dt t_M_keepsStep 23 rfl) ?_
    refine gR h cf11 o200 f11_0 j200_0 lX11_7 (dt t_M_keepsStep 24 rfl) ?_
    refine SW_iconst h (dt t_M_keepsStep 25 rfl) ?_
    refine SW_bipush h (dt t_M_keepsStep 26 rfl) (by decide) ?_
    refine sIk h a201 (by decide) (by decide) (dt t_M_keepsStep 27 rfl) (SW_bm hf (fun s10 ok10 hf => ?_))
    exact SW_fgt [true, false] rfl (k1 s10 ok10 hf)
  · exact SW_fgt [true, false] rfl (k1 σ ok hf)
def b_M_reckons : List (Nat × Instr × Nat) := [(0, .aload_n 0, 1), (1, .iload_n 1, 1), (2, .invokevirtual 419, 3), (5, .aload_n 0, 1), (6, .invokevirtual 422, 3), (9, .istore_n 2, 1), (10, .aload_n 0, 1), (11, .aload_n 0, 1), (12, .getfield 382, 3), (15, .i2l, 1), (16, .iload_n 2, 1), (17, .i2l, 1), (18, .ladd, 1), (19, .ldc_w 425, 3), (22, .ldc_w 426, 3), (25, .invokestatic 415, 3), (28, .putfield 382, 3), (31, .iconst 0, 1), (32, .istore_n 3, 1), (33, .iload_n 3, 1), (34, .iconst 1, 1), (35, .iadd, 1), (36, .aload_n 0, 1), (37, .getfield 385, 3), (40, .if_icmp .ge 49, 3), (43, .aload_n 0, 1), (44, .iload_n 3, 1), (45, .invokevirtual 412, 3), (48, .ifCond .eq 35, 3), (51, .aload_n 0, 1), (52, .getfield 97, 3), (55, .aload_n 0, 1), (56, .getfield 106, 3), (59, .iload_n 3, 1), (60, .iaload, 1), (61, .dup2, 1), (62, .iaload, 1), (63, .iconst 1, 1), (64, .iadd, 1), (65, .iastore, 1), (66, .aload_n 0, 1), (67, .getfield 97, 3), (70, .aload_n 0, 1), (71, .getfield 106, 3), (74, .iload_n 3, 1), (75, .iconst 1, 1), (76, .iadd, 1), (77, .iaload, 1), (78, .dup2, 1), (79, .iaload, 1), (80, .iconst 1, 1), (81, .iadd, 1), (82, .iastore, 1), (83, .iinc 3 1, 3), (86, .goto (-53), 3), (89, .aload_n 0, 1), (90, .invokevirtual 427, 3), (93, .iload_n 2, 1), (94, .ireturn, 1)]
theorem t_M_reckons : DT cX11_reckons b_M_reckons := DT.of (by decide +kernel)
def L_M_reckons_33 : Nat → Int → Mm → Option (Mm)
  | 0, _, _ => none
  | n + 1, x3, σ =>
    if r32 (x3 + 1) then
      if σ 200 53 ≤ x3 + 1 then
        some σ
      else
        b1M (F_M_quarrelAt x3 σ) fun v8 s8 =>
        bindM (fun  (t9 : Mm) =>
          if r32 (x3 + 1) then
            L_M_reckons_33 n (x3 + 1) t9
          else none) fun J9 =>
        if v8 = 0 then
          J9 s8
        else
          if 0 ≤ x3 ∧ x3 < 16 then
            if 0 ≤ s8 230 x3.toNat ∧ s8 230 x3.toNat < 10 then
              if r32 ((s8 227 ((s8 230 x3.toNat).toNat)) + 1) then
                if 0 ≤ s8 230 x3.toNat ∧ s8 230 x3.toNat < 10 then
                  bindM (st2 s8 227 ((s8 230 x3.toNat).toNat) ((s8 227 ((s8 230 x3.toNat).toNat)) + 1)) fun s12 =>
                  if 0 ≤ x3 + 1 ∧ x3 + 1 < 16 then
                    if 0 ≤ s12 230 ((x3 + 1).toNat) ∧ s12 230 ((x3 + 1).toNat) < 10 then
                      if r32 ((s12 227 ((s12 230 ((x3 + 1).toNat)).toNat)) + 1) then
                        if 0 ≤ s12 230 ((x3 + 1).toNat) ∧ s12 230 ((x3 + 1).toNat) < 10 then
                          bindM (st2 s12 227 ((s12 230 ((x3 + 1).toNat)).toNat) ((s12 227 ((s12 230 ((x3 + 1).toNat)).toNat)) + 1)) fun s14 =>
                          J9 s14
                        else none
                      else none
                    else none
                  else none
                else none
              else none
            else none
          else none
    else none
set_option maxRecDepth 100000 in
set_option maxHeartbeats 4000000 in
theorem l_M_reckons_33 {X : Cx} (h : CX X 1 cX11_reckons 4 6 (some .int) RX11) (x2 : Int) (hx2 : r32 x2) {res : Mm} (hex : ∀  (σ : Mm) (hz : some σ = some res)  (ok : okM σ), SW X 1 4 89 [some (.ref (xad X 200)), none, some (.int (i32 x2)), none] [] σ) : ∀ (n : Nat) (x3 : Int) (σ : Mm) (hx3 : r32 x3) (ok : okM σ) (hf : L_M_reckons_33 n x3 σ = some res), SW X 1 4 33 [some (.ref (xad X 200)), none, some (.int (i32 x2)), some (.int (i32 x3))] [] σ := by
  intro n
  induction n with
  | zero => intro x3 σ hx3 ok hf; exact absurd hf (by simp [L_M_reckons_33])
  | succ n ih =>
    intro x3 σ hx3 ok hf
    rw [L_M_reckons_33] at hf
    refine SW_iload_n h rfl (dt t_M_reckons 19 rfl) ?_
    refine SW_iconst h (dt t_M_reckons 20 rfl) ?_
    refine SW_iadd h (dt t_M_reckons 21 rfl) ?_
    refine SW_aload_n h rfl (dt t_M_reckons 22 rfl) ?_
    refine gI h cf11 o200 f11_53 lX11_385 (dt t_M_reckons 23 rfl) ?_
    refine SW_chk hf (fun h7 hf => ?_)
    refine SW_icmp_ge (tgt := 89) h (fun _ => h7) (fun _ => (okI ok 200 53 (IsO.n3 o200))) (dt t_M_reckons 24 rfl) rfl hf (fun hf => ?_) (fun hf => ?_)
    · exact SW_fgt [true, false, true, false] rfl (hex σ hf ok)
    · refine SW_aload_n h rfl (dt t_M_reckons 25 rfl) ?_
      refine SW_iload_n h rfl (dt t_M_reckons 26 rfl) ?_
      obtain ⟨v8, s8, e8, hf⟩ := b1M_of hf
      refine cV h [.int (i32 x3)] [] v_X11_quarrelAt kX11_412 o200 (c_M_quarrelAt x3 hx3 e8) rfl rfl (by decide) (by decide) rfl (Nat.le_of_ble_eq_true rfl) (dt t_M_reckons 27 rfl) (fun h8 => ?_)
      refine SW_ok (fun ok8 => ?_)
      refine bJ hf (fun J9 e9 hf => ?_)
      have k9 : ∀  (t9 : Mm)  (ot9 : okM t9) (hf : J9 t9 = some res), SW X 1 4 83 [some (.ref (xad X 200)), none, some (.int (i32 x2)), some (.int (i32 x3))] [] t9 := by
        intro t9 ot9 hf
        rw [e9] at hf
        refine SW_iinc (lv2 := [some (.ref (xad X 200)), none, some (.int (i32 x2)), some (.int (i32 (x3 + 1)))]) h (dt t_M_reckons 53 rfl) rfl (by decide) rfl ?_
        refine SW_goto (tgt := 33) h (dt t_M_reckons 54 rfl) rfl ?_
        refine SW_chk hf (fun h10 hf => ?_)
        exact SW_fgt [true, false, true, true] rfl (ih (x3 + 1) t9 h10 ot9 hf)
      refine SW_if_eq (tgt := 83) h (fun _ => (r_zo h8)) (dt t_M_reckons 28 rfl) rfl hf (fun hf => ?_) (fun hf => ?_)
      · exact SW_fgt [true, false, true, true] rfl (k9 s8 ok8 hf)
      · refine SW_aload_n h rfl (dt t_M_reckons 29 rfl) ?_
        refine gR h cf11 o200 f11_43 j200_43 lX11_97 (dt t_M_reckons 30 rfl) ?_
        refine SW_aload_n h rfl (dt t_M_reckons 31 rfl) ?_
        refine gR h cf11 o200 f11_50 j200_50 lX11_106 (dt t_M_reckons 32 rfl) ?_
        refine SW_iload_n h rfl (dt t_M_reckons 33 rfl) ?_
        refine aI h a230 (dt t_M_reckons 34 rfl) hf (fun hf => ?_)
        refine SW_dup2 h rfl rfl (dt t_M_reckons 35 rfl) ?_
        refine aI h a227 (dt t_M_reckons 36 rfl) hf (fun hf => ?_)
        refine SW_iconst h (dt t_M_reckons 37 rfl) ?_
        refine SW_iadd h (dt t_M_reckons 38 rfl) ?_
        refine SW_chk hf (fun h11 hf => ?_)
        refine sI h a227 h11 (dt t_M_reckons 39 rfl) hf (fun hf => SW_bm hf (fun s12 ok12 hf => ?_))
        refine SW_aload_n h rfl (dt t_M_reckons 40 rfl) ?_
        refine gR h cf11 o200 f11_43 j200_43 lX11_97 (dt t_M_reckons 41 rfl) ?_
        refine SW_aload_n h rfl (dt t_M_reckons 42 rfl) ?_
        refine gR h cf11 o200 f11_50 j200_50 lX11_106 (dt t_M_reckons 43 rfl) ?_
        refine SW_iload_n h rfl (dt t_M_reckons 44 rfl) ?_
        refine SW_iconst h (dt t_M_reckons 45 rfl) ?_
        refine SW_iadd h (dt t_M_reckons 46 rfl) ?_
        refine aI h a230 (dt t_M_reckons 47 rfl) hf (fun hf => ?_)
        refine SW_dup2 h rfl rfl (dt t_M_reckons 48 rfl) ?_
        refine aI h a227 (dt t_M_reckons 49 rfl) hf (fun hf => ?_)
        refine SW_iconst h (dt t_M_reckons 50 rfl) ?_
        refine SW_iadd h (dt t_M_reckons 51 rfl) ?_
        refine SW_chk hf (fun h13 hf => ?_)
        refine sI h a227 h13 (dt t_M_reckons 52 rfl) hf (fun hf => SW_bm hf (fun s14 ok14 hf => ?_))
        exact SW_fgt [true, false, true, true] rfl (k9 s14 ok14 hf)
def F_M_reckons (x1 : Int) (σ : Mm) : Option (Int × Mm) :=
  b0M (F_M_laysRow x1 σ) fun s1 =>
  b1M (F_M_outNow  s1) fun v2 s2 =>
  if r64 ((s2 200 46) + v2) then
    b1 (F_M_held ((s2 200 46) + v2) ((-9999999)) 9999999) fun v3 =>
    bindM (st2 s2 200 46 v3) fun s6 =>
    b0M (L_M_reckons_33 LF 0 s6) fun s15 =>
    b0M (F_M_usesDigits  s15) fun s16 =>
    some (v2, s16)
  else none
set_option maxRecDepth 100000 in
set_option maxHeartbeats 4000000 in
theorem c_M_reckons (x1 : Int) (hx1 : r32 x1) {σ : Mm} {a : Int} {σ2 : Mm} (hf : F_M_reckons x1 σ = some (a, σ2)) : CT yX11_reckons cX11_reckons 4 (some .int) 6 1 (fun ad => [.ref (ad 200), .int (i32 x1)]) σ (r32 a) (some (.int (i32 a))) σ2 := by
  refine MetJ 2 (by decide +kernel) rfl (fun _ => Nat.le_of_ble_eq_true rfl) ?_
  intro X h hR ok
  obtain ⟨res, er⟩ : ∃ z, z = (a, σ2) := ⟨_, rfl⟩
  have hret : ∀ y : Int × Mm, some y = some res → RX X 1 (r32 (y.1)) (some (.int (i32 (y.1)))) y.2 := fun y e => by cases e; cases er; exact hR
  rw [← er] at hf
  clear er hR
  unfold F_M_reckons at hf
  show SW X 1 4 0 [some (.ref (xad X 200)), some (.int (i32 x1)), none, none] [] σ
  refine SW_aload_n h rfl (dt t_M_reckons 0 rfl) ?_
  refine SW_iload_n h rfl (dt t_M_reckons 1 rfl) ?_
  obtain ⟨s1, e1, hf⟩ := b0M_of hf
  refine cVv h [.int (i32 x1)] [] v_X11_laysRow kX11_419 o200 (c_M_laysRow x1 hx1 e1) rfl rfl (by decide) (by decide) rfl (Nat.le_of_ble_eq_true rfl) (dt t_M_reckons 2 rfl) (fun h1 => ?_)
  refine SW_ok (fun ok1 => ?_)
  refine SW_aload_n h rfl (dt t_M_reckons 3 rfl) ?_
  obtain ⟨v2, s2, e2, hf⟩ := b1M_of hf
  refine cV h [] [] v_X11_outNow kX11_422 o200 (c_M_outNow  e2) rfl rfl (by decide) (by decide) rfl (Nat.le_of_ble_eq_true rfl) (dt t_M_reckons 4 rfl) (fun h2 => ?_)
  refine SW_ok (fun ok2 => ?_)
  refine SW_istore_n (lv2 := [some (.ref (xad X 200)), some (.int (i32 x1)), some (.int (i32 v2)), none]) h (dt t_M_reckons 5 rfl) (by decide) rfl ?_
  refine SW_aload_n h rfl (dt t_M_reckons 6 rfl) ?_
  refine SW_aload_n h rfl (dt t_M_reckons 7 rfl) ?_
  refine gI h cf11 o200 f11_46 lX11_382 (dt t_M_reckons 8 rfl) ?_
  refine SW_i2l h (fun _ => (okI ok2 200 46 (IsO.n3 o200))) (dt t_M_reckons 9 rfl) ?_
  refine SW_iload_n h rfl (dt t_M_reckons 10 rfl) ?_
  refine SW_i2l h (fun _ => h2) (dt t_M_reckons 11 rfl) ?_
  refine SW_ladd h (dt t_M_reckons 12 rfl) ?_
  refine SW_ldcw (n := -9999999) h nX11_425 (by decide) (dt t_M_reckons 13 rfl) ?_
  refine SW_ldcw (n := 9999999) h nX11_426 (by decide) (dt t_M_reckons 14 rfl) ?_
  refine SW_chk hf (fun h4 hf => ?_)
  obtain ⟨v3, e3, hf⟩ := b1_of hf
  refine cS h [.long (i64 ((s2 200 46) + v2)), .int (i32 ((-9999999))), .int (i32 9999999)] [.ref (xad X 200)] v_X11_held kX11_415 (c_M_held ((s2 200 46) + v2) h4 ((-9999999)) (by decide) 9999999 (by decide) e3) rfl rfl (by decide) (by decide) rfl (Nat.le_of_ble_eq_true rfl) (dt t_M_reckons 15 rfl) (fun h3 => ?_)
  refine pI h cf11 o200 f11_46 h3 lX11_382 (dt t_M_reckons 16 rfl) (SW_bm hf (fun s6 ok6 hf => ?_))
  refine SW_iconst h (dt t_M_reckons 17 rfl) ?_
  refine SW_istore_n (lv2 := [some (.ref (xad X 200)), some (.int (i32 x1)), some (.int (i32 v2)), some (.int (i32 0))]) h (dt t_M_reckons 18 rfl) (by decide) rfl ?_
  obtain ⟨z15, e15, hk15⟩ := b0M_ex hf
  refine SW_fgt [true, false, true, true] rfl (l_M_reckons_33 h v2 h2 (fun s15 hz15 ok15 => ?_) LF 0 s6 (by decide) ok6 e15)
  have hf := hk15 s15 hz15
  refine SW_aload_n h rfl (dt t_M_reckons 55 rfl) ?_
  obtain ⟨s16, e16, hf⟩ := b0M_of hf
  refine cVv h [] [] v_X11_usesDigits kX11_427 o200 (c_M_usesDigits  e16) rfl rfl (by decide) (by decide) rfl (Nat.le_of_ble_eq_true rfl) (dt t_M_reckons 56 rfl) (fun h16 => ?_)
  refine SW_ok (fun ok16 => ?_)
  refine SW_iload_n h rfl (dt t_M_reckons 57 rfl) ?_
  exact SW_iret h (hret _ hf) (fun _ => h2) rfl (dt t_M_reckons 58 rfl)
def b_M_writes : List (Nat × Instr × Nat) := [(0, .aload_n 0, 1), (1, .getfield 7, 3), (4, .sipush 183, 3), (7, .iaload, 1), (8, .bipush 40, 2), (10, .if_icmp .ne 44, 3), (13, .sipush 184, 3), (16, .istore_n 3, 1), (17, .iload_n 3, 1), (18, .sipush 301, 3), (21, .if_icmp .ge 23, 3), (24, .aload_n 0, 1), (25, .getfield 7, 3), (28, .iload_n 3, 1), (29, .aload_n 0, 1), (30, .getfield 7, 3), (33, .iload_n 3, 1), (34, .iconst 3, 1), (35, .iadd, 1), (36, .iaload, 1), (37, .iastore, 1), (38, .iinc 3 1, 3), (41, .goto (-24), 3), (44, .aload_n 0, 1), (45, .getfield 7, 3), (48, .sipush 183, 3), (51, .bipush 39, 2), (53, .iastore, 1), (54, .sipush 184, 3), (57, .iconst 3, 1), (58, .aload_n 0, 1), (59, .getfield 7, 3), (62, .sipush 183, 3), (65, .iaload, 1), (66, .imul, 1), (67, .iadd, 1), (68, .istore_n 3, 1), (69, .aload_n 0, 1), (70, .getfield 7, 3), (73, .iload_n 3, 1), (74, .iload_n 1, 1), (75, .iastore, 1), (76, .aload_n 0, 1), (77, .getfield 7, 3), (80, .iload_n 3, 1), (81, .iconst 1, 1), (82, .iadd, 1), (83, .aload_n 0, 1), (84, .getfield 379, 3), (87, .iastore, 1), (88, .aload_n 0, 1), (89, .getfield 7, 3), (92, .iload_n 3, 1), (93, .iconst 2, 1), (94, .iadd, 1), (95, .iload_n 2, 1), (96, .iastore, 1), (97, .aload_n 0, 1), (98, .getfield 7, 3), (101, .sipush 183, 3), (104, .dup2, 1), (105, .iaload, 1), (106, .iconst 1, 1), (107, .iadd, 1), (108, .iastore, 1), (109, .return_, 1)]
theorem t_M_writes : DT cX11_writes b_M_writes := DT.of (by decide +kernel)
def L_M_writes_17 : Nat → Int → Mm → Option (Mm)
  | 0, _, _ => none
  | n + 1, x3, σ =>
    if 301 ≤ x3 then
      some σ
    else
      if 0 ≤ x3 + 3 ∧ x3 + 3 < 5240 then
        if 0 ≤ x3 ∧ x3 < 5240 then
          bindM (st2 σ 201 x3.toNat (σ 201 ((x3 + 3).toNat))) fun s8 =>
          if r32 (x3 + 1) then
            L_M_writes_17 n (x3 + 1) s8
          else none
        else none
      else none
set_option maxRecDepth 100000 in
set_option maxHeartbeats 4000000 in
theorem l_M_writes_17 {X : Cx} (h : CX X 1 cX11_writes 4 0 none RX11) (x1 : Int) (x2 : Int) (hx1 : r32 x1) (hx2 : r32 x2) {res : Mm} (hex : ∀  (σ : Mm) (hz : some σ = some res)  (ok : okM σ), SW X 1 4 44 [some (.ref (xad X 200)), some (.int (i32 x1)), some (.int (i32 x2)), none] [] σ) : ∀ (n : Nat) (x3 : Int) (σ : Mm) (hx3 : r32 x3) (ok : okM σ) (hf : L_M_writes_17 n x3 σ = some res), SW X 1 4 17 [some (.ref (xad X 200)), some (.int (i32 x1)), some (.int (i32 x2)), some (.int (i32 x3))] [] σ := by
  intro n
  induction n with
  | zero => intro x3 σ hx3 ok hf; exact absurd hf (by simp [L_M_writes_17])
  | succ n ih =>
    intro x3 σ hx3 ok hf
    rw [L_M_writes_17] at hf
    refine SW_iload_n h rfl (dt t_M_writes 8 rfl) ?_
    refine SW_sipush h (dt t_M_writes 9 rfl) (by decide) ?_
    refine SW_icmp_ge (tgt := 44) h (fun _ => hx3) (fun _ => (by decide)) (dt t_M_writes 10 rfl) rfl hf (fun hf => ?_) (fun hf => ?_)
    · exact SW_fgt [true, true, true, false] rfl (hex σ hf ok)
    · refine SW_aload_n h rfl (dt t_M_writes 11 rfl) ?_
      refine gR h cf11 o200 f11_0 j200_0 lX11_7 (dt t_M_writes 12 rfl) ?_
      refine SW_iload_n h rfl (dt t_M_writes 13 rfl) ?_
      refine SW_aload_n h rfl (dt t_M_writes 14 rfl) ?_
      refine gR h cf11 o200 f11_0 j200_0 lX11_7 (dt t_M_writes 15 rfl) ?_
      refine SW_iload_n h rfl (dt t_M_writes 16 rfl) ?_
      refine SW_iconst h (dt t_M_writes 17 rfl) ?_
      refine SW_iadd h (dt t_M_writes 18 rfl) ?_
      refine aI h a201 (dt t_M_writes 19 rfl) hf (fun hf => ?_)
      refine sI h a201 (okI ok 201 ((x3 + 3).toNat) (IsA.n3 a201 (by decide))) (dt t_M_writes 20 rfl) hf (fun hf => SW_bm hf (fun s8 ok8 hf => ?_))
      refine SW_iinc (lv2 := [some (.ref (xad X 200)), some (.int (i32 x1)), some (.int (i32 x2)), some (.int (i32 (x3 + 1)))]) h (dt t_M_writes 21 rfl) rfl (by decide) rfl ?_
      refine SW_goto (tgt := 17) h (dt t_M_writes 22 rfl) rfl ?_
      refine SW_chk hf (fun h9 hf => ?_)
      exact SW_fgt [true, true, true, true] rfl (ih (x3 + 1) s8 h9 ok8 hf)
def F_M_writes (x1 : Int) (x2 : Int) (σ : Mm) : Option (Mm) :=
  bindM (fun  (t1 : Mm) =>
    bindM (184 + (3 * (t1 201 183))) fun v2 =>
    if 0 ≤ v2 ∧ v2 < 5240 then
      bindM (st2 t1 201 v2.toNat x1) fun s3 =>
      if 0 ≤ v2 + 1 ∧ v2 + 1 < 5240 then
        bindM (st2 s3 201 ((v2 + 1).toNat) (s3 200 45)) fun s4 =>
        if 0 ≤ v2 + 2 ∧ v2 + 2 < 5240 then
          bindM (st2 s4 201 ((v2 + 2).toNat) x2) fun s5 =>
          if r32 ((s5 201 183) + 1) then
            bindM (st2 s5 201 183 ((s5 201 183) + 1)) fun s7 =>
            some s7
          else none
        else none
      else none
    else none) fun J1 =>
  if σ 201 183 = 40 then
    b0M (L_M_writes_17 LF 184 σ) fun s10 =>
    bindM (st2 s10 201 183 39) fun s11 =>
    J1 s11
  else
    J1 σ
set_option maxRecDepth 100000 in
set_option maxHeartbeats 4000000 in
theorem c_M_writes (x1 : Int) (hx1 : r32 x1) (x2 : Int) (hx2 : r32 x2) {σ : Mm} {σ2 : Mm} (hf : F_M_writes x1 x2 σ = some σ2) : CT yX11_writes cX11_writes 4 none 0 1 (fun ad => [.ref (ad 200), .int (i32 x1), .int (i32 x2)]) σ True none σ2 := by
  refine MetJ 1 (by decide +kernel) rfl (fun _ => Nat.le_of_ble_eq_true rfl) ?_
  intro X h hR ok
  obtain ⟨res, er⟩ : ∃ z, z = σ2 := ⟨_, rfl⟩
  have hret : ∀ y : Mm, some y = some res → RX X 1 True none y := fun y e => by cases e; cases er; exact hR
  rw [← er] at hf
  clear er hR
  unfold F_M_writes at hf
  show SW X 1 4 0 [some (.ref (xad X 200)), some (.int (i32 x1)), some (.int (i32 x2)), none] [] σ
  refine SW_aload_n h rfl (dt t_M_writes 0 rfl) ?_
  refine gR h cf11 o200 f11_0 j200_0 lX11_7 (dt t_M_writes 1 rfl) ?_
  refine SW_sipush h (dt t_M_writes 2 rfl) (by decide) ?_
  refine aIk h a201 (by decide) (dt t_M_writes 3 rfl) ?_
  refine SW_bipush h (dt t_M_writes 4 rfl) (by decide) ?_
  refine bJ hf (fun J1 e1 hf => ?_)
  have k1 : ∀  (t1 : Mm)  (ot1 : okM t1) (hf : J1 t1 = some res), SW X 1 4 54 [some (.ref (xad X 200)), some (.int (i32 x1)), some (.int (i32 x2)), none] [] t1 := by
    intro t1 ot1 hf
    rw [e1] at hf
    refine SW_sipush h (dt t_M_writes 28 rfl) (by decide) ?_
    refine SW_iconst h (dt t_M_writes 29 rfl) ?_
    refine SW_aload_n h rfl (dt t_M_writes 30 rfl) ?_
    refine gR h cf11 o200 f11_0 j200_0 lX11_7 (dt t_M_writes 31 rfl) ?_
    refine SW_sipush h (dt t_M_writes 32 rfl) (by decide) ?_
    refine aIk h a201 (by decide) (dt t_M_writes 33 rfl) ?_
    refine SW_imul h (dt t_M_writes 34 rfl) ?_
    refine SW_iadd h (dt t_M_writes 35 rfl) ?_
    refine SW_vu hf (fun v2 hf => ?_)
    refine SW_istore_n (lv2 := [some (.ref (xad X 200)), some (.int (i32 x1)), some (.int (i32 x2)), some (.int (i32 v2))]) h (dt t_M_writes 36 rfl) (by decide) rfl ?_
    refine SW_aload_n h rfl (dt t_M_writes 37 rfl) ?_
    refine gR h cf11 o200 f11_0 j200_0 lX11_7 (dt t_M_writes 38 rfl) ?_
    refine SW_iload_n h rfl (dt t_M_writes 39 rfl) ?_
    refine SW_iload_n h rfl (dt t_M_writes 40 rfl) ?_
    refine sI h a201 hx1 (dt t_M_writes 41 rfl) hf (fun hf => SW_bm hf (fun s3 ok3 hf => ?_))
    refine SW_aload_n h rfl (dt t_M_writes 42 rfl) ?_
    refine gR h cf11 o200 f11_0 j200_0 lX11_7 (dt t_M_writes 43 rfl) ?_
    refine SW_iload_n h rfl (dt t_M_writes 44 rfl) ?_
    refine SW_iconst h (dt t_M_writes 45 rfl) ?_
    refine SW_iadd h (dt t_M_writes 46 rfl) ?_
    refine SW_aload_n h rfl (dt t_M_writes 47 rfl) ?_
    refine gI h cf11 o200 f11_45 lX11_379 (dt t_M_writes 48 rfl) ?_
    refine sI h a201 (okI ok3 200 45 (IsO.n3 o200)) (dt t_M_writes 49 rfl) hf (fun hf => SW_bm hf (fun s4 ok4 hf => ?_))
    refine SW_aload_n h rfl (dt t_M_writes 50 rfl) ?_
    refine gR h cf11 o200 f11_0 j200_0 lX11_7 (dt t_M_writes 51 rfl) ?_
    refine SW_iload_n h rfl (dt t_M_writes 52 rfl) ?_
    refine SW_iconst h (dt t_M_writes 53 rfl) ?_
    refine SW_iadd h (dt t_M_writes 54 rfl) ?_
    refine SW_iload_n h rfl (dt t_M_writes 55 rfl) ?_
    refine sI h a201 hx2 (dt t_M_writes 56 rfl) hf (fun hf => SW_bm hf (fun s5 ok5 hf => ?_))
    refine SW_aload_n h rfl (dt t_M_writes 57 rfl) ?_
    refine gR h cf11 o200 f11_0 j200_0 lX11_7 (dt t_M_writes 58 rfl) ?_
    refine SW_sipush h (dt t_M_writes 59 rfl) (by decide) ?_
    refine SW_dup2 h rfl rfl (dt t_M_writes 60 rfl) ?_
    refine aIk h a201 (by decide) (dt t_M_writes 61 rfl) ?_
    refine SW_iconst h (dt t_M_writes 62 rfl) ?_
    refine SW_iadd h (dt t_M_writes 63 rfl) ?_
    refine SW_chk hf (fun h6 hf => ?_)
    refine sIk h a201 (by decide) h6 (dt t_M_writes 64 rfl) (SW_bm hf (fun s7 ok7 hf => ?_))
    exact SW_vret h (hret _ hf) rfl (dt t_M_writes 65 rfl)
  refine SW_icmp_ne (tgt := 54) h (fun _ => (okI ok 201 183 (IsA.n3 a201 (by decide)))) (fun _ => (by decide)) (dt t_M_writes 5 rfl) rfl hf (fun hf => ?_) (fun hf => ?_)
  · refine SW_sipush h (dt t_M_writes 6 rfl) (by decide) ?_
    refine SW_istore_n (lv2 := [some (.ref (xad X 200)), some (.int (i32 x1)), some (.int (i32 x2)), some (.int (i32 184))]) h (dt t_M_writes 7 rfl) (by decide) rfl ?_
    obtain ⟨z10, e10, hk10⟩ := b0M_ex hf
    refine SW_fgt [true, true, true, true] rfl (l_M_writes_17 h x1 x2 hx1 hx2 (fun s10 hz10 ok10 => ?_) LF 184 σ (by decide) ok e10)
    have hf := hk10 s10 hz10
    refine SW_aload_n h rfl (dt t_M_writes 23 rfl) ?_
    refine gR h cf11 o200 f11_0 j200_0 lX11_7 (dt t_M_writes 24 rfl) ?_
    refine SW_sipush h (dt t_M_writes 25 rfl) (by decide) ?_
    refine SW_bipush h (dt t_M_writes 26 rfl) (by decide) ?_
    refine sIk h a201 (by decide) (by decide) (dt t_M_writes 27 rfl) (SW_bm hf (fun s11 ok11 hf => ?_))
    exact SW_fgt [true, true, true, false] rfl (k1 s11 ok11 hf)
  · exact SW_fgt [true, true, true, false] rfl (k1 σ ok hf)
def b_M_moods : List (Nat × Instr × Nat) := [(0, .aload_n 0, 1), (1, .iconst 2, 1), (2, .invokevirtual 391, 3), (5, .istore_n 1, 1), (6, .iconst 0, 1), (7, .istore_n 2, 1), (8, .iload_n 2, 1), (9, .bipush 10, 2), (11, .if_icmp .ge 97, 3), (14, .aload_n 0, 1), (15, .getfield 84, 3), (18, .iconst 0, 1), (19, .aload_n 0, 1), (20, .getfield 379, 3), (23, .iastore, 1), (24, .aload_n 0, 1), (25, .getfield 84, 3), (28, .bipush 9, 2), (30, .iload_n 2, 1), (31, .iastore, 1), (32, .aload_n 0, 1), (33, .getfield 84, 3), (36, .bipush 10, 2), (38, .aload_n 0, 1), (39, .getfield 91, 3), (42, .iload_n 2, 1), (43, .iaload, 1), (44, .iastore, 1), (45, .aload_n 0, 1), (46, .getfield 84, 3), (49, .bipush 11, 2), (51, .aload_n 0, 1), (52, .getfield 94, 3), (55, .iload_n 2, 1), (56, .iaload, 1), (57, .iastore, 1), (58, .aload_n 0, 1), (59, .getfield 84, 3), (62, .bipush 12, 2), (64, .aload_n 0, 1), (65, .getfield 97, 3), (68, .iload_n 2, 1), (69, .iaload, 1), (70, .iastore, 1), (71, .aload_n 0, 1), (72, .getfield 116, 3), (75, .iload_n 2, 1), (76, .iload_n 1, 1), (77, .iconst (-1), 1), (78, .if_icmp .ne 12, 3), (81, .aload_n 0, 1), (82, .getfield 91, 3), (85, .iload_n 2, 1), (86, .iaload, 1), (87, .goto 14, 3), (90, .aload_n 0, 1), (91, .iload_n 1, 1), (92, .invokevirtual 398, 3), (95, .iconst 0, 1), (96, .bipush 9, 2), (98, .invokestatic 415, 3), (101, .iastore, 1), (102, .iinc 2 1, 3), (105, .goto (-97), 3), (108, .iconst 0, 1), (109, .istore_n 2, 1), (110, .iload_n 2, 1), (111, .bipush 10, 2), (113, .if_icmp .ge 28, 3), (116, .aload_n 0, 1), (117, .getfield 91, 3), (120, .iload_n 2, 1), (121, .aload_n 0, 1), (122, .getfield 116, 3), (125, .iload_n 2, 1), (126, .iaload, 1), (127, .iastore, 1), (128, .aload_n 0, 1), (129, .getfield 97, 3), (132, .iload_n 2, 1), (133, .iconst 0, 1), (134, .iastore, 1), (135, .iinc 2 1, 3), (138, .goto (-28), 3), (141, .return_, 1)]
theorem t_M_moods : DT cX11_moods b_M_moods := DT.of (by decide +kernel)
def L_M_moods_8 : Nat → Int → Int → Mm → Option (Mm)
  | 0, _, _, _ => none
  | n + 1, x1, x2, σ =>
    if 10 ≤ x2 then
      some σ
    else
      bindM (st2 σ 223 0 (σ 200 45)) fun s2 =>
      bindM (st2 s2 223 9 x2) fun s3 =>
      if 0 ≤ x2 ∧ x2 < 10 then
        bindM (st2 s3 223 10 (s3 225 x2.toNat)) fun s4 =>
        if 0 ≤ x2 ∧ x2 < 10 then
          bindM (st2 s4 223 11 (s4 226 x2.toNat)) fun s5 =>
          if 0 ≤ x2 ∧ x2 < 10 then
            bindM (st2 s5 223 12 (s5 227 x2.toNat)) fun s6 =>
            bindM (fun (y7 : Int) (t7 : Mm) =>
              if 0 ≤ x2 ∧ x2 < 10 then
                bindM (st2 t7 233 x2.toNat y7) fun s8 =>
                if r32 (x2 + 1) then
                  L_M_moods_8 n x1 (x2 + 1) s8
                else none
              else none) fun J7 =>
            if x1 = (-1) then
              if 0 ≤ x2 ∧ x2 < 10 then
                J7 (s6 225 x2.toNat) s6
              else none
            else
              b1M (F_M_saysOf x1 s6) fun v10 s10 =>
              b1 (F_M_held v10 0 9) fun v11 =>
              J7 v11 s10
          else none
        else none
      else none
set_option maxRecDepth 100000 in
set_option maxHeartbeats 4000000 in
theorem l_M_moods_8 {X : Cx} (h : CX X 1 cX11_moods 3 3 none RX11) (x1 : Int) (hx1 : r32 x1) {res : Mm} (hex : ∀  (σ : Mm) (hz : some σ = some res)  (ok : okM σ), SW X 1 3 108 [some (.ref (xad X 200)), none, none] [] σ) : ∀ (n : Nat) (x2 : Int) (σ : Mm) (hx2 : r32 x2) (ok : okM σ) (hf : L_M_moods_8 n x1 x2 σ = some res), SW X 1 3 8 [some (.ref (xad X 200)), some (.int (i32 x1)), some (.int (i32 x2))] [] σ := by
  intro n
  induction n with
  | zero => intro x2 σ hx2 ok hf; exact absurd hf (by simp [L_M_moods_8])
  | succ n ih =>
    intro x2 σ hx2 ok hf
    rw [L_M_moods_8] at hf
    refine SW_iload_n h rfl (dt t_M_moods 6 rfl) ?_
    refine SW_bipush h (dt t_M_moods 7 rfl) (by decide) ?_
    refine SW_icmp_ge (tgt := 108) h (fun _ => hx2) (fun _ => (by decide)) (dt t_M_moods 8 rfl) rfl hf (fun hf => ?_) (fun hf => ?_)
    · exact SW_fgt [true, false, false] rfl (hex σ hf ok)
    · refine SW_aload_n h rfl (dt t_M_moods 9 rfl) ?_
      refine gR h cf11 o200 f11_39 j200_39 lX11_84 (dt t_M_moods 10 rfl) ?_
      refine SW_iconst h (dt t_M_moods 11 rfl) ?_
      refine SW_aload_n h rfl (dt t_M_moods 12 rfl) ?_
      refine gI h cf11 o200 f11_45 lX11_379 (dt t_M_moods 13 rfl) ?_
      refine sIk h a223 (by decide) (okI ok 200 45 (IsO.n3 o200)) (dt t_M_moods 14 rfl) (SW_bm hf (fun s2 ok2 hf => ?_))
      refine SW_aload_n h rfl (dt t_M_moods 15 rfl) ?_
      refine gR h cf11 o200 f11_39 j200_39 lX11_84 (dt t_M_moods 16 rfl) ?_
      refine SW_bipush h (dt t_M_moods 17 rfl) (by decide) ?_
      refine SW_iload_n h rfl (dt t_M_moods 18 rfl) ?_
      refine sIk h a223 (by decide) hx2 (dt t_M_moods 19 rfl) (SW_bm hf (fun s3 ok3 hf => ?_))
      refine SW_aload_n h rfl (dt t_M_moods 20 rfl) ?_
      refine gR h cf11 o200 f11_39 j200_39 lX11_84 (dt t_M_moods 21 rfl) ?_
      refine SW_bipush h (dt t_M_moods 22 rfl) (by decide) ?_
      refine SW_aload_n h rfl (dt t_M_moods 23 rfl) ?_
      refine gR h cf11 o200 f11_41 j200_41 lX11_91 (dt t_M_moods 24 rfl) ?_
      refine SW_iload_n h rfl (dt t_M_moods 25 rfl) ?_
      refine aI h a225 (dt t_M_moods 26 rfl) hf (fun hf => ?_)
      refine sIk h a223 (by decide) (okI ok3 225 x2.toNat (IsA.n3 a225 (by decide))) (dt t_M_moods 27 rfl) (SW_bm hf (fun s4 ok4 hf => ?_))
      refine SW_aload_n h rfl (dt t_M_moods 28 rfl) ?_
      refine gR h cf11 o200 f11_39 j200_39 lX11_84 (dt t_M_moods 29 rfl) ?_
      refine SW_bipush h (dt t_M_moods 30 rfl) (by decide) ?_
      refine SW_aload_n h rfl (dt t_M_moods 31 rfl) ?_
      refine gR h cf11 o200 f11_42 j200_42 lX11_94 (dt t_M_moods 32 rfl) ?_
      refine SW_iload_n h rfl (dt t_M_moods 33 rfl) ?_
      refine aI h a226 (dt t_M_moods 34 rfl) hf (fun hf => ?_)
      refine sIk h a223 (by decide) (okI ok4 226 x2.toNat (IsA.n3 a226 (by decide))) (dt t_M_moods 35 rfl) (SW_bm hf (fun s5 ok5 hf => ?_))
      refine SW_aload_n h rfl (dt t_M_moods 36 rfl) ?_
      refine gR h cf11 o200 f11_39 j200_39 lX11_84 (dt t_M_moods 37 rfl) ?_
      refine SW_bipush h (dt t_M_moods 38 rfl) (by decide) ?_
      refine SW_aload_n h rfl (dt t_M_moods 39 rfl) ?_
      refine gR h cf11 o200 f11_43 j200_43 lX11_97 (dt t_M_moods 40 rfl) ?_
      refine SW_iload_n h rfl (dt t_M_moods 41 rfl) ?_
      refine aI h a227 (dt t_M_moods 42 rfl) hf (fun hf => ?_)
      refine sIk h a223 (by decide) (okI ok5 227 x2.toNat (IsA.n3 a227 (by decide))) (dt t_M_moods 43 rfl) (SW_bm hf (fun s6 ok6 hf => ?_))
      refine SW_aload_n h rfl (dt t_M_moods 44 rfl) ?_
      refine gR h cf11 o200 f11_54 j200_54 lX11_116 (dt t_M_moods 45 rfl) ?_
      refine SW_iload_n h rfl (dt t_M_moods 46 rfl) ?_
      refine SW_iload_n h rfl (dt t_M_moods 47 rfl) ?_
      refine SW_iconst h (dt t_M_moods 48 rfl) ?_
      refine bJ hf (fun J7 e7 hf => ?_)
      have k7 : ∀ (y7 : Int) (t7 : Mm) (hy7 : r32 y7) (ot7 : okM t7) (hf : J7 y7 t7 = some res), SW X 1 3 101 [some (.ref (xad X 200)), some (.int (i32 x1)), some (.int (i32 x2))] [.int (i32 y7), .int (i32 x2), .ref (xad X 233)] t7 := by
        intro y7 t7 hy7 ot7 hf
        rw [e7] at hf
        refine sI h a233 hy7 (dt t_M_moods 61 rfl) hf (fun hf => SW_bm hf (fun s8 ok8 hf => ?_))
        refine SW_iinc (lv2 := [some (.ref (xad X 200)), some (.int (i32 x1)), some (.int (i32 (x2 + 1)))]) h (dt t_M_moods 62 rfl) rfl (by decide) rfl ?_
        refine SW_goto (tgt := 8) h (dt t_M_moods 63 rfl) rfl ?_
        refine SW_chk hf (fun h9 hf => ?_)
        exact SW_fgt [true, true, true] rfl (ih (x2 + 1) s8 h9 ok8 hf)
      refine SW_icmp_ne (tgt := 90) h (fun _ => hx1) (fun _ => (by decide)) (dt t_M_moods 49 rfl) rfl hf (fun hf => ?_) (fun hf => ?_)
      · refine SW_aload_n h rfl (dt t_M_moods 50 rfl) ?_
        refine gR h cf11 o200 f11_41 j200_41 lX11_91 (dt t_M_moods 51 rfl) ?_
        refine SW_iload_n h rfl (dt t_M_moods 52 rfl) ?_
        refine aI h a225 (dt t_M_moods 53 rfl) hf (fun hf => ?_)
        refine SW_goto (tgt := 101) h (dt t_M_moods 54 rfl) rfl ?_
        exact SW_fgt [true, true, true] rfl (k7 (s6 225 x2.toNat) s6 (okI ok6 225 x2.toNat (IsA.n3 a225 (by decide))) ok6 hf)
      · refine SW_aload_n h rfl (dt t_M_moods 55 rfl) ?_
        refine SW_iload_n h rfl (dt t_M_moods 56 rfl) ?_
        obtain ⟨v10, s10, e10, hf⟩ := b1M_of hf
        refine cV h [.int (i32 x1)] [.int (i32 x2), .ref (xad X 233)] v_X11_saysOf kX11_398 o200 (c_M_saysOf x1 hx1 e10) rfl rfl (by decide) (by decide) rfl (Nat.le_of_ble_eq_true rfl) (dt t_M_moods 57 rfl) (fun h10 => ?_)
        refine SW_ok (fun ok10 => ?_)
        refine SW_iconst h (dt t_M_moods 58 rfl) ?_
        refine SW_bipush h (dt t_M_moods 59 rfl) (by decide) ?_
        obtain ⟨v11, e11, hf⟩ := b1_of hf
        refine cS h [.long (i64 v10), .int (i32 0), .int (i32 9)] [.int (i32 x2), .ref (xad X 233)] v_X11_held kX11_415 (c_M_held v10 h10 0 (by decide) 9 (by decide) e11) rfl rfl (by decide) (by decide) rfl (Nat.le_of_ble_eq_true rfl) (dt t_M_moods 60 rfl) (fun h11 => ?_)
        exact SW_fgt [true, true, true] rfl (k7 v11 s10 h11 ok10 hf)
def L_M_moods_110 : Nat → Int → Mm → Option (Mm)
  | 0, _, _ => none
  | n + 1, x2, σ =>
    if 10 ≤ x2 then
      some σ
    else
      if 0 ≤ x2 ∧ x2 < 10 then
        if 0 ≤ x2 ∧ x2 < 10 then
          bindM (st2 σ 225 x2.toNat (σ 233 x2.toNat)) fun s13 =>
          if 0 ≤ x2 ∧ x2 < 10 then
            bindM (st2 s13 227 x2.toNat 0) fun s14 =>
            if r32 (x2 + 1) then
              L_M_moods_110 n (x2 + 1) s14
            else none
          else none
        else none
      else none
set_option maxRecDepth 100000 in
set_option maxHeartbeats 4000000 in
theorem l_M_moods_110 {X : Cx} (h : CX X 1 cX11_moods 3 3 none RX11)   {res : Mm} (hex : ∀  (σ : Mm) (hz : some σ = some res)  (ok : okM σ), SW X 1 3 141 [none, none, none] [] σ) : ∀ (n : Nat) (x2 : Int) (σ : Mm) (hx2 : r32 x2) (ok : okM σ) (hf : L_M_moods_110 n x2 σ = some res), SW X 1 3 110 [some (.ref (xad X 200)), none, some (.int (i32 x2))] [] σ := by
  intro n
  induction n with
  | zero => intro x2 σ hx2 ok hf; exact absurd hf (by simp [L_M_moods_110])
  | succ n ih =>
    intro x2 σ hx2 ok hf
    rw [L_M_moods_110] at hf
    refine SW_iload_n h rfl (dt t_M_moods 66 rfl) ?_
    refine SW_bipush h (dt t_M_moods 67 rfl) (by decide) ?_
    refine SW_icmp_ge (tgt := 141) h (fun _ => hx2) (fun _ => (by decide)) (dt t_M_moods 68 rfl) rfl hf (fun hf => ?_) (fun hf => ?_)
    · exact SW_fgt [false, false, false] rfl (hex σ hf ok)
    · refine SW_aload_n h rfl (dt t_M_moods 69 rfl) ?_
      refine gR h cf11 o200 f11_41 j200_41 lX11_91 (dt t_M_moods 70 rfl) ?_
      refine SW_iload_n h rfl (dt t_M_moods 71 rfl) ?_
      refine SW_aload_n h rfl (dt t_M_moods 72 rfl) ?_
      refine gR h cf11 o200 f11_54 j200_54 lX11_116 (dt t_M_moods 73 rfl) ?_
      refine SW_iload_n h rfl (dt t_M_moods 74 rfl) ?_
      refine aI h a233 (dt t_M_moods 75 rfl) hf (fun hf => ?_)
      refine sI h a225 (okI ok 233 x2.toNat (IsA.n3 a233 (by decide))) (dt t_M_moods 76 rfl) hf (fun hf => SW_bm hf (fun s13 ok13 hf => ?_))
      refine SW_aload_n h rfl (dt t_M_moods 77 rfl) ?_
      refine gR h cf11 o200 f11_43 j200_43 lX11_97 (dt t_M_moods 78 rfl) ?_
      refine SW_iload_n h rfl (dt t_M_moods 79 rfl) ?_
      refine SW_iconst h (dt t_M_moods 80 rfl) ?_
      refine sI h a227 (by decide) (dt t_M_moods 81 rfl) hf (fun hf => SW_bm hf (fun s14 ok14 hf => ?_))
      refine SW_iinc (lv2 := [some (.ref (xad X 200)), none, some (.int (i32 (x2 + 1)))]) h (dt t_M_moods 82 rfl) rfl (by decide) rfl ?_
      refine SW_goto (tgt := 110) h (dt t_M_moods 83 rfl) rfl ?_
      refine SW_chk hf (fun h15 hf => ?_)
      exact SW_fgt [true, false, true] rfl (ih (x2 + 1) s14 h15 ok14 hf)
def F_M_moods  (σ : Mm) : Option (Mm) :=
  b1 (F_M_ordersOf 2 σ) fun v1 =>
  b0M (L_M_moods_8 LF v1 0 σ) fun s12 =>
  b0M (L_M_moods_110 LF 0 s12) fun s16 =>
  some s16
set_option maxRecDepth 100000 in
set_option maxHeartbeats 4000000 in
theorem c_M_moods  {σ : Mm} {σ2 : Mm} (hf : F_M_moods  σ = some σ2) : CT yX11_moods cX11_moods 3 none 3 1 (fun ad => [.ref (ad 200)]) σ True none σ2 := by
  refine MetJ 2 (by decide +kernel) rfl (fun _ => Nat.le_of_ble_eq_true rfl) ?_
  intro X h hR ok
  obtain ⟨res, er⟩ : ∃ z, z = σ2 := ⟨_, rfl⟩
  have hret : ∀ y : Mm, some y = some res → RX X 1 True none y := fun y e => by cases e; cases er; exact hR
  rw [← er] at hf
  clear er hR
  unfold F_M_moods at hf
  show SW X 1 3 0 [some (.ref (xad X 200)), none, none] [] σ
  refine SW_aload_n h rfl (dt t_M_moods 0 rfl) ?_
  refine SW_iconst h (dt t_M_moods 1 rfl) ?_
  obtain ⟨v1, e1, hf⟩ := b1_of hf
  refine cV h [.int (i32 2)] [] v_X11_ordersOf kX11_391 o200 (c_M_ordersOf 2 (by decide) e1) rfl rfl (by decide) (by decide) rfl (Nat.le_of_ble_eq_true rfl) (dt t_M_moods 2 rfl) (fun h1 => ?_)
  refine SW_istore_n (lv2 := [some (.ref (xad X 200)), some (.int (i32 v1)), none]) h (dt t_M_moods 3 rfl) (by decide) rfl ?_
  refine SW_iconst h (dt t_M_moods 4 rfl) ?_
  refine SW_istore_n (lv2 := [some (.ref (xad X 200)), some (.int (i32 v1)), some (.int (i32 0))]) h (dt t_M_moods 5 rfl) (by decide) rfl ?_
  obtain ⟨z12, e12, hk12⟩ := b0M_ex hf
  refine SW_fgt [true, true, true] rfl (l_M_moods_8 h v1 h1 (fun s12 hz12 ok12 => ?_) LF 0 σ (by decide) ok e12)
  have hf := hk12 s12 hz12
  refine SW_iconst h (dt t_M_moods 64 rfl) ?_
  refine SW_istore_n (lv2 := [some (.ref (xad X 200)), none, some (.int (i32 0))]) h (dt t_M_moods 65 rfl) (by decide) rfl ?_
  obtain ⟨z16, e16, hk16⟩ := b0M_ex hf
  refine SW_fgt [true, false, true] rfl (l_M_moods_110 h (fun s16 hz16 ok16 => ?_) LF 0 s12 (by decide) ok12 e16)
  have hf := hk16 s16 hz16
  exact SW_vret h (hret _ hf) rfl (dt t_M_moods 84 rfl)
def b_M_dayGoes : List (Nat × Instr × Nat) := [(0, .iconst 0, 1), (1, .istore_n 2, 1), (2, .iconst 0, 1), (3, .istore_n 3, 1), (4, .iload_n 3, 1), (5, .aload_n 0, 1), (6, .getfield 7, 3), (9, .iconst 0, 1), (10, .iaload, 1), (11, .if_icmp .ge 46, 3), (14, .aload_n 0, 1), (15, .iload_n 3, 1), (16, .invokevirtual 430, 3), (19, .istore 4, 2), (21, .iload_n 2, 1), (22, .iload 4, 2), (24, .aload_n 0, 1), (25, .invokevirtual 409, 3), (28, .if_icmp .ne 7, 3), (31, .iconst 0, 1), (32, .goto 6, 3), (35, .iconst 1, 1), (36, .iload_n 3, 1), (37, .ishl, 1), (38, .ior, 1), (39, .istore_n 2, 1), (40, .iload_n 1, 1), (41, .ifCond .eq 10, 3), (44, .aload_n 0, 1), (45, .iload_n 3, 1), (46, .iload 4, 2), (48, .invokevirtual 433, 3), (51, .iinc 3 1, 3), (54, .goto (-50), 3), (57, .aload_n 0, 1), (58, .invokevirtual 436, 3), (61, .aload_n 0, 1), (62, .dup, 1), (63, .getfield 379, 3), (66, .iconst 1, 1), (67, .iadd, 1), (68, .putfield 379, 3), (71, .iload_n 2, 1), (72, .ireturn, 1)]
theorem t_M_dayGoes : DT cX11_dayGoes b_M_dayGoes := DT.of (by decide +kernel)
def L_M_dayGoes_4 : Nat → Int → Int → Int → Mm → Option (Int × Mm)
  | 0, _, _, _, _ => none
  | n + 1, x1, x2, x3, σ =>
    if σ 201 0 ≤ x3 then
      some ((x2, σ))
    else
      b1M (F_M_reckons x3 σ) fun v1 s1 =>
      b1 (F_M_trueNow  s1) fun v2 =>
      bindM (fun (y3 : Int) =>
        bindM (fun  (t4 : Mm) =>
          if r32 (x3 + 1) then
            L_M_dayGoes_4 n x1 (ior x2 y3) (x3 + 1) t4
          else none) fun J4 =>
        if x1 = 0 then
          J4 s1
        else
          b0M (F_M_writes x3 v1 s1) fun s6 =>
          J4 s6) fun J3 =>
      if v1 = v2 then
        J3 0
      else
        J3 (ishl 1 x3)
set_option maxRecDepth 100000 in
set_option maxHeartbeats 4000000 in
theorem l_M_dayGoes_4 {X : Cx} (h : CX X 1 cX11_dayGoes 5 7 (some .int) RX11) (x1 : Int) (hx1 : r32 x1) {res : Int × Mm} (hex : ∀ (x2 : Int) (σ : Mm) (hz : some ((x2, σ)) = some res) (hx2 : r32 x2) (ok : okM σ), SW X 1 5 57 [some (.ref (xad X 200)), none, some (.int (i32 x2)), none, none] [] σ) : ∀ (n : Nat) (x2 : Int) (x3 : Int) (σ : Mm) (hx2 : r32 x2) (hx3 : r32 x3) (ok : okM σ) (hf : L_M_dayGoes_4 n x1 x2 x3 σ = some res), SW X 1 5 4 [some (.ref (xad X 200)), some (.int (i32 x1)), some (.int (i32 x2)), some (.int (i32 x3)), none] [] σ := by
  intro n
  induction n with
  | zero => intro x2 x3 σ hx2 hx3 ok hf; exact absurd hf (by simp [L_M_dayGoes_4])
  | succ n ih =>
    intro x2 x3 σ hx2 hx3 ok hf
    rw [L_M_dayGoes_4] at hf
    refine SW_iload_n h rfl (dt t_M_dayGoes 4 rfl) ?_
    refine SW_aload_n h rfl (dt t_M_dayGoes 5 rfl) ?_
    refine gR h cf11 o200 f11_0 j200_0 lX11_7 (dt t_M_dayGoes 6 rfl) ?_
    refine SW_iconst h (dt t_M_dayGoes 7 rfl) ?_
    refine aIk h a201 (by decide) (dt t_M_dayGoes 8 rfl) ?_
    refine SW_icmp_ge (tgt := 57) h (fun _ => hx3) (fun _ => (okI ok 201 0 (IsA.n3 a201 (by decide)))) (dt t_M_dayGoes 9 rfl) rfl hf (fun hf => ?_) (fun hf => ?_)
    · exact SW_fgt [true, false, true, false, false] rfl (hex x2 σ hf hx2 ok)
    · refine SW_aload_n h rfl (dt t_M_dayGoes 10 rfl) ?_
      refine SW_iload_n h rfl (dt t_M_dayGoes 11 rfl) ?_
      obtain ⟨v1, s1, e1, hf⟩ := b1M_of hf
      refine cV h [.int (i32 x3)] [] v_X11_reckons kX11_430 o200 (c_M_reckons x3 hx3 e1) rfl rfl (by decide) (by decide) rfl (Nat.le_of_ble_eq_true rfl) (dt t_M_dayGoes 12 rfl) (fun h1 => ?_)
      refine SW_ok (fun ok1 => ?_)
      refine SW_istore (lv2 := [some (.ref (xad X 200)), some (.int (i32 x1)), some (.int (i32 x2)), some (.int (i32 x3)), some (.int (i32 v1))]) h (dt t_M_dayGoes 13 rfl) (by decide) rfl ?_
      refine SW_iload_n h rfl (dt t_M_dayGoes 14 rfl) ?_
      refine SW_iload h rfl (dt t_M_dayGoes 15 rfl) ?_
      refine SW_aload_n h rfl (dt t_M_dayGoes 16 rfl) ?_
      obtain ⟨v2, e2, hf⟩ := b1_of hf
      refine cV h [] [.int (i32 v1), .int (i32 x2)] v_X11_trueNow kX11_409 o200 (c_M_trueNow  e2) rfl rfl (by decide) (by decide) rfl (Nat.le_of_ble_eq_true rfl) (dt t_M_dayGoes 17 rfl) (fun h2 => ?_)
      refine bJ hf (fun J3 e3 hf => ?_)
      have k3 : ∀ (y3 : Int) (hy3 : r32 y3) (hf : J3 y3 = some res), SW X 1 5 38 [some (.ref (xad X 200)), some (.int (i32 x1)), none, some (.int (i32 x3)), some (.int (i32 v1))] [.int (i32 y3), .int (i32 x2)] s1 := by
        intro y3 hy3 hf
        rw [e3] at hf
        refine SW_ior h (dt t_M_dayGoes 24 rfl) ?_
        refine SW_istore_n (lv2 := [some (.ref (xad X 200)), some (.int (i32 x1)), some (.int (i32 (ior x2 y3))), some (.int (i32 x3)), some (.int (i32 v1))]) h (dt t_M_dayGoes 25 rfl) (by decide) rfl ?_
        refine SW_iload_n h rfl (dt t_M_dayGoes 26 rfl) ?_
        refine bJ hf (fun J4 e4 hf => ?_)
        have k4 : ∀  (t4 : Mm)  (ot4 : okM t4) (hf : J4 t4 = some res), SW X 1 5 51 [some (.ref (xad X 200)), some (.int (i32 x1)), some (.int (i32 (ior x2 y3))), some (.int (i32 x3)), none] [] t4 := by
          intro t4 ot4 hf
          rw [e4] at hf
          refine SW_iinc (lv2 := [some (.ref (xad X 200)), some (.int (i32 x1)), some (.int (i32 (ior x2 y3))), some (.int (i32 (x3 + 1))), none]) h (dt t_M_dayGoes 32 rfl) rfl (by decide) rfl ?_
          refine SW_goto (tgt := 4) h (dt t_M_dayGoes 33 rfl) rfl ?_
          refine SW_chk hf (fun h5 hf => ?_)
          exact SW_fgt [true, true, true, true, false] rfl (ih (ior x2 y3) (x3 + 1) t4 (r_ior _ _) h5 ot4 hf)
        refine SW_if_eq (tgt := 51) h (fun _ => hx1) (dt t_M_dayGoes 27 rfl) rfl hf (fun hf => ?_) (fun hf => ?_)
        · exact SW_fgt [true, true, true, true, false] rfl (k4 s1 ok1 hf)
        · refine SW_aload_n h rfl (dt t_M_dayGoes 28 rfl) ?_
          refine SW_iload_n h rfl (dt t_M_dayGoes 29 rfl) ?_
          refine SW_iload h rfl (dt t_M_dayGoes 30 rfl) ?_
          obtain ⟨s6, e6, hf⟩ := b0M_of hf
          refine cVv h [.int (i32 x3), .int (i32 v1)] [] v_X11_writes kX11_433 o200 (c_M_writes x3 hx3 v1 h1 e6) rfl rfl (by decide) (by decide) rfl (Nat.le_of_ble_eq_true rfl) (dt t_M_dayGoes 31 rfl) (fun h6 => ?_)
          refine SW_ok (fun ok6 => ?_)
          exact SW_fgt [true, true, true, true, false] rfl (k4 s6 ok6 hf)
      refine SW_icmp_ne (tgt := 35) h (fun _ => h1) (fun _ => h2) (dt t_M_dayGoes 18 rfl) rfl hf (fun hf => ?_) (fun hf => ?_)
      · refine SW_iconst h (dt t_M_dayGoes 19 rfl) ?_
        refine SW_goto (tgt := 38) h (dt t_M_dayGoes 20 rfl) rfl ?_
        exact SW_fgt [true, true, false, true, true] rfl (k3 0 (by decide) hf)
      · refine SW_iconst h (dt t_M_dayGoes 21 rfl) ?_
        refine SW_iload_n h rfl (dt t_M_dayGoes 22 rfl) ?_
        refine SW_ishl h (dt t_M_dayGoes 23 rfl) ?_
        exact SW_fgt [true, true, false, true, true] rfl (k3 (ishl 1 x3) (r_ishl _ _) hf)
def F_M_dayGoes (x1 : Int) (σ : Mm) : Option (Int × Mm) :=
  b1M (L_M_dayGoes_4 LF x1 0 0 σ) fun x2_7 s7 =>
  b0M (F_M_moods  s7) fun s8 =>
  if r32 ((s8 200 45) + 1) then
    bindM (st2 s8 200 45 ((s8 200 45) + 1)) fun s11 =>
    some (x2_7, s11)
  else none
set_option maxRecDepth 100000 in
set_option maxHeartbeats 4000000 in
theorem c_M_dayGoes (x1 : Int) (hx1 : r32 x1) {σ : Mm} {a : Int} {σ2 : Mm} (hf : F_M_dayGoes x1 σ = some (a, σ2)) : CT yX11_dayGoes cX11_dayGoes 5 (some .int) 7 1 (fun ad => [.ref (ad 200), .int (i32 x1)]) σ (r32 a) (some (.int (i32 a))) σ2 := by
  refine MetJ 3 (by decide +kernel) rfl (fun _ => Nat.le_of_ble_eq_true rfl) ?_
  intro X h hR ok
  obtain ⟨res, er⟩ : ∃ z, z = (a, σ2) := ⟨_, rfl⟩
  have hret : ∀ y : Int × Mm, some y = some res → RX X 1 (r32 (y.1)) (some (.int (i32 (y.1)))) y.2 := fun y e => by cases e; cases er; exact hR
  rw [← er] at hf
  clear er hR
  unfold F_M_dayGoes at hf
  show SW X 1 5 0 [some (.ref (xad X 200)), some (.int (i32 x1)), none, none, none] [] σ
  refine SW_iconst h (dt t_M_dayGoes 0 rfl) ?_
  refine SW_istore_n (lv2 := [some (.ref (xad X 200)), some (.int (i32 x1)), some (.int (i32 0)), none, none]) h (dt t_M_dayGoes 1 rfl) (by decide) rfl ?_
  refine SW_iconst h (dt t_M_dayGoes 2 rfl) ?_
  refine SW_istore_n (lv2 := [some (.ref (xad X 200)), some (.int (i32 x1)), some (.int (i32 0)), some (.int (i32 0)), none]) h (dt t_M_dayGoes 3 rfl) (by decide) rfl ?_
  obtain ⟨z7, e7, hk7⟩ := b1M_ex hf
  refine SW_fgt [true, true, true, true, false] rfl (l_M_dayGoes_4 h x1 hx1 (fun x2_7 s7 hz7 hx2_7 ok7 => ?_) LF 0 0 σ (by decide) (by decide) ok e7)
  have hf := hk7 x2_7 s7 hz7
  refine SW_aload_n h rfl (dt t_M_dayGoes 34 rfl) ?_
  obtain ⟨s8, e8, hf⟩ := b0M_of hf
  refine cVv h [] [] v_X11_moods kX11_436 o200 (c_M_moods  e8) rfl rfl (by decide) (by decide) rfl (Nat.le_of_ble_eq_true rfl) (dt t_M_dayGoes 35 rfl) (fun h8 => ?_)
  refine SW_ok (fun ok8 => ?_)
  refine SW_aload_n h rfl (dt t_M_dayGoes 36 rfl) ?_
  refine SW_dup h rfl (dt t_M_dayGoes 37 rfl) ?_
  refine gI h cf11 o200 f11_45 lX11_379 (dt t_M_dayGoes 38 rfl) ?_
  refine SW_iconst h (dt t_M_dayGoes 39 rfl) ?_
  refine SW_iadd h (dt t_M_dayGoes 40 rfl) ?_
  refine SW_chk hf (fun h10 hf => ?_)
  refine pI h cf11 o200 f11_45 h10 lX11_379 (dt t_M_dayGoes 41 rfl) (SW_bm hf (fun s11 ok11 hf => ?_))
  refine SW_iload_n h rfl (dt t_M_dayGoes 42 rfl) ?_
  exact SW_iret h (hret _ hf) (fun _ => hx2_7) rfl (dt t_M_dayGoes 43 rfl)
def b_M_keepsNow : List (Nat × Instr × Nat) := [(0, .aload_n 0, 1), (1, .getfield 7, 3), (4, .sipush 180, 3), (7, .aload_n 0, 1), (8, .getfield 379, 3), (11, .iastore, 1), (12, .aload_n 0, 1), (13, .getfield 7, 3), (16, .sipush 181, 3), (19, .aload_n 0, 1), (20, .getfield 382, 3), (23, .iastore, 1), (24, .iconst 0, 1), (25, .istore_n 1, 1), (26, .iload_n 1, 1), (27, .bipush 10, 2), (29, .if_icmp .ge 57, 3), (32, .aload_n 0, 1), (33, .getfield 7, 3), (36, .sipush 140, 3), (39, .iload_n 1, 1), (40, .iadd, 1), (41, .aload_n 0, 1), (42, .getfield 91, 3), (45, .iload_n 1, 1), (46, .iaload, 1), (47, .iastore, 1), (48, .aload_n 0, 1), (49, .getfield 7, 3), (52, .sipush 150, 3), (55, .iload_n 1, 1), (56, .iadd, 1), (57, .aload_n 0, 1), (58, .getfield 94, 3), (61, .iload_n 1, 1), (62, .iaload, 1), (63, .iastore, 1), (64, .aload_n 0, 1), (65, .getfield 7, 3), (68, .sipush 160, 3), (71, .iload_n 1, 1), (72, .iadd, 1), (73, .aload_n 0, 1), (74, .getfield 97, 3), (77, .iload_n 1, 1), (78, .iaload, 1), (79, .iastore, 1), (80, .iinc 1 1, 3), (83, .goto (-57), 3), (86, .return_, 1)]
theorem t_M_keepsNow : DT cX11_keepsNow b_M_keepsNow := DT.of (by decide +kernel)
def L_M_keepsNow_26 : Nat → Int → Mm → Option (Mm)
  | 0, _, _ => none
  | n + 1, x1, σ =>
    if 10 ≤ x1 then
      some σ
    else
      if 0 ≤ x1 ∧ x1 < 10 then
        if 0 ≤ 140 + x1 ∧ 140 + x1 < 5240 then
          bindM (st2 σ 201 ((140 + x1).toNat) (σ 225 x1.toNat)) fun s3 =>
          if 0 ≤ x1 ∧ x1 < 10 then
            if 0 ≤ 150 + x1 ∧ 150 + x1 < 5240 then
              bindM (st2 s3 201 ((150 + x1).toNat) (s3 226 x1.toNat)) fun s4 =>
              if 0 ≤ x1 ∧ x1 < 10 then
                if 0 ≤ 160 + x1 ∧ 160 + x1 < 5240 then
                  bindM (st2 s4 201 ((160 + x1).toNat) (s4 227 x1.toNat)) fun s5 =>
                  if r32 (x1 + 1) then
                    L_M_keepsNow_26 n (x1 + 1) s5
                  else none
                else none
              else none
            else none
          else none
        else none
      else none
set_option maxRecDepth 100000 in
set_option maxHeartbeats 4000000 in
theorem l_M_keepsNow_26 {X : Cx} (h : CX X 1 cX11_keepsNow 2 0 none RX11)   {res : Mm} (hex : ∀  (σ : Mm) (hz : some σ = some res)  (ok : okM σ), SW X 1 2 86 [none, none] [] σ) : ∀ (n : Nat) (x1 : Int) (σ : Mm) (hx1 : r32 x1) (ok : okM σ) (hf : L_M_keepsNow_26 n x1 σ = some res), SW X 1 2 26 [some (.ref (xad X 200)), some (.int (i32 x1))] [] σ := by
  intro n
  induction n with
  | zero => intro x1 σ hx1 ok hf; exact absurd hf (by simp [L_M_keepsNow_26])
  | succ n ih =>
    intro x1 σ hx1 ok hf
    rw [L_M_keepsNow_26] at hf
    refine SW_iload_n h rfl (dt t_M_keepsNow 14 rfl) ?_
    refine SW_bipush h (dt t_M_keepsNow 15 rfl) (by decide) ?_
    refine SW_icmp_ge (tgt := 86) h (fun _ => hx1) (fun _ => (by decide)) (dt t_M_keepsNow 16 rfl) rfl hf (fun hf => ?_) (fun hf => ?_)
    · exact SW_fgt [false, false] rfl (hex σ hf ok)
    · refine SW_aload_n h rfl (dt t_M_keepsNow 17 rfl) ?_
      refine gR h cf11 o200 f11_0 j200_0 lX11_7 (dt t_M_keepsNow 18 rfl) ?_
      refine SW_sipush h (dt t_M_keepsNow 19 rfl) (by decide) ?_
      refine SW_iload_n h rfl (dt t_M_keepsNow 20 rfl) ?_
      refine SW_iadd h (dt t_M_keepsNow 21 rfl) ?_
      refine SW_aload_n h rfl (dt t_M_keepsNow 22 rfl) ?_
      refine gR h cf11 o200 f11_41 j200_41 lX11_91 (dt t_M_keepsNow 23 rfl) ?_
      refine SW_iload_n h rfl (dt t_M_keepsNow 24 rfl) ?_
      refine aI h a225 (dt t_M_keepsNow 25 rfl) hf (fun hf => ?_)
      refine sI h a201 (okI ok 225 x1.toNat (IsA.n3 a225 (by decide))) (dt t_M_keepsNow 26 rfl) hf (fun hf => SW_bm hf (fun s3 ok3 hf => ?_))
      refine SW_aload_n h rfl (dt t_M_keepsNow 27 rfl) ?_
      refine gR h cf11 o200 f11_0 j200_0 lX11_7 (dt t_M_keepsNow 28 rfl) ?_
      refine SW_sipush h (dt t_M_keepsNow 29 rfl) (by decide) ?_
      refine SW_iload_n h rfl (dt t_M_keepsNow 30 rfl) ?_
      refine SW_iadd h (dt t_M_keepsNow 31 rfl) ?_
      refine SW_aload_n h rfl (dt t_M_keepsNow 32 rfl) ?_
      refine gR h cf11 o200 f11_42 j200_42 lX11_94 (dt t_M_keepsNow 33 rfl) ?_
      refine SW_iload_n h rfl (dt t_M_keepsNow 34 rfl) ?_
      refine aI h a226 (dt t_M_keepsNow 35 rfl) hf (fun hf => ?_)
      refine sI h a201 (okI ok3 226 x1.toNat (IsA.n3 a226 (by decide))) (dt t_M_keepsNow 36 rfl) hf (fun hf => SW_bm hf (fun s4 ok4 hf => ?_))
      refine SW_aload_n h rfl (dt t_M_keepsNow 37 rfl) ?_
      refine gR h cf11 o200 f11_0 j200_0 lX11_7 (dt t_M_keepsNow 38 rfl) ?_
      refine SW_sipush h (dt t_M_keepsNow 39 rfl) (by decide) ?_
      refine SW_iload_n h rfl (dt t_M_keepsNow 40 rfl) ?_
      refine SW_iadd h (dt t_M_keepsNow 41 rfl) ?_
      refine SW_aload_n h rfl (dt t_M_keepsNow 42 rfl) ?_
      refine gR h cf11 o200 f11_43 j200_43 lX11_97 (dt t_M_keepsNow 43 rfl) ?_
      refine SW_iload_n h rfl (dt t_M_keepsNow 44 rfl) ?_
      refine aI h a227 (dt t_M_keepsNow 45 rfl) hf (fun hf => ?_)
      refine sI h a201 (okI ok4 227 x1.toNat (IsA.n3 a227 (by decide))) (dt t_M_keepsNow 46 rfl) hf (fun hf => SW_bm hf (fun s5 ok5 hf => ?_))
      refine SW_iinc (lv2 := [some (.ref (xad X 200)), some (.int (i32 (x1 + 1)))]) h (dt t_M_keepsNow 47 rfl) rfl (by decide) rfl ?_
      refine SW_goto (tgt := 26) h (dt t_M_keepsNow 48 rfl) rfl ?_
      refine SW_chk hf (fun h6 hf => ?_)
      exact SW_fgt [true, true] rfl (ih (x1 + 1) s5 h6 ok5 hf)
def F_M_keepsNow  (σ : Mm) : Option (Mm) :=
  bindM (st2 σ 201 180 (σ 200 45)) fun s1 =>
  bindM (st2 s1 201 181 (s1 200 46)) fun s2 =>
  b0M (L_M_keepsNow_26 LF 0 s2) fun s7 =>
  some s7
set_option maxRecDepth 100000 in
set_option maxHeartbeats 4000000 in
theorem c_M_keepsNow  {σ : Mm} {σ2 : Mm} (hf : F_M_keepsNow  σ = some σ2) : CT yX11_keepsNow cX11_keepsNow 2 none 0 1 (fun ad => [.ref (ad 200)]) σ True none σ2 := by
  refine MetJ 1 (by decide +kernel) rfl (fun _ => Nat.le_of_ble_eq_true rfl) ?_
  intro X h hR ok
  obtain ⟨res, er⟩ : ∃ z, z = σ2 := ⟨_, rfl⟩
  have hret : ∀ y : Mm, some y = some res → RX X 1 True none y := fun y e => by cases e; cases er; exact hR
  rw [← er] at hf
  clear er hR
  unfold F_M_keepsNow at hf
  show SW X 1 2 0 [some (.ref (xad X 200)), none] [] σ
  refine SW_aload_n h rfl (dt t_M_keepsNow 0 rfl) ?_
  refine gR h cf11 o200 f11_0 j200_0 lX11_7 (dt t_M_keepsNow 1 rfl) ?_
  refine SW_sipush h (dt t_M_keepsNow 2 rfl) (by decide) ?_
  refine SW_aload_n h rfl (dt t_M_keepsNow 3 rfl) ?_
  refine gI h cf11 o200 f11_45 lX11_379 (dt t_M_keepsNow 4 rfl) ?_
  refine sIk h a201 (by decide) (okI ok 200 45 (IsO.n3 o200)) (dt t_M_keepsNow 5 rfl) (SW_bm hf (fun s1 ok1 hf => ?_))
  refine SW_aload_n h rfl (dt t_M_keepsNow 6 rfl) ?_
  refine gR h cf11 o200 f11_0 j200_0 lX11_7 (dt t_M_keepsNow 7 rfl) ?_
  refine SW_sipush h (dt t_M_keepsNow 8 rfl) (by decide) ?_
  refine SW_aload_n h rfl (dt t_M_keepsNow 9 rfl) ?_
  refine gI h cf11 o200 f11_46 lX11_382 (dt t_M_keepsNow 10 rfl) ?_
  refine sIk h a201 (by decide) (okI ok1 200 46 (IsO.n3 o200)) (dt t_M_keepsNow 11 rfl) (SW_bm hf (fun s2 ok2 hf => ?_))
  refine SW_iconst h (dt t_M_keepsNow 12 rfl) ?_
  refine SW_istore_n (lv2 := [some (.ref (xad X 200)), some (.int (i32 0))]) h (dt t_M_keepsNow 13 rfl) (by decide) rfl ?_
  obtain ⟨z7, e7, hk7⟩ := b0M_ex hf
  refine SW_fgt [true, true] rfl (l_M_keepsNow_26 h (fun s7 hz7 ok7 => ?_) LF 0 s2 (by decide) ok2 e7)
  have hf := hk7 s7 hz7
  exact SW_vret h (hret _ hf) rfl (dt t_M_keepsNow 49 rfl)
def b_M_many : List (Nat × Instr × Nat) := [(0, .iconst 0, 1), (1, .istore_n 1, 1), (2, .iload_n 0, 1), (3, .istore_n 2, 1), (4, .iload_n 2, 1), (5, .ifCond .eq 16, 3), (8, .iload_n 1, 1), (9, .iload_n 2, 1), (10, .iconst 1, 1), (11, .iand, 1), (12, .iadd, 1), (13, .istore_n 1, 1), (14, .iload_n 2, 1), (15, .iconst 1, 1), (16, .ishr, 1), (17, .istore_n 2, 1), (18, .goto (-14), 3), (21, .iload_n 1, 1), (22, .ireturn, 1)]
theorem t_M_many : DT cX11_many b_M_many := DT.of (by decide +kernel)
def L_M_many_4 : Nat → Int → Int → Option (Int)
  | 0, _, _ => none
  | n + 1, x1, x2 =>
    if x2 = 0 then
      some x1
    else
      bindM (x1 + (iand x2 1)) fun v1 =>
      if r32 v1 then
        L_M_many_4 n v1 (ishr x2 1)
      else none
set_option maxRecDepth 100000 in
set_option maxHeartbeats 4000000 in
theorem l_M_many_4 {X : Cx} (h : CX X 1 cX11_many 3 0 (some .int) RX11)  (σ : Mm)  (ok : okM σ) {res : Int} (hex : ∀ (x1 : Int) (hz : some x1 = some res) (hx1 : r32 x1), SW X 1 3 21 [none, some (.int (i32 x1)), none] [] σ) : ∀ (n : Nat) (x1 : Int) (x2 : Int) (hx1 : r32 x1) (hx2 : r32 x2) (hf : L_M_many_4 n x1 x2 = some res), SW X 1 3 4 [none, some (.int (i32 x1)), some (.int (i32 x2))] [] σ := by
  intro n
  induction n with
  | zero => intro x1 x2 hx1 hx2 hf; exact absurd hf (by simp [L_M_many_4])
  | succ n ih =>
    intro x1 x2 hx1 hx2 hf
    rw [L_M_many_4] at hf
    refine SW_iload_n h rfl (dt t_M_many 4 rfl) ?_
    refine SW_if_eq (tgt := 21) h (fun _ => hx2) (dt t_M_many 5 rfl) rfl hf (fun hf => ?_) (fun hf => ?_)
    · exact SW_fgt [false, true, false] rfl (hex x1 hf hx1)
    · refine SW_iload_n h rfl (dt t_M_many 6 rfl) ?_
      refine SW_iload_n h rfl (dt t_M_many 7 rfl) ?_
      refine SW_iconst h (dt t_M_many 8 rfl) ?_
      refine SW_iand h (dt t_M_many 9 rfl) ?_
      refine SW_iadd h (dt t_M_many 10 rfl) ?_
      refine SW_vu hf (fun v1 hf => ?_)
      refine SW_istore_n (lv2 := [none, some (.int (i32 v1)), some (.int (i32 x2))]) h (dt t_M_many 11 rfl) (by decide) rfl ?_
      refine SW_iload_n h rfl (dt t_M_many 12 rfl) ?_
      refine SW_iconst h (dt t_M_many 13 rfl) ?_
      refine SW_ishr h (dt t_M_many 14 rfl) ?_
      refine SW_istore_n (lv2 := [none, some (.int (i32 v1)), some (.int (i32 (ishr x2 1)))]) h (dt t_M_many 15 rfl) (by decide) rfl ?_
      refine SW_goto (tgt := 4) h (dt t_M_many 16 rfl) rfl ?_
      refine SW_chk hf (fun h2 hf => ?_)
      exact SW_fgt [false, true, true] rfl (ih v1 (ishr x2 1) h2 (r_ishr _ _) hf)
def F_M_many (x0 : Int) : Option (Int) :=
  b1 (L_M_many_4 LF 0 x0) fun x1_3 =>
  some x1_3
set_option maxRecDepth 100000 in
set_option maxHeartbeats 4000000 in
theorem c_M_many (x0 : Int) (hx0 : r32 x0) {σ : Mm} {a : Int} (hf : F_M_many x0 = some a) : CT yX11_many cX11_many 3 (some .int) 0 1 (fun ad => [.int (i32 x0)]) σ (r32 a) (some (.int (i32 a))) σ := by
  refine MetJ 2 (by decide +kernel) rfl (fun _ => Nat.le_of_ble_eq_true rfl) ?_
  intro X h hR ok
  obtain ⟨res, er⟩ : ∃ z, z = a := ⟨_, rfl⟩
  have hret : ∀ y : Int, some y = some res → RX X 1 (r32 (y)) (some (.int (i32 (y)))) σ := fun y e => by cases e; cases er; exact hR
  rw [← er] at hf
  clear er hR
  unfold F_M_many at hf
  show SW X 1 3 0 [some (.int (i32 x0)), none, none] [] σ
  refine SW_iconst h (dt t_M_many 0 rfl) ?_
  refine SW_istore_n (lv2 := [some (.int (i32 x0)), some (.int (i32 0)), none]) h (dt t_M_many 1 rfl) (by decide) rfl ?_
  refine SW_iload_n h rfl (dt t_M_many 2 rfl) ?_
  refine SW_istore_n (lv2 := [some (.int (i32 x0)), some (.int (i32 0)), some (.int (i32 x0))]) h (dt t_M_many 3 rfl) (by decide) rfl ?_
  obtain ⟨z3, e3, hk3⟩ := b1_ex hf
  refine SW_fgt [false, true, true] rfl (l_M_many_4 h σ ok (fun x1_3 hz3 hx1_3 => ?_) LF 0 x0 (by decide) hx0 e3)
  have hf := hk3 x1_3 hz3
  refine SW_iload_n h rfl (dt t_M_many 17 rfl) ?_
  exact SW_iret h (hret _ hf) (fun _ => hx1_3) rfl (dt t_M_many 18 rfl)
def b_M_dayDone : List (Nat × Instr × Nat) := [(0, .aload_n 0, 1), (1, .invokevirtual 446, 3), (4, .aload_n 0, 1), (5, .iconst 1, 1), (6, .invokevirtual 452, 3), (9, .istore_n 1, 1), (10, .aload_n 0, 1), (11, .invokevirtual 449, 3), (14, .iload_n 1, 1), (15, .invokestatic 456, 3), (18, .ireturn, 1)]
theorem t_M_dayDone : DT cX11_dayDone b_M_dayDone := DT.of (by decide +kernel)
def F_M_dayDone  (σ : Mm) : Option (Int × Mm) :=
  b0M (F_M_laysNow  σ) fun s1 =>
  b1M (F_M_dayGoes 1 s1) fun v2 s2 =>
  b0M (F_M_keepsNow  s2) fun s3 =>
  b1 (F_M_many v2) fun v4 =>
  some (v4, s3)
set_option maxRecDepth 100000 in
set_option maxHeartbeats 4000000 in
theorem c_M_dayDone  {σ : Mm} {a : Int} {σ2 : Mm} (hf : F_M_dayDone  σ = some (a, σ2)) : CT yX11_dayDone cX11_dayDone 2 (some .int) 8 1 (fun ad => [.ref (ad 200)]) σ (r32 a) (some (.int (i32 a))) σ2 := by
  refine MetJ 1 (by decide +kernel) rfl (fun _ => Nat.le_of_ble_eq_true rfl) ?_
  intro X h hR ok
  obtain ⟨res, er⟩ : ∃ z, z = (a, σ2) := ⟨_, rfl⟩
  have hret : ∀ y : Int × Mm, some y = some res → RX X 1 (r32 (y.1)) (some (.int (i32 (y.1)))) y.2 := fun y e => by cases e; cases er; exact hR
  rw [← er] at hf
  clear er hR
  unfold F_M_dayDone at hf
  show SW X 1 2 0 [some (.ref (xad X 200)), none] [] σ
  refine SW_aload_n h rfl (dt t_M_dayDone 0 rfl) ?_
  obtain ⟨s1, e1, hf⟩ := b0M_of hf
  refine cVv h [] [] v_X11_laysNow kX11_446 o200 (c_M_laysNow  e1) rfl rfl (by decide) (by decide) rfl (Nat.le_of_ble_eq_true rfl) (dt t_M_dayDone 1 rfl) (fun h1 => ?_)
  refine SW_ok (fun ok1 => ?_)
  refine SW_aload_n h rfl (dt t_M_dayDone 2 rfl) ?_
  refine SW_iconst h (dt t_M_dayDone 3 rfl) ?_
  obtain ⟨v2, s2, e2, hf⟩ := b1M_of hf
  refine cV h [.int (i32 1)] [] v_X11_dayGoes kX11_452 o200 (c_M_dayGoes 1 (by decide) e2) rfl rfl (by decide) (by decide) rfl (Nat.le_of_ble_eq_true rfl) (dt t_M_dayDone 4 rfl) (fun h2 => ?_)
  refine SW_ok (fun ok2 => ?_)
  refine SW_istore_n (lv2 := [some (.ref (xad X 200)), some (.int (i32 v2))]) h (dt t_M_dayDone 5 rfl) (by decide) rfl ?_
  refine SW_aload_n h rfl (dt t_M_dayDone 6 rfl) ?_
  obtain ⟨s3, e3, hf⟩ := b0M_of hf
  refine cVv h [] [] v_X11_keepsNow kX11_449 o200 (c_M_keepsNow  e3) rfl rfl (by decide) (by decide) rfl (Nat.le_of_ble_eq_true rfl) (dt t_M_dayDone 7 rfl) (fun h3 => ?_)
  refine SW_ok (fun ok3 => ?_)
  refine SW_iload_n h rfl (dt t_M_dayDone 8 rfl) ?_
  obtain ⟨v4, e4, hf⟩ := b1_of hf
  refine cS h [.int (i32 v2)] [] v_X11_many kX11_456 (c_M_many v2 h2 e4) rfl rfl (by decide) (by decide) rfl (Nat.le_of_ble_eq_true rfl) (dt t_M_dayDone 9 rfl) (fun h4 => ?_)
  exact SW_iret h (hret _ hf) (fun _ => h4) rfl (dt t_M_dayDone 10 rfl)
def b_M_day : List (Nat × Instr × Nat) := [(0, .iload_n 1, 1), (1, .iconst 1, 1), (2, .bipush 60, 2), (4, .invokestatic 150, 3), (7, .ifCond .eq 19, 3), (10, .aload_n 0, 1), (11, .getfield 7, 3), (14, .sipush 180, 3), (17, .iaload, 1), (18, .iload_n 1, 1), (19, .iadd, 1), (20, .sipush 999, 3), (23, .if_icmp .le 7, 3), (26, .ldc_w 459, 3), (29, .ireturn, 1), (30, .iconst 0, 1), (31, .istore_n 2, 1), (32, .iload_n 2, 1), (33, .iload_n 1, 1), (34, .if_icmp .ge 18, 3), (37, .aload_n 0, 1), (38, .invokevirtual 443, 3), (41, .aload_n 0, 1), (42, .invokevirtual 460, 3), (45, .istore_n 3, 1), (46, .iinc 2 1, 3), (49, .goto (-17), 3), (52, .aload_n 0, 1), (53, .getfield 7, 3), (56, .sipush 181, 3), (59, .iaload, 1), (60, .ireturn, 1)]
theorem t_M_day : DT cX11_day b_M_day := DT.of (by decide +kernel)
def L_M_day_32 : Nat → Int → Int → Mm → Option (Mm)
  | 0, _, _, _ => none
  | n + 1, x1, x2, σ =>
    if x1 ≤ x2 then
      some σ
    else
      b0M (F_M_keepsStep  σ) fun s3 =>
      b1M (F_M_dayDone  s3) fun v4 s4 =>
      if r32 (x2 + 1) then
        L_M_day_32 n x1 (x2 + 1) s4
      else none
set_option maxRecDepth 100000 in
set_option maxHeartbeats 4000000 in
theorem l_M_day_32 {X : Cx} (h : CX X 1 cX11_day 4 9 (some .int) RX11) (x1 : Int) (hx1 : r32 x1) {res : Mm} (hex : ∀  (σ : Mm) (hz : some σ = some res)  (ok : okM σ), SW X 1 4 52 [some (.ref (xad X 200)), none, none, none] [] σ) : ∀ (n : Nat) (x2 : Int) (σ : Mm) (hx2 : r32 x2) (ok : okM σ) (hf : L_M_day_32 n x1 x2 σ = some res), SW X 1 4 32 [some (.ref (xad X 200)), some (.int (i32 x1)), some (.int (i32 x2)), none] [] σ := by
  intro n
  induction n with
  | zero => intro x2 σ hx2 ok hf; exact absurd hf (by simp [L_M_day_32])
  | succ n ih =>
    intro x2 σ hx2 ok hf
    rw [L_M_day_32] at hf
    refine SW_iload_n h rfl (dt t_M_day 17 rfl) ?_
    refine SW_iload_n h rfl (dt t_M_day 18 rfl) ?_
    refine SW_icmp_ge (tgt := 52) h (fun _ => hx2) (fun _ => hx1) (dt t_M_day 19 rfl) rfl hf (fun hf => ?_) (fun hf => ?_)
    · exact SW_fgt [true, false, false, false] rfl (hex σ hf ok)
    · refine SW_aload_n h rfl (dt t_M_day 20 rfl) ?_
      obtain ⟨s3, e3, hf⟩ := b0M_of hf
      refine cVv h [] [] v_X11_keepsStep kX11_443 o200 (c_M_keepsStep  e3) rfl rfl (by decide) (by decide) rfl (Nat.le_of_ble_eq_true rfl) (dt t_M_day 21 rfl) (fun h3 => ?_)
      refine SW_ok (fun ok3 => ?_)
      refine SW_aload_n h rfl (dt t_M_day 22 rfl) ?_
      obtain ⟨v4, s4, e4, hf⟩ := b1M_of hf
      refine cV h [] [] v_X11_dayDone kX11_460 o200 (c_M_dayDone  e4) rfl rfl (by decide) (by decide) rfl (Nat.le_of_ble_eq_true rfl) (dt t_M_day 23 rfl) (fun h4 => ?_)
      refine SW_ok (fun ok4 => ?_)
      refine SW_istore_n (lv2 := [some (.ref (xad X 200)), some (.int (i32 x1)), some (.int (i32 x2)), some (.int (i32 v4))]) h (dt t_M_day 24 rfl) (by decide) rfl ?_
      refine SW_iinc (lv2 := [some (.ref (xad X 200)), some (.int (i32 x1)), some (.int (i32 (x2 + 1))), some (.int (i32 v4))]) h (dt t_M_day 25 rfl) rfl (by decide) rfl ?_
      refine SW_goto (tgt := 32) h (dt t_M_day 26 rfl) rfl ?_
      refine SW_chk hf (fun h5 hf => ?_)
      exact SW_fgt [true, true, true, false] rfl (ih (x2 + 1) s4 h5 ok4 hf)
def F_M_day (x1 : Int) (σ : Mm) : Option (Int × Mm) :=
  b1 (F_M_in x1 1 60) fun v1 =>
  if v1 = 0 then
    some ((-10000000), σ)
  else
    if r32 ((σ 201 180) + x1) then
      if (σ 201 180) + x1 ≤ 999 then
        b0M (L_M_day_32 LF x1 0 σ) fun s6 =>
        some (s6 201 181, s6)
      else
        some ((-10000000), σ)
    else none
set_option maxRecDepth 100000 in
set_option maxHeartbeats 4000000 in
theorem c_M_day (x1 : Int) (hx1 : r32 x1) {σ : Mm} {a : Int} {σ2 : Mm} (hf : F_M_day x1 σ = some (a, σ2)) : CT yX11_day cX11_day 4 (some .int) 9 1 (fun ad => [.ref (ad 200), .int (i32 x1)]) σ (r32 a) (some (.int (i32 a))) σ2 := by
  refine MetJ 2 (by decide +kernel) rfl (fun _ => Nat.le_of_ble_eq_true rfl) ?_
  intro X h hR ok
  obtain ⟨res, er⟩ : ∃ z, z = (a, σ2) := ⟨_, rfl⟩
  have hret : ∀ y : Int × Mm, some y = some res → RX X 1 (r32 (y.1)) (some (.int (i32 (y.1)))) y.2 := fun y e => by cases e; cases er; exact hR
  rw [← er] at hf
  clear er hR
  unfold F_M_day at hf
  show SW X 1 4 0 [some (.ref (xad X 200)), some (.int (i32 x1)), none, none] [] σ
  refine SW_iload_n h rfl (dt t_M_day 0 rfl) ?_
  refine SW_iconst h (dt t_M_day 1 rfl) ?_
  refine SW_bipush h (dt t_M_day 2 rfl) (by decide) ?_
  obtain ⟨v1, e1, hf⟩ := b1_of hf
  refine cS h [.int (i32 x1), .int (i32 1), .int (i32 60)] [] v_X11_in kX11_150 (c_M_in x1 hx1 1 (by decide) 60 (by decide) e1) rfl rfl (by decide) (by decide) rfl (Nat.le_of_ble_eq_true rfl) (dt t_M_day 3 rfl) (fun h1 => ?_)
  refine SW_if_eq (tgt := 26) h (fun _ => (r_zo h1)) (dt t_M_day 4 rfl) rfl hf (fun hf => ?_) (fun hf => ?_)
  · refine SW_ldcw (n := -10000000) h nX11_459 (by decide) (dt t_M_day 13 rfl) ?_
    exact SW_iret h (hret _ hf) (fun _ => (by decide)) rfl (dt t_M_day 14 rfl)
  · refine SW_aload_n h rfl (dt t_M_day 5 rfl) ?_
    refine gR h cf11 o200 f11_0 j200_0 lX11_7 (dt t_M_day 6 rfl) ?_
    refine SW_sipush h (dt t_M_day 7 rfl) (by decide) ?_
    refine aIk h a201 (by decide) (dt t_M_day 8 rfl) ?_
    refine SW_iload_n h rfl (dt t_M_day 9 rfl) ?_
    refine SW_iadd h (dt t_M_day 10 rfl) ?_
    refine SW_sipush h (dt t_M_day 11 rfl) (by decide) ?_
    refine SW_chk hf (fun h2 hf => ?_)
    refine SW_icmp_le (tgt := 30) h (fun _ => h2) (fun _ => (by decide)) (dt t_M_day 12 rfl) rfl hf (fun hf => ?_) (fun hf => ?_)
    · refine SW_iconst h (dt t_M_day 15 rfl) ?_
      refine SW_istore_n (lv2 := [some (.ref (xad X 200)), some (.int (i32 x1)), some (.int (i32 0)), none]) h (dt t_M_day 16 rfl) (by decide) rfl ?_
      obtain ⟨z6, e6, hk6⟩ := b0M_ex hf
      refine SW_fgt [true, true, true, false] rfl (l_M_day_32 h x1 hx1 (fun s6 hz6 ok6 => ?_) LF 0 σ (by decide) ok e6)
      have hf := hk6 s6 hz6
      refine SW_aload_n h rfl (dt t_M_day 27 rfl) ?_
      refine gR h cf11 o200 f11_0 j200_0 lX11_7 (dt t_M_day 28 rfl) ?_
      refine SW_sipush h (dt t_M_day 29 rfl) (by decide) ?_
      refine aIk h a201 (by decide) (dt t_M_day 30 rfl) ?_
      exact SW_iret h (hret _ hf) (fun _ => (okI ok6 201 181 (IsA.n3 a201 (by decide)))) rfl (dt t_M_day 31 rfl)
    · refine SW_ldcw (n := -10000000) h nX11_459 (by decide) (dt t_M_day 13 rfl) ?_
      exact SW_iret h (hret _ hf) (fun _ => (by decide)) rfl (dt t_M_day 14 rfl)
def b_M_days : List (Nat × Instr × Nat) := [(0, .iconst 0, 1), (1, .istore_n 2, 1), (2, .iload_n 2, 1), (3, .iload_n 1, 1), (4, .if_icmp .ge 22, 3), (7, .aload_n 0, 1), (8, .iconst 1, 1), (9, .invokevirtual 475, 3), (12, .ldc_w 459, 3), (15, .if_icmp .ne 5, 3), (18, .iconst 0, 1), (19, .ireturn, 1), (20, .iinc 2 1, 3), (23, .goto (-21), 3), (26, .iconst 1, 1), (27, .ireturn, 1)]
theorem t_M_days : DT cX11_days b_M_days := DT.of (by decide +kernel)
def L_M_days_2 : Nat → Int → Int → Mm → Option ((Int × Mm) ⊕ (Mm))
  | 0, _, _, _ => none
  | n + 1, x1, x2, σ =>
    if x1 ≤ x2 then
      some (.inr σ)
    else
      b1M (F_M_day 1 σ) fun v1 s1 =>
      if v1 = (-10000000) then
        some (.inl (0, s1))
      else
        if r32 (x2 + 1) then
          L_M_days_2 n x1 (x2 + 1) s1
        else none
set_option maxRecDepth 100000 in
set_option maxHeartbeats 4000000 in
theorem l_M_days_2 {X : Cx} (h : CX X 1 cX11_days 3 10 (some .boolean) RX11) (x1 : Int) (hx1 : r32 x1) {res : (Int × Mm) ⊕ (Mm)} (hret : ∀ y : Int × Mm, some (.inl y) = some res → RX X 1 (y.1 = 0 ∨ y.1 = 1) (some (.int (i32 (y.1)))) y.2) (hex : ∀  (σ : Mm) (hz : some (.inr σ) = some res)  (ok : okM σ), SW X 1 3 26 [none, none, none] [] σ) : ∀ (n : Nat) (x2 : Int) (σ : Mm) (hx2 : r32 x2) (ok : okM σ) (hf : L_M_days_2 n x1 x2 σ = some res), SW X 1 3 2 [some (.ref (xad X 200)), some (.int (i32 x1)), some (.int (i32 x2))] [] σ := by
  intro n
  induction n with
  | zero => intro x2 σ hx2 ok hf; exact absurd hf (by simp [L_M_days_2])
  | succ n ih =>
    intro x2 σ hx2 ok hf
    rw [L_M_days_2] at hf
    refine SW_iload_n h rfl (dt t_M_days 2 rfl) ?_
    refine SW_iload_n h rfl (dt t_M_days 3 rfl) ?_
    refine SW_icmp_ge (tgt := 26) h (fun _ => hx2) (fun _ => hx1) (dt t_M_days 4 rfl) rfl hf (fun hf => ?_) (fun hf => ?_)
    · exact SW_fgt [false, false, false] rfl (hex σ hf ok)
    · refine SW_aload_n h rfl (dt t_M_days 5 rfl) ?_
      refine SW_iconst h (dt t_M_days 6 rfl) ?_
      obtain ⟨v1, s1, e1, hf⟩ := b1M_of hf
      refine cV h [.int (i32 1)] [] v_X11_day kX11_475 o200 (c_M_day 1 (by decide) e1) rfl rfl (by decide) (by decide) rfl (Nat.le_of_ble_eq_true rfl) (dt t_M_days 7 rfl) (fun h1 => ?_)
      refine SW_ok (fun ok1 => ?_)
      refine SW_ldcw (n := -10000000) h nX11_459 (by decide) (dt t_M_days 8 rfl) ?_
      refine SW_icmp_ne (tgt := 20) h (fun _ => h1) (fun _ => (by decide)) (dt t_M_days 9 rfl) rfl hf (fun hf => ?_) (fun hf => ?_)
      · refine SW_iconst h (dt t_M_days 10 rfl) ?_
        exact SW_zret h (hret _ hf) (by decide) rfl (dt t_M_days 11 rfl)
      · refine SW_iinc (lv2 := [some (.ref (xad X 200)), some (.int (i32 x1)), some (.int (i32 (x2 + 1)))]) h (dt t_M_days 12 rfl) rfl (by decide) rfl ?_
        refine SW_goto (tgt := 2) h (dt t_M_days 13 rfl) rfl ?_
        refine SW_chk hf (fun h2 hf => ?_)
        exact SW_fgt [true, true, true] rfl (ih (x2 + 1) s1 h2 ok1 hf)
def F_M_days (x1 : Int) (σ : Mm) : Option (Int × Mm) :=
  b0MS (L_M_days_2 LF x1 0 σ) (fun y => some y) fun s3 =>
  some (1, s3)
set_option maxRecDepth 100000 in
set_option maxHeartbeats 4000000 in
theorem c_M_days (x1 : Int) (hx1 : r32 x1) {σ : Mm} {a : Int} {σ2 : Mm} (hf : F_M_days x1 σ = some (a, σ2)) : CT yX11_days cX11_days 3 (some .boolean) 10 1 (fun ad => [.ref (ad 200), .int (i32 x1)]) σ (a = 0 ∨ a = 1) (some (.int (i32 a))) σ2 := by
  refine MetJ 1 (by decide +kernel) rfl (fun _ => Nat.le_of_ble_eq_true rfl) ?_
  intro X h hR ok
  obtain ⟨res, er⟩ : ∃ z, z = (a, σ2) := ⟨_, rfl⟩
  have hret : ∀ y : Int × Mm, some y = some res → RX X 1 (y.1 = 0 ∨ y.1 = 1) (some (.int (i32 (y.1)))) y.2 := fun y e => by cases e; cases er; exact hR
  rw [← er] at hf
  clear er hR
  unfold F_M_days at hf
  show SW X 1 3 0 [some (.ref (xad X 200)), some (.int (i32 x1)), none] [] σ
  refine SW_iconst h (dt t_M_days 0 rfl) ?_
  refine SW_istore_n (lv2 := [some (.ref (xad X 200)), some (.int (i32 x1)), some (.int (i32 0))]) h (dt t_M_days 1 rfl) (by decide) rfl ?_
  obtain ⟨z3, e3, g3, hk3⟩ := b0MS_of hf
  refine SW_fgt [true, true, true] rfl (l_M_days_2 h x1 hx1 (fun y e => hret y (g3 y (Option.some.inj e).symm)) (fun s3 hz3 ok3 => ?_) LF 0 σ (by decide) ok e3)
  have hf := hk3 s3 (Option.some.inj hz3).symm
  refine SW_iconst h (dt t_M_days 14 rfl) ?_
  exact SW_zret h (hret _ hf) (by decide) rfl (dt t_M_days 15 rfl)
def b_M_isBank : List (Nat × Instr × Nat) := [(0, .iload_n 0, 1), (1, .iconst 0, 1), (2, .iconst 5, 1), (3, .invokestatic 150, 3), (6, .ireturn, 1)]
theorem t_M_isBank : DT cX11_isBank b_M_isBank := DT.of (by decide +kernel)
def F_M_isBank (x0 : Int) : Option (Int) :=
  b1 (F_M_in x0 0 5) fun v1 =>
  some v1
set_option maxRecDepth 100000 in
set_option maxHeartbeats 4000000 in
theorem c_M_isBank (x0 : Int) (hx0 : r32 x0) {σ : Mm} {a : Int} (hf : F_M_isBank x0 = some a) : CT yX11_isBank cX11_isBank 1 (some .boolean) 1 1 (fun ad => [.int (i32 x0)]) σ (a = 0 ∨ a = 1) (some (.int (i32 a))) σ := by
  refine MetJ 0 (by decide +kernel) rfl (fun _ => Nat.le_of_ble_eq_true rfl) ?_
  intro X h hR ok
  obtain ⟨res, er⟩ : ∃ z, z = a := ⟨_, rfl⟩
  have hret : ∀ y : Int, some y = some res → RX X 1 (y = 0 ∨ y = 1) (some (.int (i32 (y)))) σ := fun y e => by cases e; cases er; exact hR
  rw [← er] at hf
  clear er hR
  unfold F_M_isBank at hf
  show SW X 1 1 0 [some (.int (i32 x0))] [] σ
  refine SW_iload_n h rfl (dt t_M_isBank 0 rfl) ?_
  refine SW_iconst h (dt t_M_isBank 1 rfl) ?_
  refine SW_iconst h (dt t_M_isBank 2 rfl) ?_
  obtain ⟨v1, e1, hf⟩ := b1_of hf
  refine cS h [.int (i32 x0), .int (i32 0), .int (i32 5)] [] v_X11_in kX11_150 (c_M_in x0 hx0 0 (by decide) 5 (by decide) e1) rfl rfl (by decide) (by decide) rfl (Nat.le_of_ble_eq_true rfl) (dt t_M_isBank 3 rfl) (fun h1 => ?_)
  exact SW_zret h (hret _ hf) h1 rfl (dt t_M_isBank 4 rfl)
def b_M_debt : List (Nat × Instr × Nat) := [(0, .iload_n 1, 1), (1, .invokestatic 561, 3), (4, .ifCond .eq 26, 3), (7, .iload_n 2, 1), (8, .invokestatic 561, 3), (11, .ifCond .eq 19, 3), (14, .iload_n 1, 1), (15, .iload_n 2, 1), (16, .if_icmp .eq 14, 3), (19, .iload_n 3, 1), (20, .iconst 0, 1), (21, .sipush 9999, 3), (24, .invokestatic 150, 3), (27, .ifCond .ne 5, 3), (30, .iconst 0, 1), (31, .ireturn, 1), (32, .aload_n 0, 1), (33, .getfield 7, 3), (36, .bipush 94, 2), (38, .bipush 6, 2), (40, .iload_n 1, 1), (41, .imul, 1), (42, .iadd, 1), (43, .iload_n 2, 1), (44, .iadd, 1), (45, .iload_n 3, 1), (46, .iastore, 1), (47, .iconst 1, 1), (48, .ireturn, 1)]
theorem t_M_debt : DT cX11_debt b_M_debt := DT.of (by decide +kernel)
def F_M_debt (x1 : Int) (x2 : Int) (x3 : Int) (σ : Mm) : Option (Int × Mm) :=
  b1 (F_M_isBank x1) fun v1 =>
  if v1 = 0 then
    some (0, σ)
  else
    b1 (F_M_isBank x2) fun v2 =>
    if v2 = 0 then
      some (0, σ)
    else
      if x1 = x2 then
        some (0, σ)
      else
        b1 (F_M_in x3 0 9999) fun v3 =>
        if v3 = 0 then
          some (0, σ)
        else
          if 0 ≤ (94 + (6 * x1)) + x2 ∧ (94 + (6 * x1)) + x2 < 5240 then
            bindM (st2 σ 201 (((94 + (6 * x1)) + x2).toNat) x3) fun s4 =>
            some (1, s4)
          else none
set_option maxRecDepth 100000 in
set_option maxHeartbeats 4000000 in
theorem c_M_debt (x1 : Int) (hx1 : r32 x1) (x2 : Int) (hx2 : r32 x2) (x3 : Int) (hx3 : r32 x3) {σ : Mm} {a : Int} {σ2 : Mm} (hf : F_M_debt x1 x2 x3 σ = some (a, σ2)) : CT yX11_debt cX11_debt 4 (some .boolean) 2 1 (fun ad => [.ref (ad 200), .int (i32 x1), .int (i32 x2), .int (i32 x3)]) σ (a = 0 ∨ a = 1) (some (.int (i32 a))) σ2 := by
  refine MetJ 0 (by decide +kernel) rfl (fun _ => Nat.le_of_ble_eq_true rfl) ?_
  intro X h hR ok
  obtain ⟨res, er⟩ : ∃ z, z = (a, σ2) := ⟨_, rfl⟩
  have hret : ∀ y : Int × Mm, some y = some res → RX X 1 (y.1 = 0 ∨ y.1 = 1) (some (.int (i32 (y.1)))) y.2 := fun y e => by cases e; cases er; exact hR
  rw [← er] at hf
  clear er hR
  unfold F_M_debt at hf
  show SW X 1 4 0 [some (.ref (xad X 200)), some (.int (i32 x1)), some (.int (i32 x2)), some (.int (i32 x3))] [] σ
  refine SW_iload_n h rfl (dt t_M_debt 0 rfl) ?_
  obtain ⟨v1, e1, hf⟩ := b1_of hf
  refine cS h [.int (i32 x1)] [] v_X11_isBank kX11_561 (c_M_isBank x1 hx1 e1) rfl rfl (by decide) (by decide) rfl (Nat.le_of_ble_eq_true rfl) (dt t_M_debt 1 rfl) (fun h1 => ?_)
  refine SW_if_eq (tgt := 30) h (fun _ => (r_zo h1)) (dt t_M_debt 2 rfl) rfl hf (fun hf => ?_) (fun hf => ?_)
  · refine SW_iconst h (dt t_M_debt 14 rfl) ?_
    exact SW_zret h (hret _ hf) (by decide) rfl (dt t_M_debt 15 rfl)
  · refine SW_iload_n h rfl (dt t_M_debt 3 rfl) ?_
    obtain ⟨v2, e2, hf⟩ := b1_of hf
    refine cS h [.int (i32 x2)] [] v_X11_isBank kX11_561 (c_M_isBank x2 hx2 e2) rfl rfl (by decide) (by decide) rfl (Nat.le_of_ble_eq_true rfl) (dt t_M_debt 4 rfl) (fun h2 => ?_)
    refine SW_if_eq (tgt := 30) h (fun _ => (r_zo h2)) (dt t_M_debt 5 rfl) rfl hf (fun hf => ?_) (fun hf => ?_)
    · refine SW_iconst h (dt t_M_debt 14 rfl) ?_
      exact SW_zret h (hret _ hf) (by decide) rfl (dt t_M_debt 15 rfl)
    · refine SW_iload_n h rfl (dt t_M_debt 6 rfl) ?_
      refine SW_iload_n h rfl (dt t_M_debt 7 rfl) ?_
      refine SW_icmp_eq (tgt := 30) h (fun _ => hx1) (fun _ => hx2) (dt t_M_debt 8 rfl) rfl hf (fun hf => ?_) (fun hf => ?_)
      · refine SW_iconst h (dt t_M_debt 14 rfl) ?_
        exact SW_zret h (hret _ hf) (by decide) rfl (dt t_M_debt 15 rfl)
      · refine SW_iload_n h rfl (dt t_M_debt 9 rfl) ?_
        refine SW_iconst h (dt t_M_debt 10 rfl) ?_
        refine SW_sipush h (dt t_M_debt 11 rfl) (by decide) ?_
        obtain ⟨v3, e3, hf⟩ := b1_of hf
        refine cS h [.int (i32 x3), .int (i32 0), .int (i32 9999)] [] v_X11_in kX11_150 (c_M_in x3 hx3 0 (by decide) 9999 (by decide) e3) rfl rfl (by decide) (by decide) rfl (Nat.le_of_ble_eq_true rfl) (dt t_M_debt 12 rfl) (fun h3 => ?_)
        refine SW_if_ne (tgt := 32) h (fun _ => (r_zo h3)) (dt t_M_debt 13 rfl) rfl hf (fun hf => ?_) (fun hf => ?_)
        · refine SW_iconst h (dt t_M_debt 14 rfl) ?_
          exact SW_zret h (hret _ hf) (by decide) rfl (dt t_M_debt 15 rfl)
        · refine SW_aload_n h rfl (dt t_M_debt 16 rfl) ?_
          refine gR h cf11 o200 f11_0 j200_0 lX11_7 (dt t_M_debt 17 rfl) ?_
          refine SW_bipush h (dt t_M_debt 18 rfl) (by decide) ?_
          refine SW_bipush h (dt t_M_debt 19 rfl) (by decide) ?_
          refine SW_iload_n h rfl (dt t_M_debt 20 rfl) ?_
          refine SW_imul h (dt t_M_debt 21 rfl) ?_
          refine SW_iadd h (dt t_M_debt 22 rfl) ?_
          refine SW_iload_n h rfl (dt t_M_debt 23 rfl) ?_
          refine SW_iadd h (dt t_M_debt 24 rfl) ?_
          refine SW_iload_n h rfl (dt t_M_debt 25 rfl) ?_
          refine sI h a201 hx3 (dt t_M_debt 26 rfl) hf (fun hf => SW_bm hf (fun s4 ok4 hf => ?_))
          refine SW_iconst h (dt t_M_debt 27 rfl) ?_
          exact SW_zret h (hret _ hf) (by decide) rfl (dt t_M_debt 28 rfl)
def b_M_draw : List (Nat × Instr × Nat) := [(0, .aload_n 0, 1), (1, .getfield 7, 3), (4, .sipush 182, 3), (7, .iaload, 1), (8, .iload_n 1, 1), (9, .irem, 1), (10, .istore_n 2, 1), (11, .aload_n 0, 1), (12, .getfield 7, 3), (15, .sipush 182, 3), (18, .aload_n 0, 1), (19, .getfield 7, 3), (22, .sipush 182, 3), (25, .iaload, 1), (26, .sipush 257, 3), (29, .imul, 1), (30, .sipush 151, 3), (33, .iadd, 1), (34, .sipush 30241, 3), (37, .irem, 1), (38, .iastore, 1), (39, .iload_n 2, 1), (40, .ireturn, 1)]
theorem t_M_draw : DT cX11_draw b_M_draw := DT.of (by decide +kernel)
def F_M_draw (x1 : Int) (σ : Mm) : Option (Int × Mm) :=
  if ¬ x1 = 0 then
    bindM ((σ 201 182).tmod x1) fun v2 =>
    if r32 (((σ 201 182) * 257) + 151) then
      bindM (st2 σ 201 182 ((((σ 201 182) * 257) + 151).tmod 30241)) fun s4 =>
      if r32 v2 then
        some (v2, s4)
      else none
    else none
  else none
set_option maxRecDepth 100000 in
set_option maxHeartbeats 4000000 in
theorem c_M_draw (x1 : Int) (hx1 : r32 x1) {σ : Mm} {a : Int} {σ2 : Mm} (hf : F_M_draw x1 σ = some (a, σ2)) : CT yX11_draw cX11_draw 3 (some .int) 0 1 (fun ad => [.ref (ad 200), .int (i32 x1)]) σ (r32 a) (some (.int (i32 a))) σ2 := by
  refine MetJ 1 (by decide +kernel) rfl (fun _ => Nat.le_of_ble_eq_true rfl) ?_
  intro X h hR ok
  obtain ⟨res, er⟩ : ∃ z, z = (a, σ2) := ⟨_, rfl⟩
  have hret : ∀ y : Int × Mm, some y = some res → RX X 1 (r32 (y.1)) (some (.int (i32 (y.1)))) y.2 := fun y e => by cases e; cases er; exact hR
  rw [← er] at hf
  clear er hR
  unfold F_M_draw at hf
  show SW X 1 3 0 [some (.ref (xad X 200)), some (.int (i32 x1)), none] [] σ
  refine SW_aload_n h rfl (dt t_M_draw 0 rfl) ?_
  refine gR h cf11 o200 f11_0 j200_0 lX11_7 (dt t_M_draw 1 rfl) ?_
  refine SW_sipush h (dt t_M_draw 2 rfl) (by decide) ?_
  refine aIk h a201 (by decide) (dt t_M_draw 3 rfl) ?_
  refine SW_iload_n h rfl (dt t_M_draw 4 rfl) ?_
  refine SW_chk hf (fun h1 hf => ?_)
  refine SW_irem h (fun _ => (okI ok 201 182 (IsA.n3 a201 (by decide)))) (fun _ => hx1) h1 (dt t_M_draw 5 rfl) ?_
  refine SW_vu hf (fun v2 hf => ?_)
  refine SW_istore_n (lv2 := [some (.ref (xad X 200)), some (.int (i32 x1)), some (.int (i32 v2))]) h (dt t_M_draw 6 rfl) (by decide) rfl ?_
  refine SW_aload_n h rfl (dt t_M_draw 7 rfl) ?_
  refine gR h cf11 o200 f11_0 j200_0 lX11_7 (dt t_M_draw 8 rfl) ?_
  refine SW_sipush h (dt t_M_draw 9 rfl) (by decide) ?_
  refine SW_aload_n h rfl (dt t_M_draw 10 rfl) ?_
  refine gR h cf11 o200 f11_0 j200_0 lX11_7 (dt t_M_draw 11 rfl) ?_
  refine SW_sipush h (dt t_M_draw 12 rfl) (by decide) ?_
  refine aIk h a201 (by decide) (dt t_M_draw 13 rfl) ?_
  refine SW_sipush h (dt t_M_draw 14 rfl) (by decide) ?_
  refine SW_imul h (dt t_M_draw 15 rfl) ?_
  refine SW_sipush h (dt t_M_draw 16 rfl) (by decide) ?_
  refine SW_iadd h (dt t_M_draw 17 rfl) ?_
  refine SW_sipush h (dt t_M_draw 18 rfl) (by decide) ?_
  refine SW_chk hf (fun h3 hf => ?_)
  refine SW_irem h (fun _ => h3) (fun _ => (by decide)) (by decide) (dt t_M_draw 19 rfl) ?_
  refine sIk h a201 (by decide) (r_tmod h3 (by decide)) (dt t_M_draw 20 rfl) (SW_bm hf (fun s4 ok4 hf => ?_))
  refine SW_iload_n h rfl (dt t_M_draw 21 rfl) ?_
  refine SW_chk hf (fun h5 hf => ?_)
  exact SW_iret h (hret _ hf) (fun _ => h5) rfl (dt t_M_draw 22 rfl)
def b_M_end : List (Nat × Instr × Nat) := [(0, .iload_n 1, 1), (1, .iconst 0, 1), (2, .aload_n 0, 1), (3, .getfield 164, 3), (6, .invokestatic 150, 3), (9, .ifCond .ne 5, 3), (12, .iconst (-1), 1), (13, .ireturn, 1), (14, .aload_n 0, 1), (15, .iload_n 1, 1), (16, .putfield 164, 3), (19, .iload_n 1, 1), (20, .ireturn, 1)]
theorem t_M_end : DT cX11_end b_M_end := DT.of (by decide +kernel)
def F_M_end (x1 : Int) (σ : Mm) : Option (Int × Mm) :=
  b1 (F_M_in x1 0 (σ 200 3)) fun v1 =>
  if v1 = 0 then
    some ((-1), σ)
  else
    bindM (st2 σ 200 3 x1) fun s3 =>
    some (x1, s3)
set_option maxRecDepth 100000 in
set_option maxHeartbeats 4000000 in
theorem c_M_end (x1 : Int) (hx1 : r32 x1) {σ : Mm} {a : Int} {σ2 : Mm} (hf : F_M_end x1 σ = some (a, σ2)) : CT yX11_end cX11_end 2 (some .int) 1 1 (fun ad => [.ref (ad 200), .int (i32 x1)]) σ (r32 a) (some (.int (i32 a))) σ2 := by
  refine MetJ 0 (by decide +kernel) rfl (fun _ => Nat.le_of_ble_eq_true rfl) ?_
  intro X h hR ok
  obtain ⟨res, er⟩ : ∃ z, z = (a, σ2) := ⟨_, rfl⟩
  have hret : ∀ y : Int × Mm, some y = some res → RX X 1 (r32 (y.1)) (some (.int (i32 (y.1)))) y.2 := fun y e => by cases e; cases er; exact hR
  rw [← er] at hf
  clear er hR
  unfold F_M_end at hf
  show SW X 1 2 0 [some (.ref (xad X 200)), some (.int (i32 x1))] [] σ
  refine SW_iload_n h rfl (dt t_M_end 0 rfl) ?_
  refine SW_iconst h (dt t_M_end 1 rfl) ?_
  refine SW_aload_n h rfl (dt t_M_end 2 rfl) ?_
  refine gI h cf11 o200 f11_3 lX11_164 (dt t_M_end 3 rfl) ?_
  obtain ⟨v1, e1, hf⟩ := b1_of hf
  refine cS h [.int (i32 x1), .int (i32 0), .int (i32 (σ 200 3))] [] v_X11_in kX11_150 (c_M_in x1 hx1 0 (by decide) (σ 200 3) (okI ok 200 3 (IsO.n3 o200)) e1) rfl rfl (by decide) (by decide) rfl (Nat.le_of_ble_eq_true rfl) (dt t_M_end 4 rfl) (fun h1 => ?_)
  refine SW_if_ne (tgt := 14) h (fun _ => (r_zo h1)) (dt t_M_end 5 rfl) rfl hf (fun hf => ?_) (fun hf => ?_)
  · refine SW_iconst h (dt t_M_end 6 rfl) ?_
    exact SW_iret h (hret _ hf) (fun _ => (by decide)) rfl (dt t_M_end 7 rfl)
  · refine SW_aload_n h rfl (dt t_M_end 8 rfl) ?_
    refine SW_iload_n h rfl (dt t_M_end 9 rfl) ?_
    refine pI h cf11 o200 f11_3 hx1 lX11_164 (dt t_M_end 10 rfl) (SW_bm hf (fun s3 ok3 hf => ?_))
    refine SW_iload_n h rfl (dt t_M_end 11 rfl) ?_
    exact SW_iret h (hret _ hf) (fun _ => hx1) rfl (dt t_M_end 12 rfl)
def b_M_fault : List (Nat × Instr × Nat) := [(0, .iload_n 1, 1), (1, .ifCond .ne 10, 3), (4, .aload_n 0, 1), (5, .getfield 20, 3), (8, .goto 16, 3), (11, .iload_n 1, 1), (12, .iconst 1, 1), (13, .if_icmp .ne 10, 3), (16, .aload_n 0, 1), (17, .getfield 24, 3), (20, .goto 4, 3), (23, .iconst (-1), 1), (24, .ireturn, 1)]
theorem t_M_fault : DT cX11_fault b_M_fault := DT.of (by decide +kernel)
def F_M_fault (x1 : Int) (σ : Mm) : Option (Int) :=
  if x1 = 0 then
    some (σ 200 4)
  else
    if x1 = 1 then
      some (σ 200 5)
    else
      some ((-1))
set_option maxRecDepth 100000 in
set_option maxHeartbeats 4000000 in
theorem c_M_fault (x1 : Int) (hx1 : r32 x1) {σ : Mm} {a : Int} (hf : F_M_fault x1 σ = some a) : CT yX11_fault cX11_fault 2 (some .int) 0 1 (fun ad => [.ref (ad 200), .int (i32 x1)]) σ (r32 a) (some (.int (i32 a))) σ := by
  refine MetJ 0 (by decide +kernel) rfl (fun _ => Nat.le_of_ble_eq_true rfl) ?_
  intro X h hR ok
  obtain ⟨res, er⟩ : ∃ z, z = a := ⟨_, rfl⟩
  have hret : ∀ y : Int, some y = some res → RX X 1 (r32 (y)) (some (.int (i32 (y)))) σ := fun y e => by cases e; cases er; exact hR
  rw [← er] at hf
  clear er hR
  unfold F_M_fault at hf
  show SW X 1 2 0 [some (.ref (xad X 200)), some (.int (i32 x1))] [] σ
  refine SW_iload_n h rfl (dt t_M_fault 0 rfl) ?_
  refine SW_if_ne (tgt := 11) h (fun _ => hx1) (dt t_M_fault 1 rfl) rfl hf (fun hf => ?_) (fun hf => ?_)
  · refine SW_aload_n h rfl (dt t_M_fault 2 rfl) ?_
    refine gI h cf11 o200 f11_4 lX11_20 (dt t_M_fault 3 rfl) ?_
    refine SW_goto (tgt := 24) h (dt t_M_fault 4 rfl) rfl ?_
    exact SW_iret h (hret _ hf) (fun _ => (okI ok 200 4 (IsO.n3 o200))) rfl (dt t_M_fault 12 rfl)
  · refine SW_iload_n h rfl (dt t_M_fault 5 rfl) ?_
    refine SW_iconst h (dt t_M_fault 6 rfl) ?_
    refine SW_icmp_ne (tgt := 23) h (fun _ => hx1) (fun _ => (by decide)) (dt t_M_fault 7 rfl) rfl hf (fun hf => ?_) (fun hf => ?_)
    · refine SW_aload_n h rfl (dt t_M_fault 8 rfl) ?_
      refine gI h cf11 o200 f11_5 lX11_24 (dt t_M_fault 9 rfl) ?_
      refine SW_goto (tgt := 24) h (dt t_M_fault 10 rfl) rfl ?_
      exact SW_iret h (hret _ hf) (fun _ => (okI ok 200 5 (IsO.n3 o200))) rfl (dt t_M_fault 12 rfl)
    · refine SW_iconst h (dt t_M_fault 11 rfl) ?_
      exact SW_iret h (hret _ hf) (fun _ => (by decide)) rfl (dt t_M_fault 12 rfl)
def b_M_put : List (Nat × Instr × Nat) := [(0, .bipush 24, 2), (2, .istore_n 2, 1), (3, .iload_n 2, 1), (4, .ifCond .lt 34, 3), (7, .aload_n 0, 1), (8, .getfield 16, 3), (11, .aload_n 0, 1), (12, .getfield 164, 3), (15, .iload_n 1, 1), (16, .iload_n 2, 1), (17, .ishr, 1), (18, .i2b, 1), (19, .bastore, 1), (20, .aload_n 0, 1), (21, .dup, 1), (22, .getfield 164, 3), (25, .iconst 1, 1), (26, .iadd, 1), (27, .putfield 164, 3), (30, .iload_n 2, 1), (31, .bipush 8, 2), (33, .isub, 1), (34, .istore_n 2, 1), (35, .goto (-32), 3), (38, .return_, 1)]
theorem t_M_put : DT cX11_put b_M_put := DT.of (by decide +kernel)
def L_M_put_3 : Nat → Int → Int → Mm → Option (Mm)
  | 0, _, _, _ => none
  | n + 1, x1, x2, σ =>
    if x2 < 0 then
      some σ
    else
      if 0 ≤ σ 200 3 ∧ σ 200 3 < 300 then
        bindM (st2 σ 203 ((σ 200 3).toNat) (nbI (i2bI (ishr x1 x2)))) fun s1 =>
        if r32 ((s1 200 3) + 1) then
          bindM (st2 s1 200 3 ((s1 200 3) + 1)) fun s4 =>
          if r32 (x2 - 8) then
            L_M_put_3 n x1 (x2 - 8) s4
          else none
        else none
      else none
set_option maxRecDepth 100000 in
set_option maxHeartbeats 4000000 in
theorem l_M_put_3 {X : Cx} (h : CX X 1 cX11_put 3 0 none RX11) (x1 : Int) (hx1 : r32 x1) {res : Mm} (hex : ∀  (σ : Mm) (hz : some σ = some res)  (ok : okM σ), SW X 1 3 38 [none, none, none] [] σ) : ∀ (n : Nat) (x2 : Int) (σ : Mm) (hx2 : r32 x2) (ok : okM σ) (hf : L_M_put_3 n x1 x2 σ = some res), SW X 1 3 3 [some (.ref (xad X 200)), some (.int (i32 x1)), some (.int (i32 x2))] [] σ := by
  intro n
  induction n with
  | zero => intro x2 σ hx2 ok hf; exact absurd hf (by simp [L_M_put_3])
  | succ n ih =>
    intro x2 σ hx2 ok hf
    rw [L_M_put_3] at hf
    refine SW_iload_n h rfl (dt t_M_put 2 rfl) ?_
    refine SW_if_lt (tgt := 38) h (fun _ => hx2) (dt t_M_put 3 rfl) rfl hf (fun hf => ?_) (fun hf => ?_)
    · exact SW_fgt [false, false, false] rfl (hex σ hf ok)
    · refine SW_aload_n h rfl (dt t_M_put 4 rfl) ?_
      refine gR h cf11 o200 f11_2 j200_2 lX11_16 (dt t_M_put 5 rfl) ?_
      refine SW_aload_n h rfl (dt t_M_put 6 rfl) ?_
      refine gI h cf11 o200 f11_3 lX11_164 (dt t_M_put 7 rfl) ?_
      refine SW_iload_n h rfl (dt t_M_put 8 rfl) ?_
      refine SW_iload_n h rfl (dt t_M_put 9 rfl) ?_
      refine SW_ishr h (dt t_M_put 10 rfl) ?_
      refine SW_i2b h (dt t_M_put 11 rfl) ?_
      refine sB h a203 (dt t_M_put 12 rfl) hf (fun hf => SW_bm hf (fun s1 ok1 hf => ?_))
      refine SW_aload_n h rfl (dt t_M_put 13 rfl) ?_
      refine SW_dup h rfl (dt t_M_put 14 rfl) ?_
      refine gI h cf11 o200 f11_3 lX11_164 (dt t_M_put 15 rfl) ?_
      refine SW_iconst h (dt t_M_put 16 rfl) ?_
      refine SW_iadd h (dt t_M_put 17 rfl) ?_
      refine SW_chk hf (fun h3 hf => ?_)
      refine pI h cf11 o200 f11_3 h3 lX11_164 (dt t_M_put 18 rfl) (SW_bm hf (fun s4 ok4 hf => ?_))
      refine SW_iload_n h rfl (dt t_M_put 19 rfl) ?_
      refine SW_bipush h (dt t_M_put 20 rfl) (by decide) ?_
      refine SW_isub h (dt t_M_put 21 rfl) ?_
      refine SW_istore_n (lv2 := [some (.ref (xad X 200)), some (.int (i32 x1)), some (.int (i32 (x2 - 8)))]) h (dt t_M_put 22 rfl) (by decide) rfl ?_
      refine SW_goto (tgt := 3) h (dt t_M_put 23 rfl) rfl ?_
      refine SW_chk hf (fun h5 hf => ?_)
      exact SW_fgt [true, true, true] rfl (ih (x2 - 8) s4 h5 ok4 hf)
def F_M_put (x1 : Int) (σ : Mm) : Option (Mm) :=
  b0M (L_M_put_3 LF x1 24 σ) fun s6 =>
  some s6
set_option maxRecDepth 100000 in
set_option maxHeartbeats 4000000 in
theorem c_M_put (x1 : Int) (hx1 : r32 x1) {σ : Mm} {σ2 : Mm} (hf : F_M_put x1 σ = some σ2) : CT yX11_put cX11_put 3 none 0 1 (fun ad => [.ref (ad 200), .int (i32 x1)]) σ True none σ2 := by
  refine MetJ 1 (by decide +kernel) rfl (fun _ => Nat.le_of_ble_eq_true rfl) ?_
  intro X h hR ok
  obtain ⟨res, er⟩ : ∃ z, z = σ2 := ⟨_, rfl⟩
  have hret : ∀ y : Mm, some y = some res → RX X 1 True none y := fun y e => by cases e; cases er; exact hR
  rw [← er] at hf
  clear er hR
  unfold F_M_put at hf
  show SW X 1 3 0 [some (.ref (xad X 200)), some (.int (i32 x1)), none] [] σ
  refine SW_bipush h (dt t_M_put 0 rfl) (by decide) ?_
  refine SW_istore_n (lv2 := [some (.ref (xad X 200)), some (.int (i32 x1)), some (.int (i32 24))]) h (dt t_M_put 1 rfl) (by decide) rfl ?_
  obtain ⟨z6, e6, hk6⟩ := b0M_ex hf
  refine SW_fgt [true, true, true] rfl (l_M_put_3 h x1 hx1 (fun s6 hz6 ok6 => ?_) LF 24 σ (by decide) ok e6)
  have hf := hk6 s6 hz6
  exact SW_vret h (hret _ hf) rfl (dt t_M_put 24 rfl)
def b_M_feed : List (Nat × Instr × Nat) := [(0, .aload_n 0, 1), (1, .getfield 164, 3), (4, .bipush 20, 2), (6, .iadd, 1), (7, .sipush 300, 3), (10, .if_icmp .le 5, 3), (13, .iconst (-1), 1), (14, .ireturn, 1), (15, .aload_n 0, 1), (16, .iload_n 1, 1), (17, .invokevirtual 167, 3), (20, .aload_n 0, 1), (21, .iload_n 2, 1), (22, .invokevirtual 167, 3), (25, .aload_n 0, 1), (26, .iload_n 3, 1), (27, .invokevirtual 167, 3), (30, .aload_n 0, 1), (31, .iload 4, 2), (33, .invokevirtual 167, 3), (36, .aload_n 0, 1), (37, .iload 5, 2), (39, .invokevirtual 167, 3), (42, .aload_n 0, 1), (43, .getfield 164, 3), (46, .ireturn, 1)]
theorem t_M_feed : DT cX11_feed b_M_feed := DT.of (by decide +kernel)
def F_M_feed (x1 : Int) (x2 : Int) (x3 : Int) (x4 : Int) (x5 : Int) (σ : Mm) : Option (Int × Mm) :=
  if r32 ((σ 200 3) + 20) then
    if (σ 200 3) + 20 ≤ 300 then
      b0M (F_M_put x1 σ) fun s2 =>
      b0M (F_M_put x2 s2) fun s3 =>
      b0M (F_M_put x3 s3) fun s4 =>
      b0M (F_M_put x4 s4) fun s5 =>
      b0M (F_M_put x5 s5) fun s6 =>
      some (s6 200 3, s6)
    else
      some ((-1), σ)
  else none
set_option maxRecDepth 100000 in
set_option maxHeartbeats 4000000 in
theorem c_M_feed (x1 : Int) (hx1 : r32 x1) (x2 : Int) (hx2 : r32 x2) (x3 : Int) (hx3 : r32 x3) (x4 : Int) (hx4 : r32 x4) (x5 : Int) (hx5 : r32 x5) {σ : Mm} {a : Int} {σ2 : Mm} (hf : F_M_feed x1 x2 x3 x4 x5 σ = some (a, σ2)) : CT yX11_feed cX11_feed 6 (some .int) 1 1 (fun ad => [.ref (ad 200), .int (i32 x1), .int (i32 x2), .int (i32 x3), .int (i32 x4), .int (i32 x5)]) σ (r32 a) (some (.int (i32 a))) σ2 := by
  refine MetJ 0 (by decide +kernel) rfl (fun _ => Nat.le_of_ble_eq_true rfl) ?_
  intro X h hR ok
  obtain ⟨res, er⟩ : ∃ z, z = (a, σ2) := ⟨_, rfl⟩
  have hret : ∀ y : Int × Mm, some y = some res → RX X 1 (r32 (y.1)) (some (.int (i32 (y.1)))) y.2 := fun y e => by cases e; cases er; exact hR
  rw [← er] at hf
  clear er hR
  unfold F_M_feed at hf
  show SW X 1 6 0 [some (.ref (xad X 200)), some (.int (i32 x1)), some (.int (i32 x2)), some (.int (i32 x3)), some (.int (i32 x4)), some (.int (i32 x5))] [] σ
  refine SW_aload_n h rfl (dt t_M_feed 0 rfl) ?_
  refine gI h cf11 o200 f11_3 lX11_164 (dt t_M_feed 1 rfl) ?_
  refine SW_bipush h (dt t_M_feed 2 rfl) (by decide) ?_
  refine SW_iadd h (dt t_M_feed 3 rfl) ?_
  refine SW_sipush h (dt t_M_feed 4 rfl) (by decide) ?_
  refine SW_chk hf (fun h1 hf => ?_)
  refine SW_icmp_le (tgt := 15) h (fun _ => h1) (fun _ => (by decide)) (dt t_M_feed 5 rfl) rfl hf (fun hf => ?_) (fun hf => ?_)
  · refine SW_aload_n h rfl (dt t_M_feed 8 rfl) ?_
    refine SW_iload_n h rfl (dt t_M_feed 9 rfl) ?_
    obtain ⟨s2, e2, hf⟩ := b0M_of hf
    refine cVv h [.int (i32 x1)] [] v_X11_put kX11_167 o200 (c_M_put x1 hx1 e2) rfl rfl (by decide) (by decide) rfl (Nat.le_of_ble_eq_true rfl) (dt t_M_feed 10 rfl) (fun h2 => ?_)
    refine SW_ok (fun ok2 => ?_)
    refine SW_aload_n h rfl (dt t_M_feed 11 rfl) ?_
    refine SW_iload_n h rfl (dt t_M_feed 12 rfl) ?_
    obtain ⟨s3, e3, hf⟩ := b0M_of hf
    refine cVv h [.int (i32 x2)] [] v_X11_put kX11_167 o200 (c_M_put x2 hx2 e3) rfl rfl (by decide) (by decide) rfl (Nat.le_of_ble_eq_true rfl) (dt t_M_feed 13 rfl) (fun h3 => ?_)
    refine SW_ok (fun ok3 => ?_)
    refine SW_aload_n h rfl (dt t_M_feed 14 rfl) ?_
    refine SW_iload_n h rfl (dt t_M_feed 15 rfl) ?_
    obtain ⟨s4, e4, hf⟩ := b0M_of hf
    refine cVv h [.int (i32 x3)] [] v_X11_put kX11_167 o200 (c_M_put x3 hx3 e4) rfl rfl (by decide) (by decide) rfl (Nat.le_of_ble_eq_true rfl) (dt t_M_feed 16 rfl) (fun h4 => ?_)
    refine SW_ok (fun ok4 => ?_)
    refine SW_aload_n h rfl (dt t_M_feed 17 rfl) ?_
    refine SW_iload h rfl (dt t_M_feed 18 rfl) ?_
    obtain ⟨s5, e5, hf⟩ := b0M_of hf
    refine cVv h [.int (i32 x4)] [] v_X11_put kX11_167 o200 (c_M_put x4 hx4 e5) rfl rfl (by decide) (by decide) rfl (Nat.le_of_ble_eq_true rfl) (dt t_M_feed 19 rfl) (fun h5 => ?_)
    refine SW_ok (fun ok5 => ?_)
    refine SW_aload_n h rfl (dt t_M_feed 20 rfl) ?_
    refine SW_iload h rfl (dt t_M_feed 21 rfl) ?_
    obtain ⟨s6, e6, hf⟩ := b0M_of hf
    refine cVv h [.int (i32 x5)] [] v_X11_put kX11_167 o200 (c_M_put x5 hx5 e6) rfl rfl (by decide) (by decide) rfl (Nat.le_of_ble_eq_true rfl) (dt t_M_feed 22 rfl) (fun h6 => ?_)
    refine SW_ok (fun ok6 => ?_)
    refine SW_aload_n h rfl (dt t_M_feed 23 rfl) ?_
    refine gI h cf11 o200 f11_3 lX11_164 (dt t_M_feed 24 rfl) ?_
    exact SW_iret h (hret _ hf) (fun _ => (okI ok6 200 3 (IsO.n3 o200))) rfl (dt t_M_feed 25 rfl)
  · refine SW_iconst h (dt t_M_feed 6 rfl) ?_
    exact SW_iret h (hret _ hf) (fun _ => (by decide)) rfl (dt t_M_feed 7 rfl)
def b_M_firstOff : List (Nat × Instr × Nat) := [(0, .iload_n 1, 1), (1, .iconst 1, 1), (2, .bipush 30, 2), (4, .invokestatic 150, 3), (7, .ifCond .eq 11, 3), (10, .aload_n 0, 1), (11, .iload_n 2, 1), (12, .invokevirtual 439, 3), (15, .ifCond .ne 5, 3), (18, .iconst (-1), 1), (19, .ireturn, 1), (20, .aload_n 0, 1), (21, .invokevirtual 446, 3), (24, .iconst 1, 1), (25, .istore_n 3, 1), (26, .iload_n 3, 1), (27, .iload_n 1, 1), (28, .if_icmp .gt 23, 3), (31, .aload_n 0, 1), (32, .iconst 0, 1), (33, .invokevirtual 452, 3), (36, .iload_n 2, 1), (37, .invokestatic 388, 3), (40, .ifCond .eq 5, 3), (43, .iload_n 3, 1), (44, .ireturn, 1), (45, .iinc 3 1, 3), (48, .goto (-22), 3), (51, .iconst (-1), 1), (52, .ireturn, 1)]
theorem t_M_firstOff : DT cX11_firstOff b_M_firstOff := DT.of (by decide +kernel)
def L_M_firstOff_26 : Nat → Int → Int → Int → Mm → Option ((Int × Mm) ⊕ (Mm))
  | 0, _, _, _, _ => none
  | n + 1, x1, x2, x3, σ =>
    if x1 < x3 then
      some (.inr σ)
    else
      b1M (F_M_dayGoes 0 σ) fun v4 s4 =>
      b1 (F_M_has v4 x2) fun v5 =>
      if v5 = 0 then
        if r32 (x3 + 1) then
          L_M_firstOff_26 n x1 x2 (x3 + 1) s4
        else none
      else
        some (.inl (x3, s4))
set_option maxRecDepth 100000 in
set_option maxHeartbeats 4000000 in
theorem l_M_firstOff_26 {X : Cx} (h : CX X 1 cX11_firstOff 4 8 (some .int) RX11) (x1 : Int) (x2 : Int) (hx1 : r32 x1) (hx2 : r32 x2) {res : (Int × Mm) ⊕ (Mm)} (hret : ∀ y : Int × Mm, some (.inl y) = some res → RX X 1 (r32 (y.1)) (some (.int (i32 (y.1)))) y.2) (hex : ∀  (σ : Mm) (hz : some (.inr σ) = some res)  (ok : okM σ), SW X 1 4 51 [none, none, none, none] [] σ) : ∀ (n : Nat) (x3 : Int) (σ : Mm) (hx3 : r32 x3) (ok : okM σ) (hf : L_M_firstOff_26 n x1 x2 x3 σ = some res), SW X 1 4 26 [some (.ref (xad X 200)), some (.int (i32 x1)), some (.int (i32 x2)), some (.int (i32 x3))] [] σ := by
  intro n
  induction n with
  | zero => intro x3 σ hx3 ok hf; exact absurd hf (by simp [L_M_firstOff_26])
  | succ n ih =>
    intro x3 σ hx3 ok hf
    rw [L_M_firstOff_26] at hf
    refine SW_iload_n h rfl (dt t_M_firstOff 15 rfl) ?_
    refine SW_iload_n h rfl (dt t_M_firstOff 16 rfl) ?_
    refine SW_icmp_gt (tgt := 51) h (fun _ => hx3) (fun _ => hx1) (dt t_M_firstOff 17 rfl) rfl hf (fun hf => ?_) (fun hf => ?_)
    · exact SW_fgt [false, false, false, false] rfl (hex σ hf ok)
    · refine SW_aload_n h rfl (dt t_M_firstOff 18 rfl) ?_
      refine SW_iconst h (dt t_M_firstOff 19 rfl) ?_
      obtain ⟨v4, s4, e4, hf⟩ := b1M_of hf
      refine cV h [.int (i32 0)] [] v_X11_dayGoes kX11_452 o200 (c_M_dayGoes 0 (by decide) e4) rfl rfl (by decide) (by decide) rfl (Nat.le_of_ble_eq_true rfl) (dt t_M_firstOff 20 rfl) (fun h4 => ?_)
      refine SW_ok (fun ok4 => ?_)
      refine SW_iload_n h rfl (dt t_M_firstOff 21 rfl) ?_
      obtain ⟨v5, e5, hf⟩ := b1_of hf
      refine cS h [.int (i32 v4), .int (i32 x2)] [] v_X11_has kX11_388 (c_M_has v4 h4 x2 hx2 e5) rfl rfl (by decide) (by decide) rfl (Nat.le_of_ble_eq_true rfl) (dt t_M_firstOff 22 rfl) (fun h5 => ?_)
      refine SW_if_eq (tgt := 45) h (fun _ => (r_zo h5)) (dt t_M_firstOff 23 rfl) rfl hf (fun hf => ?_) (fun hf => ?_)
      · refine SW_iinc (lv2 := [some (.ref (xad X 200)), some (.int (i32 x1)), some (.int (i32 x2)), some (.int (i32 (x3 + 1)))]) h (dt t_M_firstOff 26 rfl) rfl (by decide) rfl ?_
        refine SW_goto (tgt := 26) h (dt t_M_firstOff 27 rfl) rfl ?_
        refine SW_chk hf (fun h6 hf => ?_)
        exact SW_fgt [true, true, true, true] rfl (ih (x3 + 1) s4 h6 ok4 hf)
      · refine SW_iload_n h rfl (dt t_M_firstOff 24 rfl) ?_
        exact SW_iret h (hret _ hf) (fun _ => hx3) rfl (dt t_M_firstOff 25 rfl)
def F_M_firstOff (x1 : Int) (x2 : Int) (σ : Mm) : Option (Int × Mm) :=
  b1 (F_M_in x1 1 30) fun v1 =>
  if v1 = 0 then
    some ((-1), σ)
  else
    b1 (F_M_isRow x2 σ) fun v2 =>
    if v2 = 0 then
      some ((-1), σ)
    else
      b0M (F_M_laysNow  σ) fun s3 =>
      b0MS (L_M_firstOff_26 LF x1 x2 1 s3) (fun y => some y) fun s7 =>
      some ((-1), s7)
set_option maxRecDepth 100000 in
set_option maxHeartbeats 4000000 in
theorem c_M_firstOff (x1 : Int) (hx1 : r32 x1) (x2 : Int) (hx2 : r32 x2) {σ : Mm} {a : Int} {σ2 : Mm} (hf : F_M_firstOff x1 x2 σ = some (a, σ2)) : CT yX11_firstOff cX11_firstOff 4 (some .int) 8 1 (fun ad => [.ref (ad 200), .int (i32 x1), .int (i32 x2)]) σ (r32 a) (some (.int (i32 a))) σ2 := by
  refine MetJ 1 (by decide +kernel) rfl (fun _ => Nat.le_of_ble_eq_true rfl) ?_
  intro X h hR ok
  obtain ⟨res, er⟩ : ∃ z, z = (a, σ2) := ⟨_, rfl⟩
  have hret : ∀ y : Int × Mm, some y = some res → RX X 1 (r32 (y.1)) (some (.int (i32 (y.1)))) y.2 := fun y e => by cases e; cases er; exact hR
  rw [← er] at hf
  clear er hR
  unfold F_M_firstOff at hf
  show SW X 1 4 0 [some (.ref (xad X 200)), some (.int (i32 x1)), some (.int (i32 x2)), none] [] σ
  refine SW_iload_n h rfl (dt t_M_firstOff 0 rfl) ?_
  refine SW_iconst h (dt t_M_firstOff 1 rfl) ?_
  refine SW_bipush h (dt t_M_firstOff 2 rfl) (by decide) ?_
  obtain ⟨v1, e1, hf⟩ := b1_of hf
  refine cS h [.int (i32 x1), .int (i32 1), .int (i32 30)] [] v_X11_in kX11_150 (c_M_in x1 hx1 1 (by decide) 30 (by decide) e1) rfl rfl (by decide) (by decide) rfl (Nat.le_of_ble_eq_true rfl) (dt t_M_firstOff 3 rfl) (fun h1 => ?_)
  refine SW_if_eq (tgt := 18) h (fun _ => (r_zo h1)) (dt t_M_firstOff 4 rfl) rfl hf (fun hf => ?_) (fun hf => ?_)
  · refine SW_iconst h (dt t_M_firstOff 9 rfl) ?_
    exact SW_iret h (hret _ hf) (fun _ => (by decide)) rfl (dt t_M_firstOff 10 rfl)
  · refine SW_aload_n h rfl (dt t_M_firstOff 5 rfl) ?_
    refine SW_iload_n h rfl (dt t_M_firstOff 6 rfl) ?_
    obtain ⟨v2, e2, hf⟩ := b1_of hf
    refine cV h [.int (i32 x2)] [] v_X11_isRow kX11_439 o200 (c_M_isRow x2 hx2 e2) rfl rfl (by decide) (by decide) rfl (Nat.le_of_ble_eq_true rfl) (dt t_M_firstOff 7 rfl) (fun h2 => ?_)
    refine SW_if_ne (tgt := 20) h (fun _ => (r_zo h2)) (dt t_M_firstOff 8 rfl) rfl hf (fun hf => ?_) (fun hf => ?_)
    · refine SW_iconst h (dt t_M_firstOff 9 rfl) ?_
      exact SW_iret h (hret _ hf) (fun _ => (by decide)) rfl (dt t_M_firstOff 10 rfl)
    · refine SW_aload_n h rfl (dt t_M_firstOff 11 rfl) ?_
      obtain ⟨s3, e3, hf⟩ := b0M_of hf
      refine cVv h [] [] v_X11_laysNow kX11_446 o200 (c_M_laysNow  e3) rfl rfl (by decide) (by decide) rfl (Nat.le_of_ble_eq_true rfl) (dt t_M_firstOff 12 rfl) (fun h3 => ?_)
      refine SW_ok (fun ok3 => ?_)
      refine SW_iconst h (dt t_M_firstOff 13 rfl) ?_
      refine SW_istore_n (lv2 := [some (.ref (xad X 200)), some (.int (i32 x1)), some (.int (i32 x2)), some (.int (i32 1))]) h (dt t_M_firstOff 14 rfl) (by decide) rfl ?_
      obtain ⟨z7, e7, g7, hk7⟩ := b0MS_of hf
      refine SW_fgt [true, true, true, true] rfl (l_M_firstOff_26 h x1 x2 hx1 hx2 (fun y e => hret y (g7 y (Option.some.inj e).symm)) (fun s7 hz7 ok7 => ?_) LF 1 s3 (by decide) ok3 e7)
      have hf := hk7 s7 (Option.some.inj hz7).symm
      refine SW_iconst h (dt t_M_firstOff 28 rfl) ?_
      exact SW_iret h (hret _ hf) (fun _ => (by decide)) rfl (dt t_M_firstOff 29 rfl)
