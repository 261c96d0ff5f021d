def b_M_opensTwo : List (Nat × Instr × Nat) := [(0, .aload_n 0, 1), (1, .iload_n 1, 1), (2, .invokevirtual 292, 3), (5, .ifCond .eq 24, 3), (8, .aload_n 0, 1), (9, .bipush 40, 2), (11, .invokevirtual 298, 3), (14, .ifCond .eq 10, 3), (17, .aload_n 0, 1), (18, .invokevirtual 272, 3), (21, .goto 8, 3), (24, .aload_n 0, 1), (25, .iconst 1, 1), (26, .invokevirtual 266, 3), (29, .return_, 1)]
theorem t_M_opensTwo : DT cX11_opensTwo b_M_opensTwo := DT.of (by decide +kernel)
def F_M_opensTwo (x1 : Int) (σ : Mm) : Option (Mm) :=
  b1M (F_M_opensSign x1 σ) fun v1 s1 =>
  if v1 = 0 then
    some s1
  else
    b1 (F_M_isSign 40 s1) fun v2 =>
    if v2 = 0 then
      b0M (F_M_errs 1 s1) fun s3 =>
      some s3
    else
      b0M (F_M_next  s1) fun s4 =>
      some s4
set_option maxRecDepth 100000 in
set_option maxHeartbeats 4000000 in
theorem c_M_opensTwo (x1 : Int) (hx1 : r32 x1) {σ : Mm} {σ2 : Mm} (hf : F_M_opensTwo x1 σ = some σ2) : CT yX11_opensTwo cX11_opensTwo 2 none 4 1 (fun ad => [.ref (ad 200), .int (i32 x1)]) σ True none σ2 := by
  refine MetJ 0 (by decide +kernel) rfl (fun _ => Nat.le_of_ble_eq_true rfl) ?_
  intro X h hR ok
  obtain ⟨res, er⟩ : ∃ z, z = σ2 := ⟨_, rfl⟩
  have hret : ∀ y : Mm, some y = some res → RX X 1 True none y := fun y e => by cases e; cases er; exact hR
  rw [← er] at hf
  clear er hR
  unfold F_M_opensTwo at hf
  show SW X 1 2 0 [some (.ref (xad X 200)), some (.int (i32 x1))] [] σ
  refine SW_aload_n h rfl (dt t_M_opensTwo 0 rfl) ?_
  refine SW_iload_n h rfl (dt t_M_opensTwo 1 rfl) ?_
  obtain ⟨v1, s1, e1, hf⟩ := b1M_of hf
  refine cV h [.int (i32 x1)] [] v_X11_opensSign kX11_292 o200 (c_M_opensSign x1 hx1 e1) rfl rfl (by decide) (by decide) rfl (Nat.le_of_ble_eq_true rfl) (dt t_M_opensTwo 2 rfl) (fun h1 => ?_)
  refine SW_ok (fun ok1 => ?_)
  refine SW_if_eq (tgt := 29) h (fun _ => (r_zo h1)) (dt t_M_opensTwo 3 rfl) rfl hf (fun hf => ?_) (fun hf => ?_)
  · exact SW_vret h (hret _ hf) rfl (dt t_M_opensTwo 14 rfl)
  · refine SW_aload_n h rfl (dt t_M_opensTwo 4 rfl) ?_
    refine SW_bipush h (dt t_M_opensTwo 5 rfl) (by decide) ?_
    obtain ⟨v2, e2, hf⟩ := b1_of hf
    refine cV h [.int (i32 40)] [] v_X11_isSign kX11_298 o200 (c_M_isSign 40 (by decide) e2) rfl rfl (by decide) (by decide) rfl (Nat.le_of_ble_eq_true rfl) (dt t_M_opensTwo 6 rfl) (fun h2 => ?_)
    refine SW_if_eq (tgt := 24) h (fun _ => (r_zo h2)) (dt t_M_opensTwo 7 rfl) rfl hf (fun hf => ?_) (fun hf => ?_)
    · refine SW_aload_n h rfl (dt t_M_opensTwo 11 rfl) ?_
      refine SW_iconst h (dt t_M_opensTwo 12 rfl) ?_
      obtain ⟨s3, e3, hf⟩ := b0M_of hf
      refine cVv h [.int (i32 1)] [] v_X11_errs kX11_266 o200 (c_M_errs 1 (by decide) e3) rfl rfl (by decide) (by decide) rfl (Nat.le_of_ble_eq_true rfl) (dt t_M_opensTwo 13 rfl) (fun h3 => ?_)
      refine SW_ok (fun ok3 => ?_)
      exact SW_vret h (hret _ hf) rfl (dt t_M_opensTwo 14 rfl)
    · refine SW_aload_n h rfl (dt t_M_opensTwo 8 rfl) ?_
      obtain ⟨s4, e4, hf⟩ := b0M_of hf
      refine cVv h [] [] v_X11_next kX11_272 o200 (c_M_next  e4) rfl rfl (by decide) (by decide) rfl (Nat.le_of_ble_eq_true rfl) (dt t_M_opensTwo 9 rfl) (fun h4 => ?_)
      refine SW_ok (fun ok4 => ?_)
      refine SW_goto (tgt := 29) h (dt t_M_opensTwo 10 rfl) rfl ?_
      exact SW_vret h (hret _ hf) rfl (dt t_M_opensTwo 14 rfl)
def b_M_begins : List (Nat × Instr × Nat) := [(0, .aload_n 0, 1), (1, .invokevirtual 301, 3), (4, .istore_n 1, 1), (5, .aload_n 0, 1), (6, .getfield 234, 3), (9, .iconst 2, 1), (10, .if_icmp .ne 41, 3), (13, .aload_n 0, 1), (14, .getfield 247, 3), (17, .sipush 9999, 3), (20, .if_icmp .le 9, 3), (23, .aload_n 0, 1), (24, .iconst 2, 1), (25, .invokevirtual 266, 3), (28, .return_, 1), (29, .aload_n 0, 1), (30, .sipush 400, 3), (33, .aload_n 0, 1), (34, .getfield 247, 3), (37, .invokevirtual 282, 3), (40, .aload_n 0, 1), (41, .invokevirtual 272, 3), (44, .aload_n 0, 1), (45, .invokevirtual 304, 3), (48, .goto 128, 3), (51, .iload_n 1, 1), (52, .iconst (-1), 1), (53, .if_icmp .eq 39, 3), (56, .iload_n 1, 1), (57, .aload_n 0, 1), (58, .getfield 307, 3), (61, .invokestatic 310, 3), (64, .ifCond .ne 9, 3), (67, .aload_n 0, 1), (68, .iconst 5, 1), (69, .invokevirtual 266, 3), (72, .return_, 1), (73, .aload_n 0, 1), (74, .sipush 401, 3), (77, .iload_n 1, 1), (78, .invokevirtual 282, 3), (81, .aload_n 0, 1), (82, .invokevirtual 272, 3), (85, .aload_n 0, 1), (86, .invokevirtual 304, 3), (89, .goto 87, 3), (92, .aload_n 0, 1), (93, .bipush 13, 2), (95, .invokevirtual 289, 3), (98, .ifCond .ne 12, 3), (101, .aload_n 0, 1), (102, .bipush 14, 2), (104, .invokevirtual 289, 3), (107, .ifCond .eq 26, 3), (110, .aload_n 0, 1), (111, .aload_n 0, 1), (112, .getfield 247, 3), (115, .bipush 13, 2), (117, .if_icmp .ne 8, 3), (120, .bipush 8, 2), (122, .goto 5, 3), (125, .bipush 9, 2), (127, .invokevirtual 314, 3), (130, .goto 46, 3), (133, .aload_n 0, 1), (134, .bipush 40, 2), (136, .invokevirtual 298, 3), (139, .ifCond .eq 13, 3), (142, .aload_n 0, 1), (143, .bipush 6, 2), (145, .invokevirtual 292, 3), (148, .istore_n 2, 1), (149, .goto 27, 3), (152, .aload_n 0, 1), (153, .bipush 45, 2), (155, .invokevirtual 298, 3), (158, .ifCond .eq 13, 3), (161, .aload_n 0, 1), (162, .bipush 7, 2), (164, .invokevirtual 292, 3), (167, .istore_n 2, 1), (168, .goto 8, 3), (171, .aload_n 0, 1), (172, .iconst 1, 1), (173, .invokevirtual 266, 3), (176, .return_, 1)]
theorem t_M_begins : DT cX11_begins b_M_begins := DT.of (by decide +kernel)
def F_M_begins  (σ : Mm) : Option (Mm) :=
  b1 (F_M_nameNow  σ) fun v1 =>
  if σ 200 17 = 2 then
    if σ 200 18 ≤ 9999 then
      b0M (F_M_emits 400 (σ 200 18) σ) fun s2 =>
      b0M (F_M_next  s2) fun s3 =>
      b0M (F_M_oneIsOver  s3) fun s4 =>
      some s4
    else
      b0M (F_M_errs 2 σ) fun s5 =>
      some s5
  else
    if v1 = (-1) then
      b1 (F_M_isWord 13 σ) fun v6 =>
      bindM (
        bindM ((if σ 200 18 = 13 then 8 else 9 : Int)) fun v8 =>
        b0M (F_M_opensTwo v8 σ) fun s9 =>
        some s9) fun J7 =>
      if v6 = 0 then
        b1 (F_M_isWord 14 σ) fun v10 =>
        if v10 = 0 then
          b1 (F_M_isSign 40 σ) fun v11 =>
          if v11 = 0 then
            b1 (F_M_isSign 45 σ) fun v12 =>
            if v12 = 0 then
              b0M (F_M_errs 1 σ) fun s13 =>
              some s13
            else
              b1M (F_M_opensSign 7 σ) fun v14 s14 =>
              some s14
          else
            b1M (F_M_opensSign 6 σ) fun v15 s15 =>
            some s15
        else
          J7
      else
        J7
    else
      b1 (F_M_mayName v1 (σ 200 30)) fun v16 =>
      if v16 = 0 then
        b0M (F_M_errs 5 σ) fun s17 =>
        some s17
      else
        b0M (F_M_emits 401 v1 σ) fun s18 =>
        b0M (F_M_next  s18) fun s19 =>
        b0M (F_M_oneIsOver  s19) fun s20 =>
        some s20
set_option maxRecDepth 100000 in
set_option maxHeartbeats 4000000 in
theorem c_M_begins  {σ : Mm} {σ2 : Mm} (hf : F_M_begins  σ = some σ2) : CT yX11_begins cX11_begins 3 none 5 1 (fun ad => [.ref (ad 200)]) σ True none σ2 := by
  refine MetJ 2 (by decide +kernel) rfl (fun _ => Nat.le_of_ble_eq_true rfl) ?_
  intro X h hR ok
  obtain ⟨res, er⟩ : ∃ z, z = σ2 := ⟨_, rfl⟩
  have hret : ∀ y : Mm, some y = some res → RX X 1 True none y := fun y e => by cases e; cases er; exact hR
  rw [← er] at hf
  clear er hR
  unfold F_M_begins at hf
  show SW X 1 3 0 [some (.ref (xad X 200)), none, none] [] σ
  refine SW_aload_n h rfl (dt t_M_begins 0 rfl) ?_
  obtain ⟨v1, e1, hf⟩ := b1_of hf
  refine cV h [] [] v_X11_nameNow kX11_301 o200 (c_M_nameNow  e1) rfl rfl (by decide) (by decide) rfl (Nat.le_of_ble_eq_true rfl) (dt t_M_begins 1 rfl) (fun h1 => ?_)
  refine SW_istore_n (lv2 := [some (.ref (xad X 200)), some (.int (i32 v1)), none]) h (dt t_M_begins 2 rfl) (by decide) rfl ?_
  refine SW_aload_n h rfl (dt t_M_begins 3 rfl) ?_
  refine gI h cf11 o200 f11_17 lX11_234 (dt t_M_begins 4 rfl) ?_
  refine SW_iconst h (dt t_M_begins 5 rfl) ?_
  refine SW_icmp_ne (tgt := 51) h (fun _ => (okI ok 200 17 (IsO.n3 o200))) (fun _ => (by decide)) (dt t_M_begins 6 rfl) rfl hf (fun hf => ?_) (fun hf => ?_)
  · refine SW_aload_n h rfl (dt t_M_begins 7 rfl) ?_
    refine gI h cf11 o200 f11_18 lX11_247 (dt t_M_begins 8 rfl) ?_
    refine SW_sipush h (dt t_M_begins 9 rfl) (by decide) ?_
    refine SW_icmp_le (tgt := 29) h (fun _ => (okI ok 200 18 (IsO.n3 o200))) (fun _ => (by decide)) (dt t_M_begins 10 rfl) rfl hf (fun hf => ?_) (fun hf => ?_)
    · refine SW_aload_n h rfl (dt t_M_begins 15 rfl) ?_
      refine SW_sipush h (dt t_M_begins 16 rfl) (by decide) ?_
      refine SW_aload_n h rfl (dt t_M_begins 17 rfl) ?_
      refine gI h cf11 o200 f11_18 lX11_247 (dt t_M_begins 18 rfl) ?_
      obtain ⟨s2, e2, hf⟩ := b0M_of hf
      refine cVv h [.int (i32 400), .int (i32 (σ 200 18))] [] v_X11_emits kX11_282 o200 (c_M_emits 400 (by decide) (σ 200 18) (okI ok 200 18 (IsO.n3 o200)) e2) rfl rfl (by decide) (by decide) rfl (Nat.le_of_ble_eq_true rfl) (dt t_M_begins 19 rfl) (fun h2 => ?_)
      refine SW_ok (fun ok2 => ?_)
      refine SW_aload_n h rfl (dt t_M_begins 20 rfl) ?_
      obtain ⟨s3, e3, hf⟩ := b0M_of hf
      refine cVv h [] [] v_X11_next kX11_272 o200 (c_M_next  e3) rfl rfl (by decide) (by decide) rfl (Nat.le_of_ble_eq_true rfl) (dt t_M_begins 21 rfl) (fun h3 => ?_)
      refine SW_ok (fun ok3 => ?_)
      refine SW_aload_n h rfl (dt t_M_begins 22 rfl) ?_
      obtain ⟨s4, e4, hf⟩ := b0M_of hf
      refine cVv h [] [] v_X11_oneIsOver kX11_304 o200 (c_M_oneIsOver  e4) rfl rfl (by decide) (by decide) rfl (Nat.le_of_ble_eq_true rfl) (dt t_M_begins 23 rfl) (fun h4 => ?_)
      refine SW_ok (fun ok4 => ?_)
      refine SW_goto (tgt := 176) h (dt t_M_begins 24 rfl) rfl ?_
      exact SW_vret h (hret _ hf) rfl (dt t_M_begins 85 rfl)
    · refine SW_aload_n h rfl (dt t_M_begins 11 rfl) ?_
      refine SW_iconst h (dt t_M_begins 12 rfl) ?_
      obtain ⟨s5, e5, hf⟩ := b0M_of hf
      refine cVv h [.int (i32 2)] [] v_X11_errs kX11_266 o200 (c_M_errs 2 (by decide) e5) rfl rfl (by decide) (by decide) rfl (Nat.le_of_ble_eq_true rfl) (dt t_M_begins 13 rfl) (fun h5 => ?_)
      refine SW_ok (fun ok5 => ?_)
      exact SW_vret h (hret _ hf) rfl (dt t_M_begins 14 rfl)
  · refine SW_iload_n h rfl (dt t_M_begins 25 rfl) ?_
    refine SW_iconst h (dt t_M_begins 26 rfl) ?_
    refine SW_icmp_eq (tgt := 92) h (fun _ => h1) (fun _ => (by decide)) (dt t_M_begins 27 rfl) rfl hf (fun hf => ?_) (fun hf => ?_)
    · refine SW_aload_n h rfl (dt t_M_begins 46 rfl) ?_
      refine SW_bipush h (dt t_M_begins 47 rfl) (by decide) ?_
      obtain ⟨v6, e6, hf⟩ := b1_of hf
      refine cV h [.int (i32 13)] [] v_X11_isWord kX11_289 o200 (c_M_isWord 13 (by decide) e6) rfl rfl (by decide) (by decide) rfl (Nat.le_of_ble_eq_true rfl) (dt t_M_begins 48 rfl) (fun h6 => ?_)
      refine bJ hf (fun J7 e7 hf => ?_)
      have k7 : ∀ (hf : J7 = some res), SW X 1 3 110 [some (.ref (xad X 200)), none, none] [] σ := by
        intro hf
        rw [e7] at hf
        refine SW_aload_n h rfl (dt t_M_begins 54 rfl) ?_
        refine SW_aload_n h rfl (dt t_M_begins 55 rfl) ?_
        refine gI h cf11 o200 f11_18 lX11_247 (dt t_M_begins 56 rfl) ?_
        refine SW_bipush h (dt t_M_begins 57 rfl) (by decide) ?_
        refine bT hf (fun g8 e8 hf => ?_)
        have k8 : ∀ (v8 : Int) (h8 : r32 v8) (hf : g8 v8 = some res), SW X 1 3 127 [some (.ref (xad X 200)), none, none] [.int (i32 v8), .ref (xad X 200)] σ := by
          intro v8 h8 hf
          rw [e8] at hf
          obtain ⟨s9, e9, hf⟩ := b0M_of hf
          refine cVv h [.int (i32 v8)] [] v_X11_opensTwo kX11_314 o200 (c_M_opensTwo v8 h8 e9) rfl rfl (by decide) (by decide) rfl (Nat.le_of_ble_eq_true rfl) (dt t_M_begins 62 rfl) (fun h9 => ?_)
          refine SW_ok (fun ok9 => ?_)
          refine SW_goto (tgt := 176) h (dt t_M_begins 63 rfl) rfl ?_
          exact SW_vret h (hret _ hf) rfl (dt t_M_begins 85 rfl)
        have hf := bIte hf
        refine SW_icmp_ne (tgt := 125) h (fun _ => (okI ok 200 18 (IsO.n3 o200))) (fun _ => (by decide)) (dt t_M_begins 58 rfl) rfl hf (fun hf => ?_) (fun hf => ?_)
        · refine SW_bipush h (dt t_M_begins 59 rfl) (by decide) ?_
          refine SW_goto (tgt := 127) h (dt t_M_begins 60 rfl) rfl ?_
          exact k8 8 (by decide) hf
        · refine SW_bipush h (dt t_M_begins 61 rfl) (by decide) ?_
          exact k8 9 (by decide) hf
      refine SW_if_ne (tgt := 110) h (fun _ => (r_zo h6)) (dt t_M_begins 49 rfl) rfl hf (fun hf => ?_) (fun hf => ?_)
      · refine SW_aload_n h rfl (dt t_M_begins 50 rfl) ?_
        refine SW_bipush h (dt t_M_begins 51 rfl) (by decide) ?_
        obtain ⟨v10, e10, hf⟩ := b1_of hf
        refine cV h [.int (i32 14)] [] v_X11_isWord kX11_289 o200 (c_M_isWord 14 (by decide) e10) rfl rfl (by decide) (by decide) rfl (Nat.le_of_ble_eq_true rfl) (dt t_M_begins 52 rfl) (fun h10 => ?_)
        refine SW_if_eq (tgt := 133) h (fun _ => (r_zo h10)) (dt t_M_begins 53 rfl) rfl hf (fun hf => ?_) (fun hf => ?_)
        · refine SW_aload_n h rfl (dt t_M_begins 64 rfl) ?_
          refine SW_bipush h (dt t_M_begins 65 rfl) (by decide) ?_
          obtain ⟨v11, e11, hf⟩ := b1_of hf
          refine cV h [.int (i32 40)] [] v_X11_isSign kX11_298 o200 (c_M_isSign 40 (by decide) e11) rfl rfl (by decide) (by decide) rfl (Nat.le_of_ble_eq_true rfl) (dt t_M_begins 66 rfl) (fun h11 => ?_)
          refine SW_if_eq (tgt := 152) h (fun _ => (r_zo h11)) (dt t_M_begins 67 rfl) rfl hf (fun hf => ?_) (fun hf => ?_)
          · refine SW_aload_n h rfl (dt t_M_begins 73 rfl) ?_
            refine SW_bipush h (dt t_M_begins 74 rfl) (by decide) ?_
            obtain ⟨v12, e12, hf⟩ := b1_of hf
            refine cV h [.int (i32 45)] [] v_X11_isSign kX11_298 o200 (c_M_isSign 45 (by decide) e12) rfl rfl (by decide) (by decide) rfl (Nat.le_of_ble_eq_true rfl) (dt t_M_begins 75 rfl) (fun h12 => ?_)
            refine SW_if_eq (tgt := 171) h (fun _ => (r_zo h12)) (dt t_M_begins 76 rfl) rfl hf (fun hf => ?_) (fun hf => ?_)
            · refine SW_aload_n h rfl (dt t_M_begins 82 rfl) ?_
              refine SW_iconst h (dt t_M_begins 83 rfl) ?_
              obtain ⟨s13, e13, hf⟩ := b0M_of hf
              refine cVv h [.int (i32 1)] [] v_X11_errs kX11_266 o200 (c_M_errs 1 (by decide) e13) rfl rfl (by decide) (by decide) rfl (Nat.le_of_ble_eq_true rfl) (dt t_M_begins 84 rfl) (fun h13 => ?_)
              refine SW_ok (fun ok13 => ?_)
              exact SW_vret h (hret _ hf) rfl (dt t_M_begins 85 rfl)
            · refine SW_aload_n h rfl (dt t_M_begins 77 rfl) ?_
              refine SW_bipush h (dt t_M_begins 78 rfl) (by decide) ?_
              obtain ⟨v14, s14, e14, hf⟩ := b1M_of hf
              refine cV h [.int (i32 7)] [] v_X11_opensSign kX11_292 o200 (c_M_opensSign 7 (by decide) e14) rfl rfl (by decide) (by decide) rfl (Nat.le_of_ble_eq_true rfl) (dt t_M_begins 79 rfl) (fun h14 => ?_)
              refine SW_ok (fun ok14 => ?_)
              refine SW_istore_n (lv2 := [some (.ref (xad X 200)), some (.int (i32 v1)), some (.int (i32 v14))]) h (dt t_M_begins 80 rfl) (by decide) rfl ?_
              refine SW_goto (tgt := 176) h (dt t_M_begins 81 rfl) rfl ?_
              exact SW_vret h (hret _ hf) rfl (dt t_M_begins 85 rfl)
          · refine SW_aload_n h rfl (dt t_M_begins 68 rfl) ?_
            refine SW_bipush h (dt t_M_begins 69 rfl) (by decide) ?_
            obtain ⟨v15, s15, e15, hf⟩ := b1M_of hf
            refine cV h [.int (i32 6)] [] v_X11_opensSign kX11_292 o200 (c_M_opensSign 6 (by decide) e15) rfl rfl (by decide) (by decide) rfl (Nat.le_of_ble_eq_true rfl) (dt t_M_begins 70 rfl) (fun h15 => ?_)
            refine SW_ok (fun ok15 => ?_)
            refine SW_istore_n (lv2 := [some (.ref (xad X 200)), some (.int (i32 v1)), some (.int (i32 v15))]) h (dt t_M_begins 71 rfl) (by decide) rfl ?_
            refine SW_goto (tgt := 176) h (dt t_M_begins 72 rfl) rfl ?_
            exact SW_vret h (hret _ hf) rfl (dt t_M_begins 85 rfl)
        · exact SW_fgt [true, false, false] rfl (k7 hf)
      · exact SW_fgt [true, false, false] rfl (k7 hf)
    · refine SW_iload_n h rfl (dt t_M_begins 28 rfl) ?_
      refine SW_aload_n h rfl (dt t_M_begins 29 rfl) ?_
      refine gI h cf11 o200 f11_30 lX11_307 (dt t_M_begins 30 rfl) ?_
      obtain ⟨v16, e16, hf⟩ := b1_of hf
      refine cS h [.int (i32 v1), .int (i32 (σ 200 30))] [] v_X11_mayName kX11_310 (c_M_mayName v1 h1 (σ 200 30) (okI ok 200 30 (IsO.n3 o200)) e16) rfl rfl (by decide) (by decide) rfl (Nat.le_of_ble_eq_true rfl) (dt t_M_begins 31 rfl) (fun h16 => ?_)
      refine SW_if_ne (tgt := 73) h (fun _ => (r_zo h16)) (dt t_M_begins 32 rfl) rfl hf (fun hf => ?_) (fun hf => ?_)
      · refine SW_aload_n h rfl (dt t_M_begins 33 rfl) ?_
        refine SW_iconst h (dt t_M_begins 34 rfl) ?_
        obtain ⟨s17, e17, hf⟩ := b0M_of hf
        refine cVv h [.int (i32 5)] [] v_X11_errs kX11_266 o200 (c_M_errs 5 (by decide) e17) rfl rfl (by decide) (by decide) rfl (Nat.le_of_ble_eq_true rfl) (dt t_M_begins 35 rfl) (fun h17 => ?_)
        refine SW_ok (fun ok17 => ?_)
        exact SW_vret h (hret _ hf) rfl (dt t_M_begins 36 rfl)
      · refine SW_aload_n h rfl (dt t_M_begins 37 rfl) ?_
        refine SW_sipush h (dt t_M_begins 38 rfl) (by decide) ?_
        refine SW_iload_n h rfl (dt t_M_begins 39 rfl) ?_
        obtain ⟨s18, e18, hf⟩ := b0M_of hf
        refine cVv h [.int (i32 401), .int (i32 v1)] [] v_X11_emits kX11_282 o200 (c_M_emits 401 (by decide) v1 h1 e18) rfl rfl (by decide) (by decide) rfl (Nat.le_of_ble_eq_true rfl) (dt t_M_begins 40 rfl) (fun h18 => ?_)
        refine SW_ok (fun ok18 => ?_)
        refine SW_aload_n h rfl (dt t_M_begins 41 rfl) ?_
        obtain ⟨s19, e19, hf⟩ := b0M_of hf
        refine cVv h [] [] v_X11_next kX11_272 o200 (c_M_next  e19) rfl rfl (by decide) (by decide) rfl (Nat.le_of_ble_eq_true rfl) (dt t_M_begins 42 rfl) (fun h19 => ?_)
        refine SW_ok (fun ok19 => ?_)
        refine SW_aload_n h rfl (dt t_M_begins 43 rfl) ?_
        obtain ⟨s20, e20, hf⟩ := b0M_of hf
        refine cVv h [] [] v_X11_oneIsOver kX11_304 o200 (c_M_oneIsOver  e20) rfl rfl (by decide) (by decide) rfl (Nat.le_of_ble_eq_true rfl) (dt t_M_begins 44 rfl) (fun h20 => ?_)
        refine SW_ok (fun ok20 => ?_)
        refine SW_goto (tgt := 176) h (dt t_M_begins 45 rfl) rfl ?_
        exact SW_vret h (hret _ hf) rfl (dt t_M_begins 85 rfl)
def b_M_isRow : List (Nat × Instr × Nat) := [(0, .iload_n 1, 1), (1, .iconst 0, 1), (2, .aload_n 0, 1), (3, .getfield 7, 3), (6, .iconst 0, 1), (7, .iaload, 1), (8, .iconst 1, 1), (9, .isub, 1), (10, .invokestatic 150, 3), (13, .ireturn, 1)]
theorem t_M_isRow : DT cX11_isRow b_M_isRow := DT.of (by decide +kernel)
def F_M_isRow (x1 : Int) (σ : Mm) : Option (Int) :=
  if r32 ((σ 201 0) - 1) then
    b1 (F_M_in x1 0 ((σ 201 0) - 1)) fun v1 =>
    some v1
  else none
set_option maxRecDepth 100000 in
set_option maxHeartbeats 4000000 in
theorem c_M_isRow (x1 : Int) (hx1 : r32 x1) {σ : Mm} {a : Int} (hf : F_M_isRow x1 σ = some a) : CT yX11_isRow cX11_isRow 2 (some .boolean) 1 1 (fun ad => [.ref (ad 200), .int (i32 x1)]) σ (a = 0 ∨ a = 1) (some (.int (i32 a))) σ := by
  refine MetJ 0 (by decide +kernel) rfl (fun _ => Nat.le_of_ble_eq_true rfl) ?_
  intro X h hR ok
  obtain ⟨res, er⟩ : ∃ z, z = a := ⟨_, rfl⟩
  have hret : ∀ y : Int, some y = some res → RX X 1 (y = 0 ∨ y = 1) (some (.int (i32 (y)))) σ := fun y e => by cases e; cases er; exact hR
  rw [← er] at hf
  clear er hR
  unfold F_M_isRow at hf
  show SW X 1 2 0 [some (.ref (xad X 200)), some (.int (i32 x1))] [] σ
  refine SW_iload_n h rfl (dt t_M_isRow 0 rfl) ?_
  refine SW_iconst h (dt t_M_isRow 1 rfl) ?_
  refine SW_aload_n h rfl (dt t_M_isRow 2 rfl) ?_
  refine gR h cf11 o200 f11_0 j200_0 lX11_7 (dt t_M_isRow 3 rfl) ?_
  refine SW_iconst h (dt t_M_isRow 4 rfl) ?_
  refine aIk h a201 (by decide) (dt t_M_isRow 5 rfl) ?_
  refine SW_iconst h (dt t_M_isRow 6 rfl) ?_
  refine SW_isub h (dt t_M_isRow 7 rfl) ?_
  refine SW_chk hf (fun h2 hf => ?_)
  obtain ⟨v1, e1, hf⟩ := b1_of hf
  refine cS h [.int (i32 x1), .int (i32 0), .int (i32 ((σ 201 0) - 1))] [] v_X11_in kX11_150 (c_M_in x1 hx1 0 (by decide) ((σ 201 0) - 1) h2 e1) rfl rfl (by decide) (by decide) rfl (Nat.le_of_ble_eq_true rfl) (dt t_M_isRow 8 rfl) (fun h1 => ?_)
  exact SW_zret h (hret _ hf) h1 rfl (dt t_M_isRow 9 rfl)
def b_M_beside : List (Nat × Instr × Nat) := [(0, .aload_n 0, 1), (1, .iload_n 1, 1), (2, .invokevirtual 439, 3), (5, .ifCond .eq 7, 3), (8, .iload_n 2, 1), (9, .ifCond .ge 5, 3), (12, .iconst (-1), 1), (13, .ireturn, 1), (14, .aload_n 0, 1), (15, .invokevirtual 446, 3), (18, .aload_n 0, 1), (19, .iload_n 1, 1), (20, .invokevirtual 419, 3), (23, .aload_n 0, 1), (24, .invokevirtual 406, 3), (27, .iload_n 2, 1), (28, .aload_n 0, 1), (29, .getfield 385, 3), (32, .iconst 1, 1), (33, .isub, 1), (34, .if_icmp .ge 39, 3), (37, .bipush 10, 2), (39, .aload_n 0, 1), (40, .getfield 106, 3), (43, .iload_n 2, 1), (44, .iaload, 1), (45, .imul, 1), (46, .aload_n 0, 1), (47, .getfield 106, 3), (50, .iload_n 2, 1), (51, .iconst 1, 1), (52, .iadd, 1), (53, .iaload, 1), (54, .iadd, 1), (55, .aload_n 0, 1), (56, .iload_n 2, 1), (57, .invokevirtual 412, 3), (60, .ifCond .eq 8, 3), (63, .bipush 100, 2), (65, .goto 4, 3), (68, .iconst 0, 1), (69, .iadd, 1), (70, .goto 4, 3), (73, .iconst (-1), 1), (74, .ireturn, 1)]
theorem t_M_beside : DT cX11_beside b_M_beside := DT.of (by decide +kernel)
def F_M_beside (x1 : Int) (x2 : Int) (σ : Mm) : Option (Int × Mm) :=
  b1 (F_M_isRow x1 σ) fun v1 =>
  if v1 = 0 then
    some ((-1), σ)
  else
    if 0 ≤ x2 then
      b0M (F_M_laysNow  σ) fun s2 =>
      b0M (F_M_laysRow x1 s2) fun s3 =>
      b0M (F_M_laysDigits  s3) fun s4 =>
      if r32 ((s4 200 53) - 1) then
        if (s4 200 53) - 1 ≤ x2 then
          some ((-1), s4)
        else
          if 0 ≤ x2 ∧ x2 < 16 then
            if 0 ≤ x2 + 1 ∧ x2 + 1 < 16 then
              b1M (F_M_quarrelAt x2 s4) fun v6 s6 =>
              bindM ((if v6 = 0 then 0 else 100 : Int)) fun v7 =>
              if r32 (((10 * (s4 230 x2.toNat)) + (s4 230 ((x2 + 1).toNat))) + v7) then
                some (((10 * (s4 230 x2.toNat)) + (s4 230 ((x2 + 1).toNat))) + v7, s6)
              else none
            else none
          else none
      else none
    else
      some ((-1), σ)
set_option maxRecDepth 100000 in
set_option maxHeartbeats 4000000 in
theorem c_M_beside (x1 : Int) (hx1 : r32 x1) (x2 : Int) (hx2 : r32 x2) {σ : Mm} {a : Int} {σ2 : Mm} (hf : F_M_beside x1 x2 σ = some (a, σ2)) : CT yX11_beside cX11_beside 3 (some .int) 5 1 (fun ad => [.ref (ad 200), .int (i32 x1), .int (i32 x2)]) σ (r32 a) (some (.int (i32 a))) σ2 := by
  refine MetJ 0 (by decide +kernel) rfl (fun _ => Nat.le_of_ble_eq_true rfl) ?_
  intro X h hR ok
  obtain ⟨res, er⟩ : ∃ z, z = (a, σ2) := ⟨_, rfl⟩
  have hret : ∀ y : Int × Mm, some y = some res → RX X 1 (r32 (y.1)) (some (.int (i32 (y.1)))) y.2 := fun y e => by cases e; cases er; exact hR
  rw [← er] at hf
  clear er hR
  unfold F_M_beside at hf
  show SW X 1 3 0 [some (.ref (xad X 200)), some (.int (i32 x1)), some (.int (i32 x2))] [] σ
  refine SW_aload_n h rfl (dt t_M_beside 0 rfl) ?_
  refine SW_iload_n h rfl (dt t_M_beside 1 rfl) ?_
  obtain ⟨v1, e1, hf⟩ := b1_of hf
  refine cV h [.int (i32 x1)] [] v_X11_isRow kX11_439 o200 (c_M_isRow x1 hx1 e1) rfl rfl (by decide) (by decide) rfl (Nat.le_of_ble_eq_true rfl) (dt t_M_beside 2 rfl) (fun h1 => ?_)
  refine SW_if_eq (tgt := 12) h (fun _ => (r_zo h1)) (dt t_M_beside 3 rfl) rfl hf (fun hf => ?_) (fun hf => ?_)
  · refine SW_iconst h (dt t_M_beside 6 rfl) ?_
    exact SW_iret h (hret _ hf) (fun _ => (by decide)) rfl (dt t_M_beside 7 rfl)
  · refine SW_iload_n h rfl (dt t_M_beside 4 rfl) ?_
    refine SW_if_ge (tgt := 14) h (fun _ => hx2) (dt t_M_beside 5 rfl) rfl hf (fun hf => ?_) (fun hf => ?_)
    · refine SW_aload_n h rfl (dt t_M_beside 8 rfl) ?_
      obtain ⟨s2, e2, hf⟩ := b0M_of hf
      refine cVv h [] [] v_X11_laysNow kX11_446 o200 (c_M_laysNow  e2) rfl rfl (by decide) (by decide) rfl (Nat.le_of_ble_eq_true rfl) (dt t_M_beside 9 rfl) (fun h2 => ?_)
      refine SW_ok (fun ok2 => ?_)
      refine SW_aload_n h rfl (dt t_M_beside 10 rfl) ?_
      refine SW_iload_n h rfl (dt t_M_beside 11 rfl) ?_
      obtain ⟨s3, e3, hf⟩ := b0M_of hf
      refine cVv h [.int (i32 x1)] [] v_X11_laysRow kX11_419 o200 (c_M_laysRow x1 hx1 e3) rfl rfl (by decide) (by decide) rfl (Nat.le_of_ble_eq_true rfl) (dt t_M_beside 12 rfl) (fun h3 => ?_)
      refine SW_ok (fun ok3 => ?_)
      refine SW_aload_n h rfl (dt t_M_beside 13 rfl) ?_
      obtain ⟨s4, e4, hf⟩ := b0M_of hf
      refine cVv h [] [] v_X11_laysDigits kX11_406 o200 (c_M_laysDigits  e4) rfl rfl (by decide) (by decide) rfl (Nat.le_of_ble_eq_true rfl) (dt t_M_beside 14 rfl) (fun h4 => ?_)
      refine SW_ok (fun ok4 => ?_)
      refine SW_iload_n h rfl (dt t_M_beside 15 rfl) ?_
      refine SW_aload_n h rfl (dt t_M_beside 16 rfl) ?_
      refine gI h cf11 o200 f11_53 lX11_385 (dt t_M_beside 17 rfl) ?_
      refine SW_iconst h (dt t_M_beside 18 rfl) ?_
      refine SW_isub h (dt t_M_beside 19 rfl) ?_
      refine SW_chk hf (fun h5 hf => ?_)
      refine SW_icmp_ge (tgt := 73) h (fun _ => hx2) (fun _ => h5) (dt t_M_beside 20 rfl) rfl hf (fun hf => ?_) (fun hf => ?_)
      · refine SW_iconst h (dt t_M_beside 43 rfl) ?_
        exact SW_iret h (hret _ hf) (fun _ => (by decide)) rfl (dt t_M_beside 44 rfl)
      · refine SW_bipush h (dt t_M_beside 21 rfl) (by decide) ?_
        refine SW_aload_n h rfl (dt t_M_beside 22 rfl) ?_
        refine gR h cf11 o200 f11_50 j200_50 lX11_106 (dt t_M_beside 23 rfl) ?_
        refine SW_iload_n h rfl (dt t_M_beside 24 rfl) ?_
        refine aI h a230 (dt t_M_beside 25 rfl) hf (fun hf => ?_)
        refine SW_imul h (dt t_M_beside 26 rfl) ?_
        refine SW_aload_n h rfl (dt t_M_beside 27 rfl) ?_
        refine gR h cf11 o200 f11_50 j200_50 lX11_106 (dt t_M_beside 28 rfl) ?_
        refine SW_iload_n h rfl (dt t_M_beside 29 rfl) ?_
        refine SW_iconst h (dt t_M_beside 30 rfl) ?_
        refine SW_iadd h (dt t_M_beside 31 rfl) ?_
        refine aI h a230 (dt t_M_beside 32 rfl) hf (fun hf => ?_)
        refine SW_iadd h (dt t_M_beside 33 rfl) ?_
        refine SW_aload_n h rfl (dt t_M_beside 34 rfl) ?_
        refine SW_iload_n h rfl (dt t_M_beside 35 rfl) ?_
        obtain ⟨v6, s6, e6, hf⟩ := b1M_of hf
        refine cV h [.int (i32 x2)] [.int (i32 ((10 * (s4 230 x2.toNat)) + (s4 230 ((x2 + 1).toNat))))] v_X11_quarrelAt kX11_412 o200 (c_M_quarrelAt x2 hx2 e6) rfl rfl (by decide) (by decide) rfl (Nat.le_of_ble_eq_true rfl) (dt t_M_beside 36 rfl) (fun h6 => ?_)
        refine SW_ok (fun ok6 => ?_)
        refine bT hf (fun g7 e7 hf => ?_)
        have k7 : ∀ (v7 : Int) (h7 : r32 v7) (hf : g7 v7 = some res), SW X 1 3 69 [some (.ref (xad X 200)), some (.int (i32 x1)), some (.int (i32 x2))] [.int (i32 v7), .int (i32 ((10 * (s4 230 x2.toNat)) + (s4 230 ((x2 + 1).toNat))))] s6 := by
          intro v7 h7 hf
          rw [e7] at hf
          refine SW_iadd h (dt t_M_beside 41 rfl) ?_
          refine SW_goto (tgt := 74) h (dt t_M_beside 42 rfl) rfl ?_
          refine SW_chk hf (fun h8 hf => ?_)
          exact SW_iret h (hret _ hf) (fun _ => h8) rfl (dt t_M_beside 44 rfl)
        have hf := bIte hf
        refine SW_if_eq (tgt := 68) h (fun _ => (r_zo h6)) (dt t_M_beside 37 rfl) rfl hf (fun hf => ?_) (fun hf => ?_)
        · refine SW_iconst h (dt t_M_beside 40 rfl) ?_
          exact k7 0 (by decide) hf
        · refine SW_bipush h (dt t_M_beside 38 rfl) (by decide) ?_
          refine SW_goto (tgt := 69) h (dt t_M_beside 39 rfl) rfl ?_
          exact k7 100 (by decide) hf
    · refine SW_iconst h (dt t_M_beside 6 rfl) ?_
      exact SW_iret h (hret _ hf) (fun _ => (by decide)) rfl (dt t_M_beside 7 rfl)
def b_M_book : List (Nat × Instr × Nat) := [(0, .iload_n 1, 1), (1, .iconst (-1), 1), (2, .if_icmp .ne 12, 3), (5, .aload_n 0, 1), (6, .getfield 7, 3), (9, .sipush 183, 3), (12, .iaload, 1), (13, .ireturn, 1), (14, .iload_n 1, 1), (15, .iconst 0, 1), (16, .aload_n 0, 1), (17, .getfield 7, 3), (20, .sipush 183, 3), (23, .iaload, 1), (24, .iconst 1, 1), (25, .isub, 1), (26, .invokestatic 150, 3), (29, .ifCond .eq 29, 3), (32, .iload_n 2, 1), (33, .iconst 0, 1), (34, .iconst 2, 1), (35, .invokestatic 150, 3), (38, .ifCond .eq 20, 3), (41, .aload_n 0, 1), (42, .getfield 7, 3), (45, .sipush 184, 3), (48, .iconst 3, 1), (49, .iload_n 1, 1), (50, .imul, 1), (51, .iadd, 1), (52, .iload_n 2, 1), (53, .iadd, 1), (54, .iaload, 1), (55, .goto 6, 3), (58, .ldc_w 442, 3), (61, .ireturn, 1)]
theorem t_M_book : DT cX11_book b_M_book := DT.of (by decide +kernel)
def F_M_book (x1 : Int) (x2 : Int) (σ : Mm) : Option (Int) :=
  if x1 = (-1) then
    some (σ 201 183)
  else
    if r32 ((σ 201 183) - 1) then
      b1 (F_M_in x1 0 ((σ 201 183) - 1)) fun v1 =>
      if v1 = 0 then
        some ((-1000000))
      else
        b1 (F_M_in x2 0 2) fun v3 =>
        if v3 = 0 then
          some ((-1000000))
        else
          if 0 ≤ (184 + (3 * x1)) + x2 ∧ (184 + (3 * x1)) + x2 < 5240 then
            some (σ 201 (((184 + (3 * x1)) + x2).toNat))
          else none
    else none
set_option maxRecDepth 100000 in
set_option maxHeartbeats 4000000 in
theorem c_M_book (x1 : Int) (hx1 : r32 x1) (x2 : Int) (hx2 : r32 x2) {σ : Mm} {a : Int} (hf : F_M_book x1 x2 σ = some a) : CT yX11_book cX11_book 3 (some .int) 1 1 (fun ad => [.ref (ad 200), .int (i32 x1), .int (i32 x2)]) σ (r32 a) (some (.int (i32 a))) σ := by
  refine MetJ 0 (by decide +kernel) rfl (fun _ => Nat.le_of_ble_eq_true rfl) ?_
  intro X h hR ok
  obtain ⟨res, er⟩ : ∃ z, z = a := ⟨_, rfl⟩
  have hret : ∀ y : Int, some y = some res → RX X 1 (r32 (y)) (some (.int (i32 (y)))) σ := fun y e => by cases e; cases er; exact hR
  rw [← er] at hf
  clear er hR
  unfold F_M_book at hf
  show SW X 1 3 0 [some (.ref (xad X 200)), some (.int (i32 x1)), some (.int (i32 x2))] [] σ
  refine SW_iload_n h rfl (dt t_M_book 0 rfl) ?_
  refine SW_iconst h (dt t_M_book 1 rfl) ?_
  refine SW_icmp_ne (tgt := 14) h (fun _ => hx1) (fun _ => (by decide)) (dt t_M_book 2 rfl) rfl hf (fun hf => ?_) (fun hf => ?_)
  · refine SW_aload_n h rfl (dt t_M_book 3 rfl) ?_
    refine gR h cf11 o200 f11_0 j200_0 lX11_7 (dt t_M_book 4 rfl) ?_
    refine SW_sipush h (dt t_M_book 5 rfl) (by decide) ?_
    refine aIk h a201 (by decide) (dt t_M_book 6 rfl) ?_
    exact SW_iret h (hret _ hf) (fun _ => (okI ok 201 183 (IsA.n3 a201 (by decide)))) rfl (dt t_M_book 7 rfl)
  · refine SW_iload_n h rfl (dt t_M_book 8 rfl) ?_
    refine SW_iconst h (dt t_M_book 9 rfl) ?_
    refine SW_aload_n h rfl (dt t_M_book 10 rfl) ?_
    refine gR h cf11 o200 f11_0 j200_0 lX11_7 (dt t_M_book 11 rfl) ?_
    refine SW_sipush h (dt t_M_book 12 rfl) (by decide) ?_
    refine aIk h a201 (by decide) (dt t_M_book 13 rfl) ?_
    refine SW_iconst h (dt t_M_book 14 rfl) ?_
    refine SW_isub h (dt t_M_book 15 rfl) ?_
    refine SW_chk hf (fun h2 hf => ?_)
    obtain ⟨v1, e1, hf⟩ := b1_of hf
    refine cS h [.int (i32 x1), .int (i32 0), .int (i32 ((σ 201 183) - 1))] [] v_X11_in kX11_150 (c_M_in x1 hx1 0 (by decide) ((σ 201 183) - 1) h2 e1) rfl rfl (by decide) (by decide) rfl (Nat.le_of_ble_eq_true rfl) (dt t_M_book 16 rfl) (fun h1 => ?_)
    refine SW_if_eq (tgt := 58) h (fun _ => (r_zo h1)) (dt t_M_book 17 rfl) rfl hf (fun hf => ?_) (fun hf => ?_)
    · refine SW_ldcw (n := -1000000) h nX11_442 (by decide) (dt t_M_book 34 rfl) ?_
      exact SW_iret h (hret _ hf) (fun _ => (by decide)) rfl (dt t_M_book 35 rfl)
    · refine SW_iload_n h rfl (dt t_M_book 18 rfl) ?_
      refine SW_iconst h (dt t_M_book 19 rfl) ?_
      refine SW_iconst h (dt t_M_book 20 rfl) ?_
      obtain ⟨v3, e3, hf⟩ := b1_of hf
      refine cS h [.int (i32 x2), .int (i32 0), .int (i32 2)] [] v_X11_in kX11_150 (c_M_in x2 hx2 0 (by decide) 2 (by decide) e3) rfl rfl (by decide) (by decide) rfl (Nat.le_of_ble_eq_true rfl) (dt t_M_book 21 rfl) (fun h3 => ?_)
      refine SW_if_eq (tgt := 58) h (fun _ => (r_zo h3)) (dt t_M_book 22 rfl) rfl hf (fun hf => ?_) (fun hf => ?_)
      · refine SW_ldcw (n := -1000000) h nX11_442 (by decide) (dt t_M_book 34 rfl) ?_
        exact SW_iret h (hret _ hf) (fun _ => (by decide)) rfl (dt t_M_book 35 rfl)
      · refine SW_aload_n h rfl (dt t_M_book 23 rfl) ?_
        refine gR h cf11 o200 f11_0 j200_0 lX11_7 (dt t_M_book 24 rfl) ?_
        refine SW_sipush h (dt t_M_book 25 rfl) (by decide) ?_
        refine SW_iconst h (dt t_M_book 26 rfl) ?_
        refine SW_iload_n h rfl (dt t_M_book 27 rfl) ?_
        refine SW_imul h (dt t_M_book 28 rfl) ?_
        refine SW_iadd h (dt t_M_book 29 rfl) ?_
        refine SW_iload_n h rfl (dt t_M_book 30 rfl) ?_
        refine SW_iadd h (dt t_M_book 31 rfl) ?_
        refine aI h a201 (dt t_M_book 32 rfl) hf (fun hf => ?_)
        refine SW_goto (tgt := 61) h (dt t_M_book 33 rfl) rfl ?_
        exact SW_iret h (hret _ hf) (fun _ => (okI ok 201 (((184 + (3 * x1)) + x2).toNat) (IsA.n3 a201 (by decide)))) rfl (dt t_M_book 35 rfl)
def b_M_by : List (Nat × Instr × Nat) := [(0, .iload_n 1, 1), (1, .iconst (-1), 1), (2, .if_icmp .eq 21, 3), (5, .iload_n 1, 1), (6, .iconst 0, 1), (7, .aload_n 0, 1), (8, .getfield 7, 3), (11, .iconst 1, 1), (12, .iaload, 1), (13, .iconst 1, 1), (14, .isub, 1), (15, .invokestatic 150, 3), (18, .ifCond .ne 5, 3), (21, .iconst 0, 1), (22, .ireturn, 1), (23, .aload_n 0, 1), (24, .getfield 7, 3), (27, .iconst 2, 1), (28, .iload_n 1, 1), (29, .iastore, 1), (30, .iconst 1, 1), (31, .ireturn, 1)]
theorem t_M_by : DT cX11_by b_M_by := DT.of (by decide +kernel)
def F_M_by (x1 : Int) (σ : Mm) : Option (Int × Mm) :=
  bindM (
    bindM (st2 σ 201 2 x1) fun s2 =>
    some (1, s2)) fun J1 =>
  if x1 = (-1) then
    J1
  else
    if r32 ((σ 201 1) - 1) then
      b1 (F_M_in x1 0 ((σ 201 1) - 1)) fun v3 =>
      if v3 = 0 then
        some (0, σ)
      else
        J1
    else none
set_option maxRecDepth 100000 in
set_option maxHeartbeats 4000000 in
theorem c_M_by (x1 : Int) (hx1 : r32 x1) {σ : Mm} {a : Int} {σ2 : Mm} (hf : F_M_by x1 σ = some (a, σ2)) : CT yX11_by cX11_by 2 (some .boolean) 1 1 (fun ad => [.ref (ad 200), .int (i32 x1)]) σ (a = 0 ∨ a = 1) (some (.int (i32 a))) σ2 := by
  refine MetJ 0 (by decide +kernel) rfl (fun _ => Nat.le_of_ble_eq_true rfl) ?_
  intro X h hR ok
  obtain ⟨res, er⟩ : ∃ z, z = (a, σ2) := ⟨_, rfl⟩
  have hret : ∀ y : Int × Mm, some y = some res → RX X 1 (y.1 = 0 ∨ y.1 = 1) (some (.int (i32 (y.1)))) y.2 := fun y e => by cases e; cases er; exact hR
  rw [← er] at hf
  clear er hR
  unfold F_M_by at hf
  show SW X 1 2 0 [some (.ref (xad X 200)), some (.int (i32 x1))] [] σ
  refine SW_iload_n h rfl (dt t_M_by 0 rfl) ?_
  refine SW_iconst h (dt t_M_by 1 rfl) ?_
  refine bJ hf (fun J1 e1 hf => ?_)
  have k1 : ∀ (hf : J1 = some res), SW X 1 2 23 [some (.ref (xad X 200)), some (.int (i32 x1))] [] σ := by
    intro hf
    rw [e1] at hf
    refine SW_aload_n h rfl (dt t_M_by 15 rfl) ?_
    refine gR h cf11 o200 f11_0 j200_0 lX11_7 (dt t_M_by 16 rfl) ?_
    refine SW_iconst h (dt t_M_by 17 rfl) ?_
    refine SW_iload_n h rfl (dt t_M_by 18 rfl) ?_
    refine sIk h a201 (by decide) hx1 (dt t_M_by 19 rfl) (SW_bm hf (fun s2 ok2 hf => ?_))
    refine SW_iconst h (dt t_M_by 20 rfl) ?_
    exact SW_zret h (hret _ hf) (by decide) rfl (dt t_M_by 21 rfl)
  refine SW_icmp_eq (tgt := 23) h (fun _ => hx1) (fun _ => (by decide)) (dt t_M_by 2 rfl) rfl hf (fun hf => ?_) (fun hf => ?_)
  · exact SW_fgt [true, true] rfl (k1 hf)
  · refine SW_iload_n h rfl (dt t_M_by 3 rfl) ?_
    refine SW_iconst h (dt t_M_by 4 rfl) ?_
    refine SW_aload_n h rfl (dt t_M_by 5 rfl) ?_
    refine gR h cf11 o200 f11_0 j200_0 lX11_7 (dt t_M_by 6 rfl) ?_
    refine SW_iconst h (dt t_M_by 7 rfl) ?_
    refine aIk h a201 (by decide) (dt t_M_by 8 rfl) ?_
    refine SW_iconst h (dt t_M_by 9 rfl) ?_
    refine SW_isub h (dt t_M_by 10 rfl) ?_
    refine SW_chk hf (fun h4 hf => ?_)
    obtain ⟨v3, e3, hf⟩ := b1_of hf
    refine cS h [.int (i32 x1), .int (i32 0), .int (i32 ((σ 201 1) - 1))] [] v_X11_in kX11_150 (c_M_in x1 hx1 0 (by decide) ((σ 201 1) - 1) h4 e3) rfl rfl (by decide) (by decide) rfl (Nat.le_of_ble_eq_true rfl) (dt t_M_by 11 rfl) (fun h3 => ?_)
    refine SW_if_ne (tgt := 23) h (fun _ => (r_zo h3)) (dt t_M_by 12 rfl) rfl hf (fun hf => ?_) (fun hf => ?_)
    · refine SW_iconst h (dt t_M_by 13 rfl) ?_
      exact SW_zret h (hret _ hf) (by decide) rfl (dt t_M_by 14 rfl)
    · exact SW_fgt [true, true] rfl (k1 hf)
def b_M_carried : List (Nat × Instr × Nat) := [(0, .iload_n 1, 1), (1, .iconst 0, 1), (2, .sipush 9999, 3), (5, .invokestatic 150, 3), (8, .ifCond .eq 14, 3), (11, .iload_n 2, 1), (12, .iconst 0, 1), (13, .sipush 9999, 3), (16, .invokestatic 150, 3), (19, .ifCond .ne 5, 3), (22, .iconst (-1), 1), (23, .ireturn, 1), (24, .aload_n 0, 1), (25, .invokevirtual 446, 3), (28, .iload_n 1, 1), (29, .istore 4, 2), (31, .iload_n 2, 1), (32, .istore 5, 2), (34, .iconst 0, 1), (35, .istore 6, 2), (37, .iconst 0, 1), (38, .istore 7, 2), (40, .iconst 0, 1), (41, .istore 8, 2), (43, .iconst 1, 1), (44, .istore 9, 2), (46, .iload 4, 2), (48, .ifCond .gt 13, 3), (51, .iload 5, 2), (53, .ifCond .gt 8, 3), (56, .iload 9, 2), (58, .ifCond .eq 103, 3), (61, .iload 4, 2), (63, .bipush 10, 2), (65, .irem, 1), (66, .iload 5, 2), (68, .bipush 10, 2), (70, .irem, 1), (71, .iadd, 1), (72, .iload 6, 2), (74, .iadd, 1), (75, .bipush 10, 2), (77, .idiv, 1), (78, .istore 6, 2), (80, .iload 7, 2), (82, .iload 6, 2), (84, .iadd, 1), (85, .istore 7, 2), (87, .iload 8, 2), (89, .iload 6, 2), (91, .iconst 1, 1), (92, .if_icmp .ne 31, 3), (95, .iload 9, 2), (97, .ifCond .eq 26, 3), (100, .aload_n 0, 1), (101, .iload 4, 2), (103, .bipush 10, 2), (105, .irem, 1), (106, .iload 5, 2), (108, .bipush 10, 2), (110, .irem, 1), (111, .iconst 1, 1), (112, .iconst 0, 1), (113, .invokevirtual 402, 3), (116, .ifCond .eq 7, 3), (119, .iconst 1, 1), (120, .goto 4, 3), (123, .iconst 0, 1), (124, .iadd, 1), (125, .istore 8, 2), (127, .iload 4, 2), (129, .bipush 10, 2), (131, .idiv, 1), (132, .istore 4, 2), (134, .iload 5, 2), (136, .bipush 10, 2), (138, .idiv, 1), (139, .istore 5, 2), (141, .iload 4, 2), (143, .ifCond .le 12, 3), (146, .iload 5, 2), (148, .ifCond .le 7, 3), (151, .iconst 1, 1), (152, .goto 4, 3), (155, .iconst 0, 1), (156, .istore 9, 2), (158, .goto (-112), 3), (161, .iload_n 3, 1), (162, .ifCond .eq 8, 3), (165, .iload 8, 2), (167, .goto 5, 3), (170, .iload 7, 2), (172, .ireturn, 1)]
theorem t_M_carried : DT cX11_carried b_M_carried := DT.of (by decide +kernel)
def L_M_carried_46 : Nat → Int → Int → Int → Int → Int → Int → Mm → Option (Int × Int × Mm)
  | 0, _, _, _, _, _, _, _ => none
  | n + 1, x4, x5, x6, x7, x8, x9, σ =>
    bindM (
      if r32 (((x4.tmod 10) + (x5.tmod 10)) + x6) then
        bindM ((((x4.tmod 10) + (x5.tmod 10)) + x6).tdiv 10) fun v6 =>
        bindM (fun (y7 : Int) (t7 : Mm) =>
          bindM (fun (y8 : Int) =>
            if r32 (x7 + v6) then
              if r32 (x8 + y7) then
                L_M_carried_46 n (x4.tdiv 10) (x5.tdiv 10) v6 (x7 + v6) (x8 + y7) y8 t7
              else none
            else none) fun J8 =>
          bindM (
            J8 0) fun J11 =>
          if x4.tdiv 10 ≤ 0 then
            J11
          else
            if x5.tdiv 10 ≤ 0 then
              J11
            else
              J8 1) fun J7 =>
        bindM (fun  (t12 : Mm) =>
          J7 0 t12) fun J12 =>
        if v6 = 1 then
          if x9 = 0 then
            J12 σ
          else
            b1M (F_M_doQuarrel (x4.tmod 10) (x5.tmod 10) 1 0 σ) fun v13 s13 =>
            if v13 = 0 then
              J12 s13
            else
              J7 1 s13
        else
          J12 σ
      else none) fun J4 =>
    if 0 < x4 then
      J4
    else
      if 0 < x5 then
        J4
      else
        if x9 = 0 then
          some ((x7, x8, σ))
        else
          J4
set_option maxRecDepth 100000 in
set_option maxHeartbeats 4000000 in
theorem l_M_carried_46 {X : Cx} (h : CX X 1 cX11_carried 10 4 (some .int) RX11) (x3 : Int) (hx3 : r32 x3) {res : Int × Int × Mm} (hex : ∀ (x7 : Int) (x8 : Int) (σ : Mm) (hz : some ((x7, x8, σ)) = some res) (hx7 : r32 x7) (hx8 : r32 x8) (ok : okM σ), SW X 1 10 161 [none, none, none, some (.int (i32 x3)), none, none, none, some (.int (i32 x7)), some (.int (i32 x8)), none] [] σ) : ∀ (n : Nat) (x4 : Int) (x5 : Int) (x6 : Int) (x7 : Int) (x8 : Int) (x9 : Int) (σ : Mm) (hx4 : r32 x4) (hx5 : r32 x5) (hx6 : r32 x6) (hx7 : r32 x7) (hx8 : r32 x8) (hx9 : r32 x9) (ok : okM σ) (hf : L_M_carried_46 n x4 x5 x6 x7 x8 x9 σ = some res), SW X 1 10 46 [some (.ref (xad X 200)), none, none, some (.int (i32 x3)), some (.int (i32 x4)), some (.int (i32 x5)), some (.int (i32 x6)), some (.int (i32 x7)), some (.int (i32 x8)), some (.int (i32 x9))] [] σ := by
  intro n
  induction n with
  | zero => intro x4 x5 x6 x7 x8 x9 σ hx4 hx5 hx6 hx7 hx8 hx9 ok hf; exact absurd hf (by simp [L_M_carried_46])
  | succ n ih =>
    intro x4 x5 x6 x7 x8 x9 σ hx4 hx5 hx6 hx7 hx8 hx9 ok hf
    rw [L_M_carried_46] at hf
    refine SW_iload h rfl (dt t_M_carried 26 rfl) ?_
    refine bJ hf (fun J4 e4 hf => ?_)
    have k4 : ∀ (hf : J4 = some res), SW X 1 10 61 [some (.ref (xad X 200)), none, none, some (.int (i32 x3)), some (.int (i32 x4)), some (.int (i32 x5)), some (.int (i32 x6)), some (.int (i32 x7)), some (.int (i32 x8)), some (.int (i32 x9))] [] σ := by
      intro hf
      rw [e4] at hf
      refine SW_iload h rfl (dt t_M_carried 32 rfl) ?_
      refine SW_bipush h (dt t_M_carried 33 rfl) (by decide) ?_
      refine SW_irem h (fun _ => hx4) (fun _ => (by decide)) (by decide) (dt t_M_carried 34 rfl) ?_
      refine SW_iload h rfl (dt t_M_carried 35 rfl) ?_
      refine SW_bipush h (dt t_M_carried 36 rfl) (by decide) ?_
      refine SW_irem h (fun _ => hx5) (fun _ => (by decide)) (by decide) (dt t_M_carried 37 rfl) ?_
      refine SW_iadd h (dt t_M_carried 38 rfl) ?_
      refine SW_iload h rfl (dt t_M_carried 39 rfl) ?_
      refine SW_iadd h (dt t_M_carried 40 rfl) ?_
      refine SW_bipush h (dt t_M_carried 41 rfl) (by decide) ?_
      refine SW_chk hf (fun h5 hf => ?_)
      refine SW_idiv h (fun _ => h5) (fun _ => (by decide)) (by decide) (dt t_M_carried 42 rfl) ?_
      refine SW_vi hf (r_tdiv h5 (by decide)) (fun v6 h6 hf => ?_)
      refine SW_istore (lv2 := [some (.ref (xad X 200)), none, none, some (.int (i32 x3)), some (.int (i32 x4)), some (.int (i32 x5)), some (.int (i32 v6)), some (.int (i32 x7)), some (.int (i32 x8)), some (.int (i32 x9))]) h (dt t_M_carried 43 rfl) (by decide) rfl ?_
      refine SW_iload h rfl (dt t_M_carried 44 rfl) ?_
      refine SW_iload h rfl (dt t_M_carried 45 rfl) ?_
      refine SW_iadd h (dt t_M_carried 46 rfl) ?_
      refine SW_istore (lv2 := [some (.ref (xad X 200)), none, none, some (.int (i32 x3)), some (.int (i32 x4)), some (.int (i32 x5)), some (.int (i32 v6)), some (.int (i32 (x7 + v6))), some (.int (i32 x8)), some (.int (i32 x9))]) h (dt t_M_carried 47 rfl) (by decide) rfl ?_
      refine SW_iload h rfl (dt t_M_carried 48 rfl) ?_
      refine SW_iload h rfl (dt t_M_carried 49 rfl) ?_
      refine SW_iconst h (dt t_M_carried 50 rfl) ?_
      refine bJ hf (fun J7 e7 hf => ?_)
      have k7 : ∀ (y7 : Int) (t7 : Mm) (hy7 : r32 y7) (ot7 : okM t7) (hf : J7 y7 t7 = some res), SW X 1 10 124 [some (.ref (xad X 200)), none, none, some (.int (i32 x3)), some (.int (i32 x4)), some (.int (i32 x5)), some (.int (i32 v6)), some (.int (i32 (x7 + v6))), none, none] [.int (i32 y7), .int (i32 x8)] t7 := by
        intro y7 t7 hy7 ot7 hf
        rw [e7] at hf
        refine SW_iadd h (dt t_M_carried 68 rfl) ?_
        refine SW_istore (lv2 := [some (.ref (xad X 200)), none, none, some (.int (i32 x3)), some (.int (i32 x4)), some (.int (i32 x5)), some (.int (i32 v6)), some (.int (i32 (x7 + v6))), some (.int (i32 (x8 + y7))), none]) h (dt t_M_carried 69 rfl) (by decide) rfl ?_
        refine SW_iload h rfl (dt t_M_carried 70 rfl) ?_
        refine SW_bipush h (dt t_M_carried 71 rfl) (by decide) ?_
        refine SW_idiv h (fun _ => hx4) (fun _ => (by decide)) (by decide) (dt t_M_carried 72 rfl) ?_
        refine SW_istore (lv2 := [some (.ref (xad X 200)), none, none, some (.int (i32 x3)), some (.int (i32 (x4.tdiv 10))), some (.int (i32 x5)), some (.int (i32 v6)), some (.int (i32 (x7 + v6))), some (.int (i32 (x8 + y7))), none]) h (dt t_M_carried 73 rfl) (by decide) rfl ?_
        refine SW_iload h rfl (dt t_M_carried 74 rfl) ?_
        refine SW_bipush h (dt t_M_carried 75 rfl) (by decide) ?_
        refine SW_idiv h (fun _ => hx5) (fun _ => (by decide)) (by decide) (dt t_M_carried 76 rfl) ?_
        refine SW_istore (lv2 := [some (.ref (xad X 200)), none, none, some (.int (i32 x3)), some (.int (i32 (x4.tdiv 10))), some (.int (i32 (x5.tdiv 10))), some (.int (i32 v6)), some (.int (i32 (x7 + v6))), some (.int (i32 (x8 + y7))), none]) h (dt t_M_carried 77 rfl) (by decide) rfl ?_
        refine SW_iload h rfl (dt t_M_carried 78 rfl) ?_
        refine bJ hf (fun J8 e8 hf => ?_)
        have k8 : ∀ (y8 : Int) (hy8 : r32 y8) (hf : J8 y8 = some res), SW X 1 10 156 [some (.ref (xad X 200)), none, none, some (.int (i32 x3)), some (.int (i32 (x4.tdiv 10))), some (.int (i32 (x5.tdiv 10))), some (.int (i32 v6)), some (.int (i32 (x7 + v6))), some (.int (i32 (x8 + y7))), none] [.int (i32 y8)] t7 := by
          intro y8 hy8 hf
          rw [e8] at hf
          refine SW_istore (lv2 := [some (.ref (xad X 200)), none, none, some (.int (i32 x3)), some (.int (i32 (x4.tdiv 10))), some (.int (i32 (x5.tdiv 10))), some (.int (i32 v6)), some (.int (i32 (x7 + v6))), some (.int (i32 (x8 + y7))), some (.int (i32 y8))]) h (dt t_M_carried 85 rfl) (by decide) rfl ?_
          refine SW_goto (tgt := 46) h (dt t_M_carried 86 rfl) rfl ?_
          refine SW_chk hf (fun h9 hf => ?_)
          refine SW_chk hf (fun h10 hf => ?_)
          exact SW_fgt [true, false, false, true, true, true, true, true, true, true] rfl (ih (x4.tdiv 10) (x5.tdiv 10) v6 (x7 + v6) (x8 + y7) y8 t7 (r_tdiv hx4 (by decide)) (r_tdiv hx5 (by decide)) h6 h9 h10 hy8 ot7 hf)
        refine bJ hf (fun J11 e11 hf => ?_)
        have k11 : ∀ (hf : J11 = some res), SW X 1 10 155 [some (.ref (xad X 200)), none, none, some (.int (i32 x3)), some (.int (i32 (x4.tdiv 10))), some (.int (i32 (x5.tdiv 10))), some (.int (i32 v6)), some (.int (i32 (x7 + v6))), some (.int (i32 (x8 + y7))), none] [] t7 := by
          intro hf
          rw [e11] at hf
          refine SW_iconst h (dt t_M_carried 84 rfl) ?_
          exact SW_fgt [true, false, false, true, true, true, true, true, true, false] rfl (k8 0 (by decide) hf)
        refine SW_if_le (tgt := 155) h (fun _ => (r_tdiv hx4 (by decide))) (dt t_M_carried 79 rfl) rfl hf (fun hf => ?_) (fun hf => ?_)
        · exact SW_fgt [true, false, false, true, true, true, true, true, true, false] rfl (k11 hf)
        · refine SW_iload h rfl (dt t_M_carried 80 rfl) ?_
          refine SW_if_le (tgt := 155) h (fun _ => (r_tdiv hx5 (by decide))) (dt t_M_carried 81 rfl) rfl hf (fun hf => ?_) (fun hf => ?_)
          · exact SW_fgt [true, false, false, true, true, true, true, true, true, false] rfl (k11 hf)
          · refine SW_iconst h (dt t_M_carried 82 rfl) ?_
            refine SW_goto (tgt := 156) h (dt t_M_carried 83 rfl) rfl ?_
            exact SW_fgt [true, false, false, true, true, true, true, true, true, false] rfl (k8 1 (by decide) hf)
      refine bJ hf (fun J12 e12 hf => ?_)
      have k12 : ∀  (t12 : Mm)  (ot12 : okM t12) (hf : J12 t12 = some res), SW X 1 10 123 [some (.ref (xad X 200)), none, none, some (.int (i32 x3)), some (.int (i32 x4)), some (.int (i32 x5)), some (.int (i32 v6)), some (.int (i32 (x7 + v6))), none, none] [.int (i32 x8)] t12 := by
        intro t12 ot12 hf
        rw [e12] at hf
        refine SW_iconst h (dt t_M_carried 67 rfl) ?_
        exact SW_fgt [true, false, false, true, true, true, true, true, false, false] rfl (k7 0 t12 (by decide) ot12 hf)
      refine SW_icmp_ne (tgt := 123) h (fun _ => h6) (fun _ => (by decide)) (dt t_M_carried 51 rfl) rfl hf (fun hf => ?_) (fun hf => ?_)
      · refine SW_iload h rfl (dt t_M_carried 52 rfl) ?_
        refine SW_if_eq (tgt := 123) h (fun _ => hx9) (dt t_M_carried 53 rfl) rfl hf (fun hf => ?_) (fun hf => ?_)
        · exact SW_fgt [true, false, false, true, true, true, true, true, false, false] rfl (k12 σ ok hf)
        · refine SW_aload_n h rfl (dt t_M_carried 54 rfl) ?_
          refine SW_iload h rfl (dt t_M_carried 55 rfl) ?_
          refine SW_bipush h (dt t_M_carried 56 rfl) (by decide) ?_
          refine SW_irem h (fun _ => hx4) (fun _ => (by decide)) (by decide) (dt t_M_carried 57 rfl) ?_
          refine SW_iload h rfl (dt t_M_carried 58 rfl) ?_
          refine SW_bipush h (dt t_M_carried 59 rfl) (by decide) ?_
          refine SW_irem h (fun _ => hx5) (fun _ => (by decide)) (by decide) (dt t_M_carried 60 rfl) ?_
          refine SW_iconst h (dt t_M_carried 61 rfl) ?_
          refine SW_iconst h (dt t_M_carried 62 rfl) ?_
          obtain ⟨v13, s13, e13, hf⟩ := b1M_of hf
          refine cV h [.int (i32 (x4.tmod 10)), .int (i32 (x5.tmod 10)), .int (i32 1), .int (i32 0)] [.int (i32 x8)] v_X11_doQuarrel kX11_402 o200 (c_M_doQuarrel (x4.tmod 10) (r_tmod hx4 (by decide)) (x5.tmod 10) (r_tmod hx5 (by decide)) 1 (by decide) 0 (by decide) e13) rfl rfl (by decide) (by decide) rfl (Nat.le_of_ble_eq_true rfl) (dt t_M_carried 63 rfl) (fun h13 => ?_)
          refine SW_ok (fun ok13 => ?_)
          refine SW_if_eq (tgt := 123) h (fun _ => (r_zo h13)) (dt t_M_carried 64 rfl) rfl hf (fun hf => ?_) (fun hf => ?_)
          · exact SW_fgt [true, false, false, true, true, true, true, true, false, false] rfl (k12 s13 ok13 hf)
          · refine SW_iconst h (dt t_M_carried 65 rfl) ?_
            refine SW_goto (tgt := 124) h (dt t_M_carried 66 rfl) rfl ?_
            exact SW_fgt [true, false, false, true, true, true, true, true, false, false] rfl (k7 1 s13 (by decide) ok13 hf)
      · exact SW_fgt [true, false, false, true, true, true, true, true, false, false] rfl (k12 σ ok hf)
    refine SW_if_gt (tgt := 61) h (fun _ => hx4) (dt t_M_carried 27 rfl) rfl hf (fun hf => ?_) (fun hf => ?_)
    · exact SW_fgt [true, false, false, true, true, true, true, true, true, true] rfl (k4 hf)
    · refine SW_iload h rfl (dt t_M_carried 28 rfl) ?_
      refine SW_if_gt (tgt := 61) h (fun _ => hx5) (dt t_M_carried 29 rfl) rfl hf (fun hf => ?_) (fun hf => ?_)
      · exact SW_fgt [true, false, false, true, true, true, true, true, true, true] rfl (k4 hf)
      · refine SW_iload h rfl (dt t_M_carried 30 rfl) ?_
        refine SW_if_eq (tgt := 161) h (fun _ => hx9) (dt t_M_carried 31 rfl) rfl hf (fun hf => ?_) (fun hf => ?_)
        · exact SW_fgt [false, false, false, true, false, false, false, true, true, false] rfl (hex x7 x8 σ hf hx7 hx8 ok)
        · exact SW_fgt [true, false, false, true, true, true, true, true, true, true] rfl (k4 hf)
def F_M_carried (x1 : Int) (x2 : Int) (x3 : Int) (σ : Mm) : Option (Int × Mm) :=
  b1 (F_M_in x1 0 9999) fun v1 =>
  if v1 = 0 then
    some ((-1), σ)
  else
    b1 (F_M_in x2 0 9999) fun v2 =>
    if v2 = 0 then
      some ((-1), σ)
    else
      b0M (F_M_laysNow  σ) fun s3 =>
      b2M (L_M_carried_46 LF x1 x2 0 0 0 1 s3) fun x7_14 x8_14 s14 =>
      if x3 = 0 then
        some (x7_14, s14)
      else
        some (x8_14, s14)
set_option maxRecDepth 100000 in
set_option maxHeartbeats 4000000 in
theorem c_M_carried (x1 : Int) (hx1 : r32 x1) (x2 : Int) (hx2 : r32 x2) (x3 : Int) (hx3 : r32 x3) {σ : Mm} {a : Int} {σ2 : Mm} (hf : F_M_carried x1 x2 x3 σ = some (a, σ2)) : CT yX11_carried cX11_carried 10 (some .int) 4 1 (fun ad => [.ref (ad 200), .int (i32 x1), .int (i32 x2), .int (i32 x3)]) σ (r32 a) (some (.int (i32 a))) σ2 := by
  refine MetJ 6 (by decide +kernel) rfl (fun _ => Nat.le_of_ble_eq_true rfl) ?_
  intro X h hR ok
  obtain ⟨res, er⟩ : ∃ z, z = (a, σ2) := ⟨_, rfl⟩
  have hret : ∀ y : Int × Mm, some y = some res → RX X 1 (r32 (y.1)) (some (.int (i32 (y.1)))) y.2 := fun y e => by cases e; cases er; exact hR
  rw [← er] at hf
  clear er hR
  unfold F_M_carried at hf
  show SW X 1 10 0 [some (.ref (xad X 200)), some (.int (i32 x1)), some (.int (i32 x2)), some (.int (i32 x3)), none, none, none, none, none, none] [] σ
  refine SW_iload_n h rfl (dt t_M_carried 0 rfl) ?_
  refine SW_iconst h (dt t_M_carried 1 rfl) ?_
  refine SW_sipush h (dt t_M_carried 2 rfl) (by decide) ?_
  obtain ⟨v1, e1, hf⟩ := b1_of hf
  refine cS h [.int (i32 x1), .int (i32 0), .int (i32 9999)] [] v_X11_in kX11_150 (c_M_in x1 hx1 0 (by decide) 9999 (by decide) e1) rfl rfl (by decide) (by decide) rfl (Nat.le_of_ble_eq_true rfl) (dt t_M_carried 3 rfl) (fun h1 => ?_)
  refine SW_if_eq (tgt := 22) h (fun _ => (r_zo h1)) (dt t_M_carried 4 rfl) rfl hf (fun hf => ?_) (fun hf => ?_)
  · refine SW_iconst h (dt t_M_carried 10 rfl) ?_
    exact SW_iret h (hret _ hf) (fun _ => (by decide)) rfl (dt t_M_carried 11 rfl)
  · refine SW_iload_n h rfl (dt t_M_carried 5 rfl) ?_
    refine SW_iconst h (dt t_M_carried 6 rfl) ?_
    refine SW_sipush h (dt t_M_carried 7 rfl) (by decide) ?_
    obtain ⟨v2, e2, hf⟩ := b1_of hf
    refine cS h [.int (i32 x2), .int (i32 0), .int (i32 9999)] [] v_X11_in kX11_150 (c_M_in x2 hx2 0 (by decide) 9999 (by decide) e2) rfl rfl (by decide) (by decide) rfl (Nat.le_of_ble_eq_true rfl) (dt t_M_carried 8 rfl) (fun h2 => ?_)
    refine SW_if_ne (tgt := 24) h (fun _ => (r_zo h2)) (dt t_M_carried 9 rfl) rfl hf (fun hf => ?_) (fun hf => ?_)
    · refine SW_iconst h (dt t_M_carried 10 rfl) ?_
      exact SW_iret h (hret _ hf) (fun _ => (by decide)) rfl (dt t_M_carried 11 rfl)
    · refine SW_aload_n h rfl (dt t_M_carried 12 rfl) ?_
      obtain ⟨s3, e3, hf⟩ := b0M_of hf
      refine cVv h [] [] v_X11_laysNow kX11_446 o200 (c_M_laysNow  e3) rfl rfl (by decide) (by decide) rfl (Nat.le_of_ble_eq_true rfl) (dt t_M_carried 13 rfl) (fun h3 => ?_)
      refine SW_ok (fun ok3 => ?_)
      refine SW_iload_n h rfl (dt t_M_carried 14 rfl) ?_
      refine SW_istore (lv2 := [some (.ref (xad X 200)), some (.int (i32 x1)), some (.int (i32 x2)), some (.int (i32 x3)), some (.int (i32 x1)), none, none, none, none, none]) h (dt t_M_carried 15 rfl) (by decide) rfl ?_
      refine SW_iload_n h rfl (dt t_M_carried 16 rfl) ?_
      refine SW_istore (lv2 := [some (.ref (xad X 200)), some (.int (i32 x1)), some (.int (i32 x2)), some (.int (i32 x3)), some (.int (i32 x1)), some (.int (i32 x2)), none, none, none, none]) h (dt t_M_carried 17 rfl) (by decide) rfl ?_
      refine SW_iconst h (dt t_M_carried 18 rfl) ?_
      refine SW_istore (lv2 := [some (.ref (xad X 200)), some (.int (i32 x1)), some (.int (i32 x2)), some (.int (i32 x3)), some (.int (i32 x1)), some (.int (i32 x2)), some (.int (i32 0)), none, none, none]) h (dt t_M_carried 19 rfl) (by decide) rfl ?_
      refine SW_iconst h (dt t_M_carried 20 rfl) ?_
      refine SW_istore (lv2 := [some (.ref (xad X 200)), some (.int (i32 x1)), some (.int (i32 x2)), some (.int (i32 x3)), some (.int (i32 x1)), some (.int (i32 x2)), some (.int (i32 0)), some (.int (i32 0)), none, none]) h (dt t_M_carried 21 rfl) (by decide) rfl ?_
      refine SW_iconst h (dt t_M_carried 22 rfl) ?_
      refine SW_istore (lv2 := [some (.ref (xad X 200)), some (.int (i32 x1)), some (.int (i32 x2)), some (.int (i32 x3)), some (.int (i32 x1)), some (.int (i32 x2)), some (.int (i32 0)), some (.int (i32 0)), some (.int (i32 0)), none]) h (dt t_M_carried 23 rfl) (by decide) rfl ?_
      refine SW_iconst h (dt t_M_carried 24 rfl) ?_
      refine SW_istore (lv2 := [some (.ref (xad X 200)), some (.int (i32 x1)), some (.int (i32 x2)), some (.int (i32 x3)), some (.int (i32 x1)), some (.int (i32 x2)), some (.int (i32 0)), some (.int (i32 0)), some (.int (i32 0)), some (.int (i32 1))]) h (dt t_M_carried 25 rfl) (by decide) rfl ?_
      obtain ⟨z14, e14, hk14⟩ := b2M_ex hf
      refine SW_fgt [true, false, false, true, true, true, true, true, true, true] rfl (l_M_carried_46 h x3 hx3 (fun x7_14 x8_14 s14 hz14 hx7_14 hx8_14 ok14 => ?_) LF x1 x2 0 0 0 1 s3 hx1 hx2 (by decide) (by decide) (by decide) (by decide) ok3 e14)
      have hf := hk14 x7_14 x8_14 s14 hz14
      refine SW_iload_n h rfl (dt t_M_carried 87 rfl) ?_
      refine SW_if_eq (tgt := 170) h (fun _ => hx3) (dt t_M_carried 88 rfl) rfl hf (fun hf => ?_) (fun hf => ?_)
      · refine SW_iload h rfl (dt t_M_carried 91 rfl) ?_
        exact SW_iret h (hret _ hf) (fun _ => hx7_14) rfl (dt t_M_carried 92 rfl)
      · refine SW_iload h rfl (dt t_M_carried 89 rfl) ?_
        refine SW_goto (tgt := 172) h (dt t_M_carried 90 rfl) rfl ?_
        exact SW_iret h (hret _ hf) (fun _ => hx8_14) rfl (dt t_M_carried 92 rfl)
def b_M_isTrueWith : List (Nat × Instr × Nat) := [(0, .aload_n 0, 1), (1, .iload_n 1, 1), (2, .invokevirtual 419, 3), (5, .aload_n 0, 1), (6, .getfield 103, 3), (9, .iload_n 2, 1), (10, .iload_n 3, 1), (11, .iastore, 1), (12, .aload_n 0, 1), (13, .invokevirtual 422, 3), (16, .aload_n 0, 1), (17, .invokevirtual 409, 3), (20, .if_icmp .ne 7, 3), (23, .iconst 1, 1), (24, .goto 4, 3), (27, .iconst 0, 1), (28, .ireturn, 1)]
theorem t_M_isTrueWith : DT cX11_isTrueWith b_M_isTrueWith := DT.of (by decide +kernel)
def F_M_isTrueWith (x1 : Int) (x2 : Int) (x3 : Int) (σ : Mm) : Option (Int × Mm) :=
  b0M (F_M_laysRow x1 σ) fun s1 =>
  if 0 ≤ x2 ∧ x2 < 4 then
    bindM (st2 s1 229 x2.toNat x3) fun s2 =>
    b1M (F_M_outNow  s2) fun v3 s3 =>
    b1 (F_M_trueNow  s3) fun v4 =>
    if v3 = v4 then
      some (1, s3)
    else
      some (0, s3)
  else none
set_option maxRecDepth 100000 in
set_option maxHeartbeats 4000000 in
theorem c_M_isTrueWith (x1 : Int) (hx1 : r32 x1) (x2 : Int) (hx2 : r32 x2) (x3 : Int) (hx3 : r32 x3) {σ : Mm} {a : Int} {σ2 : Mm} (hf : F_M_isTrueWith x1 x2 x3 σ = some (a, σ2)) : CT yX11_isTrueWith cX11_isTrueWith 4 (some .boolean) 6 1 (fun ad => [.ref (ad 200), .int (i32 x1), .int (i32 x2), .int (i32 x3)]) σ (a = 0 ∨ a = 1) (some (.int (i32 a))) σ2 := by
  refine MetJ 0 (by decide +kernel) rfl (fun _ => Nat.le_of_ble_eq_true rfl) ?_
  intro X h hR ok
  obtain ⟨res, er⟩ : ∃ z, z = (a, σ2) := ⟨_, rfl⟩
  have hret : ∀ y : Int × Mm, some y = some res → RX X 1 (y.1 = 0 ∨ y.1 = 1) (some (.int (i32 (y.1)))) y.2 := fun y e => by cases e; cases er; exact hR
  rw [← er] at hf
  clear er hR
  unfold F_M_isTrueWith at hf
  show SW X 1 4 0 [some (.ref (xad X 200)), some (.int (i32 x1)), some (.int (i32 x2)), some (.int (i32 x3))] [] σ
  refine SW_aload_n h rfl (dt t_M_isTrueWith 0 rfl) ?_
  refine SW_iload_n h rfl (dt t_M_isTrueWith 1 rfl) ?_
  obtain ⟨s1, e1, hf⟩ := b0M_of hf
  refine cVv h [.int (i32 x1)] [] v_X11_laysRow kX11_419 o200 (c_M_laysRow x1 hx1 e1) rfl rfl (by decide) (by decide) rfl (Nat.le_of_ble_eq_true rfl) (dt t_M_isTrueWith 2 rfl) (fun h1 => ?_)
  refine SW_ok (fun ok1 => ?_)
  refine SW_aload_n h rfl (dt t_M_isTrueWith 3 rfl) ?_
  refine gR h cf11 o200 f11_47 j200_47 lX11_103 (dt t_M_isTrueWith 4 rfl) ?_
  refine SW_iload_n h rfl (dt t_M_isTrueWith 5 rfl) ?_
  refine SW_iload_n h rfl (dt t_M_isTrueWith 6 rfl) ?_
  refine sI h a229 hx3 (dt t_M_isTrueWith 7 rfl) hf (fun hf => SW_bm hf (fun s2 ok2 hf => ?_))
  refine SW_aload_n h rfl (dt t_M_isTrueWith 8 rfl) ?_
  obtain ⟨v3, s3, e3, hf⟩ := b1M_of hf
  refine cV h [] [] v_X11_outNow kX11_422 o200 (c_M_outNow  e3) rfl rfl (by decide) (by decide) rfl (Nat.le_of_ble_eq_true rfl) (dt t_M_isTrueWith 9 rfl) (fun h3 => ?_)
  refine SW_ok (fun ok3 => ?_)
  refine SW_aload_n h rfl (dt t_M_isTrueWith 10 rfl) ?_
  obtain ⟨v4, e4, hf⟩ := b1_of hf
  refine cV h [] [.int (i32 v3)] v_X11_trueNow kX11_409 o200 (c_M_trueNow  e4) rfl rfl (by decide) (by decide) rfl (Nat.le_of_ble_eq_true rfl) (dt t_M_isTrueWith 11 rfl) (fun h4 => ?_)
  refine SW_icmp_ne (tgt := 27) h (fun _ => h3) (fun _ => h4) (dt t_M_isTrueWith 12 rfl) rfl hf (fun hf => ?_) (fun hf => ?_)
  · refine SW_iconst h (dt t_M_isTrueWith 13 rfl) ?_
    refine SW_goto (tgt := 28) h (dt t_M_isTrueWith 14 rfl) rfl ?_
    exact SW_zret h (hret _ hf) (by decide) rfl (dt t_M_isTrueWith 16 rfl)
  · refine SW_iconst h (dt t_M_isTrueWith 15 rfl) ?_
    exact SW_zret h (hret _ hf) (by decide) rfl (dt t_M_isTrueWith 16 rfl)
def b_M_changed : List (Nat × Instr × Nat) := [(0, .aload_n 0, 1), (1, .iload_n 1, 1), (2, .invokevirtual 439, 3), (5, .ifCond .eq 12, 3), (8, .iload_n 2, 1), (9, .iconst 0, 1), (10, .iconst 1, 1), (11, .invokestatic 150, 3), (14, .ifCond .ne 5, 3), (17, .iconst (-1), 1), (18, .ireturn, 1), (19, .aload_n 0, 1), (20, .invokevirtual 446, 3), (23, .aload_n 0, 1), (24, .iload_n 1, 1), (25, .invokevirtual 419, 3), (28, .aload_n 0, 1), (29, .invokevirtual 422, 3), (32, .aload_n 0, 1), (33, .invokevirtual 409, 3), (36, .if_icmp .ne 5, 3), (39, .iconst (-1), 1), (40, .ireturn, 1), (41, .iconst 1, 1), (42, .istore_n 3, 1), (43, .iload_n 3, 1), (44, .bipush 51, 2), (46, .if_icmp .ge 120, 3), (49, .iconst 0, 1), (50, .istore 4, 2), (52, .iload 4, 2), (54, .aload_n 0, 1), (55, .getfield 7, 3), (58, .bipush 10, 2), (60, .iload_n 1, 1), (61, .iadd, 1), (62, .iaload, 1), (63, .if_icmp .ge 97, 3), (66, .aload_n 0, 1), (67, .getfield 7, 3), (70, .bipush 22, 2), (72, .iconst 4, 1), (73, .iload_n 1, 1), (74, .imul, 1), (75, .iadd, 1), (76, .iload 4, 2), (78, .iadd, 1), (79, .iaload, 1), (80, .istore 5, 2), (82, .iload 5, 2), (84, .iload_n 3, 1), (85, .if_icmp .lt 31, 3), (88, .aload_n 0, 1), (89, .iload_n 1, 1), (90, .iload 4, 2), (92, .iload 5, 2), (94, .iload_n 3, 1), (95, .isub, 1), (96, .invokevirtual 523, 3), (99, .ifCond .eq 17, 3), (102, .iload_n 2, 1), (103, .ifCond .ne 8, 3), (106, .iload 4, 2), (108, .goto 7, 3), (111, .iload 5, 2), (113, .iload_n 3, 1), (114, .isub, 1), (115, .ireturn, 1), (116, .iload 5, 2), (118, .iload_n 3, 1), (119, .iadd, 1), (120, .sipush 10000, 3), (123, .if_icmp .ge 31, 3), (126, .aload_n 0, 1), (127, .iload_n 1, 1), (128, .iload 4, 2), (130, .iload 5, 2), (132, .iload_n 3, 1), (133, .iadd, 1), (134, .invokevirtual 523, 3), (137, .ifCond .eq 17, 3), (140, .iload_n 2, 1), (141, .ifCond .ne 8, 3), (144, .iload 4, 2), (146, .goto 7, 3), (149, .iload 5, 2), (151, .iload_n 3, 1), (152, .iadd, 1), (153, .ireturn, 1), (154, .iinc 4 1, 3), (157, .goto (-105), 3), (160, .iinc 3 1, 3), (163, .goto (-120), 3), (166, .iconst (-1), 1), (167, .ireturn, 1)]
theorem t_M_changed : DT cX11_changed b_M_changed := DT.of (by decide +kernel)
def L_M_changed_52 : Nat → Int → Int → Int → Int → Mm → Option ((Int × Mm) ⊕ (Mm))
  | 0, _, _, _, _, _ => none
  | n + 1, x1, x2, x3, x4, σ =>
    if 0 ≤ 10 + x1 ∧ 10 + x1 < 5240 then
      if σ 201 ((10 + x1).toNat) ≤ x4 then
        some (.inr σ)
      else
        if 0 ≤ (22 + (4 * x1)) + x4 ∧ (22 + (4 * x1)) + x4 < 5240 then
          bindM (σ 201 (((22 + (4 * x1)) + x4).toNat)) fun v7 =>
          bindM (fun  (t8 : Mm) =>
            if r32 (v7 + x3) then
              bindM (fun  (t10 : Mm) =>
                if r32 (x4 + 1) then
                  L_M_changed_52 n x1 x2 x3 (x4 + 1) t10
                else none) fun J10 =>
              if 10000 ≤ v7 + x3 then
                J10 t8
              else
                if r32 (v7 + x3) then
                  b1M (F_M_isTrueWith x1 x4 (v7 + x3) t8) fun v12 s12 =>
                  if v12 = 0 then
                    J10 s12
                  else
                    if x2 = 0 then
                      some (.inl (x4, s12))
                    else
                      if r32 (v7 + x3) then
                        some (.inl (v7 + x3, s12))
                      else none
                else none
            else none) fun J8 =>
          if v7 < x3 then
            J8 σ
          else
            if r32 (v7 - x3) then
              b1M (F_M_isTrueWith x1 x4 (v7 - x3) σ) fun v15 s15 =>
              if v15 = 0 then
                J8 s15
              else
                if x2 = 0 then
                  some (.inl (x4, s15))
                else
                  if r32 (v7 - x3) then
                    some (.inl (v7 - x3, s15))
                  else none
            else none
        else none
    else none
set_option maxRecDepth 100000 in
set_option maxHeartbeats 4000000 in
theorem l_M_changed_52 {X : Cx} (h : CX X 1 cX11_changed 6 7 (some .int) RX11) (x1 : Int) (x2 : Int) (x3 : Int) (hx1 : r32 x1) (hx2 : r32 x2) (hx3 : r32 x3) {res : (Int × Mm) ⊕ (Mm)} (hret : ∀ y : Int × Mm, some (.inl y) = some res → RX X 1 (r32 (y.1)) (some (.int (i32 (y.1)))) y.2) (hex : ∀  (σ : Mm) (hz : some (.inr σ) = some res)  (ok : okM σ), SW X 1 6 160 [some (.ref (xad X 200)), some (.int (i32 x1)), some (.int (i32 x2)), some (.int (i32 x3)), none, none] [] σ) : ∀ (n : Nat) (x4 : Int) (σ : Mm) (hx4 : r32 x4) (ok : okM σ) (hf : L_M_changed_52 n x1 x2 x3 x4 σ = some res), SW X 1 6 52 [some (.ref (xad X 200)), some (.int (i32 x1)), some (.int (i32 x2)), some (.int (i32 x3)), some (.int (i32 x4)), none] [] σ := by
  intro n
  induction n with
  | zero => intro x4 σ hx4 ok hf; exact absurd hf (by simp [L_M_changed_52])
  | succ n ih =>
    intro x4 σ hx4 ok hf
    rw [L_M_changed_52] at hf
    refine SW_iload h rfl (dt t_M_changed 30 rfl) ?_
    refine SW_aload_n h rfl (dt t_M_changed 31 rfl) ?_
    refine gR h cf11 o200 f11_0 j200_0 lX11_7 (dt t_M_changed 32 rfl) ?_
    refine SW_bipush h (dt t_M_changed 33 rfl) (by decide) ?_
    refine SW_iload_n h rfl (dt t_M_changed 34 rfl) ?_
    refine SW_iadd h (dt t_M_changed 35 rfl) ?_
    refine aI h a201 (dt t_M_changed 36 rfl) hf (fun hf => ?_)
    refine SW_icmp_ge (tgt := 160) h (fun _ => hx4) (fun _ => (okI ok 201 ((10 + x1).toNat) (IsA.n3 a201 (by decide)))) (dt t_M_changed 37 rfl) rfl hf (fun hf => ?_) (fun hf => ?_)
    · exact SW_fgt [true, true, true, true, false, false] rfl (hex σ hf ok)
    · refine SW_aload_n h rfl (dt t_M_changed 38 rfl) ?_
      refine gR h cf11 o200 f11_0 j200_0 lX11_7 (dt t_M_changed 39 rfl) ?_
      refine SW_bipush h (dt t_M_changed 40 rfl) (by decide) ?_
      refine SW_iconst h (dt t_M_changed 41 rfl) ?_
      refine SW_iload_n h rfl (dt t_M_changed 42 rfl) ?_
      refine SW_imul h (dt t_M_changed 43 rfl) ?_
      refine SW_iadd h (dt t_M_changed 44 rfl) ?_
      refine SW_iload h rfl (dt t_M_changed 45 rfl) ?_
      refine SW_iadd h (dt t_M_changed 46 rfl) ?_
      refine aI h a201 (dt t_M_changed 47 rfl) hf (fun hf => ?_)
      refine SW_vi hf (okI ok 201 (((22 + (4 * x1)) + x4).toNat) (IsA.n3 a201 (by decide))) (fun v7 h7 hf => ?_)
      refine SW_istore (lv2 := [some (.ref (xad X 200)), some (.int (i32 x1)), some (.int (i32 x2)), some (.int (i32 x3)), some (.int (i32 x4)), some (.int (i32 v7))]) h (dt t_M_changed 48 rfl) (by decide) rfl ?_
      refine SW_iload h rfl (dt t_M_changed 49 rfl) ?_
      refine SW_iload_n h rfl (dt t_M_changed 50 rfl) ?_
      refine bJ hf (fun J8 e8 hf => ?_)
      have k8 : ∀  (t8 : Mm)  (ot8 : okM t8) (hf : J8 t8 = some res), SW X 1 6 116 [some (.ref (xad X 200)), some (.int (i32 x1)), some (.int (i32 x2)), some (.int (i32 x3)), some (.int (i32 x4)), some (.int (i32 v7))] [] t8 := by
        intro t8 ot8 hf
        rw [e8] at hf
        refine SW_iload h rfl (dt t_M_changed 68 rfl) ?_
        refine SW_iload_n h rfl (dt t_M_changed 69 rfl) ?_
        refine SW_iadd h (dt t_M_changed 70 rfl) ?_
        refine SW_sipush h (dt t_M_changed 71 rfl) (by decide) ?_
        refine SW_chk hf (fun h9 hf => ?_)
        refine bJ hf (fun J10 e10 hf => ?_)
        have k10 : ∀  (t10 : Mm)  (ot10 : okM t10) (hf : J10 t10 = some res), SW X 1 6 154 [some (.ref (xad X 200)), some (.int (i32 x1)), some (.int (i32 x2)), some (.int (i32 x3)), some (.int (i32 x4)), none] [] t10 := by
          intro t10 ot10 hf
          rw [e10] at hf
          refine SW_iinc (lv2 := [some (.ref (xad X 200)), some (.int (i32 x1)), some (.int (i32 x2)), some (.int (i32 x3)), some (.int (i32 (x4 + 1))), none]) h (dt t_M_changed 89 rfl) rfl (by decide) rfl ?_
          refine SW_goto (tgt := 52) h (dt t_M_changed 90 rfl) rfl ?_
          refine SW_chk hf (fun h11 hf => ?_)
          exact SW_fgt [true, true, true, true, true, false] rfl (ih (x4 + 1) t10 h11 ot10 hf)
        refine SW_icmp_ge (tgt := 154) h (fun _ => h9) (fun _ => (by decide)) (dt t_M_changed 72 rfl) rfl hf (fun hf => ?_) (fun hf => ?_)
        · exact SW_fgt [true, true, true, true, true, false] rfl (k10 t8 ot8 hf)
        · refine SW_aload_n h rfl (dt t_M_changed 73 rfl) ?_
          refine SW_iload_n h rfl (dt t_M_changed 74 rfl) ?_
          refine SW_iload h rfl (dt t_M_changed 75 rfl) ?_
          refine SW_iload h rfl (dt t_M_changed 76 rfl) ?_
          refine SW_iload_n h rfl (dt t_M_changed 77 rfl) ?_
          refine SW_iadd h (dt t_M_changed 78 rfl) ?_
          refine SW_chk hf (fun h13 hf => ?_)
          obtain ⟨v12, s12, e12, hf⟩ := b1M_of hf
          refine cV h [.int (i32 x1), .int (i32 x4), .int (i32 (v7 + x3))] [] v_X11_isTrueWith kX11_523 o200 (c_M_isTrueWith x1 hx1 x4 hx4 (v7 + x3) h13 e12) rfl rfl (by decide) (by decide) rfl (Nat.le_of_ble_eq_true rfl) (dt t_M_changed 79 rfl) (fun h12 => ?_)
          refine SW_ok (fun ok12 => ?_)
          refine SW_if_eq (tgt := 154) h (fun _ => (r_zo h12)) (dt t_M_changed 80 rfl) rfl hf (fun hf => ?_) (fun hf => ?_)
          · exact SW_fgt [true, true, true, true, true, false] rfl (k10 s12 ok12 hf)
          · refine SW_iload_n h rfl (dt t_M_changed 81 rfl) ?_
            refine SW_if_ne (tgt := 149) h (fun _ => hx2) (dt t_M_changed 82 rfl) rfl hf (fun hf => ?_) (fun hf => ?_)
            · refine SW_iload h rfl (dt t_M_changed 83 rfl) ?_
              refine SW_goto (tgt := 153) h (dt t_M_changed 84 rfl) rfl ?_
              exact SW_iret h (hret _ hf) (fun _ => hx4) rfl (dt t_M_changed 88 rfl)
            · refine SW_iload h rfl (dt t_M_changed 85 rfl) ?_
              refine SW_iload_n h rfl (dt t_M_changed 86 rfl) ?_
              refine SW_iadd h (dt t_M_changed 87 rfl) ?_
              refine SW_chk hf (fun h14 hf => ?_)
              exact SW_iret h (hret _ hf) (fun _ => h14) rfl (dt t_M_changed 88 rfl)
      refine SW_icmp_lt (tgt := 116) h (fun _ => h7) (fun _ => hx3) (dt t_M_changed 51 rfl) rfl hf (fun hf => ?_) (fun hf => ?_)
      · exact SW_fgt [true, true, true, true, true, true] rfl (k8 σ ok hf)
      · refine SW_aload_n h rfl (dt t_M_changed 52 rfl) ?_
        refine SW_iload_n h rfl (dt t_M_changed 53 rfl) ?_
        refine SW_iload h rfl (dt t_M_changed 54 rfl) ?_
        refine SW_iload h rfl (dt t_M_changed 55 rfl) ?_
        refine SW_iload_n h rfl (dt t_M_changed 56 rfl) ?_
        refine SW_isub h (dt t_M_changed 57 rfl) ?_
        refine SW_chk hf (fun h16 hf => ?_)
        obtain ⟨v15, s15, e15, hf⟩ := b1M_of hf
        refine cV h [.int (i32 x1), .int (i32 x4), .int (i32 (v7 - x3))] [] v_X11_isTrueWith kX11_523 o200 (c_M_isTrueWith x1 hx1 x4 hx4 (v7 - x3) h16 e15) rfl rfl (by decide) (by decide) rfl (Nat.le_of_ble_eq_true rfl) (dt t_M_changed 58 rfl) (fun h15 => ?_)
        refine SW_ok (fun ok15 => ?_)
        refine SW_if_eq (tgt := 116) h (fun _ => (r_zo h15)) (dt t_M_changed 59 rfl) rfl hf (fun hf => ?_) (fun hf => ?_)
        · exact SW_fgt [true, true, true, true, true, true] rfl (k8 s15 ok15 hf)
        · refine SW_iload_n h rfl (dt t_M_changed 60 rfl) ?_
          refine SW_if_ne (tgt := 111) h (fun _ => hx2) (dt t_M_changed 61 rfl) rfl hf (fun hf => ?_) (fun hf => ?_)
          · refine SW_iload h rfl (dt t_M_changed 62 rfl) ?_
            refine SW_goto (tgt := 115) h (dt t_M_changed 63 rfl) rfl ?_
            exact SW_iret h (hret _ hf) (fun _ => hx4) rfl (dt t_M_changed 67 rfl)
          · refine SW_iload h rfl (dt t_M_changed 64 rfl) ?_
            refine SW_iload_n h rfl (dt t_M_changed 65 rfl) ?_
            refine SW_isub h (dt t_M_changed 66 rfl) ?_
            refine SW_chk hf (fun h17 hf => ?_)
            exact SW_iret h (hret _ hf) (fun _ => h17) rfl (dt t_M_changed 67 rfl)
def L_M_changed_43 : Nat → Int → Int → Int → Mm → Option ((Int × Mm) ⊕ (Mm))
  | 0, _, _, _, _ => none
  | n + 1, x1, x2, x3, σ =>
    if 51 ≤ x3 then
      some (.inr σ)
    else
      b0MS (L_M_changed_52 LF x1 x2 x3 0 σ) (fun y => some (.inl y)) fun s18 =>
      if r32 (x3 + 1) then
        L_M_changed_43 n x1 x2 (x3 + 1) s18
      else none
set_option maxRecDepth 100000 in
set_option maxHeartbeats 4000000 in
theorem l_M_changed_43 {X : Cx} (h : CX X 1 cX11_changed 6 7 (some .int) RX11) (x1 : Int) (x2 : Int) (hx1 : r32 x1) (hx2 : r32 x2) {res : (Int × Mm) ⊕ (Mm)} (hret : ∀ y : Int × Mm, some (.inl y) = some res → RX X 1 (r32 (y.1)) (some (.int (i32 (y.1)))) y.2) (hex : ∀  (σ : Mm) (hz : some (.inr σ) = some res)  (ok : okM σ), SW X 1 6 166 [none, none, none, none, none, none] [] σ) : ∀ (n : Nat) (x3 : Int) (σ : Mm) (hx3 : r32 x3) (ok : okM σ) (hf : L_M_changed_43 n x1 x2 x3 σ = some res), SW X 1 6 43 [some (.ref (xad X 200)), some (.int (i32 x1)), some (.int (i32 x2)), some (.int (i32 x3)), none, none] [] σ := by
  intro n
  induction n with
  | zero => intro x3 σ hx3 ok hf; exact absurd hf (by simp [L_M_changed_43])
  | succ n ih =>
    intro x3 σ hx3 ok hf
    rw [L_M_changed_43] at hf
    refine SW_iload_n h rfl (dt t_M_changed 25 rfl) ?_
    refine SW_bipush h (dt t_M_changed 26 rfl) (by decide) ?_
    refine SW_icmp_ge (tgt := 166) h (fun _ => hx3) (fun _ => (by decide)) (dt t_M_changed 27 rfl) rfl hf (fun hf => ?_) (fun hf => ?_)
    · exact SW_fgt [false, false, false, false, false, false] rfl (hex σ hf ok)
    · refine SW_iconst h (dt t_M_changed 28 rfl) ?_
      refine SW_istore (lv2 := [some (.ref (xad X 200)), some (.int (i32 x1)), some (.int (i32 x2)), some (.int (i32 x3)), some (.int (i32 0)), none]) h (dt t_M_changed 29 rfl) (by decide) rfl ?_
      obtain ⟨z18, e18, g18, hk18⟩ := b0MS_of hf
      refine SW_fgt [true, true, true, true, true, false] rfl (l_M_changed_52 h x1 x2 x3 hx1 hx2 hx3 (fun y e => hret y (g18 y (Option.some.inj e).symm)) (fun s18 hz18 ok18 => ?_) LF 0 σ (by decide) ok e18)
      have hf := hk18 s18 (Option.some.inj hz18).symm
      refine SW_iinc (lv2 := [some (.ref (xad X 200)), some (.int (i32 x1)), some (.int (i32 x2)), some (.int (i32 (x3 + 1))), none, none]) h (dt t_M_changed 91 rfl) rfl (by decide) rfl ?_
      refine SW_goto (tgt := 43) h (dt t_M_changed 92 rfl) rfl ?_
      refine SW_chk hf (fun h19 hf => ?_)
      exact SW_fgt [true, true, true, true, false, false] rfl (ih (x3 + 1) s18 h19 ok18 hf)
def F_M_changed (x1 : Int) (x2 : Int) (σ : Mm) : Option (Int × Mm) :=
  b1 (F_M_isRow x1 σ) fun v1 =>
  if v1 = 0 then
    some ((-1), σ)
  else
    b1 (F_M_in x2 0 1) fun v2 =>
    if v2 = 0 then
      some ((-1), σ)
    else
      b0M (F_M_laysNow  σ) fun s3 =>
      b0M (F_M_laysRow x1 s3) fun s4 =>
      b1M (F_M_outNow  s4) fun v5 s5 =>
      b1 (F_M_trueNow  s5) fun v6 =>
      if v5 = v6 then
        some ((-1), s5)
      else
        b0MS (L_M_changed_43 LF x1 x2 1 s5) (fun y => some y) fun s20 =>
        some ((-1), s20)
set_option maxRecDepth 100000 in
set_option maxHeartbeats 4000000 in
theorem c_M_changed (x1 : Int) (hx1 : r32 x1) (x2 : Int) (hx2 : r32 x2) {σ : Mm} {a : Int} {σ2 : Mm} (hf : F_M_changed x1 x2 σ = some (a, σ2)) : CT yX11_changed cX11_changed 6 (some .int) 7 1 (fun ad => [.ref (ad 200), .int (i32 x1), .int (i32 x2)]) σ (r32 a) (some (.int (i32 a))) σ2 := by
  refine MetJ 3 (by decide +kernel) rfl (fun _ => Nat.le_of_ble_eq_true rfl) ?_
  intro X h hR ok
  obtain ⟨res, er⟩ : ∃ z, z = (a, σ2) := ⟨_, rfl⟩
  have hret : ∀ y : Int × Mm, some y = some res → RX X 1 (r32 (y.1)) (some (.int (i32 (y.1)))) y.2 := fun y e => by cases e; cases er; exact hR
  rw [← er] at hf
  clear er hR
  unfold F_M_changed at hf
  show SW X 1 6 0 [some (.ref (xad X 200)), some (.int (i32 x1)), some (.int (i32 x2)), none, none, none] [] σ
  refine SW_aload_n h rfl (dt t_M_changed 0 rfl) ?_
  refine SW_iload_n h rfl (dt t_M_changed 1 rfl) ?_
  obtain ⟨v1, e1, hf⟩ := b1_of hf
  refine cV h [.int (i32 x1)] [] v_X11_isRow kX11_439 o200 (c_M_isRow x1 hx1 e1) rfl rfl (by decide) (by decide) rfl (Nat.le_of_ble_eq_true rfl) (dt t_M_changed 2 rfl) (fun h1 => ?_)
  refine SW_if_eq (tgt := 17) h (fun _ => (r_zo h1)) (dt t_M_changed 3 rfl) rfl hf (fun hf => ?_) (fun hf => ?_)
  · refine SW_iconst h (dt t_M_changed 9 rfl) ?_
    exact SW_iret h (hret _ hf) (fun _ => (by decide)) rfl (dt t_M_changed 10 rfl)
  · refine SW_iload_n h rfl (dt t_M_changed 4 rfl) ?_
    refine SW_iconst h (dt t_M_changed 5 rfl) ?_
    refine SW_iconst h (dt t_M_changed 6 rfl) ?_
    obtain ⟨v2, e2, hf⟩ := b1_of hf
    refine cS h [.int (i32 x2), .int (i32 0), .int (i32 1)] [] v_X11_in kX11_150 (c_M_in x2 hx2 0 (by decide) 1 (by decide) e2) rfl rfl (by decide) (by decide) rfl (Nat.le_of_ble_eq_true rfl) (dt t_M_changed 7 rfl) (fun h2 => ?_)
    refine SW_if_ne (tgt := 19) h (fun _ => (r_zo h2)) (dt t_M_changed 8 rfl) rfl hf (fun hf => ?_) (fun hf => ?_)
    · refine SW_iconst h (dt t_M_changed 9 rfl) ?_
      exact SW_iret h (hret _ hf) (fun _ => (by decide)) rfl (dt t_M_changed 10 rfl)
    · refine SW_aload_n h rfl (dt t_M_changed 11 rfl) ?_
      obtain ⟨s3, e3, hf⟩ := b0M_of hf
      refine cVv h [] [] v_X11_laysNow kX11_446 o200 (c_M_laysNow  e3) rfl rfl (by decide) (by decide) rfl (Nat.le_of_ble_eq_true rfl) (dt t_M_changed 12 rfl) (fun h3 => ?_)
      refine SW_ok (fun ok3 => ?_)
      refine SW_aload_n h rfl (dt t_M_changed 13 rfl) ?_
      refine SW_iload_n h rfl (dt t_M_changed 14 rfl) ?_
      obtain ⟨s4, e4, hf⟩ := b0M_of hf
      refine cVv h [.int (i32 x1)] [] v_X11_laysRow kX11_419 o200 (c_M_laysRow x1 hx1 e4) rfl rfl (by decide) (by decide) rfl (Nat.le_of_ble_eq_true rfl) (dt t_M_changed 15 rfl) (fun h4 => ?_)
      refine SW_ok (fun ok4 => ?_)
      refine SW_aload_n h rfl (dt t_M_changed 16 rfl) ?_
      obtain ⟨v5, s5, e5, hf⟩ := b1M_of hf
      refine cV h [] [] v_X11_outNow kX11_422 o200 (c_M_outNow  e5) rfl rfl (by decide) (by decide) rfl (Nat.le_of_ble_eq_true rfl) (dt t_M_changed 17 rfl) (fun h5 => ?_)
      refine SW_ok (fun ok5 => ?_)
      refine SW_aload_n h rfl (dt t_M_changed 18 rfl) ?_
      obtain ⟨v6, e6, hf⟩ := b1_of hf
      refine cV h [] [.int (i32 v5)] v_X11_trueNow kX11_409 o200 (c_M_trueNow  e6) rfl rfl (by decide) (by decide) rfl (Nat.le_of_ble_eq_true rfl) (dt t_M_changed 19 rfl) (fun h6 => ?_)
      refine SW_icmp_ne (tgt := 41) h (fun _ => h5) (fun _ => h6) (dt t_M_changed 20 rfl) rfl hf (fun hf => ?_) (fun hf => ?_)
      · refine SW_iconst h (dt t_M_changed 21 rfl) ?_
        exact SW_iret h (hret _ hf) (fun _ => (by decide)) rfl (dt t_M_changed 22 rfl)
      · refine SW_iconst h (dt t_M_changed 23 rfl) ?_
        refine SW_istore_n (lv2 := [some (.ref (xad X 200)), some (.int (i32 x1)), some (.int (i32 x2)), some (.int (i32 1)), none, none]) h (dt t_M_changed 24 rfl) (by decide) rfl ?_
        obtain ⟨z20, e20, g20, hk20⟩ := b0MS_of hf
        refine SW_fgt [true, true, true, true, false, false] rfl (l_M_changed_43 h x1 x2 hx1 hx2 (fun y e => hret y (g20 y (Option.some.inj e).symm)) (fun s20 hz20 ok20 => ?_) LF 1 s5 (by decide) ok5 e20)
        have hf := hk20 s20 (Option.some.inj hz20).symm
        refine SW_iconst h (dt t_M_changed 93 rfl) ?_
        exact SW_iret h (hret _ hf) (fun _ => (by decide)) rfl (dt t_M_changed 94 rfl)
def b_M_wasTold : List (Nat × Instr × Nat) := [(0, .iconst 0, 1), (1, .istore_n 2, 1), (2, .iconst 0, 1), (3, .istore_n 3, 1), (4, .iload_n 3, 1), (5, .aload_n 0, 1), (6, .getfield 332, 3), (9, .if_icmp .ge 29, 3), (12, .iload_n 2, 1), (13, .ifCond .ne 13, 3), (16, .aload_n 0, 1), (17, .getfield 63, 3), (20, .iload_n 3, 1), (21, .iaload, 1), (22, .iload_n 1, 1), (23, .if_icmp .ne 7, 3), (26, .iconst 1, 1), (27, .goto 4, 3), (30, .iconst 0, 1), (31, .istore_n 2, 1), (32, .iinc 3 1, 3), (35, .goto (-31), 3), (38, .iload_n 2, 1), (39, .ireturn, 1)]
theorem t_M_wasTold : DT cX11_wasTold b_M_wasTold := DT.of (by decide +kernel)
def L_M_wasTold_4 : Nat → Int → Int → Int → Mm → Option (Int)
  | 0, _, _, _, _ => none
  | n + 1, x1, x2, x3, σ =>
    if σ 200 29 ≤ x3 then
      some x2
    else
      bindM (fun (y1 : Int) =>
        if r32 (x3 + 1) then
          L_M_wasTold_4 n x1 y1 (x3 + 1) σ
        else none) fun J1 =>
      bindM (
        J1 1) fun J3 =>
      if x2 = 0 then
        if 0 ≤ x3 ∧ x3 < 24 then
          if σ 216 x3.toNat = x1 then
            J3
          else
            J1 0
        else none
      else
        J3
set_option maxRecDepth 100000 in
set_option maxHeartbeats 4000000 in
theorem l_M_wasTold_4 {X : Cx} (h : CX X 1 cX11_wasTold 4 0 (some .boolean) RX11) (x1 : Int) (σ : Mm) (hx1 : r32 x1) (ok : okM σ) {res : Int} (hex : ∀ (x2 : Int) (hz : some x2 = some res) (hx2 : r32 x2), SW X 1 4 38 [none, none, some (.int (i32 x2)), none] [] σ) : ∀ (n : Nat) (x2 : Int) (x3 : Int) (hx2 : r32 x2) (hx3 : r32 x3) (hf : L_M_wasTold_4 n x1 x2 x3 σ = some res), SW X 1 4 4 [some (.ref (xad X 200)), some (.int (i32 x1)), some (.int (i32 x2)), some (.int (i32 x3))] [] σ := by
  intro n
  induction n with
  | zero => intro x2 x3 hx2 hx3 hf; exact absurd hf (by simp [L_M_wasTold_4])
  | succ n ih =>
    intro x2 x3 hx2 hx3 hf
    rw [L_M_wasTold_4] at hf
    refine SW_iload_n h rfl (dt t_M_wasTold 4 rfl) ?_
    refine SW_aload_n h rfl (dt t_M_wasTold 5 rfl) ?_
    refine gI h cf11 o200 f11_29 lX11_332 (dt t_M_wasTold 6 rfl) ?_
    refine SW_icmp_ge (tgt := 38) h (fun _ => hx3) (fun _ => (okI ok 200 29 (IsO.n3 o200))) (dt t_M_wasTold 7 rfl) rfl hf (fun hf => ?_) (fun hf => ?_)
    · exact SW_fgt [false, false, true, false] rfl (hex x2 hf hx2)
    · refine SW_iload_n h rfl (dt t_M_wasTold 8 rfl) ?_
      refine bJ hf (fun J1 e1 hf => ?_)
      have k1 : ∀ (y1 : Int) (hy1 : r32 y1) (hf : J1 y1 = some res), SW X 1 4 31 [some (.ref (xad X 200)), some (.int (i32 x1)), none, some (.int (i32 x3))] [.int (i32 y1)] σ := by
        intro y1 hy1 hf
        rw [e1] at hf
        refine SW_istore_n (lv2 := [some (.ref (xad X 200)), some (.int (i32 x1)), some (.int (i32 y1)), some (.int (i32 x3))]) h (dt t_M_wasTold 19 rfl) (by decide) rfl ?_
        refine SW_iinc (lv2 := [some (.ref (xad X 200)), some (.int (i32 x1)), some (.int (i32 y1)), some (.int (i32 (x3 + 1)))]) h (dt t_M_wasTold 20 rfl) rfl (by decide) rfl ?_
        refine SW_goto (tgt := 4) h (dt t_M_wasTold 21 rfl) rfl ?_
        refine SW_chk hf (fun h2 hf => ?_)
        exact SW_fgt [true, true, true, true] rfl (ih y1 (x3 + 1) hy1 h2 hf)
      refine bJ hf (fun J3 e3 hf => ?_)
      have k3 : ∀ (hf : J3 = some res), SW X 1 4 26 [some (.ref (xad X 200)), some (.int (i32 x1)), none, some (.int (i32 x3))] [] σ := by
        intro hf
        rw [e3] at hf
        refine SW_iconst h (dt t_M_wasTold 16 rfl) ?_
        refine SW_goto (tgt := 31) h (dt t_M_wasTold 17 rfl) rfl ?_
        exact SW_fgt [true, true, false, true] rfl (k1 1 (by decide) hf)
      refine SW_if_ne (tgt := 26) h (fun _ => hx2) (dt t_M_wasTold 9 rfl) rfl hf (fun hf => ?_) (fun hf => ?_)
      · refine SW_aload_n h rfl (dt t_M_wasTold 10 rfl) ?_
        refine gR h cf11 o200 f11_31 j200_31 lX11_63 (dt t_M_wasTold 11 rfl) ?_
        refine SW_iload_n h rfl (dt t_M_wasTold 12 rfl) ?_
        refine aI h a216 (dt t_M_wasTold 13 rfl) hf (fun hf => ?_)
        refine SW_iload_n h rfl (dt t_M_wasTold 14 rfl) ?_
        refine SW_icmp_ne (tgt := 30) h (fun _ => (okI ok 216 x3.toNat (IsA.n3 a216 (by decide)))) (fun _ => hx1) (dt t_M_wasTold 15 rfl) rfl hf (fun hf => ?_) (fun hf => ?_)
        · exact SW_fgt [true, true, false, true] rfl (k3 hf)
        · refine SW_iconst h (dt t_M_wasTold 18 rfl) ?_
          exact SW_fgt [true, true, false, true] rfl (k1 0 (by decide) hf)
      · exact SW_fgt [true, true, false, true] rfl (k3 hf)
def F_M_wasTold (x1 : Int) (σ : Mm) : Option (Int) :=
  b1 (L_M_wasTold_4 LF x1 0 0 σ) fun x2_4 =>
  if x2_4 = 0 ∨ x2_4 = 1 then
    some x2_4
  else none
set_option maxRecDepth 100000 in
set_option maxHeartbeats 4000000 in
theorem c_M_wasTold (x1 : Int) (hx1 : r32 x1) {σ : Mm} {a : Int} (hf : F_M_wasTold x1 σ = some a) : CT yX11_wasTold cX11_wasTold 4 (some .boolean) 0 1 (fun ad => [.ref (ad 200), .int (i32 x1)]) σ (a = 0 ∨ a = 1) (some (.int (i32 a))) σ := by
  refine MetJ 2 (by decide +kernel) rfl (fun _ => Nat.le_of_ble_eq_true rfl) ?_
  intro X h hR ok
  obtain ⟨res, er⟩ : ∃ z, z = a := ⟨_, rfl⟩
  have hret : ∀ y : Int, some y = some res → RX X 1 (y = 0 ∨ y = 1) (some (.int (i32 (y)))) σ := fun y e => by cases e; cases er; exact hR
  rw [← er] at hf
  clear er hR
  unfold F_M_wasTold at hf
  show SW X 1 4 0 [some (.ref (xad X 200)), some (.int (i32 x1)), none, none] [] σ
  refine SW_iconst h (dt t_M_wasTold 0 rfl) ?_
  refine SW_istore_n (lv2 := [some (.ref (xad X 200)), some (.int (i32 x1)), some (.int (i32 0)), none]) h (dt t_M_wasTold 1 rfl) (by decide) rfl ?_
  refine SW_iconst h (dt t_M_wasTold 2 rfl) ?_
  refine SW_istore_n (lv2 := [some (.ref (xad X 200)), some (.int (i32 x1)), some (.int (i32 0)), some (.int (i32 0))]) h (dt t_M_wasTold 3 rfl) (by decide) rfl ?_
  obtain ⟨z4, e4, hk4⟩ := b1_ex hf
  refine SW_fgt [true, true, true, true] rfl (l_M_wasTold_4 h x1 σ hx1 ok (fun x2_4 hz4 hx2_4 => ?_) LF 0 0 (by decide) (by decide) e4)
  have hf := hk4 x2_4 hz4
  refine SW_iload_n h rfl (dt t_M_wasTold 22 rfl) ?_
  refine SW_chk hf (fun h5 hf => ?_)
  exact SW_zret h (hret _ hf) h5 rfl (dt t_M_wasTold 23 rfl)
def b_M_number : List (Nat × Instr × Nat) := [(0, .aload_n 0, 1), (1, .getfield 251, 3), (4, .ifCond .gt 11, 3), (7, .aload_n 0, 1), (8, .getfield 234, 3), (11, .iconst 2, 1), (12, .if_icmp .eq 10, 3), (15, .aload_n 0, 1), (16, .iconst 1, 1), (17, .invokevirtual 266, 3), (20, .iload_n 1, 1), (21, .ireturn, 1), (22, .aload_n 0, 1), (23, .getfield 247, 3), (26, .iload_n 1, 1), (27, .iload_n 2, 1), (28, .invokestatic 150, 3), (31, .ifCond .ne 10, 3), (34, .aload_n 0, 1), (35, .iconst 2, 1), (36, .invokevirtual 266, 3), (39, .iload_n 1, 1), (40, .ireturn, 1), (41, .aload_n 0, 1), (42, .getfield 247, 3), (45, .istore_n 3, 1), (46, .aload_n 0, 1), (47, .invokevirtual 272, 3), (50, .iload_n 3, 1), (51, .ireturn, 1)]
theorem t_M_number : DT cX11_number b_M_number := DT.of (by decide +kernel)
def F_M_number (x1 : Int) (x2 : Int) (σ : Mm) : Option (Int × Mm) :=
  bindM (
    b0M (F_M_errs 1 σ) fun s2 =>
    some (x1, s2)) fun J1 =>
  if 0 < σ 200 19 then
    J1
  else
    if σ 200 17 = 2 then
      b1 (F_M_in (σ 200 18) x1 x2) fun v3 =>
      if v3 = 0 then
        b0M (F_M_errs 2 σ) fun s4 =>
        some (x1, s4)
      else
        b0M (F_M_next  σ) fun s5 =>
        some (σ 200 18, s5)
    else
      J1
set_option maxRecDepth 100000 in
set_option maxHeartbeats 4000000 in
theorem c_M_number (x1 : Int) (hx1 : r32 x1) (x2 : Int) (hx2 : r32 x2) {σ : Mm} {a : Int} {σ2 : Mm} (hf : F_M_number x1 x2 σ = some (a, σ2)) : CT yX11_number cX11_number 4 (some .int) 3 1 (fun ad => [.ref (ad 200), .int (i32 x1), .int (i32 x2)]) σ (r32 a) (some (.int (i32 a))) σ2 := by
  refine MetJ 1 (by decide +kernel) rfl (fun _ => Nat.le_of_ble_eq_true rfl) ?_
  intro X h hR ok
  obtain ⟨res, er⟩ : ∃ z, z = (a, σ2) := ⟨_, rfl⟩
  have hret : ∀ y : Int × Mm, some y = some res → RX X 1 (r32 (y.1)) (some (.int (i32 (y.1)))) y.2 := fun y e => by cases e; cases er; exact hR
  rw [← er] at hf
  clear er hR
  unfold F_M_number at hf
  show SW X 1 4 0 [some (.ref (xad X 200)), some (.int (i32 x1)), some (.int (i32 x2)), none] [] σ
  refine SW_aload_n h rfl (dt t_M_number 0 rfl) ?_
  refine gI h cf11 o200 f11_19 lX11_251 (dt t_M_number 1 rfl) ?_
  refine bJ hf (fun J1 e1 hf => ?_)
  have k1 : ∀ (hf : J1 = some res), SW X 1 4 15 [some (.ref (xad X 200)), some (.int (i32 x1)), none, none] [] σ := by
    intro hf
    rw [e1] at hf
    refine SW_aload_n h rfl (dt t_M_number 7 rfl) ?_
    refine SW_iconst h (dt t_M_number 8 rfl) ?_
    obtain ⟨s2, e2, hf⟩ := b0M_of hf
    refine cVv h [.int (i32 1)] [] v_X11_errs kX11_266 o200 (c_M_errs 1 (by decide) e2) rfl rfl (by decide) (by decide) rfl (Nat.le_of_ble_eq_true rfl) (dt t_M_number 9 rfl) (fun h2 => ?_)
    refine SW_ok (fun ok2 => ?_)
    refine SW_iload_n h rfl (dt t_M_number 10 rfl) ?_
    exact SW_iret h (hret _ hf) (fun _ => hx1) rfl (dt t_M_number 11 rfl)
  refine SW_if_gt (tgt := 15) h (fun _ => (okI ok 200 19 (IsO.n3 o200))) (dt t_M_number 2 rfl) rfl hf (fun hf => ?_) (fun hf => ?_)
  · exact SW_fgt [true, true, false, false] rfl (k1 hf)
  · refine SW_aload_n h rfl (dt t_M_number 3 rfl) ?_
    refine gI h cf11 o200 f11_17 lX11_234 (dt t_M_number 4 rfl) ?_
    refine SW_iconst h (dt t_M_number 5 rfl) ?_
    refine SW_icmp_eq (tgt := 22) h (fun _ => (okI ok 200 17 (IsO.n3 o200))) (fun _ => (by decide)) (dt t_M_number 6 rfl) rfl hf (fun hf => ?_) (fun hf => ?_)
    · refine SW_aload_n h rfl (dt t_M_number 12 rfl) ?_
      refine gI h cf11 o200 f11_18 lX11_247 (dt t_M_number 13 rfl) ?_
      refine SW_iload_n h rfl (dt t_M_number 14 rfl) ?_
      refine SW_iload_n h rfl (dt t_M_number 15 rfl) ?_
      obtain ⟨v3, e3, hf⟩ := b1_of hf
      refine cS h [.int (i32 (σ 200 18)), .int (i32 x1), .int (i32 x2)] [] v_X11_in kX11_150 (c_M_in (σ 200 18) (okI ok 200 18 (IsO.n3 o200)) x1 hx1 x2 hx2 e3) rfl rfl (by decide) (by decide) rfl (Nat.le_of_ble_eq_true rfl) (dt t_M_number 16 rfl) (fun h3 => ?_)
      refine SW_if_ne (tgt := 41) h (fun _ => (r_zo h3)) (dt t_M_number 17 rfl) rfl hf (fun hf => ?_) (fun hf => ?_)
      · refine SW_aload_n h rfl (dt t_M_number 18 rfl) ?_
        refine SW_iconst h (dt t_M_number 19 rfl) ?_
        obtain ⟨s4, e4, hf⟩ := b0M_of hf
        refine cVv h [.int (i32 2)] [] v_X11_errs kX11_266 o200 (c_M_errs 2 (by decide) e4) rfl rfl (by decide) (by decide) rfl (Nat.le_of_ble_eq_true rfl) (dt t_M_number 20 rfl) (fun h4 => ?_)
        refine SW_ok (fun ok4 => ?_)
        refine SW_iload_n h rfl (dt t_M_number 21 rfl) ?_
        exact SW_iret h (hret _ hf) (fun _ => hx1) rfl (dt t_M_number 22 rfl)
      · refine SW_aload_n h rfl (dt t_M_number 23 rfl) ?_
        refine gI h cf11 o200 f11_18 lX11_247 (dt t_M_number 24 rfl) ?_
        refine SW_istore_n (lv2 := [some (.ref (xad X 200)), some (.int (i32 x1)), some (.int (i32 x2)), some (.int (i32 (σ 200 18)))]) h (dt t_M_number 25 rfl) (by decide) rfl ?_
        refine SW_aload_n h rfl (dt t_M_number 26 rfl) ?_
        obtain ⟨s5, e5, hf⟩ := b0M_of hf
        refine cVv h [] [] v_X11_next kX11_272 o200 (c_M_next  e5) rfl rfl (by decide) (by decide) rfl (Nat.le_of_ble_eq_true rfl) (dt t_M_number 27 rfl) (fun h5 => ?_)
        refine SW_ok (fun ok5 => ?_)
        refine SW_iload_n h rfl (dt t_M_number 28 rfl) ?_
        exact SW_iret h (hret _ hf) (fun _ => (okI ok 200 18 (IsO.n3 o200))) rfl (dt t_M_number 29 rfl)
    · exact SW_fgt [true, true, false, false] rfl (k1 hf)
def b_M_rowTold : List (Nat × Instr × Nat) := [(0, .iconst 0, 1), (1, .istore_n 1, 1), (2, .iconst 0, 1), (3, .istore_n 2, 1), (4, .iconst 1, 1), (5, .istore_n 3, 1), (6, .aload_n 0, 1), (7, .bipush 45, 2), (9, .invokevirtual 298, 3), (12, .istore 4, 2), (14, .iload 4, 2), (16, .ifCond .eq 7, 3), (19, .aload_n 0, 1), (20, .invokevirtual 272, 3), (23, .iload_n 3, 1), (24, .ifCond .eq 139, 3), (27, .aload_n 0, 1), (28, .getfield 251, 3), (31, .ifCond .ne 132, 3), (34, .iload_n 1, 1), (35, .iconst 4, 1), (36, .if_icmp .ne 38, 3), (39, .aload_n 0, 1), (40, .aload_n 0, 1), (41, .getfield 234, 3), (44, .iconst 2, 1), (45, .if_icmp .eq 7, 3), (48, .iconst 1, 1), (49, .goto 19, 3), (52, .aload_n 0, 1), (53, .getfield 247, 3), (56, .sipush 9999, 3), (59, .if_icmp .le 7, 3), (62, .iconst 2, 1), (63, .goto 5, 3), (66, .bipush 7, 2), (68, .invokevirtual 266, 3), (71, .goto (-48), 3), (74, .aload_n 0, 1), (75, .getfield 75, 3), (78, .iconst 4, 1), (79, .aload_n 0, 1), (80, .getfield 332, 3), (83, .imul, 1), (84, .iload_n 1, 1), (85, .iadd, 1), (86, .aload_n 0, 1), (87, .iconst 0, 1), (88, .sipush 9999, 3), (91, .invokevirtual 335, 3), (94, .iastore, 1), (95, .iload_n 2, 1), (96, .iload 4, 2), (98, .ifCond .eq 9, 3), (101, .iconst 1, 1), (102, .iload_n 1, 1), (103, .ishl, 1), (104, .goto 4, 3), (107, .iconst 0, 1), (108, .ior, 1), (109, .istore_n 2, 1), (110, .iinc 1 1, 3), (113, .aload_n 0, 1), (114, .bipush 43, 2), (116, .invokevirtual 298, 3), (119, .ifCond .ne 12, 3), (122, .aload_n 0, 1), (123, .bipush 45, 2), (125, .invokevirtual 298, 3), (128, .ifCond .eq 7, 3), (131, .iconst 1, 1), (132, .goto 4, 3), (135, .iconst 0, 1), (136, .istore_n 3, 1), (137, .aload_n 0, 1), (138, .bipush 45, 2), (140, .invokevirtual 298, 3), (143, .istore 4, 2), (145, .iload_n 3, 1), (146, .ifCond .eq (-123), 3), (149, .aload_n 0, 1), (150, .getfield 251, 3), (153, .ifCond .ne (-130), 3), (156, .aload_n 0, 1), (157, .invokevirtual 272, 3), (160, .goto (-137), 3), (163, .aload_n 0, 1), (164, .getfield 69, 3), (167, .aload_n 0, 1), (168, .getfield 332, 3), (171, .iload_n 1, 1), (172, .iastore, 1), (173, .aload_n 0, 1), (174, .getfield 72, 3), (177, .aload_n 0, 1), (178, .getfield 332, 3), (181, .iload_n 2, 1), (182, .iastore, 1), (183, .return_, 1)]
theorem t_M_rowTold : DT cX11_rowTold b_M_rowTold := DT.of (by decide +kernel)
def L_M_rowTold_23 : Nat → Int → Int → Int → Int → Mm → Option (Int × Int × Mm)
  | 0, _, _, _, _, _ => none
  | n + 1, x1, x2, x3, x4, σ =>
    if x3 = 0 then
      some ((x1, x2, σ))
    else
      if σ 200 19 = 0 then
        if x1 = 4 then
          bindM (fun (y3 : Int) =>
            b0M (F_M_errs y3 σ) fun s4 =>
            L_M_rowTold_23 n x1 x2 x3 x4 s4) fun J3 =>
          if σ 200 17 = 2 then
            if σ 200 18 ≤ 9999 then
              J3 7
            else
              J3 2
          else
            J3 1
        else
          b1M (F_M_number 0 9999 σ) fun v5 s5 =>
          if 0 ≤ (4 * (σ 200 29)) + x1 ∧ (4 * (σ 200 29)) + x1 < 96 then
            bindM (st2 s5 220 (((4 * (σ 200 29)) + x1).toNat) v5) fun s6 =>
            bindM (fun (y7 : Int) =>
              b1 (F_M_isSign 43 s6) fun v8 =>
              bindM (fun (y9 : Int) =>
                b1 (F_M_isSign 45 s6) fun v10 =>
                if y9 = 0 then
                  if r32 (x1 + 1) then
                    L_M_rowTold_23 n (x1 + 1) (ior x2 y7) y9 v10 s6
                  else none
                else
                  if s6 200 19 = 0 then
                    b0M (F_M_next  s6) fun s12 =>
                    if r32 (x1 + 1) then
                      L_M_rowTold_23 n (x1 + 1) (ior x2 y7) y9 v10 s12
                    else none
                  else
                    if r32 (x1 + 1) then
                      L_M_rowTold_23 n (x1 + 1) (ior x2 y7) y9 v10 s6
                    else none) fun J9 =>
              bindM (
                J9 1) fun J15 =>
              if v8 = 0 then
                b1 (F_M_isSign 45 s6) fun v16 =>
                if v16 = 0 then
                  J9 0
                else
                  J15
              else
                J15) fun J7 =>
            if x4 = 0 then
              J7 0
            else
              J7 (ishl 1 x1)
          else none
      else
        some ((x1, x2, σ))
set_option maxRecDepth 100000 in
set_option maxHeartbeats 4000000 in
theorem l_M_rowTold_23 {X : Cx} (h : CX X 1 cX11_rowTold 5 4 none RX11)   {res : Int × Int × Mm} (hex : ∀ (x1 : Int) (x2 : Int) (σ : Mm) (hz : some ((x1, x2, σ)) = some res) (hx1 : r32 x1) (hx2 : r32 x2) (ok : okM σ), SW X 1 5 163 [some (.ref (xad X 200)), some (.int (i32 x1)), some (.int (i32 x2)), none, none] [] σ) : ∀ (n : Nat) (x1 : Int) (x2 : Int) (x3 : Int) (x4 : Int) (σ : Mm) (hx1 : r32 x1) (hx2 : r32 x2) (hx3 : r32 x3) (hx4 : r32 x4) (ok : okM σ) (hf : L_M_rowTold_23 n x1 x2 x3 x4 σ = some res), SW X 1 5 23 [some (.ref (xad X 200)), some (.int (i32 x1)), some (.int (i32 x2)), some (.int (i32 x3)), some (.int (i32 x4))] [] σ := by
  intro n
  induction n with
  | zero => intro x1 x2 x3 x4 σ hx1 hx2 hx3 hx4 ok hf; exact absurd hf (by simp [L_M_rowTold_23])
  | succ n ih =>
    intro x1 x2 x3 x4 σ hx1 hx2 hx3 hx4 ok hf
    rw [L_M_rowTold_23] at hf
    refine SW_iload_n h rfl (dt t_M_rowTold 14 rfl) ?_
    refine SW_if_eq (tgt := 163) h (fun _ => hx3) (dt t_M_rowTold 15 rfl) rfl hf (fun hf => ?_) (fun hf => ?_)
    · exact SW_fgt [true, true, true, false, false] rfl (hex x1 x2 σ hf hx1 hx2 ok)
    · refine SW_aload_n h rfl (dt t_M_rowTold 16 rfl) ?_
      refine gI h cf11 o200 f11_19 lX11_251 (dt t_M_rowTold 17 rfl) ?_
      refine SW_if_ne (tgt := 163) h (fun _ => (okI ok 200 19 (IsO.n3 o200))) (dt t_M_rowTold 18 rfl) rfl hf (fun hf => ?_) (fun hf => ?_)
      · refine SW_iload_n h rfl (dt t_M_rowTold 19 rfl) ?_
        refine SW_iconst h (dt t_M_rowTold 20 rfl) ?_
        refine SW_icmp_ne (tgt := 74) h (fun _ => hx1) (fun _ => (by decide)) (dt t_M_rowTold 21 rfl) rfl hf (fun hf => ?_) (fun hf => ?_)
        · refine SW_aload_n h rfl (dt t_M_rowTold 22 rfl) ?_
          refine SW_aload_n h rfl (dt t_M_rowTold 23 rfl) ?_
          refine gI h cf11 o200 f11_17 lX11_234 (dt t_M_rowTold 24 rfl) ?_
          refine SW_iconst h (dt t_M_rowTold 25 rfl) ?_
          refine bJ hf (fun J3 e3 hf => ?_)
          have k3 : ∀ (y3 : Int) (hy3 : r32 y3) (hf : J3 y3 = some res), SW X 1 5 68 [some (.ref (xad X 200)), some (.int (i32 x1)), some (.int (i32 x2)), some (.int (i32 x3)), some (.int (i32 x4))] [.int (i32 y3), .ref (xad X 200)] σ := by
            intro y3 hy3 hf
            rw [e3] at hf
            obtain ⟨s4, e4, hf⟩ := b0M_of hf
            refine cVv h [.int (i32 y3)] [] v_X11_errs kX11_266 o200 (c_M_errs y3 hy3 e4) rfl rfl (by decide) (by decide) rfl (Nat.le_of_ble_eq_true rfl) (dt t_M_rowTold 36 rfl) (fun h4 => ?_)
            refine SW_ok (fun ok4 => ?_)
            refine SW_goto (tgt := 23) h (dt t_M_rowTold 37 rfl) rfl ?_
            exact SW_fgt [true, true, true, true, true] rfl (ih x1 x2 x3 x4 s4 hx1 hx2 hx3 hx4 ok4 hf)
          refine SW_icmp_eq (tgt := 52) h (fun _ => (okI ok 200 17 (IsO.n3 o200))) (fun _ => (by decide)) (dt t_M_rowTold 26 rfl) rfl hf (fun hf => ?_) (fun hf => ?_)
          · refine SW_aload_n h rfl (dt t_M_rowTold 29 rfl) ?_
            refine gI h cf11 o200 f11_18 lX11_247 (dt t_M_rowTold 30 rfl) ?_
            refine SW_sipush h (dt t_M_rowTold 31 rfl) (by decide) ?_
            refine SW_icmp_le (tgt := 66) h (fun _ => (okI ok 200 18 (IsO.n3 o200))) (fun _ => (by decide)) (dt t_M_rowTold 32 rfl) rfl hf (fun hf => ?_) (fun hf => ?_)
            · refine SW_bipush h (dt t_M_rowTold 35 rfl) (by decide) ?_
              exact SW_fgt [true, true, true, true, true] rfl (k3 7 (by decide) hf)
            · refine SW_iconst h (dt t_M_rowTold 33 rfl) ?_
              refine SW_goto (tgt := 68) h (dt t_M_rowTold 34 rfl) rfl ?_
              exact SW_fgt [true, true, true, true, true] rfl (k3 2 (by decide) hf)
          · refine SW_iconst h (dt t_M_rowTold 27 rfl) ?_
            refine SW_goto (tgt := 68) h (dt t_M_rowTold 28 rfl) rfl ?_
            exact SW_fgt [true, true, true, true, true] rfl (k3 1 (by decide) hf)
        · refine SW_aload_n h rfl (dt t_M_rowTold 38 rfl) ?_
          refine gR h cf11 o200 f11_35 j200_35 lX11_75 (dt t_M_rowTold 39 rfl) ?_
          refine SW_iconst h (dt t_M_rowTold 40 rfl) ?_
          refine SW_aload_n h rfl (dt t_M_rowTold 41 rfl) ?_
          refine gI h cf11 o200 f11_29 lX11_332 (dt t_M_rowTold 42 rfl) ?_
          refine SW_imul h (dt t_M_rowTold 43 rfl) ?_
          refine SW_iload_n h rfl (dt t_M_rowTold 44 rfl) ?_
          refine SW_iadd h (dt t_M_rowTold 45 rfl) ?_
          refine SW_aload_n h rfl (dt t_M_rowTold 46 rfl) ?_
          refine SW_iconst h (dt t_M_rowTold 47 rfl) ?_
          refine SW_sipush h (dt t_M_rowTold 48 rfl) (by decide) ?_
          obtain ⟨v5, s5, e5, hf⟩ := b1M_of hf
          refine cV h [.int (i32 0), .int (i32 9999)] [.int (i32 ((4 * (σ 200 29)) + x1)), .ref (xad X 220)] v_X11_number kX11_335 o200 (c_M_number 0 (by decide) 9999 (by decide) e5) rfl rfl (by decide) (by decide) rfl (Nat.le_of_ble_eq_true rfl) (dt t_M_rowTold 49 rfl) (fun h5 => ?_)
          refine SW_ok (fun ok5 => ?_)
          refine sI h a220 h5 (dt t_M_rowTold 50 rfl) hf (fun hf => SW_bm hf (fun s6 ok6 hf => ?_))
          refine SW_iload_n h rfl (dt t_M_rowTold 51 rfl) ?_
          refine SW_iload h rfl (dt t_M_rowTold 52 rfl) ?_
          refine bJ hf (fun J7 e7 hf => ?_)
          have k7 : ∀ (y7 : Int) (hy7 : r32 y7) (hf : J7 y7 = some res), SW X 1 5 108 [some (.ref (xad X 200)), some (.int (i32 x1)), none, none, none] [.int (i32 y7), .int (i32 x2)] s6 := by
            intro y7 hy7 hf
            rw [e7] at hf
            refine SW_ior h (dt t_M_rowTold 59 rfl) ?_
            refine SW_istore_n (lv2 := [some (.ref (xad X 200)), some (.int (i32 x1)), some (.int (i32 (ior x2 y7))), none, none]) h (dt t_M_rowTold 60 rfl) (by decide) rfl ?_
            refine SW_iinc (lv2 := [some (.ref (xad X 200)), some (.int (i32 (x1 + 1))), some (.int (i32 (ior x2 y7))), none, none]) h (dt t_M_rowTold 61 rfl) rfl (by decide) rfl ?_
            refine SW_aload_n h rfl (dt t_M_rowTold 62 rfl) ?_
            refine SW_bipush h (dt t_M_rowTold 63 rfl) (by decide) ?_
            obtain ⟨v8, e8, hf⟩ := b1_of hf
            refine cV h [.int (i32 43)] [] v_X11_isSign kX11_298 o200 (c_M_isSign 43 (by decide) e8) rfl rfl (by decide) (by decide) rfl (Nat.le_of_ble_eq_true rfl) (dt t_M_rowTold 64 rfl) (fun h8 => ?_)
            refine bJ hf (fun J9 e9 hf => ?_)
            have k9 : ∀ (y9 : Int) (hy9 : r32 y9) (hf : J9 y9 = some res), SW X 1 5 136 [some (.ref (xad X 200)), some (.int (i32 (x1 + 1))), some (.int (i32 (ior x2 y7))), none, none] [.int (i32 y9)] s6 := by
              intro y9 hy9 hf
              rw [e9] at hf
              refine SW_istore_n (lv2 := [some (.ref (xad X 200)), some (.int (i32 (x1 + 1))), some (.int (i32 (ior x2 y7))), some (.int (i32 y9)), none]) h (dt t_M_rowTold 73 rfl) (by decide) rfl ?_
              refine SW_aload_n h rfl (dt t_M_rowTold 74 rfl) ?_
              refine SW_bipush h (dt t_M_rowTold 75 rfl) (by decide) ?_
              obtain ⟨v10, e10, hf⟩ := b1_of hf
              refine cV h [.int (i32 45)] [] v_X11_isSign kX11_298 o200 (c_M_isSign 45 (by decide) e10) rfl rfl (by decide) (by decide) rfl (Nat.le_of_ble_eq_true rfl) (dt t_M_rowTold 76 rfl) (fun h10 => ?_)
              refine SW_istore (lv2 := [some (.ref (xad X 200)), some (.int (i32 (x1 + 1))), some (.int (i32 (ior x2 y7))), some (.int (i32 y9)), some (.int (i32 v10))]) h (dt t_M_rowTold 77 rfl) (by decide) rfl ?_
              refine SW_iload_n h rfl (dt t_M_rowTold 78 rfl) ?_
              refine SW_if_eq (tgt := 23) h (fun _ => hy9) (dt t_M_rowTold 79 rfl) rfl hf (fun hf => ?_) (fun hf => ?_)
              · refine SW_chk hf (fun h11 hf => ?_)
                exact SW_fgt [true, true, true, true, true] rfl (ih (x1 + 1) (ior x2 y7) y9 v10 s6 h11 (r_ior _ _) hy9 (r_zo h10) ok6 hf)
              · refine SW_aload_n h rfl (dt t_M_rowTold 80 rfl) ?_
                refine gI h cf11 o200 f11_19 lX11_251 (dt t_M_rowTold 81 rfl) ?_
                refine SW_if_ne (tgt := 23) h (fun _ => (okI ok6 200 19 (IsO.n3 o200))) (dt t_M_rowTold 82 rfl) rfl hf (fun hf => ?_) (fun hf => ?_)
                · refine SW_aload_n h rfl (dt t_M_rowTold 83 rfl) ?_
                  obtain ⟨s12, e12, hf⟩ := b0M_of hf
                  refine cVv h [] [] v_X11_next kX11_272 o200 (c_M_next  e12) rfl rfl (by decide) (by decide) rfl (Nat.le_of_ble_eq_true rfl) (dt t_M_rowTold 84 rfl) (fun h12 => ?_)
                  refine SW_ok (fun ok12 => ?_)
                  refine SW_goto (tgt := 23) h (dt t_M_rowTold 85 rfl) rfl ?_
                  refine SW_chk hf (fun h13 hf => ?_)
                  exact SW_fgt [true, true, true, true, true] rfl (ih (x1 + 1) (ior x2 y7) y9 v10 s12 h13 (r_ior _ _) hy9 (r_zo h10) ok12 hf)
                · refine SW_chk hf (fun h14 hf => ?_)
                  exact SW_fgt [true, true, true, true, true] rfl (ih (x1 + 1) (ior x2 y7) y9 v10 s6 h14 (r_ior _ _) hy9 (r_zo h10) ok6 hf)
            refine bJ hf (fun J15 e15 hf => ?_)
            have k15 : ∀ (hf : J15 = some res), SW X 1 5 131 [some (.ref (xad X 200)), some (.int (i32 (x1 + 1))), some (.int (i32 (ior x2 y7))), none, none] [] s6 := by
              intro hf
              rw [e15] at hf
              refine SW_iconst h (dt t_M_rowTold 70 rfl) ?_
              refine SW_goto (tgt := 136) h (dt t_M_rowTold 71 rfl) rfl ?_
              exact SW_fgt [true, true, true, false, false] rfl (k9 1 (by decide) hf)
            refine SW_if_ne (tgt := 131) h (fun _ => (r_zo h8)) (dt t_M_rowTold 65 rfl) rfl hf (fun hf => ?_) (fun hf => ?_)
            · refine SW_aload_n h rfl (dt t_M_rowTold 66 rfl) ?_
              refine SW_bipush h (dt t_M_rowTold 67 rfl) (by decide) ?_
              obtain ⟨v16, e16, hf⟩ := b1_of hf
              refine cV h [.int (i32 45)] [] v_X11_isSign kX11_298 o200 (c_M_isSign 45 (by decide) e16) rfl rfl (by decide) (by decide) rfl (Nat.le_of_ble_eq_true rfl) (dt t_M_rowTold 68 rfl) (fun h16 => ?_)
              refine SW_if_eq (tgt := 135) h (fun _ => (r_zo h16)) (dt t_M_rowTold 69 rfl) rfl hf (fun hf => ?_) (fun hf => ?_)
              · refine SW_iconst h (dt t_M_rowTold 72 rfl) ?_
                exact SW_fgt [true, true, true, false, false] rfl (k9 0 (by decide) hf)
              · exact SW_fgt [true, true, true, false, false] rfl (k15 hf)
            · exact SW_fgt [true, true, true, false, false] rfl (k15 hf)
          refine SW_if_eq (tgt := 107) h (fun _ => hx4) (dt t_M_rowTold 53 rfl) rfl hf (fun hf => ?_) (fun hf => ?_)
          · refine SW_iconst h (dt t_M_rowTold 58 rfl) ?_
            exact SW_fgt [true, true, false, false, false] rfl (k7 0 (by decide) hf)
          · refine SW_iconst h (dt t_M_rowTold 54 rfl) ?_
            refine SW_iload_n h rfl (dt t_M_rowTold 55 rfl) ?_
            refine SW_ishl h (dt t_M_rowTold 56 rfl) ?_
            refine SW_goto (tgt := 108) h (dt t_M_rowTold 57 rfl) rfl ?_
            exact SW_fgt [true, true, false, false, false] rfl (k7 (ishl 1 x1) (r_ishl _ _) hf)
      · exact SW_fgt [true, true, true, false, false] rfl (hex x1 x2 σ hf hx1 hx2 ok)
def F_M_rowTold  (σ : Mm) : Option (Mm) :=
  b1 (F_M_isSign 45 σ) fun v1 =>
  bindM (fun  (t2 : Mm) =>
    b2M (L_M_rowTold_23 LF 0 0 1 v1 t2) fun x1_17 x2_17 s17 =>
    if 0 ≤ s17 200 29 ∧ s17 200 29 < 24 then
      bindM (st2 s17 218 ((s17 200 29).toNat) x1_17) fun s18 =>
      if 0 ≤ s18 200 29 ∧ s18 200 29 < 24 then
        bindM (st2 s18 219 ((s18 200 29).toNat) x2_17) fun s19 =>
        some s19
      else none
    else none) fun J2 =>
  if v1 = 0 then
    J2 σ
  else
    b0M (F_M_next  σ) fun s20 =>
    J2 s20
set_option maxRecDepth 100000 in
set_option maxHeartbeats 4000000 in
theorem c_M_rowTold  {σ : Mm} {σ2 : Mm} (hf : F_M_rowTold  σ = some σ2) : CT yX11_rowTold cX11_rowTold 5 none 4 1 (fun ad => [.ref (ad 200)]) σ True none σ2 := by
  refine MetJ 4 (by decide +kernel) rfl (fun _ => Nat.le_of_ble_eq_true rfl) ?_
  intro X h hR ok
  obtain ⟨res, er⟩ : ∃ z, z = σ2 := ⟨_, rfl⟩
  have hret : ∀ y : Mm, some y = some res → RX X 1 True none y := fun y e => by cases e; cases er; exact hR
  rw [← er] at hf
  clear er hR
  unfold F_M_rowTold at hf
  show SW X 1 5 0 [some (.ref (xad X 200)), none, none, none, none] [] σ
  refine SW_iconst h (dt t_M_rowTold 0 rfl) ?_
  refine SW_istore_n (lv2 := [some (.ref (xad X 200)), some (.int (i32 0)), none, none, none]) h (dt t_M_rowTold 1 rfl) (by decide) rfl ?_
  refine SW_iconst h (dt t_M_rowTold 2 rfl) ?_
  refine SW_istore_n (lv2 := [some (.ref (xad X 200)), some (.int (i32 0)), some (.int (i32 0)), none, none]) h (dt t_M_rowTold 3 rfl) (by decide) rfl ?_
  refine SW_iconst h (dt t_M_rowTold 4 rfl) ?_
  refine SW_istore_n (lv2 := [some (.ref (xad X 200)), some (.int (i32 0)), some (.int (i32 0)), some (.int (i32 1)), none]) h (dt t_M_rowTold 5 rfl) (by decide) rfl ?_
  refine SW_aload_n h rfl (dt t_M_rowTold 6 rfl) ?_
  refine SW_bipush h (dt t_M_rowTold 7 rfl) (by decide) ?_
  obtain ⟨v1, e1, hf⟩ := b1_of hf
  refine cV h [.int (i32 45)] [] v_X11_isSign kX11_298 o200 (c_M_isSign 45 (by decide) e1) rfl rfl (by decide) (by decide) rfl (Nat.le_of_ble_eq_true rfl) (dt t_M_rowTold 8 rfl) (fun h1 => ?_)
  refine SW_istore (lv2 := [some (.ref (xad X 200)), some (.int (i32 0)), some (.int (i32 0)), some (.int (i32 1)), some (.int (i32 v1))]) h (dt t_M_rowTold 9 rfl) (by decide) rfl ?_
  refine SW_iload h rfl (dt t_M_rowTold 10 rfl) ?_
  refine bJ hf (fun J2 e2 hf => ?_)
  have k2 : ∀  (t2 : Mm)  (ot2 : okM t2) (hf : J2 t2 = some res), SW X 1 5 23 [some (.ref (xad X 200)), some (.int (i32 0)), some (.int (i32 0)), some (.int (i32 1)), some (.int (i32 v1))] [] t2 := by
    intro t2 ot2 hf
    rw [e2] at hf
    obtain ⟨z17, e17, hk17⟩ := b2M_ex hf
    refine SW_fgt [true, true, true, true, true] rfl (l_M_rowTold_23 h (fun x1_17 x2_17 s17 hz17 hx1_17 hx2_17 ok17 => ?_) LF 0 0 1 v1 t2 (by decide) (by decide) (by decide) (r_zo h1) ot2 e17)
    have hf := hk17 x1_17 x2_17 s17 hz17
    refine SW_aload_n h rfl (dt t_M_rowTold 86 rfl) ?_
    refine gR h cf11 o200 f11_33 j200_33 lX11_69 (dt t_M_rowTold 87 rfl) ?_
    refine SW_aload_n h rfl (dt t_M_rowTold 88 rfl) ?_
    refine gI h cf11 o200 f11_29 lX11_332 (dt t_M_rowTold 89 rfl) ?_
    refine SW_iload_n h rfl (dt t_M_rowTold 90 rfl) ?_
    refine sI h a218 hx1_17 (dt t_M_rowTold 91 rfl) hf (fun hf => SW_bm hf (fun s18 ok18 hf => ?_))
    refine SW_aload_n h rfl (dt t_M_rowTold 92 rfl) ?_
    refine gR h cf11 o200 f11_34 j200_34 lX11_72 (dt t_M_rowTold 93 rfl) ?_
    refine SW_aload_n h rfl (dt t_M_rowTold 94 rfl) ?_
    refine gI h cf11 o200 f11_29 lX11_332 (dt t_M_rowTold 95 rfl) ?_
    refine SW_iload_n h rfl (dt t_M_rowTold 96 rfl) ?_
    refine sI h a219 hx2_17 (dt t_M_rowTold 97 rfl) hf (fun hf => SW_bm hf (fun s19 ok19 hf => ?_))
    exact SW_vret h (hret _ hf) rfl (dt t_M_rowTold 98 rfl)
  refine SW_if_eq (tgt := 23) h (fun _ => (r_zo h1)) (dt t_M_rowTold 11 rfl) rfl hf (fun hf => ?_) (fun hf => ?_)
  · exact SW_fgt [true, true, true, true, true] rfl (k2 σ ok hf)
  · refine SW_aload_n h rfl (dt t_M_rowTold 12 rfl) ?_
    obtain ⟨s20, e20, hf⟩ := b0M_of hf
    refine cVv h [] [] v_X11_next kX11_272 o200 (c_M_next  e20) rfl rfl (by decide) (by decide) rfl (Nat.le_of_ble_eq_true rfl) (dt t_M_rowTold 13 rfl) (fun h20 => ?_)
    refine SW_ok (fun ok20 => ?_)
    exact SW_fgt [true, true, true, true, true] rfl (k2 s20 ok20 hf)
def b_M_numberBehind : List (Nat × Instr × Nat) := [(0, .aload_n 0, 1), (1, .getfield 251, 3), (4, .ifCond .ne 16, 3), (7, .aload_n 0, 1), (8, .iload_n 1, 1), (9, .invokevirtual 289, 3), (12, .ifCond .ne 8, 3), (15, .aload_n 0, 1), (16, .iconst 1, 1), (17, .invokevirtual 266, 3), (20, .aload_n 0, 1), (21, .getfield 251, 3), (24, .ifCond .ne 7, 3), (27, .aload_n 0, 1), (28, .invokevirtual 272, 3), (31, .aload_n 0, 1), (32, .iload_n 2, 1), (33, .iload_n 3, 1), (34, .invokevirtual 335, 3), (37, .ireturn, 1)]
theorem t_M_numberBehind : DT cX11_numberBehind b_M_numberBehind := DT.of (by decide +kernel)
def F_M_numberBehind (x1 : Int) (x2 : Int) (x3 : Int) (σ : Mm) : Option (Int × Mm) :=
  bindM (fun  (t1 : Mm) =>
    bindM (fun  (t2 : Mm) =>
      b1M (F_M_number x2 x3 t2) fun v3 s3 =>
      some (v3, s3)) fun J2 =>
    if t1 200 19 = 0 then
      b0M (F_M_next  t1) fun s4 =>
      J2 s4
    else
      J2 t1) fun J1 =>
  if σ 200 19 = 0 then
    b1 (F_M_isWord x1 σ) fun v5 =>
    if v5 = 0 then
      b0M (F_M_errs 1 σ) fun s6 =>
      J1 s6
    else
      J1 σ
  else
    J1 σ
set_option maxRecDepth 100000 in
set_option maxHeartbeats 4000000 in
theorem c_M_numberBehind (x1 : Int) (hx1 : r32 x1) (x2 : Int) (hx2 : r32 x2) (x3 : Int) (hx3 : r32 x3) {σ : Mm} {a : Int} {σ2 : Mm} (hf : F_M_numberBehind x1 x2 x3 σ = some (a, σ2)) : CT yX11_numberBehind cX11_numberBehind 4 (some .int) 4 1 (fun ad => [.ref (ad 200), .int (i32 x1), .int (i32 x2), .int (i32 x3)]) σ (r32 a) (some (.int (i32 a))) σ2 := by
  refine MetJ 0 (by decide +kernel) rfl (fun _ => Nat.le_of_ble_eq_true rfl) ?_
  intro X h hR ok
  obtain ⟨res, er⟩ : ∃ z, z = (a, σ2) := ⟨_, rfl⟩
  have hret : ∀ y : Int × Mm, some y = some res → RX X 1 (r32 (y.1)) (some (.int (i32 (y.1)))) y.2 := fun y e => by cases e; cases er; exact hR
  rw [← er] at hf
  clear er hR
  unfold F_M_numberBehind at hf
  show SW X 1 4 0 [some (.ref (xad X 200)), some (.int (i32 x1)), some (.int (i32 x2)), some (.int (i32 x3))] [] σ
  refine SW_aload_n h rfl (dt t_M_numberBehind 0 rfl) ?_
  refine gI h cf11 o200 f11_19 lX11_251 (dt t_M_numberBehind 1 rfl) ?_
  refine bJ hf (fun J1 e1 hf => ?_)
  have k1 : ∀  (t1 : Mm)  (ot1 : okM t1) (hf : J1 t1 = some res), SW X 1 4 20 [some (.ref (xad X 200)), none, some (.int (i32 x2)), some (.int (i32 x3))] [] t1 := by
    intro t1 ot1 hf
    rw [e1] at hf
    refine SW_aload_n h rfl (dt t_M_numberBehind 10 rfl) ?_
    refine gI h cf11 o200 f11_19 lX11_251 (dt t_M_numberBehind 11 rfl) ?_
    refine bJ hf (fun J2 e2 hf => ?_)
    have k2 : ∀  (t2 : Mm)  (ot2 : okM t2) (hf : J2 t2 = some res), SW X 1 4 31 [some (.ref (xad X 200)), none, some (.int (i32 x2)), some (.int (i32 x3))] [] t2 := by
      intro t2 ot2 hf
      rw [e2] at hf
      refine SW_aload_n h rfl (dt t_M_numberBehind 15 rfl) ?_
      refine SW_iload_n h rfl (dt t_M_numberBehind 16 rfl) ?_
      refine SW_iload_n h rfl (dt t_M_numberBehind 17 rfl) ?_
      obtain ⟨v3, s3, e3, hf⟩ := b1M_of hf
      refine cV h [.int (i32 x2), .int (i32 x3)] [] v_X11_number kX11_335 o200 (c_M_number x2 hx2 x3 hx3 e3) rfl rfl (by decide) (by decide) rfl (Nat.le_of_ble_eq_true rfl) (dt t_M_numberBehind 18 rfl) (fun h3 => ?_)
      refine SW_ok (fun ok3 => ?_)
      exact SW_iret h (hret _ hf) (fun _ => h3) rfl (dt t_M_numberBehind 19 rfl)
    refine SW_if_ne (tgt := 31) h (fun _ => (okI ot1 200 19 (IsO.n3 o200))) (dt t_M_numberBehind 12 rfl) rfl hf (fun hf => ?_) (fun hf => ?_)
    · refine SW_aload_n h rfl (dt t_M_numberBehind 13 rfl) ?_
      obtain ⟨s4, e4, hf⟩ := b0M_of hf
      refine cVv h [] [] v_X11_next kX11_272 o200 (c_M_next  e4) rfl rfl (by decide) (by decide) rfl (Nat.le_of_ble_eq_true rfl) (dt t_M_numberBehind 14 rfl) (fun h4 => ?_)
      refine SW_ok (fun ok4 => ?_)
      exact SW_fgt [true, false, true, true] rfl (k2 s4 ok4 hf)
    · exact SW_fgt [true, false, true, true] rfl (k2 t1 ot1 hf)
  refine SW_if_ne (tgt := 20) h (fun _ => (okI ok 200 19 (IsO.n3 o200))) (dt t_M_numberBehind 2 rfl) rfl hf (fun hf => ?_) (fun hf => ?_)
  · refine SW_aload_n h rfl (dt t_M_numberBehind 3 rfl) ?_
    refine SW_iload_n h rfl (dt t_M_numberBehind 4 rfl) ?_
    obtain ⟨v5, e5, hf⟩ := b1_of hf
    refine cV h [.int (i32 x1)] [] v_X11_isWord kX11_289 o200 (c_M_isWord x1 hx1 e5) rfl rfl (by decide) (by decide) rfl (Nat.le_of_ble_eq_true rfl) (dt t_M_numberBehind 5 rfl) (fun h5 => ?_)
    refine SW_if_ne (tgt := 20) h (fun _ => (r_zo h5)) (dt t_M_numberBehind 6 rfl) rfl hf (fun hf => ?_) (fun hf => ?_)
    · refine SW_aload_n h rfl (dt t_M_numberBehind 7 rfl) ?_
      refine SW_iconst h (dt t_M_numberBehind 8 rfl) ?_
      obtain ⟨s6, e6, hf⟩ := b0M_of hf
      refine cVv h [.int (i32 1)] [] v_X11_errs kX11_266 o200 (c_M_errs 1 (by decide) e6) rfl rfl (by decide) (by decide) rfl (Nat.le_of_ble_eq_true rfl) (dt t_M_numberBehind 9 rfl) (fun h6 => ?_)
      refine SW_ok (fun ok6 => ?_)
      exact SW_fgt [true, false, true, true] rfl (k1 s6 ok6 hf)
    · exact SW_fgt [true, false, true, true] rfl (k1 σ ok hf)
  · exact SW_fgt [true, false, true, true] rfl (k1 σ ok hf)
def b_M_doing : List (Nat × Instr × Nat) := [(0, .iconst 0, 1), (1, .istore_n 1, 1), (2, .iconst (-1), 1), (3, .istore_n 2, 1), (4, .aload_n 0, 1), (5, .getfield 307, 3), (8, .tableswitch 81 4 6 #[28, 39, 60], 28), (36, .aload_n 0, 1), (37, .iconst 0, 1), (38, .bipush 11, 2), (40, .invokevirtual 335, 3), (43, .istore_n 1, 1), (44, .goto 53, 3), (47, .aload_n 0, 1), (48, .iconst 0, 1), (49, .bipush 9, 2), (51, .invokevirtual 335, 3), (54, .istore_n 1, 1), (55, .aload_n 0, 1), (56, .bipush 8, 2), (58, .iconst 0, 1), (59, .bipush 9, 2), (61, .invokevirtual 339, 3), (64, .istore_n 2, 1), (65, .goto 32, 3), (68, .aload_n 0, 1), (69, .iconst 0, 1), (70, .bipush 9, 2), (72, .invokevirtual 335, 3), (75, .istore_n 1, 1), (76, .aload_n 0, 1), (77, .bipush 9, 2), (79, .iconst 0, 1), (80, .bipush 9, 2), (82, .invokevirtual 339, 3), (85, .istore_n 2, 1), (86, .goto 11, 3), (89, .aload_n 0, 1), (90, .iconst 1, 1), (91, .bipush 60, 2), (93, .invokevirtual 335, 3), (96, .istore_n 1, 1), (97, .aload_n 0, 1), (98, .getfield 69, 3), (101, .aload_n 0, 1), (102, .getfield 332, 3), (105, .iload_n 1, 1), (106, .iastore, 1), (107, .aload_n 0, 1), (108, .getfield 72, 3), (111, .aload_n 0, 1), (112, .getfield 332, 3), (115, .iload_n 2, 1), (116, .iastore, 1), (117, .return_, 1)]
theorem t_M_doing : DT cX11_doing b_M_doing := DT.of (by decide +kernel)
def F_M_doing  (σ : Mm) : Option (Mm) :=
  bindM (fun (x1_1 : Int) (x2_1 : Int) (t1 : Mm) =>
    if 0 ≤ t1 200 29 ∧ t1 200 29 < 24 then
      bindM (st2 t1 218 ((t1 200 29).toNat) x1_1) fun s2 =>
      if 0 ≤ s2 200 29 ∧ s2 200 29 < 24 then
        bindM (st2 s2 219 ((s2 200 29).toNat) x2_1) fun s3 =>
        some s3
      else none
    else none) fun J1 =>
  if σ 200 30 = 4 then
    b1M (F_M_number 0 11 σ) fun v5 s5 =>
    J1 v5 ((-1)) s5
  else
    if σ 200 30 = 5 then
      b1M (F_M_number 0 9 σ) fun v7 s7 =>
      b1M (F_M_numberBehind 8 0 9 s7) fun v8 s8 =>
      J1 v7 v8 s8
    else
      if σ 200 30 = 6 then
        b1M (F_M_number 0 9 σ) fun v10 s10 =>
        b1M (F_M_numberBehind 9 0 9 s10) fun v11 s11 =>
        J1 v10 v11 s11
      else
        b1M (F_M_number 1 60 σ) fun v12 s12 =>
        J1 v12 ((-1)) s12
set_option maxRecDepth 100000 in
set_option maxHeartbeats 4000000 in
theorem c_M_doing  {σ : Mm} {σ2 : Mm} (hf : F_M_doing  σ = some σ2) : CT yX11_doing cX11_doing 3 none 5 1 (fun ad => [.ref (ad 200)]) σ True none σ2 := by
  refine MetJ 2 (by decide +kernel) rfl (fun _ => Nat.le_of_ble_eq_true rfl) ?_
  intro X h hR ok
  obtain ⟨res, er⟩ : ∃ z, z = σ2 := ⟨_, rfl⟩
  have hret : ∀ y : Mm, some y = some res → RX X 1 True none y := fun y e => by cases e; cases er; exact hR
  rw [← er] at hf
  clear er hR
  unfold F_M_doing at hf
  show SW X 1 3 0 [some (.ref (xad X 200)), none, none] [] σ
  refine SW_iconst h (dt t_M_doing 0 rfl) ?_
  refine SW_istore_n (lv2 := [some (.ref (xad X 200)), some (.int (i32 0)), none]) h (dt t_M_doing 1 rfl) (by decide) rfl ?_
  refine SW_iconst h (dt t_M_doing 2 rfl) ?_
  refine SW_istore_n (lv2 := [some (.ref (xad X 200)), some (.int (i32 0)), some (.int (i32 ((-1))))]) h (dt t_M_doing 3 rfl) (by decide) rfl ?_
  refine SW_aload_n h rfl (dt t_M_doing 4 rfl) ?_
  refine gI h cf11 o200 f11_30 lX11_307 (dt t_M_doing 5 rfl) ?_
  refine bJ hf (fun J1 e1 hf => ?_)
  have k1 : ∀ (x1_1 : Int) (x2_1 : Int) (t1 : Mm) (hx1_1 : r32 x1_1) (hx2_1 : r32 x2_1) (ot1 : okM t1) (hf : J1 x1_1 x2_1 t1 = some res), SW X 1 3 97 [some (.ref (xad X 200)), some (.int (i32 x1_1)), some (.int (i32 x2_1))] [] t1 := by
    intro x1_1 x2_1 t1 hx1_1 hx2_1 ot1 hf
    rw [e1] at hf
    refine SW_aload_n h rfl (dt t_M_doing 42 rfl) ?_
    refine gR h cf11 o200 f11_33 j200_33 lX11_69 (dt t_M_doing 43 rfl) ?_
    refine SW_aload_n h rfl (dt t_M_doing 44 rfl) ?_
    refine gI h cf11 o200 f11_29 lX11_332 (dt t_M_doing 45 rfl) ?_
    refine SW_iload_n h rfl (dt t_M_doing 46 rfl) ?_
    refine sI h a218 hx1_1 (dt t_M_doing 47 rfl) hf (fun hf => SW_bm hf (fun s2 ok2 hf => ?_))
    refine SW_aload_n h rfl (dt t_M_doing 48 rfl) ?_
    refine gR h cf11 o200 f11_34 j200_34 lX11_72 (dt t_M_doing 49 rfl) ?_
    refine SW_aload_n h rfl (dt t_M_doing 50 rfl) ?_
    refine gI h cf11 o200 f11_29 lX11_332 (dt t_M_doing 51 rfl) ?_
    refine SW_iload_n h rfl (dt t_M_doing 52 rfl) ?_
    refine sI h a219 hx2_1 (dt t_M_doing 53 rfl) hf (fun hf => SW_bm hf (fun s3 ok3 hf => ?_))
    exact SW_vret h (hret _ hf) rfl (dt t_M_doing 54 rfl)
  refine SW_ite hf (fun h4 hf => ?_) (fun h4 hf => ?_)
  · refine SW_tabIn (tgt := 36) h 0 (fun _ => (okI ok 200 30 (IsO.n3 o200))) (dt t_M_doing 6 rfl) (h4.trans rfl) (by decide) rfl rfl ?_
    refine SW_aload_n h rfl (dt t_M_doing 7 rfl) ?_
    refine SW_iconst h (dt t_M_doing 8 rfl) ?_
    refine SW_bipush h (dt t_M_doing 9 rfl) (by decide) ?_
    obtain ⟨v5, s5, e5, hf⟩ := b1M_of hf
    refine cV h [.int (i32 0), .int (i32 11)] [] v_X11_number kX11_335 o200 (c_M_number 0 (by decide) 11 (by decide) e5) rfl rfl (by decide) (by decide) rfl (Nat.le_of_ble_eq_true rfl) (dt t_M_doing 10 rfl) (fun h5 => ?_)
    refine SW_ok (fun ok5 => ?_)
    refine SW_istore_n (lv2 := [some (.ref (xad X 200)), some (.int (i32 v5)), some (.int (i32 ((-1))))]) h (dt t_M_doing 11 rfl) (by decide) rfl ?_
    refine SW_goto (tgt := 97) h (dt t_M_doing 12 rfl) rfl ?_
    exact SW_fgt [true, true, true] rfl (k1 v5 ((-1)) s5 h5 (by decide) ok5 hf)
  · refine SW_ite hf (fun h6 hf => ?_) (fun h6 hf => ?_)
    · refine SW_tabIn (tgt := 47) h 1 (fun _ => (okI ok 200 30 (IsO.n3 o200))) (dt t_M_doing 6 rfl) (h6.trans rfl) (by decide) rfl rfl ?_
      refine SW_aload_n h rfl (dt t_M_doing 13 rfl) ?_
      refine SW_iconst h (dt t_M_doing 14 rfl) ?_
      refine SW_bipush h (dt t_M_doing 15 rfl) (by decide) ?_
      obtain ⟨v7, s7, e7, hf⟩ := b1M_of hf
      refine cV h [.int (i32 0), .int (i32 9)] [] v_X11_number kX11_335 o200 (c_M_number 0 (by decide) 9 (by decide) e7) rfl rfl (by decide) (by decide) rfl (Nat.le_of_ble_eq_true rfl) (dt t_M_doing 16 rfl) (fun h7 => ?_)
      refine SW_ok (fun ok7 => ?_)
      refine SW_istore_n (lv2 := [some (.ref (xad X 200)), some (.int (i32 v7)), some (.int (i32 ((-1))))]) h (dt t_M_doing 17 rfl) (by decide) rfl ?_
      refine SW_aload_n h rfl (dt t_M_doing 18 rfl) ?_
      refine SW_bipush h (dt t_M_doing 19 rfl) (by decide) ?_
      refine SW_iconst h (dt t_M_doing 20 rfl) ?_
      refine SW_bipush h (dt t_M_doing 21 rfl) (by decide) ?_
      obtain ⟨v8, s8, e8, hf⟩ := b1M_of hf
      refine cV h [.int (i32 8), .int (i32 0), .int (i32 9)] [] v_X11_numberBehind kX11_339 o200 (c_M_numberBehind 8 (by decide) 0 (by decide) 9 (by decide) e8) rfl rfl (by decide) (by decide) rfl (Nat.le_of_ble_eq_true rfl) (dt t_M_doing 22 rfl) (fun h8 => ?_)
      refine SW_ok (fun ok8 => ?_)
      refine SW_istore_n (lv2 := [some (.ref (xad X 200)), some (.int (i32 v7)), some (.int (i32 v8))]) h (dt t_M_doing 23 rfl) (by decide) rfl ?_
      refine SW_goto (tgt := 97) h (dt t_M_doing 24 rfl) rfl ?_
      exact SW_fgt [true, true, true] rfl (k1 v7 v8 s8 h7 h8 ok8 hf)
    · refine SW_ite hf (fun h9 hf => ?_) (fun h9 hf => ?_)
      · refine SW_tabIn (tgt := 68) h 2 (fun _ => (okI ok 200 30 (IsO.n3 o200))) (dt t_M_doing 6 rfl) (h9.trans rfl) (by decide) rfl rfl ?_
        refine SW_aload_n h rfl (dt t_M_doing 25 rfl) ?_
        refine SW_iconst h (dt t_M_doing 26 rfl) ?_
        refine SW_bipush h (dt t_M_doing 27 rfl) (by decide) ?_
        obtain ⟨v10, s10, e10, hf⟩ := b1M_of hf
        refine cV h [.int (i32 0), .int (i32 9)] [] v_X11_number kX11_335 o200 (c_M_number 0 (by decide) 9 (by decide) e10) rfl rfl (by decide) (by decide) rfl (Nat.le_of_ble_eq_true rfl) (dt t_M_doing 28 rfl) (fun h10 => ?_)
        refine SW_ok (fun ok10 => ?_)
        refine SW_istore_n (lv2 := [some (.ref (xad X 200)), some (.int (i32 v10)), some (.int (i32 ((-1))))]) h (dt t_M_doing 29 rfl) (by decide) rfl ?_
        refine SW_aload_n h rfl (dt t_M_doing 30 rfl) ?_
        refine SW_bipush h (dt t_M_doing 31 rfl) (by decide) ?_
        refine SW_iconst h (dt t_M_doing 32 rfl) ?_
        refine SW_bipush h (dt t_M_doing 33 rfl) (by decide) ?_
        obtain ⟨v11, s11, e11, hf⟩ := b1M_of hf
        refine cV h [.int (i32 9), .int (i32 0), .int (i32 9)] [] v_X11_numberBehind kX11_339 o200 (c_M_numberBehind 9 (by decide) 0 (by decide) 9 (by decide) e11) rfl rfl (by decide) (by decide) rfl (Nat.le_of_ble_eq_true rfl) (dt t_M_doing 34 rfl) (fun h11 => ?_)
        refine SW_ok (fun ok11 => ?_)
        refine SW_istore_n (lv2 := [some (.ref (xad X 200)), some (.int (i32 v10)), some (.int (i32 v11))]) h (dt t_M_doing 35 rfl) (by decide) rfl ?_
        refine SW_goto (tgt := 97) h (dt t_M_doing 36 rfl) rfl ?_
        exact SW_fgt [true, true, true] rfl (k1 v10 v11 s11 h10 h11 ok11 hf)
      · refine SW_tabOut (tgt := 89) h (fun _ => (okI ok 200 30 (IsO.n3 o200))) (dt t_M_doing 6 rfl) (by omega) rfl ?_
        refine SW_aload_n h rfl (dt t_M_doing 37 rfl) ?_
        refine SW_iconst h (dt t_M_doing 38 rfl) ?_
        refine SW_bipush h (dt t_M_doing 39 rfl) (by decide) ?_
        obtain ⟨v12, s12, e12, hf⟩ := b1M_of hf
        refine cV h [.int (i32 1), .int (i32 60)] [] v_X11_number kX11_335 o200 (c_M_number 1 (by decide) 60 (by decide) e12) rfl rfl (by decide) (by decide) rfl (Nat.le_of_ble_eq_true rfl) (dt t_M_doing 40 rfl) (fun h12 => ?_)
        refine SW_ok (fun ok12 => ?_)
        refine SW_istore_n (lv2 := [some (.ref (xad X 200)), some (.int (i32 v12)), some (.int (i32 ((-1))))]) h (dt t_M_doing 41 rfl) (by decide) rfl ?_
        exact SW_fgt [true, true, true] rfl (k1 v12 ((-1)) s12 h12 (by decide) ok12 hf)
