def b_M_row : List (Nat × Instr × Nat) := [(0, .aload_n 0, 1), (1, .getfield 103, 3), (4, .iconst 0, 1), (5, .iload_n 1, 1), (6, .iastore, 1), (7, .aload_n 0, 1), (8, .getfield 103, 3), (11, .iconst 1, 1), (12, .iload_n 2, 1), (13, .iastore, 1), (14, .aload_n 0, 1), (15, .getfield 103, 3), (18, .iconst 2, 1), (19, .iload_n 3, 1), (20, .iastore, 1), (21, .aload_n 0, 1), (22, .getfield 103, 3), (25, .iconst 3, 1), (26, .iload 4, 2), (28, .iastore, 1), (29, .aload_n 0, 1), (30, .iconst 0, 1), (31, .putfield 154, 3), (34, .aload_n 0, 1), (35, .getfield 154, 3), (38, .iconst 4, 1), (39, .if_icmp .ge 29, 3), (42, .aload_n 0, 1), (43, .getfield 103, 3), (46, .aload_n 0, 1), (47, .getfield 154, 3), (50, .iaload, 1), (51, .iconst (-1), 1), (52, .if_icmp .eq 16, 3), (55, .aload_n 0, 1), (56, .dup, 1), (57, .getfield 154, 3), (60, .iconst 1, 1), (61, .iadd, 1), (62, .putfield 154, 3), (65, .goto (-31), 3), (68, .iconst 0, 1), (69, .istore 6, 2), (71, .iload 6, 2), (73, .iconst 4, 1), (74, .if_icmp .ge 51, 3), (77, .iload 6, 2), (79, .aload_n 0, 1), (80, .getfield 154, 3), (83, .if_icmp .ge 23, 3), (86, .aload_n 0, 1), (87, .getfield 103, 3), (90, .iload 6, 2), (92, .iaload, 1), (93, .iconst 0, 1), (94, .sipush 9999, 3), (97, .invokestatic 150, 3), (100, .ifCond .ne 19, 3), (103, .goto 14, 3), (106, .aload_n 0, 1), (107, .getfield 103, 3), (110, .iload 6, 2), (112, .iaload, 1), (113, .iconst (-1), 1), (114, .if_icmp .eq 5, 3), (117, .iconst (-1), 1), (118, .ireturn, 1), (119, .iinc 6 1, 3), (122, .goto (-51), 3), (125, .aload_n 0, 1), (126, .getfield 154, 3), (129, .ifCond .eq 20, 3), (132, .iload 5, 2), (134, .iconst 0, 1), (135, .iconst 1, 1), (136, .aload_n 0, 1), (137, .getfield 154, 3), (140, .ishl, 1), (141, .iconst 1, 1), (142, .isub, 1), (143, .invokestatic 150, 3), (146, .ifCond .ne 5, 3), (149, .iconst (-1), 1), (150, .ireturn, 1), (151, .aload_n 0, 1), (152, .iload 5, 2), (154, .putfield 157, 3), (157, .aload_n 0, 1), (158, .invokevirtual 160, 3), (161, .ireturn, 1)]
theorem t_M_row : DT cX11_row b_M_row := DT.of (by decide +kernel)
def L_M_row_34 : Nat → Mm → Option (Mm)
  | 0, _ => none
  | n + 1, σ =>
    if 4 ≤ σ 200 48 then
      some σ
    else
      if 0 ≤ σ 200 48 ∧ σ 200 48 < 4 then
        if σ 229 ((σ 200 48).toNat) = (-1) then
          some σ
        else
          if r32 ((σ 200 48) + 1) then
            bindM (st2 σ 200 48 ((σ 200 48) + 1)) fun s9 =>
            L_M_row_34 n s9
          else none
      else none
set_option maxRecDepth 100000 in
set_option maxHeartbeats 4000000 in
theorem l_M_row_34 {X : Cx} (h : CX X 1 cX11_row 7 1 (some .int) RX11) (x5 : Int) (hx5 : r32 x5) {res : Mm} (hex : ∀  (σ : Mm) (hz : some σ = some res)  (ok : okM σ), SW X 1 7 68 [some (.ref (xad X 200)), none, none, none, none, some (.int (i32 x5)), none] [] σ) : ∀ (n : Nat)  (σ : Mm)  (ok : okM σ) (hf : L_M_row_34 n σ = some res), SW X 1 7 34 [some (.ref (xad X 200)), none, none, none, none, some (.int (i32 x5)), none] [] σ := by
  intro n
  induction n with
  | zero => intro σ ok hf; exact absurd hf (by simp [L_M_row_34])
  | succ n ih =>
    intro σ ok hf
    rw [L_M_row_34] at hf
    refine SW_aload_n h rfl (dt t_M_row 23 rfl) ?_
    refine gI h cf11 o200 f11_48 lX11_154 (dt t_M_row 24 rfl) ?_
    refine SW_iconst h (dt t_M_row 25 rfl) ?_
    refine SW_icmp_ge (tgt := 68) h (fun _ => (okI ok 200 48 (IsO.n3 o200))) (fun _ => (by decide)) (dt t_M_row 26 rfl) rfl hf (fun hf => ?_) (fun hf => ?_)
    · exact SW_fgt [true, false, false, false, false, true, false] rfl (hex σ hf ok)
    · refine SW_aload_n h rfl (dt t_M_row 27 rfl) ?_
      refine gR h cf11 o200 f11_47 j200_47 lX11_103 (dt t_M_row 28 rfl) ?_
      refine SW_aload_n h rfl (dt t_M_row 29 rfl) ?_
      refine gI h cf11 o200 f11_48 lX11_154 (dt t_M_row 30 rfl) ?_
      refine aI h a229 (dt t_M_row 31 rfl) hf (fun hf => ?_)
      refine SW_iconst h (dt t_M_row 32 rfl) ?_
      refine SW_icmp_eq (tgt := 68) h (fun _ => (okI ok 229 ((σ 200 48).toNat) (IsA.n3 a229 (by decide)))) (fun _ => (by decide)) (dt t_M_row 33 rfl) rfl hf (fun hf => ?_) (fun hf => ?_)
      · exact SW_fgt [true, false, false, false, false, true, false] rfl (hex σ hf ok)
      · refine SW_aload_n h rfl (dt t_M_row 34 rfl) ?_
        refine SW_dup h rfl (dt t_M_row 35 rfl) ?_
        refine gI h cf11 o200 f11_48 lX11_154 (dt t_M_row 36 rfl) ?_
        refine SW_iconst h (dt t_M_row 37 rfl) ?_
        refine SW_iadd h (dt t_M_row 38 rfl) ?_
        refine SW_chk hf (fun h8 hf => ?_)
        refine pI h cf11 o200 f11_48 h8 lX11_154 (dt t_M_row 39 rfl) (SW_bm hf (fun s9 ok9 hf => ?_))
        refine SW_goto (tgt := 34) h (dt t_M_row 40 rfl) rfl ?_
        exact SW_fgt [true, false, false, false, false, true, false] rfl (ih s9 ok9 hf)
def L_M_row_71 : Nat → Int → Mm → Option ((Int × Mm) ⊕ (Unit))
  | 0, _, _ => none
  | n + 1, x6, σ =>
    if 4 ≤ x6 then
      some (.inr (()))
    else
      bindM (
        if r32 (x6 + 1) then
          L_M_row_71 n (x6 + 1) σ
        else none) fun J11 =>
      if σ 200 48 ≤ x6 then
        if 0 ≤ x6 ∧ x6 < 4 then
          if σ 229 x6.toNat = (-1) then
            J11
          else
            some (.inl ((-1), σ))
        else none
      else
        if 0 ≤ x6 ∧ x6 < 4 then
          b1 (F_M_in (σ 229 x6.toNat) 0 9999) fun v13 =>
          if v13 = 0 then
            some (.inl ((-1), σ))
          else
            J11
        else none
set_option maxRecDepth 100000 in
set_option maxHeartbeats 4000000 in
theorem l_M_row_71 {X : Cx} (h : CX X 1 cX11_row 7 1 (some .int) RX11) (x5 : Int) (σ : Mm) (hx5 : r32 x5) (ok : okM σ) {res : (Int × Mm) ⊕ (Unit)} (hret : ∀ y : Int × Mm, some (.inl y) = some res → RX X 1 (r32 (y.1)) (some (.int (i32 (y.1)))) y.2) (hex : ∀ (hz : some (.inr (())) = some res), SW X 1 7 125 [some (.ref (xad X 200)), none, none, none, none, some (.int (i32 x5)), none] [] σ) : ∀ (n : Nat) (x6 : Int) (hx6 : r32 x6) (hf : L_M_row_71 n x6 σ = some res), SW X 1 7 71 [some (.ref (xad X 200)), none, none, none, none, some (.int (i32 x5)), some (.int (i32 x6))] [] σ := by
  intro n
  induction n with
  | zero => intro x6 hx6 hf; exact absurd hf (by simp [L_M_row_71])
  | succ n ih =>
    intro x6 hx6 hf
    rw [L_M_row_71] at hf
    refine SW_iload h rfl (dt t_M_row 43 rfl) ?_
    refine SW_iconst h (dt t_M_row 44 rfl) ?_
    refine SW_icmp_ge (tgt := 125) h (fun _ => hx6) (fun _ => (by decide)) (dt t_M_row 45 rfl) rfl hf (fun hf => ?_) (fun hf => ?_)
    · exact SW_fgt [true, false, false, false, false, true, false] rfl (hex hf)
    · refine SW_iload h rfl (dt t_M_row 46 rfl) ?_
      refine SW_aload_n h rfl (dt t_M_row 47 rfl) ?_
      refine gI h cf11 o200 f11_48 lX11_154 (dt t_M_row 48 rfl) ?_
      refine bJ hf (fun J11 e11 hf => ?_)
      have k11 : ∀ (hf : J11 = some res), SW X 1 7 119 [some (.ref (xad X 200)), none, none, none, none, some (.int (i32 x5)), some (.int (i32 x6))] [] σ := by
        intro hf
        rw [e11] at hf
        refine SW_iinc (lv2 := [some (.ref (xad X 200)), none, none, none, none, some (.int (i32 x5)), some (.int (i32 (x6 + 1)))]) h (dt t_M_row 67 rfl) rfl (by decide) rfl ?_
        refine SW_goto (tgt := 71) h (dt t_M_row 68 rfl) rfl ?_
        refine SW_chk hf (fun h12 hf => ?_)
        exact SW_fgt [true, false, false, false, false, true, true] rfl (ih (x6 + 1) h12 hf)
      refine SW_icmp_ge (tgt := 106) h (fun _ => hx6) (fun _ => (okI ok 200 48 (IsO.n3 o200))) (dt t_M_row 49 rfl) rfl hf (fun hf => ?_) (fun hf => ?_)
      · refine SW_aload_n h rfl (dt t_M_row 59 rfl) ?_
        refine gR h cf11 o200 f11_47 j200_47 lX11_103 (dt t_M_row 60 rfl) ?_
        refine SW_iload h rfl (dt t_M_row 61 rfl) ?_
        refine aI h a229 (dt t_M_row 62 rfl) hf (fun hf => ?_)
        refine SW_iconst h (dt t_M_row 63 rfl) ?_
        refine SW_icmp_eq (tgt := 119) h (fun _ => (okI ok 229 x6.toNat (IsA.n3 a229 (by decide)))) (fun _ => (by decide)) (dt t_M_row 64 rfl) rfl hf (fun hf => ?_) (fun hf => ?_)
        · exact SW_fgt [true, false, false, false, false, true, true] rfl (k11 hf)
        · refine SW_iconst h (dt t_M_row 65 rfl) ?_
          exact SW_iret h (hret _ hf) (fun _ => (by decide)) rfl (dt t_M_row 66 rfl)
      · refine SW_aload_n h rfl (dt t_M_row 50 rfl) ?_
        refine gR h cf11 o200 f11_47 j200_47 lX11_103 (dt t_M_row 51 rfl) ?_
        refine SW_iload h rfl (dt t_M_row 52 rfl) ?_
        refine aI h a229 (dt t_M_row 53 rfl) hf (fun hf => ?_)
        refine SW_iconst h (dt t_M_row 54 rfl) ?_
        refine SW_sipush h (dt t_M_row 55 rfl) (by decide) ?_
        obtain ⟨v13, e13, hf⟩ := b1_of hf
        refine cS h [.int (i32 (σ 229 x6.toNat)), .int (i32 0), .int (i32 9999)] [] v_X11_in kX11_150 (c_M_in (σ 229 x6.toNat) (okI ok 229 x6.toNat (IsA.n3 a229 (by decide))) 0 (by decide) 9999 (by decide) e13) rfl rfl (by decide) (by decide) rfl (Nat.le_of_ble_eq_true rfl) (dt t_M_row 56 rfl) (fun h13 => ?_)
        refine SW_if_ne (tgt := 119) h (fun _ => (r_zo h13)) (dt t_M_row 57 rfl) rfl hf (fun hf => ?_) (fun hf => ?_)
        · refine SW_goto (tgt := 117) h (dt t_M_row 58 rfl) rfl ?_
          refine SW_iconst h (dt t_M_row 65 rfl) ?_
          exact SW_iret h (hret _ hf) (fun _ => (by decide)) rfl (dt t_M_row 66 rfl)
        · exact SW_fgt [true, false, false, false, false, true, true] rfl (k11 hf)
def F_M_row (x1 : Int) (x2 : Int) (x3 : Int) (x4 : Int) (x5 : Int) (σ : Mm) : Option (Int × Mm) :=
  bindM (st2 σ 229 0 x1) fun s1 =>
  bindM (st2 s1 229 1 x2) fun s2 =>
  bindM (st2 s2 229 2 x3) fun s3 =>
  bindM (st2 s3 229 3 x4) fun s4 =>
  bindM (st2 s4 200 48 0) fun s6 =>
  b0M (L_M_row_34 LF s6) fun s10 =>
  b0S (L_M_row_71 LF 0 s10) (fun y => some y) <|
  if s10 200 48 = 0 then
    some ((-1), s10)
  else
    if r32 ((ishl 1 (s10 200 48)) - 1) then
      b1 (F_M_in x5 0 ((ishl 1 (s10 200 48)) - 1)) fun v15 =>
      if v15 = 0 then
        some ((-1), s10)
      else
        bindM (st2 s10 200 49 x5) fun s18 =>
        b1M (F_M_addsRow  s18) fun v19 s19 =>
        some (v19, s19)
    else none
set_option maxRecDepth 100000 in
set_option maxHeartbeats 4000000 in
theorem c_M_row (x1 : Int) (hx1 : r32 x1) (x2 : Int) (hx2 : r32 x2) (x3 : Int) (hx3 : r32 x3) (x4 : Int) (hx4 : r32 x4) (x5 : Int) (hx5 : r32 x5) {σ : Mm} {a : Int} {σ2 : Mm} (hf : F_M_row x1 x2 x3 x4 x5 σ = some (a, σ2)) : CT yX11_row cX11_row 7 (some .int) 1 1 (fun ad => [.ref (ad 200), .int (i32 x1), .int (i32 x2), .int (i32 x3), .int (i32 x4), .int (i32 x5)]) σ (r32 a) (some (.int (i32 a))) σ2 := by
  refine MetJ 1 (by decide +kernel) rfl (fun _ => Nat.le_of_ble_eq_true rfl) ?_
  intro X h hR ok
  obtain ⟨res, er⟩ : ∃ z, z = (a, σ2) := ⟨_, rfl⟩
  have hret : ∀ y : Int × Mm, some y = some res → RX X 1 (r32 (y.1)) (some (.int (i32 (y.1)))) y.2 := fun y e => by cases e; cases er; exact hR
  rw [← er] at hf
  clear er hR
  unfold F_M_row at hf
  show SW X 1 7 0 [some (.ref (xad X 200)), some (.int (i32 x1)), some (.int (i32 x2)), some (.int (i32 x3)), some (.int (i32 x4)), some (.int (i32 x5)), none] [] σ
  refine SW_aload_n h rfl (dt t_M_row 0 rfl) ?_
  refine gR h cf11 o200 f11_47 j200_47 lX11_103 (dt t_M_row 1 rfl) ?_
  refine SW_iconst h (dt t_M_row 2 rfl) ?_
  refine SW_iload_n h rfl (dt t_M_row 3 rfl) ?_
  refine sIk h a229 (by decide) hx1 (dt t_M_row 4 rfl) (SW_bm hf (fun s1 ok1 hf => ?_))
  refine SW_aload_n h rfl (dt t_M_row 5 rfl) ?_
  refine gR h cf11 o200 f11_47 j200_47 lX11_103 (dt t_M_row 6 rfl) ?_
  refine SW_iconst h (dt t_M_row 7 rfl) ?_
  refine SW_iload_n h rfl (dt t_M_row 8 rfl) ?_
  refine sIk h a229 (by decide) hx2 (dt t_M_row 9 rfl) (SW_bm hf (fun s2 ok2 hf => ?_))
  refine SW_aload_n h rfl (dt t_M_row 10 rfl) ?_
  refine gR h cf11 o200 f11_47 j200_47 lX11_103 (dt t_M_row 11 rfl) ?_
  refine SW_iconst h (dt t_M_row 12 rfl) ?_
  refine SW_iload_n h rfl (dt t_M_row 13 rfl) ?_
  refine sIk h a229 (by decide) hx3 (dt t_M_row 14 rfl) (SW_bm hf (fun s3 ok3 hf => ?_))
  refine SW_aload_n h rfl (dt t_M_row 15 rfl) ?_
  refine gR h cf11 o200 f11_47 j200_47 lX11_103 (dt t_M_row 16 rfl) ?_
  refine SW_iconst h (dt t_M_row 17 rfl) ?_
  refine SW_iload h rfl (dt t_M_row 18 rfl) ?_
  refine sIk h a229 (by decide) hx4 (dt t_M_row 19 rfl) (SW_bm hf (fun s4 ok4 hf => ?_))
  refine SW_aload_n h rfl (dt t_M_row 20 rfl) ?_
  refine SW_iconst h (dt t_M_row 21 rfl) ?_
  refine pI h cf11 o200 f11_48 (by decide) lX11_154 (dt t_M_row 22 rfl) (SW_bm hf (fun s6 ok6 hf => ?_))
  obtain ⟨z10, e10, hk10⟩ := b0M_ex hf
  refine SW_fgt [true, false, false, false, false, true, false] rfl (l_M_row_34 h x5 hx5 (fun s10 hz10 ok10 => ?_) LF s6 ok6 e10)
  have hf := hk10 s10 hz10
  refine SW_iconst h (dt t_M_row 41 rfl) ?_
  refine SW_istore (lv2 := [some (.ref (xad X 200)), none, none, none, none, some (.int (i32 x5)), some (.int (i32 0))]) h (dt t_M_row 42 rfl) (by decide) rfl ?_
  obtain ⟨z14, e14, g14, hk14⟩ := b0S_of hf
  refine SW_fgt [true, false, false, false, false, true, true] rfl (l_M_row_71 h x5 s10 hx5 ok10 (fun y e => hret y (g14 y (Option.some.inj e).symm)) (fun hz14 => ?_) LF 0 (by decide) e14)
  have hf := hk14 (Option.some.inj hz14).symm
  refine SW_aload_n h rfl (dt t_M_row 69 rfl) ?_
  refine gI h cf11 o200 f11_48 lX11_154 (dt t_M_row 70 rfl) ?_
  refine SW_if_eq (tgt := 149) h (fun _ => (okI ok10 200 48 (IsO.n3 o200))) (dt t_M_row 71 rfl) rfl hf (fun hf => ?_) (fun hf => ?_)
  · refine SW_iconst h (dt t_M_row 82 rfl) ?_
    exact SW_iret h (hret _ hf) (fun _ => (by decide)) rfl (dt t_M_row 83 rfl)
  · refine SW_iload h rfl (dt t_M_row 72 rfl) ?_
    refine SW_iconst h (dt t_M_row 73 rfl) ?_
    refine SW_iconst h (dt t_M_row 74 rfl) ?_
    refine SW_aload_n h rfl (dt t_M_row 75 rfl) ?_
    refine gI h cf11 o200 f11_48 lX11_154 (dt t_M_row 76 rfl) ?_
    refine SW_ishl h (dt t_M_row 77 rfl) ?_
    refine SW_iconst h (dt t_M_row 78 rfl) ?_
    refine SW_isub h (dt t_M_row 79 rfl) ?_
    refine SW_chk hf (fun h16 hf => ?_)
    obtain ⟨v15, e15, hf⟩ := b1_of hf
    refine cS h [.int (i32 x5), .int (i32 0), .int (i32 ((ishl 1 (s10 200 48)) - 1))] [] v_X11_in kX11_150 (c_M_in x5 hx5 0 (by decide) ((ishl 1 (s10 200 48)) - 1) h16 e15) rfl rfl (by decide) (by decide) rfl (Nat.le_of_ble_eq_true rfl) (dt t_M_row 80 rfl) (fun h15 => ?_)
    refine SW_if_ne (tgt := 151) h (fun _ => (r_zo h15)) (dt t_M_row 81 rfl) rfl hf (fun hf => ?_) (fun hf => ?_)
    · refine SW_iconst h (dt t_M_row 82 rfl) ?_
      exact SW_iret h (hret _ hf) (fun _ => (by decide)) rfl (dt t_M_row 83 rfl)
    · refine SW_aload_n h rfl (dt t_M_row 84 rfl) ?_
      refine SW_iload h rfl (dt t_M_row 85 rfl) ?_
      refine pI h cf11 o200 f11_49 hx5 lX11_157 (dt t_M_row 86 rfl) (SW_bm hf (fun s18 ok18 hf => ?_))
      refine SW_aload_n h rfl (dt t_M_row 87 rfl) ?_
      obtain ⟨v19, s19, e19, hf⟩ := b1M_of hf
      refine cV h [] [] v_X11_addsRow kX11_160 o200 (c_M_addsRow  e19) rfl rfl (by decide) (by decide) rfl (Nat.le_of_ble_eq_true rfl) (dt t_M_row 88 rfl) (fun h19 => ?_)
      refine SW_ok (fun ok19 => ?_)
      exact SW_iret h (hret _ hf) (fun _ => h19) rfl (dt t_M_row 89 rfl)
def b_M_seen : List (Nat × Instr × Nat) := [(0, .iload_n 1, 1), (1, .iconst (-1), 1), (2, .if_icmp .ne 12, 3), (5, .aload_n 0, 1), (6, .getfield 7, 3), (9, .iconst 4, 1), (10, .iconst 0, 1), (11, .iastore, 1), (12, .iconst 0, 1), (13, .ireturn, 1), (14, .aload_n 0, 1), (15, .iload_n 1, 1), (16, .invokevirtual 439, 3), (19, .ifCond .eq 26, 3), (22, .iload_n 2, 1), (23, .ldc_w 526, 3), (26, .ldc 250, 2), (28, .invokestatic 150, 3), (31, .ifCond .eq 14, 3), (34, .aload_n 0, 1), (35, .getfield 7, 3), (38, .iconst 4, 1), (39, .iaload, 1), (40, .bipush 6, 2), (42, .if_icmp .ne 6, 3), (45, .bipush (-2), 2), (47, .ireturn, 1), (48, .aload_n 0, 1), (49, .getfield 7, 3), (52, .bipush 82, 2), (54, .iconst 2, 1), (55, .aload_n 0, 1), (56, .getfield 7, 3), (59, .iconst 4, 1), (60, .iaload, 1), (61, .imul, 1), (62, .iadd, 1), (63, .iload_n 1, 1), (64, .iastore, 1), (65, .aload_n 0, 1), (66, .getfield 7, 3), (69, .bipush 82, 2), (71, .iconst 2, 1), (72, .aload_n 0, 1), (73, .getfield 7, 3), (76, .iconst 4, 1), (77, .iaload, 1), (78, .imul, 1), (79, .iadd, 1), (80, .iconst 1, 1), (81, .iadd, 1), (82, .iload_n 2, 1), (83, .iastore, 1), (84, .aload_n 0, 1), (85, .getfield 7, 3), (88, .iconst 4, 1), (89, .dup2, 1), (90, .iaload, 1), (91, .iconst 1, 1), (92, .iadd, 1), (93, .iastore, 1), (94, .aload_n 0, 1), (95, .getfield 7, 3), (98, .iconst 4, 1), (99, .iaload, 1), (100, .ireturn, 1)]
theorem t_M_seen : DT cX11_seen b_M_seen := DT.of (by decide +kernel)
def F_M_seen (x1 : Int) (x2 : Int) (σ : Mm) : Option (Int × Mm) :=
  if x1 = (-1) then
    bindM (st2 σ 201 4 0) fun s1 =>
    some (0, s1)
  else
    b1 (F_M_isRow x1 σ) fun v2 =>
    if v2 = 0 then
      some ((-2), σ)
    else
      b1 (F_M_in x2 ((-99999)) 99999) fun v3 =>
      if v3 = 0 then
        some ((-2), σ)
      else
        if σ 201 4 = 6 then
          some ((-2), σ)
        else
          if 0 ≤ 82 + (2 * (σ 201 4)) ∧ 82 + (2 * (σ 201 4)) < 5240 then
            bindM (st2 σ 201 ((82 + (2 * (σ 201 4))).toNat) x1) fun s4 =>
            if 0 ≤ (82 + (2 * (s4 201 4))) + 1 ∧ (82 + (2 * (s4 201 4))) + 1 < 5240 then
              bindM (st2 s4 201 (((82 + (2 * (s4 201 4))) + 1).toNat) x2) fun s5 =>
              if r32 ((s5 201 4) + 1) then
                bindM (st2 s5 201 4 ((s5 201 4) + 1)) fun s7 =>
                some (s7 201 4, s7)
              else none
            else none
          else none
set_option maxRecDepth 100000 in
set_option maxHeartbeats 4000000 in
theorem c_M_seen (x1 : Int) (hx1 : r32 x1) (x2 : Int) (hx2 : r32 x2) {σ : Mm} {a : Int} {σ2 : Mm} (hf : F_M_seen x1 x2 σ = some (a, σ2)) : CT yX11_seen cX11_seen 3 (some .int) 2 1 (fun ad => [.ref (ad 200), .int (i32 x1), .int (i32 x2)]) σ (r32 a) (some (.int (i32 a))) σ2 := by
  refine MetJ 0 (by decide +kernel) rfl (fun _ => Nat.le_of_ble_eq_true rfl) ?_
  intro X h hR ok
  obtain ⟨res, er⟩ : ∃ z, z = (a, σ2) := ⟨_, rfl⟩
  have hret : ∀ y : Int × Mm, some y = some res → RX X 1 (r32 (y.1)) (some (.int (i32 (y.1)))) y.2 := fun y e => by cases e; cases er; exact hR
  rw [← er] at hf
  clear er hR
  unfold F_M_seen at hf
  show SW X 1 3 0 [some (.ref (xad X 200)), some (.int (i32 x1)), some (.int (i32 x2))] [] σ
  refine SW_iload_n h rfl (dt t_M_seen 0 rfl) ?_
  refine SW_iconst h (dt t_M_seen 1 rfl) ?_
  refine SW_icmp_ne (tgt := 14) h (fun _ => hx1) (fun _ => (by decide)) (dt t_M_seen 2 rfl) rfl hf (fun hf => ?_) (fun hf => ?_)
  · refine SW_aload_n h rfl (dt t_M_seen 3 rfl) ?_
    refine gR h cf11 o200 f11_0 j200_0 lX11_7 (dt t_M_seen 4 rfl) ?_
    refine SW_iconst h (dt t_M_seen 5 rfl) ?_
    refine SW_iconst h (dt t_M_seen 6 rfl) ?_
    refine sIk h a201 (by decide) (by decide) (dt t_M_seen 7 rfl) (SW_bm hf (fun s1 ok1 hf => ?_))
    refine SW_iconst h (dt t_M_seen 8 rfl) ?_
    exact SW_iret h (hret _ hf) (fun _ => (by decide)) rfl (dt t_M_seen 9 rfl)
  · refine SW_aload_n h rfl (dt t_M_seen 10 rfl) ?_
    refine SW_iload_n h rfl (dt t_M_seen 11 rfl) ?_
    obtain ⟨v2, e2, hf⟩ := b1_of hf
    refine cV h [.int (i32 x1)] [] v_X11_isRow kX11_439 o200 (c_M_isRow x1 hx1 e2) rfl rfl (by decide) (by decide) rfl (Nat.le_of_ble_eq_true rfl) (dt t_M_seen 12 rfl) (fun h2 => ?_)
    refine SW_if_eq (tgt := 45) h (fun _ => (r_zo h2)) (dt t_M_seen 13 rfl) rfl hf (fun hf => ?_) (fun hf => ?_)
    · refine SW_bipush h (dt t_M_seen 25 rfl) (by decide) ?_
      exact SW_iret h (hret _ hf) (fun _ => (by decide)) rfl (dt t_M_seen 26 rfl)
    · refine SW_iload_n h rfl (dt t_M_seen 14 rfl) ?_
      refine SW_ldcw (n := -99999) h nX11_526 (by decide) (dt t_M_seen 15 rfl) ?_
      refine SW_ldc (n := 99999) h nX11_250 (by decide) (dt t_M_seen 16 rfl) ?_
      obtain ⟨v3, e3, hf⟩ := b1_of hf
      refine cS h [.int (i32 x2), .int (i32 ((-99999))), .int (i32 99999)] [] v_X11_in kX11_150 (c_M_in x2 hx2 ((-99999)) (by decide) 99999 (by decide) e3) rfl rfl (by decide) (by decide) rfl (Nat.le_of_ble_eq_true rfl) (dt t_M_seen 17 rfl) (fun h3 => ?_)
      refine SW_if_eq (tgt := 45) h (fun _ => (r_zo h3)) (dt t_M_seen 18 rfl) rfl hf (fun hf => ?_) (fun hf => ?_)
      · refine SW_bipush h (dt t_M_seen 25 rfl) (by decide) ?_
        exact SW_iret h (hret _ hf) (fun _ => (by decide)) rfl (dt t_M_seen 26 rfl)
      · refine SW_aload_n h rfl (dt t_M_seen 19 rfl) ?_
        refine gR h cf11 o200 f11_0 j200_0 lX11_7 (dt t_M_seen 20 rfl) ?_
        refine SW_iconst h (dt t_M_seen 21 rfl) ?_
        refine aIk h a201 (by decide) (dt t_M_seen 22 rfl) ?_
        refine SW_bipush h (dt t_M_seen 23 rfl) (by decide) ?_
        refine SW_icmp_ne (tgt := 48) h (fun _ => (okI ok 201 4 (IsA.n3 a201 (by decide)))) (fun _ => (by decide)) (dt t_M_seen 24 rfl) rfl hf (fun hf => ?_) (fun hf => ?_)
        · refine SW_bipush h (dt t_M_seen 25 rfl) (by decide) ?_
          exact SW_iret h (hret _ hf) (fun _ => (by decide)) rfl (dt t_M_seen 26 rfl)
        · refine SW_aload_n h rfl (dt t_M_seen 27 rfl) ?_
          refine gR h cf11 o200 f11_0 j200_0 lX11_7 (dt t_M_seen 28 rfl) ?_
          refine SW_bipush h (dt t_M_seen 29 rfl) (by decide) ?_
          refine SW_iconst h (dt t_M_seen 30 rfl) ?_
          refine SW_aload_n h rfl (dt t_M_seen 31 rfl) ?_
          refine gR h cf11 o200 f11_0 j200_0 lX11_7 (dt t_M_seen 32 rfl) ?_
          refine SW_iconst h (dt t_M_seen 33 rfl) ?_
          refine aIk h a201 (by decide) (dt t_M_seen 34 rfl) ?_
          refine SW_imul h (dt t_M_seen 35 rfl) ?_
          refine SW_iadd h (dt t_M_seen 36 rfl) ?_
          refine SW_iload_n h rfl (dt t_M_seen 37 rfl) ?_
          refine sI h a201 hx1 (dt t_M_seen 38 rfl) hf (fun hf => SW_bm hf (fun s4 ok4 hf => ?_))
          refine SW_aload_n h rfl (dt t_M_seen 39 rfl) ?_
          refine gR h cf11 o200 f11_0 j200_0 lX11_7 (dt t_M_seen 40 rfl) ?_
          refine SW_bipush h (dt t_M_seen 41 rfl) (by decide) ?_
          refine SW_iconst h (dt t_M_seen 42 rfl) ?_
          refine SW_aload_n h rfl (dt t_M_seen 43 rfl) ?_
          refine gR h cf11 o200 f11_0 j200_0 lX11_7 (dt t_M_seen 44 rfl) ?_
          refine SW_iconst h (dt t_M_seen 45 rfl) ?_
          refine aIk h a201 (by decide) (dt t_M_seen 46 rfl) ?_
          refine SW_imul h (dt t_M_seen 47 rfl) ?_
          refine SW_iadd h (dt t_M_seen 48 rfl) ?_
          refine SW_iconst h (dt t_M_seen 49 rfl) ?_
          refine SW_iadd h (dt t_M_seen 50 rfl) ?_
          refine SW_iload_n h rfl (dt t_M_seen 51 rfl) ?_
          refine sI h a201 hx2 (dt t_M_seen 52 rfl) hf (fun hf => SW_bm hf (fun s5 ok5 hf => ?_))
          refine SW_aload_n h rfl (dt t_M_seen 53 rfl) ?_
          refine gR h cf11 o200 f11_0 j200_0 lX11_7 (dt t_M_seen 54 rfl) ?_
          refine SW_iconst h (dt t_M_seen 55 rfl) ?_
          refine SW_dup2 h rfl rfl (dt t_M_seen 56 rfl) ?_
          refine aIk h a201 (by decide) (dt t_M_seen 57 rfl) ?_
          refine SW_iconst h (dt t_M_seen 58 rfl) ?_
          refine SW_iadd h (dt t_M_seen 59 rfl) ?_
          refine SW_chk hf (fun h6 hf => ?_)
          refine sIk h a201 (by decide) h6 (dt t_M_seen 60 rfl) (SW_bm hf (fun s7 ok7 hf => ?_))
          refine SW_aload_n h rfl (dt t_M_seen 61 rfl) ?_
          refine gR h cf11 o200 f11_0 j200_0 lX11_7 (dt t_M_seen 62 rfl) ?_
          refine SW_iconst h (dt t_M_seen 63 rfl) ?_
          refine aIk h a201 (by decide) (dt t_M_seen 64 rfl) ?_
          exact SW_iret h (hret _ hf) (fun _ => (okI ok7 201 4 (IsA.n3 a201 (by decide)))) rfl (dt t_M_seen 65 rfl)
def b_M_splits : List (Nat × Instr × Nat) := [(0, .iload_n 2, 1), (1, .iconst 1, 1), (2, .if_icmp .ne 25, 3), (5, .aload_n 0, 1), (6, .iconst 1, 1), (7, .iload_n 1, 1), (8, .iconst 0, 1), (9, .iconst 0, 1), (10, .invokevirtual 514, 3), (13, .aload_n 0, 1), (14, .invokevirtual 422, 3), (17, .iload_n 1, 1), (18, .if_icmp .ne 7, 3), (21, .iconst 1, 1), (22, .goto 4, 3), (25, .iconst 0, 1), (26, .ireturn, 1), (27, .iconst 1, 1), (28, .istore_n 3, 1), (29, .iload_n 3, 1), (30, .iload_n 1, 1), (31, .if_icmp .ge 75, 3), (34, .iload_n 2, 1), (35, .iconst 2, 1), (36, .if_icmp .ne 23, 3), (39, .aload_n 0, 1), (40, .iconst 2, 1), (41, .iload_n 3, 1), (42, .iload_n 1, 1), (43, .iload_n 3, 1), (44, .isub, 1), (45, .iconst 0, 1), (46, .invokevirtual 514, 3), (49, .aload_n 0, 1), (50, .invokevirtual 422, 3), (53, .iload_n 1, 1), (54, .if_icmp .ne 46, 3), (57, .iconst 1, 1), (58, .ireturn, 1), (59, .iconst 1, 1), (60, .istore 4, 2), (62, .iload_n 3, 1), (63, .iload 4, 2), (65, .iadd, 1), (66, .iload_n 1, 1), (67, .if_icmp .ge 33, 3), (70, .aload_n 0, 1), (71, .iconst 3, 1), (72, .iload_n 3, 1), (73, .iload 4, 2), (75, .iload_n 1, 1), (76, .iload_n 3, 1), (77, .isub, 1), (78, .iload 4, 2), (80, .isub, 1), (81, .invokevirtual 514, 3), (84, .aload_n 0, 1), (85, .invokevirtual 422, 3), (88, .iload_n 1, 1), (89, .if_icmp .ne 5, 3), (92, .iconst 1, 1), (93, .ireturn, 1), (94, .iinc 4 1, 3), (97, .goto (-35), 3), (100, .iinc 3 1, 3), (103, .goto (-74), 3), (106, .iconst 0, 1), (107, .ireturn, 1)]
theorem t_M_splits : DT cX11_splits b_M_splits := DT.of (by decide +kernel)
def L_M_splits_62 : Nat → Int → Int → Int → Mm → Option ((Int × Mm) ⊕ (Mm))
  | 0, _, _, _, _ => none
  | n + 1, x1, x3, x4, σ =>
    if r32 (x3 + x4) then
      if x1 ≤ x3 + x4 then
        some (.inr σ)
      else
        if r32 ((x1 - x3) - x4) then
          b0M (F_M_laysParts 3 x3 x4 ((x1 - x3) - x4) σ) fun s9 =>
          b1M (F_M_outNow  s9) fun v11 s11 =>
          if v11 = x1 then
            some (.inl (1, s11))
          else
            if r32 (x4 + 1) then
              L_M_splits_62 n x1 x3 (x4 + 1) s11
            else none
        else none
    else none
set_option maxRecDepth 100000 in
set_option maxHeartbeats 4000000 in
theorem l_M_splits_62 {X : Cx} (h : CX X 1 cX11_splits 5 6 (some .boolean) RX11) (x1 : Int) (x2 : Int) (x3 : Int) (hx1 : r32 x1) (hx2 : r32 x2) (hx3 : r32 x3) {res : (Int × Mm) ⊕ (Mm)} (hret : ∀ y : Int × Mm, some (.inl y) = some res → RX X 1 (y.1 = 0 ∨ y.1 = 1) (some (.int (i32 (y.1)))) y.2) (hex : ∀  (σ : Mm) (hz : some (.inr σ) = some res)  (ok : okM σ), SW X 1 5 100 [some (.ref (xad X 200)), some (.int (i32 x1)), some (.int (i32 x2)), some (.int (i32 x3)), none] [] σ) : ∀ (n : Nat) (x4 : Int) (σ : Mm) (hx4 : r32 x4) (ok : okM σ) (hf : L_M_splits_62 n x1 x3 x4 σ = some res), SW X 1 5 62 [some (.ref (xad X 200)), some (.int (i32 x1)), some (.int (i32 x2)), some (.int (i32 x3)), some (.int (i32 x4))] [] σ := by
  intro n
  induction n with
  | zero => intro x4 σ hx4 ok hf; exact absurd hf (by simp [L_M_splits_62])
  | succ n ih =>
    intro x4 σ hx4 ok hf
    rw [L_M_splits_62] at hf
    refine SW_iload_n h rfl (dt t_M_splits 41 rfl) ?_
    refine SW_iload h rfl (dt t_M_splits 42 rfl) ?_
    refine SW_iadd h (dt t_M_splits 43 rfl) ?_
    refine SW_iload_n h rfl (dt t_M_splits 44 rfl) ?_
    refine SW_chk hf (fun h8 hf => ?_)
    refine SW_icmp_ge (tgt := 100) h (fun _ => h8) (fun _ => hx1) (dt t_M_splits 45 rfl) rfl hf (fun hf => ?_) (fun hf => ?_)
    · exact SW_fgt [true, true, true, true, false] rfl (hex σ hf ok)
    · refine SW_aload_n h rfl (dt t_M_splits 46 rfl) ?_
      refine SW_iconst h (dt t_M_splits 47 rfl) ?_
      refine SW_iload_n h rfl (dt t_M_splits 48 rfl) ?_
      refine SW_iload h rfl (dt t_M_splits 49 rfl) ?_
      refine SW_iload_n h rfl (dt t_M_splits 50 rfl) ?_
      refine SW_iload_n h rfl (dt t_M_splits 51 rfl) ?_
      refine SW_isub h (dt t_M_splits 52 rfl) ?_
      refine SW_iload h rfl (dt t_M_splits 53 rfl) ?_
      refine SW_isub h (dt t_M_splits 54 rfl) ?_
      refine SW_chk hf (fun h10 hf => ?_)
      obtain ⟨s9, e9, hf⟩ := b0M_of hf
      refine cVv h [.int (i32 3), .int (i32 x3), .int (i32 x4), .int (i32 ((x1 - x3) - x4))] [] v_X11_laysParts kX11_514 o200 (c_M_laysParts 3 (by decide) x3 hx3 x4 hx4 ((x1 - x3) - x4) h10 e9) rfl rfl (by decide) (by decide) rfl (Nat.le_of_ble_eq_true rfl) (dt t_M_splits 55 rfl) (fun h9 => ?_)
      refine SW_ok (fun ok9 => ?_)
      refine SW_aload_n h rfl (dt t_M_splits 56 rfl) ?_
      obtain ⟨v11, s11, e11, hf⟩ := b1M_of hf
      refine cV h [] [] v_X11_outNow kX11_422 o200 (c_M_outNow  e11) rfl rfl (by decide) (by decide) rfl (Nat.le_of_ble_eq_true rfl) (dt t_M_splits 57 rfl) (fun h11 => ?_)
      refine SW_ok (fun ok11 => ?_)
      refine SW_iload_n h rfl (dt t_M_splits 58 rfl) ?_
      refine SW_icmp_ne (tgt := 94) h (fun _ => h11) (fun _ => hx1) (dt t_M_splits 59 rfl) rfl hf (fun hf => ?_) (fun hf => ?_)
      · refine SW_iconst h (dt t_M_splits 60 rfl) ?_
        exact SW_zret h (hret _ hf) (by decide) rfl (dt t_M_splits 61 rfl)
      · refine SW_iinc (lv2 := [some (.ref (xad X 200)), some (.int (i32 x1)), some (.int (i32 x2)), some (.int (i32 x3)), some (.int (i32 (x4 + 1)))]) h (dt t_M_splits 62 rfl) rfl (by decide) rfl ?_
        refine SW_goto (tgt := 62) h (dt t_M_splits 63 rfl) rfl ?_
        refine SW_chk hf (fun h12 hf => ?_)
        exact SW_fgt [true, true, true, true, true] rfl (ih (x4 + 1) s11 h12 ok11 hf)
def L_M_splits_29 : Nat → Int → Int → Int → Mm → Option ((Int × Mm) ⊕ (Mm))
  | 0, _, _, _, _ => none
  | n + 1, x1, x2, x3, σ =>
    if x1 ≤ x3 then
      some (.inr σ)
    else
      bindM (fun  (t3 : Mm) =>
        if r32 (x3 + 1) then
          L_M_splits_29 n x1 x2 (x3 + 1) t3
        else none) fun J3 =>
      if x2 = 2 then
        if r32 (x1 - x3) then
          b0M (F_M_laysParts 2 x3 (x1 - x3) 0 σ) fun s5 =>
          b1M (F_M_outNow  s5) fun v7 s7 =>
          if v7 = x1 then
            some (.inl (1, s7))
          else
            J3 s7
        else none
      else
        b0MS (L_M_splits_62 LF x1 x3 1 σ) (fun y => some (.inl y)) fun s13 =>
        J3 s13
set_option maxRecDepth 100000 in
set_option maxHeartbeats 4000000 in
theorem l_M_splits_29 {X : Cx} (h : CX X 1 cX11_splits 5 6 (some .boolean) RX11) (x1 : Int) (x2 : Int) (hx1 : r32 x1) (hx2 : r32 x2) {res : (Int × Mm) ⊕ (Mm)} (hret : ∀ y : Int × Mm, some (.inl y) = some res → RX X 1 (y.1 = 0 ∨ y.1 = 1) (some (.int (i32 (y.1)))) y.2) (hex : ∀  (σ : Mm) (hz : some (.inr σ) = some res)  (ok : okM σ), SW X 1 5 106 [none, none, none, none, none] [] σ) : ∀ (n : Nat) (x3 : Int) (σ : Mm) (hx3 : r32 x3) (ok : okM σ) (hf : L_M_splits_29 n x1 x2 x3 σ = some res), SW X 1 5 29 [some (.ref (xad X 200)), some (.int (i32 x1)), some (.int (i32 x2)), some (.int (i32 x3)), none] [] σ := by
  intro n
  induction n with
  | zero => intro x3 σ hx3 ok hf; exact absurd hf (by simp [L_M_splits_29])
  | succ n ih =>
    intro x3 σ hx3 ok hf
    rw [L_M_splits_29] at hf
    refine SW_iload_n h rfl (dt t_M_splits 19 rfl) ?_
    refine SW_iload_n h rfl (dt t_M_splits 20 rfl) ?_
    refine SW_icmp_ge (tgt := 106) h (fun _ => hx3) (fun _ => hx1) (dt t_M_splits 21 rfl) rfl hf (fun hf => ?_) (fun hf => ?_)
    · exact SW_fgt [false, false, false, false, false] rfl (hex σ hf ok)
    · refine SW_iload_n h rfl (dt t_M_splits 22 rfl) ?_
      refine SW_iconst h (dt t_M_splits 23 rfl) ?_
      refine bJ hf (fun J3 e3 hf => ?_)
      have k3 : ∀  (t3 : Mm)  (ot3 : okM t3) (hf : J3 t3 = some res), SW X 1 5 100 [some (.ref (xad X 200)), some (.int (i32 x1)), some (.int (i32 x2)), some (.int (i32 x3)), none] [] t3 := by
        intro t3 ot3 hf
        rw [e3] at hf
        refine SW_iinc (lv2 := [some (.ref (xad X 200)), some (.int (i32 x1)), some (.int (i32 x2)), some (.int (i32 (x3 + 1))), none]) h (dt t_M_splits 64 rfl) rfl (by decide) rfl ?_
        refine SW_goto (tgt := 29) h (dt t_M_splits 65 rfl) rfl ?_
        refine SW_chk hf (fun h4 hf => ?_)
        exact SW_fgt [true, true, true, true, false] rfl (ih (x3 + 1) t3 h4 ot3 hf)
      refine SW_icmp_ne (tgt := 59) h (fun _ => hx2) (fun _ => (by decide)) (dt t_M_splits 24 rfl) rfl hf (fun hf => ?_) (fun hf => ?_)
      · refine SW_aload_n h rfl (dt t_M_splits 25 rfl) ?_
        refine SW_iconst h (dt t_M_splits 26 rfl) ?_
        refine SW_iload_n h rfl (dt t_M_splits 27 rfl) ?_
        refine SW_iload_n h rfl (dt t_M_splits 28 rfl) ?_
        refine SW_iload_n h rfl (dt t_M_splits 29 rfl) ?_
        refine SW_isub h (dt t_M_splits 30 rfl) ?_
        refine SW_iconst h (dt t_M_splits 31 rfl) ?_
        refine SW_chk hf (fun h6 hf => ?_)
        obtain ⟨s5, e5, hf⟩ := b0M_of hf
        refine cVv h [.int (i32 2), .int (i32 x3), .int (i32 (x1 - x3)), .int (i32 0)] [] v_X11_laysParts kX11_514 o200 (c_M_laysParts 2 (by decide) x3 hx3 (x1 - x3) h6 0 (by decide) e5) rfl rfl (by decide) (by decide) rfl (Nat.le_of_ble_eq_true rfl) (dt t_M_splits 32 rfl) (fun h5 => ?_)
        refine SW_ok (fun ok5 => ?_)
        refine SW_aload_n h rfl (dt t_M_splits 33 rfl) ?_
        obtain ⟨v7, s7, e7, hf⟩ := b1M_of hf
        refine cV h [] [] v_X11_outNow kX11_422 o200 (c_M_outNow  e7) rfl rfl (by decide) (by decide) rfl (Nat.le_of_ble_eq_true rfl) (dt t_M_splits 34 rfl) (fun h7 => ?_)
        refine SW_ok (fun ok7 => ?_)
        refine SW_iload_n h rfl (dt t_M_splits 35 rfl) ?_
        refine SW_icmp_ne (tgt := 100) h (fun _ => h7) (fun _ => hx1) (dt t_M_splits 36 rfl) rfl hf (fun hf => ?_) (fun hf => ?_)
        · refine SW_iconst h (dt t_M_splits 37 rfl) ?_
          exact SW_zret h (hret _ hf) (by decide) rfl (dt t_M_splits 38 rfl)
        · exact SW_fgt [true, true, true, true, false] rfl (k3 s7 ok7 hf)
      · refine SW_iconst h (dt t_M_splits 39 rfl) ?_
        refine SW_istore (lv2 := [some (.ref (xad X 200)), some (.int (i32 x1)), some (.int (i32 x2)), some (.int (i32 x3)), some (.int (i32 1))]) h (dt t_M_splits 40 rfl) (by decide) rfl ?_
        obtain ⟨z13, e13, g13, hk13⟩ := b0MS_of hf
        refine SW_fgt [true, true, true, true, true] rfl (l_M_splits_62 h x1 x2 x3 hx1 hx2 hx3 (fun y e => hret y (g13 y (Option.some.inj e).symm)) (fun s13 hz13 ok13 => ?_) LF 1 σ (by decide) ok e13)
        have hf := hk13 s13 (Option.some.inj hz13).symm
        exact SW_fgt [true, true, true, true, false] rfl (k3 s13 ok13 hf)
def F_M_splits (x1 : Int) (x2 : Int) (σ : Mm) : Option (Int × Mm) :=
  if x2 = 1 then
    b0M (F_M_laysParts 1 x1 0 0 σ) fun s1 =>
    b1M (F_M_outNow  s1) fun v2 s2 =>
    if v2 = x1 then
      some (1, s2)
    else
      some (0, s2)
  else
    b0MS (L_M_splits_29 LF x1 x2 1 σ) (fun y => some y) fun s14 =>
    some (0, s14)
set_option maxRecDepth 100000 in
set_option maxHeartbeats 4000000 in
theorem c_M_splits (x1 : Int) (hx1 : r32 x1) (x2 : Int) (hx2 : r32 x2) {σ : Mm} {a : Int} {σ2 : Mm} (hf : F_M_splits x1 x2 σ = some (a, σ2)) : CT yX11_splits cX11_splits 5 (some .boolean) 6 1 (fun ad => [.ref (ad 200), .int (i32 x1), .int (i32 x2)]) σ (a = 0 ∨ a = 1) (some (.int (i32 a))) σ2 := by
  refine MetJ 2 (by decide +kernel) rfl (fun _ => Nat.le_of_ble_eq_true rfl) ?_
  intro X h hR ok
  obtain ⟨res, er⟩ : ∃ z, z = (a, σ2) := ⟨_, rfl⟩
  have hret : ∀ y : Int × Mm, some y = some res → RX X 1 (y.1 = 0 ∨ y.1 = 1) (some (.int (i32 (y.1)))) y.2 := fun y e => by cases e; cases er; exact hR
  rw [← er] at hf
  clear er hR
  unfold F_M_splits at hf
  show SW X 1 5 0 [some (.ref (xad X 200)), some (.int (i32 x1)), some (.int (i32 x2)), none, none] [] σ
  refine SW_iload_n h rfl (dt t_M_splits 0 rfl) ?_
  refine SW_iconst h (dt t_M_splits 1 rfl) ?_
  refine SW_icmp_ne (tgt := 27) h (fun _ => hx2) (fun _ => (by decide)) (dt t_M_splits 2 rfl) rfl hf (fun hf => ?_) (fun hf => ?_)
  · refine SW_aload_n h rfl (dt t_M_splits 3 rfl) ?_
    refine SW_iconst h (dt t_M_splits 4 rfl) ?_
    refine SW_iload_n h rfl (dt t_M_splits 5 rfl) ?_
    refine SW_iconst h (dt t_M_splits 6 rfl) ?_
    refine SW_iconst h (dt t_M_splits 7 rfl) ?_
    obtain ⟨s1, e1, hf⟩ := b0M_of hf
    refine cVv h [.int (i32 1), .int (i32 x1), .int (i32 0), .int (i32 0)] [] v_X11_laysParts kX11_514 o200 (c_M_laysParts 1 (by decide) x1 hx1 0 (by decide) 0 (by decide) e1) rfl rfl (by decide) (by decide) rfl (Nat.le_of_ble_eq_true rfl) (dt t_M_splits 8 rfl) (fun h1 => ?_)
    refine SW_ok (fun ok1 => ?_)
    refine SW_aload_n h rfl (dt t_M_splits 9 rfl) ?_
    obtain ⟨v2, s2, e2, hf⟩ := b1M_of hf
    refine cV h [] [] v_X11_outNow kX11_422 o200 (c_M_outNow  e2) rfl rfl (by decide) (by decide) rfl (Nat.le_of_ble_eq_true rfl) (dt t_M_splits 10 rfl) (fun h2 => ?_)
    refine SW_ok (fun ok2 => ?_)
    refine SW_iload_n h rfl (dt t_M_splits 11 rfl) ?_
    refine SW_icmp_ne (tgt := 25) h (fun _ => h2) (fun _ => hx1) (dt t_M_splits 12 rfl) rfl hf (fun hf => ?_) (fun hf => ?_)
    · refine SW_iconst h (dt t_M_splits 13 rfl) ?_
      refine SW_goto (tgt := 26) h (dt t_M_splits 14 rfl) rfl ?_
      exact SW_zret h (hret _ hf) (by decide) rfl (dt t_M_splits 16 rfl)
    · refine SW_iconst h (dt t_M_splits 15 rfl) ?_
      exact SW_zret h (hret _ hf) (by decide) rfl (dt t_M_splits 16 rfl)
  · refine SW_iconst h (dt t_M_splits 17 rfl) ?_
    refine SW_istore_n (lv2 := [some (.ref (xad X 200)), some (.int (i32 x1)), some (.int (i32 x2)), some (.int (i32 1)), none]) h (dt t_M_splits 18 rfl) (by decide) rfl ?_
    obtain ⟨z14, e14, g14, hk14⟩ := b0MS_of hf
    refine SW_fgt [true, true, true, true, false] rfl (l_M_splits_29 h x1 x2 hx1 hx2 (fun y e => hret y (g14 y (Option.some.inj e).symm)) (fun s14 hz14 ok14 => ?_) LF 1 σ (by decide) ok e14)
    have hf := hk14 s14 (Option.some.inj hz14).symm
    refine SW_iconst h (dt t_M_splits 66 rfl) ?_
    exact SW_zret h (hret _ hf) (by decide) rfl (dt t_M_splits 67 rfl)
def b_M_split : List (Nat × Instr × Nat) := [(0, .iload_n 1, 1), (1, .iconst 1, 1), (2, .bipush 99, 2), (4, .invokestatic 150, 3), (7, .ifCond .eq 8, 3), (10, .iload_n 2, 1), (11, .iconst (-1), 1), (12, .if_icmp .ge 5, 3), (15, .iconst (-1), 1), (16, .ireturn, 1), (17, .aload_n 0, 1), (18, .invokevirtual 446, 3), (21, .iconst 1, 1), (22, .istore_n 3, 1), (23, .iload_n 3, 1), (24, .iconst 4, 1), (25, .if_icmp .ge 43, 3), (28, .aload_n 0, 1), (29, .iload_n 1, 1), (30, .iload_n 3, 1), (31, .invokevirtual 517, 3), (34, .ifCond .eq 28, 3), (37, .iload_n 2, 1), (38, .iconst (-1), 1), (39, .if_icmp .ne 7, 3), (42, .iload_n 3, 1), (43, .goto 18, 3), (46, .iload_n 2, 1), (47, .iload_n 3, 1), (48, .if_icmp .ge 12, 3), (51, .aload_n 0, 1), (52, .getfield 103, 3), (55, .iload_n 2, 1), (56, .iaload, 1), (57, .goto 4, 3), (60, .iconst (-1), 1), (61, .ireturn, 1), (62, .iinc 3 1, 3), (65, .goto (-42), 3), (68, .iconst (-1), 1), (69, .ireturn, 1)]
theorem t_M_split : DT cX11_split b_M_split := DT.of (by decide +kernel)
def L_M_split_23 : Nat → Int → Int → Int → Mm → Option ((Int × Mm) ⊕ (Mm))
  | 0, _, _, _, _ => none
  | n + 1, x1, x2, x3, σ =>
    if 4 ≤ x3 then
      some (.inr σ)
    else
      b1M (F_M_splits x1 x3 σ) fun v3 s3 =>
      if v3 = 0 then
        if r32 (x3 + 1) then
          L_M_split_23 n x1 x2 (x3 + 1) s3
        else none
      else
        if x2 = (-1) then
          some (.inl (x3, s3))
        else
          if x3 ≤ x2 then
            some (.inl ((-1), s3))
          else
            if 0 ≤ x2 ∧ x2 < 4 then
              some (.inl (s3 229 x2.toNat, s3))
            else none
set_option maxRecDepth 100000 in
set_option maxHeartbeats 4000000 in
theorem l_M_split_23 {X : Cx} (h : CX X 1 cX11_split 4 7 (some .int) RX11) (x1 : Int) (x2 : Int) (hx1 : r32 x1) (hx2 : r32 x2) {res : (Int × Mm) ⊕ (Mm)} (hret : ∀ y : Int × Mm, some (.inl y) = some res → RX X 1 (r32 (y.1)) (some (.int (i32 (y.1)))) y.2) (hex : ∀  (σ : Mm) (hz : some (.inr σ) = some res)  (ok : okM σ), SW X 1 4 68 [none, none, none, none] [] σ) : ∀ (n : Nat) (x3 : Int) (σ : Mm) (hx3 : r32 x3) (ok : okM σ) (hf : L_M_split_23 n x1 x2 x3 σ = some res), SW X 1 4 23 [some (.ref (xad X 200)), some (.int (i32 x1)), some (.int (i32 x2)), some (.int (i32 x3))] [] σ := by
  intro n
  induction n with
  | zero => intro x3 σ hx3 ok hf; exact absurd hf (by simp [L_M_split_23])
  | succ n ih =>
    intro x3 σ hx3 ok hf
    rw [L_M_split_23] at hf
    refine SW_iload_n h rfl (dt t_M_split 14 rfl) ?_
    refine SW_iconst h (dt t_M_split 15 rfl) ?_
    refine SW_icmp_ge (tgt := 68) h (fun _ => hx3) (fun _ => (by decide)) (dt t_M_split 16 rfl) rfl hf (fun hf => ?_) (fun hf => ?_)
    · exact SW_fgt [false, false, false, false] rfl (hex σ hf ok)
    · refine SW_aload_n h rfl (dt t_M_split 17 rfl) ?_
      refine SW_iload_n h rfl (dt t_M_split 18 rfl) ?_
      refine SW_iload_n h rfl (dt t_M_split 19 rfl) ?_
      obtain ⟨v3, s3, e3, hf⟩ := b1M_of hf
      refine cV h [.int (i32 x1), .int (i32 x3)] [] v_X11_splits kX11_517 o200 (c_M_splits x1 hx1 x3 hx3 e3) rfl rfl (by decide) (by decide) rfl (Nat.le_of_ble_eq_true rfl) (dt t_M_split 20 rfl) (fun h3 => ?_)
      refine SW_ok (fun ok3 => ?_)
      refine SW_if_eq (tgt := 62) h (fun _ => (r_zo h3)) (dt t_M_split 21 rfl) rfl hf (fun hf => ?_) (fun hf => ?_)
      · refine SW_iinc (lv2 := [some (.ref (xad X 200)), some (.int (i32 x1)), some (.int (i32 x2)), some (.int (i32 (x3 + 1)))]) h (dt t_M_split 37 rfl) rfl (by decide) rfl ?_
        refine SW_goto (tgt := 23) h (dt t_M_split 38 rfl) rfl ?_
        refine SW_chk hf (fun h4 hf => ?_)
        exact SW_fgt [true, true, true, true] rfl (ih (x3 + 1) s3 h4 ok3 hf)
      · refine SW_iload_n h rfl (dt t_M_split 22 rfl) ?_
        refine SW_iconst h (dt t_M_split 23 rfl) ?_
        refine SW_icmp_ne (tgt := 46) h (fun _ => hx2) (fun _ => (by decide)) (dt t_M_split 24 rfl) rfl hf (fun hf => ?_) (fun hf => ?_)
        · refine SW_iload_n h rfl (dt t_M_split 25 rfl) ?_
          refine SW_goto (tgt := 61) h (dt t_M_split 26 rfl) rfl ?_
          exact SW_iret h (hret _ hf) (fun _ => hx3) rfl (dt t_M_split 36 rfl)
        · refine SW_iload_n h rfl (dt t_M_split 27 rfl) ?_
          refine SW_iload_n h rfl (dt t_M_split 28 rfl) ?_
          refine SW_icmp_ge (tgt := 60) h (fun _ => hx2) (fun _ => hx3) (dt t_M_split 29 rfl) rfl hf (fun hf => ?_) (fun hf => ?_)
          · refine SW_iconst h (dt t_M_split 35 rfl) ?_
            exact SW_iret h (hret _ hf) (fun _ => (by decide)) rfl (dt t_M_split 36 rfl)
          · refine SW_aload_n h rfl (dt t_M_split 30 rfl) ?_
            refine gR h cf11 o200 f11_47 j200_47 lX11_103 (dt t_M_split 31 rfl) ?_
            refine SW_iload_n h rfl (dt t_M_split 32 rfl) ?_
            refine aI h a229 (dt t_M_split 33 rfl) hf (fun hf => ?_)
            refine SW_goto (tgt := 61) h (dt t_M_split 34 rfl) rfl ?_
            exact SW_iret h (hret _ hf) (fun _ => (okI ok3 229 x2.toNat (IsA.n3 a229 (by decide)))) rfl (dt t_M_split 36 rfl)
def F_M_split (x1 : Int) (x2 : Int) (σ : Mm) : Option (Int × Mm) :=
  b1 (F_M_in x1 1 99) fun v1 =>
  if v1 = 0 then
    some ((-1), σ)
  else
    if (-1) ≤ x2 then
      b0M (F_M_laysNow  σ) fun s2 =>
      b0MS (L_M_split_23 LF x1 x2 1 s2) (fun y => some y) fun s5 =>
      some ((-1), s5)
    else
      some ((-1), σ)
set_option maxRecDepth 100000 in
set_option maxHeartbeats 4000000 in
theorem c_M_split (x1 : Int) (hx1 : r32 x1) (x2 : Int) (hx2 : r32 x2) {σ : Mm} {a : Int} {σ2 : Mm} (hf : F_M_split x1 x2 σ = some (a, σ2)) : CT yX11_split cX11_split 4 (some .int) 7 1 (fun ad => [.ref (ad 200), .int (i32 x1), .int (i32 x2)]) σ (r32 a) (some (.int (i32 a))) σ2 := by
  refine MetJ 1 (by decide +kernel) rfl (fun _ => Nat.le_of_ble_eq_true rfl) ?_
  intro X h hR ok
  obtain ⟨res, er⟩ : ∃ z, z = (a, σ2) := ⟨_, rfl⟩
  have hret : ∀ y : Int × Mm, some y = some res → RX X 1 (r32 (y.1)) (some (.int (i32 (y.1)))) y.2 := fun y e => by cases e; cases er; exact hR
  rw [← er] at hf
  clear er hR
  unfold F_M_split at hf
  show SW X 1 4 0 [some (.ref (xad X 200)), some (.int (i32 x1)), some (.int (i32 x2)), none] [] σ
  refine SW_iload_n h rfl (dt t_M_split 0 rfl) ?_
  refine SW_iconst h (dt t_M_split 1 rfl) ?_
  refine SW_bipush h (dt t_M_split 2 rfl) (by decide) ?_
  obtain ⟨v1, e1, hf⟩ := b1_of hf
  refine cS h [.int (i32 x1), .int (i32 1), .int (i32 99)] [] v_X11_in kX11_150 (c_M_in x1 hx1 1 (by decide) 99 (by decide) e1) rfl rfl (by decide) (by decide) rfl (Nat.le_of_ble_eq_true rfl) (dt t_M_split 3 rfl) (fun h1 => ?_)
  refine SW_if_eq (tgt := 15) h (fun _ => (r_zo h1)) (dt t_M_split 4 rfl) rfl hf (fun hf => ?_) (fun hf => ?_)
  · refine SW_iconst h (dt t_M_split 8 rfl) ?_
    exact SW_iret h (hret _ hf) (fun _ => (by decide)) rfl (dt t_M_split 9 rfl)
  · refine SW_iload_n h rfl (dt t_M_split 5 rfl) ?_
    refine SW_iconst h (dt t_M_split 6 rfl) ?_
    refine SW_icmp_ge (tgt := 17) h (fun _ => hx2) (fun _ => (by decide)) (dt t_M_split 7 rfl) rfl hf (fun hf => ?_) (fun hf => ?_)
    · refine SW_aload_n h rfl (dt t_M_split 10 rfl) ?_
      obtain ⟨s2, e2, hf⟩ := b0M_of hf
      refine cVv h [] [] v_X11_laysNow kX11_446 o200 (c_M_laysNow  e2) rfl rfl (by decide) (by decide) rfl (Nat.le_of_ble_eq_true rfl) (dt t_M_split 11 rfl) (fun h2 => ?_)
      refine SW_ok (fun ok2 => ?_)
      refine SW_iconst h (dt t_M_split 12 rfl) ?_
      refine SW_istore_n (lv2 := [some (.ref (xad X 200)), some (.int (i32 x1)), some (.int (i32 x2)), some (.int (i32 1))]) h (dt t_M_split 13 rfl) (by decide) rfl ?_
      obtain ⟨z5, e5, g5, hk5⟩ := b0MS_of hf
      refine SW_fgt [true, true, true, true] rfl (l_M_split_23 h x1 x2 hx1 hx2 (fun y e => hret y (g5 y (Option.some.inj e).symm)) (fun s5 hz5 ok5 => ?_) LF 1 s2 (by decide) ok2 e5)
      have hf := hk5 s5 (Option.some.inj hz5).symm
      refine SW_iconst h (dt t_M_split 39 rfl) ?_
      exact SW_iret h (hret _ hf) (fun _ => (by decide)) rfl (dt t_M_split 40 rfl)
    · refine SW_iconst h (dt t_M_split 8 rfl) ?_
      exact SW_iret h (hret _ hf) (fun _ => (by decide)) rfl (dt t_M_split 9 rfl)
def b_M_tells : List (Nat × Instr × Nat) := [(0, .aload_n 0, 1), (1, .iload_n 1, 1), (2, .invokevirtual 530, 3), (5, .istore_n 2, 1), (6, .iload_n 2, 1), (7, .iconst (-1), 1), (8, .if_icmp .ne 5, 3), (11, .iconst (-1), 1), (12, .ireturn, 1), (13, .aload_n 0, 1), (14, .invokevirtual 446, 3), (17, .iconst 0, 1), (18, .istore_n 3, 1), (19, .iconst 0, 1), (20, .istore 4, 2), (22, .iload 4, 2), (24, .iload_n 2, 1), (25, .invokestatic 527, 3), (28, .if_icmp .ge 34, 3), (31, .aload_n 0, 1), (32, .iload 4, 2), (34, .iload_n 2, 1), (35, .invokevirtual 533, 3), (38, .aload_n 0, 1), (39, .invokevirtual 536, 3), (42, .ifCond .eq 14, 3), (45, .aload_n 0, 1), (46, .getfield 128, 3), (49, .iload_n 3, 1), (50, .iload 4, 2), (52, .iastore, 1), (53, .iinc 3 1, 3), (56, .iinc 4 1, 3), (59, .goto (-37), 3), (62, .iconst (-1), 1), (63, .istore 4, 2), (65, .sipush 1001, 3), (68, .istore 5, 2), (70, .iconst 0, 1), (71, .istore 6, 2), (73, .iload 6, 2), (75, .aload_n 0, 1), (76, .getfield 7, 3), (79, .iconst 0, 1), (80, .iaload, 1), (81, .if_icmp .ge 38, 3), (84, .iload_n 3, 1), (85, .ifCond .le 34, 3), (88, .aload_n 0, 1), (89, .iload 6, 2), (91, .iload_n 3, 1), (92, .iload_n 2, 1), (93, .invokevirtual 540, 3), (96, .istore 7, 2), (98, .iload 7, 2), (100, .iload 5, 2), (102, .if_icmp .ge 11, 3), (105, .iload 7, 2), (107, .istore 5, 2), (109, .iload 6, 2), (111, .istore 4, 2), (113, .iinc 6 1, 3), (116, .goto (-43), 3), (119, .iload 4, 2), (121, .ireturn, 1)]
theorem t_M_tells : DT cX11_tells b_M_tells := DT.of (by decide +kernel)
def L_M_tells_22 : Nat → Int → Int → Int → Mm → Option (Int × Mm)
  | 0, _, _, _, _ => none
  | n + 1, x2, x3, x4, σ =>
    b1 (F_M_tens x2) fun v3 =>
    if v3 ≤ x4 then
      some ((x3, σ))
    else
      b0M (F_M_laysTempers x4 x2 σ) fun s4 =>
      b1M (F_M_isAsSeen  s4) fun v5 s5 =>
      bindM (fun (x3_6 : Int) (t6 : Mm) =>
        if r32 (x4 + 1) then
          L_M_tells_22 n x2 x3_6 (x4 + 1) t6
        else none) fun J6 =>
      if v5 = 0 then
        J6 x3 s5
      else
        if 0 ≤ x3 ∧ x3 < 1000 then
          bindM (st2 s5 237 x3.toNat x4) fun s8 =>
          if r32 (x3 + 1) then
            J6 (x3 + 1) s8
          else none
        else none
set_option maxRecDepth 100000 in
set_option maxHeartbeats 4000000 in
theorem l_M_tells_22 {X : Cx} (h : CX X 1 cX11_tells 8 7 (some .int) RX11) (x2 : Int) (hx2 : r32 x2) {res : Int × Mm} (hex : ∀ (x3 : Int) (σ : Mm) (hz : some ((x3, σ)) = some res) (hx3 : r32 x3) (ok : okM σ), SW X 1 8 62 [some (.ref (xad X 200)), none, some (.int (i32 x2)), some (.int (i32 x3)), none, none, none, none] [] σ) : ∀ (n : Nat) (x3 : Int) (x4 : Int) (σ : Mm) (hx3 : r32 x3) (hx4 : r32 x4) (ok : okM σ) (hf : L_M_tells_22 n x2 x3 x4 σ = some res), SW X 1 8 22 [some (.ref (xad X 200)), none, some (.int (i32 x2)), some (.int (i32 x3)), some (.int (i32 x4)), none, none, none] [] σ := by
  intro n
  induction n with
  | zero => intro x3 x4 σ hx3 hx4 ok hf; exact absurd hf (by simp [L_M_tells_22])
  | succ n ih =>
    intro x3 x4 σ hx3 hx4 ok hf
    rw [L_M_tells_22] at hf
    refine SW_iload h rfl (dt t_M_tells 15 rfl) ?_
    refine SW_iload_n h rfl (dt t_M_tells 16 rfl) ?_
    obtain ⟨v3, e3, hf⟩ := b1_of hf
    refine cS h [.int (i32 x2)] [.int (i32 x4)] v_X11_tens kX11_527 (c_M_tens x2 hx2 e3) rfl rfl (by decide) (by decide) rfl (Nat.le_of_ble_eq_true rfl) (dt t_M_tells 17 rfl) (fun h3 => ?_)
    refine SW_icmp_ge (tgt := 62) h (fun _ => hx4) (fun _ => h3) (dt t_M_tells 18 rfl) rfl hf (fun hf => ?_) (fun hf => ?_)
    · exact SW_fgt [true, false, true, true, false, false, false, false] rfl (hex x3 σ hf hx3 ok)
    · refine SW_aload_n h rfl (dt t_M_tells 19 rfl) ?_
      refine SW_iload h rfl (dt t_M_tells 20 rfl) ?_
      refine SW_iload_n h rfl (dt t_M_tells 21 rfl) ?_
      obtain ⟨s4, e4, hf⟩ := b0M_of hf
      refine cVv h [.int (i32 x4), .int (i32 x2)] [] v_X11_laysTempers kX11_533 o200 (c_M_laysTempers x4 hx4 x2 hx2 e4) rfl rfl (by decide) (by decide) rfl (Nat.le_of_ble_eq_true rfl) (dt t_M_tells 22 rfl) (fun h4 => ?_)
      refine SW_ok (fun ok4 => ?_)
      refine SW_aload_n h rfl (dt t_M_tells 23 rfl) ?_
      obtain ⟨v5, s5, e5, hf⟩ := b1M_of hf
      refine cV h [] [] v_X11_isAsSeen kX11_536 o200 (c_M_isAsSeen  e5) rfl rfl (by decide) (by decide) rfl (Nat.le_of_ble_eq_true rfl) (dt t_M_tells 24 rfl) (fun h5 => ?_)
      refine SW_ok (fun ok5 => ?_)
      refine bJ hf (fun J6 e6 hf => ?_)
      have k6 : ∀ (x3_6 : Int) (t6 : Mm) (hx3_6 : r32 x3_6) (ot6 : okM t6) (hf : J6 x3_6 t6 = some res), SW X 1 8 56 [some (.ref (xad X 200)), none, some (.int (i32 x2)), some (.int (i32 x3_6)), some (.int (i32 x4)), none, none, none] [] t6 := by
        intro x3_6 t6 hx3_6 ot6 hf
        rw [e6] at hf
        refine SW_iinc (lv2 := [some (.ref (xad X 200)), none, some (.int (i32 x2)), some (.int (i32 x3_6)), some (.int (i32 (x4 + 1))), none, none, none]) h (dt t_M_tells 32 rfl) rfl (by decide) rfl ?_
        refine SW_goto (tgt := 22) h (dt t_M_tells 33 rfl) rfl ?_
        refine SW_chk hf (fun h7 hf => ?_)
        exact SW_fgt [true, false, true, true, true, false, false, false] rfl (ih x3_6 (x4 + 1) t6 hx3_6 h7 ot6 hf)
      refine SW_if_eq (tgt := 56) h (fun _ => (r_zo h5)) (dt t_M_tells 25 rfl) rfl hf (fun hf => ?_) (fun hf => ?_)
      · exact SW_fgt [true, false, true, true, true, false, false, false] rfl (k6 x3 s5 hx3 ok5 hf)
      · refine SW_aload_n h rfl (dt t_M_tells 26 rfl) ?_
        refine gR h cf11 o200 f11_58 j200_58 lX11_128 (dt t_M_tells 27 rfl) ?_
        refine SW_iload_n h rfl (dt t_M_tells 28 rfl) ?_
        refine SW_iload h rfl (dt t_M_tells 29 rfl) ?_
        refine sI h a237 hx4 (dt t_M_tells 30 rfl) hf (fun hf => SW_bm hf (fun s8 ok8 hf => ?_))
        refine SW_iinc (lv2 := [some (.ref (xad X 200)), none, some (.int (i32 x2)), some (.int (i32 (x3 + 1))), some (.int (i32 x4)), none, none, none]) h (dt t_M_tells 31 rfl) rfl (by decide) rfl ?_
        refine SW_chk hf (fun h9 hf => ?_)
        exact SW_fgt [true, false, true, true, true, false, false, false] rfl (k6 (x3 + 1) s8 h9 ok8 hf)
def L_M_tells_73 : Nat → Int → Int → Int → Int → Int → Mm → Option (Int × Mm)
  | 0, _, _, _, _, _, _ => none
  | n + 1, x2, x3, x4, x5, x6, σ =>
    if σ 201 0 ≤ x6 then
      some ((x4, σ))
    else
      if x3 ≤ 0 then
        some ((x4, σ))
      else
        b1M (F_M_mostAlike x6 x3 x2 σ) fun v11 s11 =>
        bindM (fun (x4_12 : Int) (x5_12 : Int) =>
          if r32 (x6 + 1) then
            L_M_tells_73 n x2 x3 x4_12 x5_12 (x6 + 1) s11
          else none) fun J12 =>
        if x5 ≤ v11 then
          J12 x4 x5
        else
          J12 x6 v11
set_option maxRecDepth 100000 in
set_option maxHeartbeats 4000000 in
theorem l_M_tells_73 {X : Cx} (h : CX X 1 cX11_tells 8 7 (some .int) RX11) (x2 : Int) (x3 : Int) (hx2 : r32 x2) (hx3 : r32 x3) {res : Int × Mm} (hex : ∀ (x4 : Int) (σ : Mm) (hz : some ((x4, σ)) = some res) (hx4 : r32 x4) (ok : okM σ), SW X 1 8 119 [none, none, none, none, some (.int (i32 x4)), none, none, none] [] σ) : ∀ (n : Nat) (x4 : Int) (x5 : Int) (x6 : Int) (σ : Mm) (hx4 : r32 x4) (hx5 : r32 x5) (hx6 : r32 x6) (ok : okM σ) (hf : L_M_tells_73 n x2 x3 x4 x5 x6 σ = some res), SW X 1 8 73 [some (.ref (xad X 200)), none, some (.int (i32 x2)), some (.int (i32 x3)), some (.int (i32 x4)), some (.int (i32 x5)), some (.int (i32 x6)), none] [] σ := by
  intro n
  induction n with
  | zero => intro x4 x5 x6 σ hx4 hx5 hx6 ok hf; exact absurd hf (by simp [L_M_tells_73])
  | succ n ih =>
    intro x4 x5 x6 σ hx4 hx5 hx6 ok hf
    rw [L_M_tells_73] at hf
    refine SW_iload h rfl (dt t_M_tells 40 rfl) ?_
    refine SW_aload_n h rfl (dt t_M_tells 41 rfl) ?_
    refine gR h cf11 o200 f11_0 j200_0 lX11_7 (dt t_M_tells 42 rfl) ?_
    refine SW_iconst h (dt t_M_tells 43 rfl) ?_
    refine aIk h a201 (by decide) (dt t_M_tells 44 rfl) ?_
    refine SW_icmp_ge (tgt := 119) h (fun _ => hx6) (fun _ => (okI ok 201 0 (IsA.n3 a201 (by decide)))) (dt t_M_tells 45 rfl) rfl hf (fun hf => ?_) (fun hf => ?_)
    · exact SW_fgt [false, false, false, false, true, false, false, false] rfl (hex x4 σ hf hx4 ok)
    · refine SW_iload_n h rfl (dt t_M_tells 46 rfl) ?_
      refine SW_if_le (tgt := 119) h (fun _ => hx3) (dt t_M_tells 47 rfl) rfl hf (fun hf => ?_) (fun hf => ?_)
      · exact SW_fgt [false, false, false, false, true, false, false, false] rfl (hex x4 σ hf hx4 ok)
      · refine SW_aload_n h rfl (dt t_M_tells 48 rfl) ?_
        refine SW_iload h rfl (dt t_M_tells 49 rfl) ?_
        refine SW_iload_n h rfl (dt t_M_tells 50 rfl) ?_
        refine SW_iload_n h rfl (dt t_M_tells 51 rfl) ?_
        obtain ⟨v11, s11, e11, hf⟩ := b1M_of hf
        refine cV h [.int (i32 x6), .int (i32 x3), .int (i32 x2)] [] v_X11_mostAlike kX11_540 o200 (c_M_mostAlike x6 hx6 x3 hx3 x2 hx2 e11) rfl rfl (by decide) (by decide) rfl (Nat.le_of_ble_eq_true rfl) (dt t_M_tells 52 rfl) (fun h11 => ?_)
        refine SW_ok (fun ok11 => ?_)
        refine SW_istore (lv2 := [some (.ref (xad X 200)), none, some (.int (i32 x2)), some (.int (i32 x3)), some (.int (i32 x4)), some (.int (i32 x5)), some (.int (i32 x6)), some (.int (i32 v11))]) h (dt t_M_tells 53 rfl) (by decide) rfl ?_
        refine SW_iload h rfl (dt t_M_tells 54 rfl) ?_
        refine SW_iload h rfl (dt t_M_tells 55 rfl) ?_
        refine bJ hf (fun J12 e12 hf => ?_)
        have k12 : ∀ (x4_12 : Int) (x5_12 : Int) (hx4_12 : r32 x4_12) (hx5_12 : r32 x5_12) (hf : J12 x4_12 x5_12 = some res), SW X 1 8 113 [some (.ref (xad X 200)), none, some (.int (i32 x2)), some (.int (i32 x3)), some (.int (i32 x4_12)), some (.int (i32 x5_12)), some (.int (i32 x6)), none] [] s11 := by
          intro x4_12 x5_12 hx4_12 hx5_12 hf
          rw [e12] at hf
          refine SW_iinc (lv2 := [some (.ref (xad X 200)), none, some (.int (i32 x2)), some (.int (i32 x3)), some (.int (i32 x4_12)), some (.int (i32 x5_12)), some (.int (i32 (x6 + 1))), none]) h (dt t_M_tells 61 rfl) rfl (by decide) rfl ?_
          refine SW_goto (tgt := 73) h (dt t_M_tells 62 rfl) rfl ?_
          refine SW_chk hf (fun h13 hf => ?_)
          exact SW_fgt [true, false, true, true, true, true, true, false] rfl (ih x4_12 x5_12 (x6 + 1) s11 hx4_12 hx5_12 h13 ok11 hf)
        refine SW_icmp_ge (tgt := 113) h (fun _ => h11) (fun _ => hx5) (dt t_M_tells 56 rfl) rfl hf (fun hf => ?_) (fun hf => ?_)
        · exact SW_fgt [true, false, true, true, true, true, true, false] rfl (k12 x4 x5 hx4 hx5 hf)
        · refine SW_iload h rfl (dt t_M_tells 57 rfl) ?_
          refine SW_istore (lv2 := [some (.ref (xad X 200)), none, some (.int (i32 x2)), some (.int (i32 x3)), some (.int (i32 x4)), some (.int (i32 v11)), some (.int (i32 x6)), some (.int (i32 v11))]) h (dt t_M_tells 58 rfl) (by decide) rfl ?_
          refine SW_iload h rfl (dt t_M_tells 59 rfl) ?_
          refine SW_istore (lv2 := [some (.ref (xad X 200)), none, some (.int (i32 x2)), some (.int (i32 x3)), some (.int (i32 x6)), some (.int (i32 v11)), some (.int (i32 x6)), some (.int (i32 v11))]) h (dt t_M_tells 60 rfl) (by decide) rfl ?_
          exact SW_fgt [true, false, true, true, true, true, true, false] rfl (k12 x6 v11 hx6 h11 hf)
def F_M_tells (x1 : Int) (σ : Mm) : Option (Int × Mm) :=
  b1M (F_M_laysFigures x1 σ) fun v1 s1 =>
  if v1 = (-1) then
    some ((-1), s1)
  else
    b0M (F_M_laysNow  s1) fun s2 =>
    b1M (L_M_tells_22 LF v1 0 0 s2) fun x3_10 s10 =>
    b1M (L_M_tells_73 LF v1 x3_10 ((-1)) 1001 0 s10) fun x4_14 s14 =>
    some (x4_14, s14)
set_option maxRecDepth 100000 in
set_option maxHeartbeats 4000000 in
theorem c_M_tells (x1 : Int) (hx1 : r32 x1) {σ : Mm} {a : Int} {σ2 : Mm} (hf : F_M_tells x1 σ = some (a, σ2)) : CT yX11_tells cX11_tells 8 (some .int) 7 1 (fun ad => [.ref (ad 200), .int (i32 x1)]) σ (r32 a) (some (.int (i32 a))) σ2 := by
  refine MetJ 6 (by decide +kernel) rfl (fun _ => Nat.le_of_ble_eq_true rfl) ?_
  intro X h hR ok
  obtain ⟨res, er⟩ : ∃ z, z = (a, σ2) := ⟨_, rfl⟩
  have hret : ∀ y : Int × Mm, some y = some res → RX X 1 (r32 (y.1)) (some (.int (i32 (y.1)))) y.2 := fun y e => by cases e; cases er; exact hR
  rw [← er] at hf
  clear er hR
  unfold F_M_tells at hf
  show SW X 1 8 0 [some (.ref (xad X 200)), some (.int (i32 x1)), none, none, none, none, none, none] [] σ
  refine SW_aload_n h rfl (dt t_M_tells 0 rfl) ?_
  refine SW_iload_n h rfl (dt t_M_tells 1 rfl) ?_
  obtain ⟨v1, s1, e1, hf⟩ := b1M_of hf
  refine cV h [.int (i32 x1)] [] v_X11_laysFigures kX11_530 o200 (c_M_laysFigures x1 hx1 e1) rfl rfl (by decide) (by decide) rfl (Nat.le_of_ble_eq_true rfl) (dt t_M_tells 2 rfl) (fun h1 => ?_)
  refine SW_ok (fun ok1 => ?_)
  refine SW_istore_n (lv2 := [some (.ref (xad X 200)), some (.int (i32 x1)), some (.int (i32 v1)), none, none, none, none, none]) h (dt t_M_tells 3 rfl) (by decide) rfl ?_
  refine SW_iload_n h rfl (dt t_M_tells 4 rfl) ?_
  refine SW_iconst h (dt t_M_tells 5 rfl) ?_
  refine SW_icmp_ne (tgt := 13) h (fun _ => h1) (fun _ => (by decide)) (dt t_M_tells 6 rfl) rfl hf (fun hf => ?_) (fun hf => ?_)
  · refine SW_iconst h (dt t_M_tells 7 rfl) ?_
    exact SW_iret h (hret _ hf) (fun _ => (by decide)) rfl (dt t_M_tells 8 rfl)
  · refine SW_aload_n h rfl (dt t_M_tells 9 rfl) ?_
    obtain ⟨s2, e2, hf⟩ := b0M_of hf
    refine cVv h [] [] v_X11_laysNow kX11_446 o200 (c_M_laysNow  e2) rfl rfl (by decide) (by decide) rfl (Nat.le_of_ble_eq_true rfl) (dt t_M_tells 10 rfl) (fun h2 => ?_)
    refine SW_ok (fun ok2 => ?_)
    refine SW_iconst h (dt t_M_tells 11 rfl) ?_
    refine SW_istore_n (lv2 := [some (.ref (xad X 200)), some (.int (i32 x1)), some (.int (i32 v1)), some (.int (i32 0)), none, none, none, none]) h (dt t_M_tells 12 rfl) (by decide) rfl ?_
    refine SW_iconst h (dt t_M_tells 13 rfl) ?_
    refine SW_istore (lv2 := [some (.ref (xad X 200)), some (.int (i32 x1)), some (.int (i32 v1)), some (.int (i32 0)), some (.int (i32 0)), none, none, none]) h (dt t_M_tells 14 rfl) (by decide) rfl ?_
    obtain ⟨z10, e10, hk10⟩ := b1M_ex hf
    refine SW_fgt [true, false, true, true, true, false, false, false] rfl (l_M_tells_22 h v1 h1 (fun x3_10 s10 hz10 hx3_10 ok10 => ?_) LF 0 0 s2 (by decide) (by decide) ok2 e10)
    have hf := hk10 x3_10 s10 hz10
    refine SW_iconst h (dt t_M_tells 34 rfl) ?_
    refine SW_istore (lv2 := [some (.ref (xad X 200)), none, some (.int (i32 v1)), some (.int (i32 x3_10)), some (.int (i32 ((-1)))), none, none, none]) h (dt t_M_tells 35 rfl) (by decide) rfl ?_
    refine SW_sipush h (dt t_M_tells 36 rfl) (by decide) ?_
    refine SW_istore (lv2 := [some (.ref (xad X 200)), none, some (.int (i32 v1)), some (.int (i32 x3_10)), some (.int (i32 ((-1)))), some (.int (i32 1001)), none, none]) h (dt t_M_tells 37 rfl) (by decide) rfl ?_
    refine SW_iconst h (dt t_M_tells 38 rfl) ?_
    refine SW_istore (lv2 := [some (.ref (xad X 200)), none, some (.int (i32 v1)), some (.int (i32 x3_10)), some (.int (i32 ((-1)))), some (.int (i32 1001)), some (.int (i32 0)), none]) h (dt t_M_tells 39 rfl) (by decide) rfl ?_
    obtain ⟨z14, e14, hk14⟩ := b1M_ex hf
    refine SW_fgt [true, false, true, true, true, true, true, false] rfl (l_M_tells_73 h v1 x3_10 h1 hx3_10 (fun x4_14 s14 hz14 hx4_14 ok14 => ?_) LF ((-1)) 1001 0 s10 (by decide) (by decide) (by decide) ok10 e14)
    have hf := hk14 x4_14 s14 hz14
    refine SW_iload h rfl (dt t_M_tells 63 rfl) ?_
    exact SW_iret h (hret _ hf) (fun _ => hx4_14) rfl (dt t_M_tells 64 rfl)
def b_M_text : List (Nat × Instr × Nat) := [(0, .aload_n 0, 1), (1, .getfield 7, 3), (4, .iconst 1, 1), (5, .iaload, 1), (6, .iconst 4, 1), (7, .if_icmp .ne 5, 3), (10, .iconst (-1), 1), (11, .ireturn, 1), (12, .aload_n 0, 1), (13, .aload_n 0, 1), (14, .getfield 164, 3), (17, .putfield 228, 3), (20, .aload_n 0, 1), (21, .iconst 0, 1), (22, .putfield 164, 3), (25, .aload_n 0, 1), (26, .iconst 0, 1), (27, .putfield 225, 3), (30, .aload_n 0, 1), (31, .iconst 0, 1), (32, .putfield 251, 3), (35, .aload_n 0, 1), (36, .iconst (-1), 1), (37, .putfield 254, 3), (40, .aload_n 0, 1), (41, .iconst 0, 1), (42, .putfield 263, 3), (45, .aload_n 0, 1), (46, .iconst 0, 1), (47, .putfield 260, 3), (50, .aload_n 0, 1), (51, .iconst 0, 1), (52, .putfield 275, 3), (55, .aload_n 0, 1), (56, .iconst 4, 1), (57, .putfield 295, 3), (60, .aload_n 0, 1), (61, .iconst 0, 1), (62, .putfield 332, 3), (65, .aload_n 0, 1), (66, .iconst 0, 1), (67, .putfield 257, 3), (70, .aload_n 0, 1), (71, .invokevirtual 272, 3), (74, .aload_n 0, 1), (75, .getfield 251, 3), (78, .ifCond .ne 89, 3), (81, .aload_n 0, 1), (82, .getfield 295, 3), (85, .iconst 4, 1), (86, .if_icmp .ne 10, 3), (89, .aload_n 0, 1), (90, .getfield 234, 3), (93, .ifCond .eq 74, 3), (96, .aload_n 0, 1), (97, .getfield 295, 3), (100, .tableswitch 60 0 3 #[32, 39, 46, 53], 32), (132, .aload_n 0, 1), (133, .invokevirtual 352, 3), (136, .goto (-62), 3), (139, .aload_n 0, 1), (140, .invokevirtual 355, 3), (143, .goto (-69), 3), (146, .aload_n 0, 1), (147, .invokevirtual 358, 3), (150, .goto (-76), 3), (153, .aload_n 0, 1), (154, .invokevirtual 361, 3), (157, .goto (-83), 3), (160, .aload_n 0, 1), (161, .invokevirtual 364, 3), (164, .goto (-90), 3), (167, .aload_n 0, 1), (168, .aload_n 0, 1), (169, .getfield 251, 3), (172, .putfield 20, 3), (175, .aload_n 0, 1), (176, .aload_n 0, 1), (177, .getfield 254, 3), (180, .putfield 24, 3), (183, .aload_n 0, 1), (184, .getfield 251, 3), (187, .ifCond .le 5, 3), (190, .iconst (-1), 1), (191, .ireturn, 1), (192, .aload_n 0, 1), (193, .getfield 7, 3), (196, .iconst 1, 1), (197, .iaload, 1), (198, .istore_n 1, 1), (199, .aload_n 0, 1), (200, .getfield 27, 3), (203, .iload_n 1, 1), (204, .aload_n 0, 1), (205, .getfield 332, 3), (208, .iastore, 1), (209, .iconst 0, 1), (210, .istore_n 2, 1), (211, .iload_n 2, 1), (212, .aload_n 0, 1), (213, .getfield 332, 3), (216, .if_icmp .ge 121, 3), (219, .aload_n 0, 1), (220, .getfield 30, 3), (223, .bipush 24, 2), (225, .iload_n 1, 1), (226, .imul, 1), (227, .iload_n 2, 1), (228, .iadd, 1), (229, .aload_n 0, 1), (230, .getfield 63, 3), (233, .iload_n 2, 1), (234, .iaload, 1), (235, .iastore, 1), (236, .aload_n 0, 1), (237, .getfield 33, 3), (240, .bipush 24, 2), (242, .iload_n 1, 1), (243, .imul, 1), (244, .iload_n 2, 1), (245, .iadd, 1), (246, .sipush 400, 3), (249, .iload_n 1, 1), (250, .imul, 1), (251, .aload_n 0, 1), (252, .getfield 66, 3), (255, .iload_n 2, 1), (256, .iaload, 1), (257, .iadd, 1), (258, .iastore, 1), (259, .aload_n 0, 1), (260, .getfield 36, 3), (263, .bipush 24, 2), (265, .iload_n 1, 1), (266, .imul, 1), (267, .iload_n 2, 1), (268, .iadd, 1), (269, .aload_n 0, 1), (270, .getfield 69, 3), (273, .iload_n 2, 1), (274, .iaload, 1), (275, .iastore, 1), (276, .aload_n 0, 1), (277, .getfield 39, 3), (280, .bipush 24, 2), (282, .iload_n 1, 1), (283, .imul, 1), (284, .iload_n 2, 1), (285, .iadd, 1), (286, .aload_n 0, 1), (287, .getfield 72, 3), (290, .iload_n 2, 1), (291, .iaload, 1), (292, .iastore, 1), (293, .iconst 0, 1), (294, .istore_n 3, 1), (295, .iload_n 3, 1), (296, .iconst 4, 1), (297, .if_icmp .ge 34, 3), (300, .aload_n 0, 1), (301, .getfield 42, 3), (304, .bipush 96, 2), (306, .iload_n 1, 1), (307, .imul, 1), (308, .iconst 4, 1), (309, .iload_n 2, 1), (310, .imul, 1), (311, .iadd, 1), (312, .iload_n 3, 1), (313, .iadd, 1), (314, .aload_n 0, 1), (315, .getfield 75, 3), (318, .iconst 4, 1), (319, .iload_n 2, 1), (320, .imul, 1), (321, .iload_n 3, 1), (322, .iadd, 1), (323, .iaload, 1), (324, .iastore, 1), (325, .iinc 3 1, 3), (328, .goto (-33), 3), (331, .iinc 2 1, 3), (334, .goto (-123), 3), (337, .iconst 0, 1), (338, .istore_n 2, 1), (339, .iload_n 2, 1), (340, .aload_n 0, 1), (341, .getfield 257, 3), (344, .if_icmp .ge 45, 3), (347, .aload_n 0, 1), (348, .getfield 45, 3), (351, .sipush 400, 3), (354, .iload_n 1, 1), (355, .imul, 1), (356, .iload_n 2, 1), (357, .iadd, 1), (358, .aload_n 0, 1), (359, .getfield 78, 3), (362, .iload_n 2, 1), (363, .iaload, 1), (364, .iastore, 1), (365, .aload_n 0, 1), (366, .getfield 48, 3), (369, .sipush 400, 3), (372, .iload_n 1, 1), (373, .imul, 1), (374, .iload_n 2, 1), (375, .iadd, 1), (376, .aload_n 0, 1), (377, .getfield 81, 3), (380, .iload_n 2, 1), (381, .iaload, 1), (382, .iastore, 1), (383, .iinc 2 1, 3), (386, .goto (-47), 3), (389, .aload_n 0, 1), (390, .getfield 7, 3), (393, .iconst 1, 1), (394, .dup2, 1), (395, .iaload, 1), (396, .iconst 1, 1), (397, .iadd, 1), (398, .iastore, 1), (399, .iload_n 1, 1), (400, .ireturn, 1)]
theorem t_M_text : DT cX11_text b_M_text := DT.of (by decide +kernel)
def L_M_text_74 : Nat → Mm → Option (Mm)
  | 0, _ => none
  | n + 1, σ =>
    if σ 200 19 = 0 then
      bindM (
        if σ 200 28 = 0 then
          b0M (F_M_asks  σ) fun s26 =>
          L_M_text_74 n s26
        else
          if σ 200 28 = 1 then
            b0M (F_M_begins  σ) fun s28 =>
            L_M_text_74 n s28
          else
            if σ 200 28 = 2 then
              b0M (F_M_goesOn  σ) fun s30 =>
              L_M_text_74 n s30
            else
              if σ 200 28 = 3 then
                b0M (F_M_asksOn  σ) fun s32 =>
                L_M_text_74 n s32
              else
                b0M (F_M_clause  σ) fun s33 =>
                L_M_text_74 n s33) fun J24 =>
      if σ 200 28 = 4 then
        if σ 200 17 = 0 then
          some σ
        else
          J24
      else
        J24
    else
      some σ
set_option maxRecDepth 100000 in
set_option maxHeartbeats 4000000 in
theorem l_M_text_74 {X : Cx} (h : CX X 1 cX11_text 4 7 (some .int) RX11)   {res : Mm} (hex : ∀  (σ : Mm) (hz : some σ = some res)  (ok : okM σ), SW X 1 4 167 [some (.ref (xad X 200)), none, none, none] [] σ) : ∀ (n : Nat)  (σ : Mm)  (ok : okM σ) (hf : L_M_text_74 n σ = some res), SW X 1 4 74 [some (.ref (xad X 200)), none, none, none] [] σ := by
  intro n
  induction n with
  | zero => intro σ ok hf; exact absurd hf (by simp [L_M_text_74])
  | succ n ih =>
    intro σ ok hf
    rw [L_M_text_74] at hf
    refine SW_aload_n h rfl (dt t_M_text 44 rfl) ?_
    refine gI h cf11 o200 f11_19 lX11_251 (dt t_M_text 45 rfl) ?_
    refine SW_if_ne (tgt := 167) h (fun _ => (okI ok 200 19 (IsO.n3 o200))) (dt t_M_text 46 rfl) rfl hf (fun hf => ?_) (fun hf => ?_)
    · refine SW_aload_n h rfl (dt t_M_text 47 rfl) ?_
      refine gI h cf11 o200 f11_28 lX11_295 (dt t_M_text 48 rfl) ?_
      refine SW_iconst h (dt t_M_text 49 rfl) ?_
      refine bJ hf (fun J24 e24 hf => ?_)
      have k24 : ∀ (hf : J24 = some res), SW X 1 4 96 [some (.ref (xad X 200)), none, none, none] [] σ := by
        intro hf
        rw [e24] at hf
        refine SW_aload_n h rfl (dt t_M_text 54 rfl) ?_
        refine gI h cf11 o200 f11_28 lX11_295 (dt t_M_text 55 rfl) ?_
        refine SW_ite hf (fun h25 hf => ?_) (fun h25 hf => ?_)
        · refine SW_tabIn (tgt := 132) h 0 (fun _ => (okI ok 200 28 (IsO.n3 o200))) (dt t_M_text 56 rfl) (h25.trans rfl) (by decide) rfl rfl ?_
          refine SW_aload_n h rfl (dt t_M_text 57 rfl) ?_
          obtain ⟨s26, e26, hf⟩ := b0M_of hf
          refine cVv h [] [] v_X11_asks kX11_352 o200 (c_M_asks  e26) rfl rfl (by decide) (by decide) rfl (Nat.le_of_ble_eq_true rfl) (dt t_M_text 58 rfl) (fun h26 => ?_)
          refine SW_ok (fun ok26 => ?_)
          refine SW_goto (tgt := 74) h (dt t_M_text 59 rfl) rfl ?_
          exact SW_fgt [true, false, false, false] rfl (ih s26 ok26 hf)
        · refine SW_ite hf (fun h27 hf => ?_) (fun h27 hf => ?_)
          · refine SW_tabIn (tgt := 139) h 1 (fun _ => (okI ok 200 28 (IsO.n3 o200))) (dt t_M_text 56 rfl) (h27.trans rfl) (by decide) rfl rfl ?_
            refine SW_aload_n h rfl (dt t_M_text 60 rfl) ?_
            obtain ⟨s28, e28, hf⟩ := b0M_of hf
            refine cVv h [] [] v_X11_begins kX11_355 o200 (c_M_begins  e28) rfl rfl (by decide) (by decide) rfl (Nat.le_of_ble_eq_true rfl) (dt t_M_text 61 rfl) (fun h28 => ?_)
            refine SW_ok (fun ok28 => ?_)
            refine SW_goto (tgt := 74) h (dt t_M_text 62 rfl) rfl ?_
            exact SW_fgt [true, false, false, false] rfl (ih s28 ok28 hf)
          · refine SW_ite hf (fun h29 hf => ?_) (fun h29 hf => ?_)
            · refine SW_tabIn (tgt := 146) h 2 (fun _ => (okI ok 200 28 (IsO.n3 o200))) (dt t_M_text 56 rfl) (h29.trans rfl) (by decide) rfl rfl ?_
              refine SW_aload_n h rfl (dt t_M_text 63 rfl) ?_
              obtain ⟨s30, e30, hf⟩ := b0M_of hf
              refine cVv h [] [] v_X11_goesOn kX11_358 o200 (c_M_goesOn  e30) rfl rfl (by decide) (by decide) rfl (Nat.le_of_ble_eq_true rfl) (dt t_M_text 64 rfl) (fun h30 => ?_)
              refine SW_ok (fun ok30 => ?_)
              refine SW_goto (tgt := 74) h (dt t_M_text 65 rfl) rfl ?_
              exact SW_fgt [true, false, false, false] rfl (ih s30 ok30 hf)
            · refine SW_ite hf (fun h31 hf => ?_) (fun h31 hf => ?_)
              · refine SW_tabIn (tgt := 153) h 3 (fun _ => (okI ok 200 28 (IsO.n3 o200))) (dt t_M_text 56 rfl) (h31.trans rfl) (by decide) rfl rfl ?_
                refine SW_aload_n h rfl (dt t_M_text 66 rfl) ?_
                obtain ⟨s32, e32, hf⟩ := b0M_of hf
                refine cVv h [] [] v_X11_asksOn kX11_361 o200 (c_M_asksOn  e32) rfl rfl (by decide) (by decide) rfl (Nat.le_of_ble_eq_true rfl) (dt t_M_text 67 rfl) (fun h32 => ?_)
                refine SW_ok (fun ok32 => ?_)
                refine SW_goto (tgt := 74) h (dt t_M_text 68 rfl) rfl ?_
                exact SW_fgt [true, false, false, false] rfl (ih s32 ok32 hf)
              · refine SW_tabOut (tgt := 160) h (fun _ => (okI ok 200 28 (IsO.n3 o200))) (dt t_M_text 56 rfl) (by omega) rfl ?_
                refine SW_aload_n h rfl (dt t_M_text 69 rfl) ?_
                obtain ⟨s33, e33, hf⟩ := b0M_of hf
                refine cVv h [] [] v_X11_clause kX11_364 o200 (c_M_clause  e33) rfl rfl (by decide) (by decide) rfl (Nat.le_of_ble_eq_true rfl) (dt t_M_text 70 rfl) (fun h33 => ?_)
                refine SW_ok (fun ok33 => ?_)
                refine SW_goto (tgt := 74) h (dt t_M_text 71 rfl) rfl ?_
                exact SW_fgt [true, false, false, false] rfl (ih s33 ok33 hf)
      refine SW_icmp_ne (tgt := 96) h (fun _ => (okI ok 200 28 (IsO.n3 o200))) (fun _ => (by decide)) (dt t_M_text 50 rfl) rfl hf (fun hf => ?_) (fun hf => ?_)
      · refine SW_aload_n h rfl (dt t_M_text 51 rfl) ?_
        refine gI h cf11 o200 f11_17 lX11_234 (dt t_M_text 52 rfl) ?_
        refine SW_if_eq (tgt := 167) h (fun _ => (okI ok 200 17 (IsO.n3 o200))) (dt t_M_text 53 rfl) rfl hf (fun hf => ?_) (fun hf => ?_)
        · exact SW_fgt [true, false, false, false] rfl (hex σ hf ok)
        · exact SW_fgt [true, false, false, false] rfl (k24 hf)
      · exact SW_fgt [true, false, false, false] rfl (k24 hf)
    · exact SW_fgt [true, false, false, false] rfl (hex σ hf ok)
def L_M_text_295 : Nat → Int → Int → Int → Mm → Option (Mm)
  | 0, _, _, _, _ => none
  | n + 1, x1, x2, x3, σ =>
    if 4 ≤ x3 then
      some σ
    else
      if 0 ≤ (4 * x2) + x3 ∧ (4 * x2) + x3 < 96 then
        if 0 ≤ ((96 * x1) + (4 * x2)) + x3 ∧ ((96 * x1) + (4 * x2)) + x3 < 384 then
          bindM (st2 σ 209 ((((96 * x1) + (4 * x2)) + x3).toNat) (σ 220 (((4 * x2) + x3).toNat))) fun s45 =>
          if r32 (x3 + 1) then
            L_M_text_295 n x1 x2 (x3 + 1) s45
          else none
        else none
      else none
set_option maxRecDepth 100000 in
set_option maxHeartbeats 4000000 in
theorem l_M_text_295 {X : Cx} (h : CX X 1 cX11_text 4 7 (some .int) RX11) (x1 : Int) (x2 : Int) (hx1 : r32 x1) (hx2 : r32 x2) {res : Mm} (hex : ∀  (σ : Mm) (hz : some σ = some res)  (ok : okM σ), SW X 1 4 331 [some (.ref (xad X 200)), some (.int (i32 x1)), some (.int (i32 x2)), none] [] σ) : ∀ (n : Nat) (x3 : Int) (σ : Mm) (hx3 : r32 x3) (ok : okM σ) (hf : L_M_text_295 n x1 x2 x3 σ = some res), SW X 1 4 295 [some (.ref (xad X 200)), some (.int (i32 x1)), some (.int (i32 x2)), some (.int (i32 x3))] [] σ := by
  intro n
  induction n with
  | zero => intro x3 σ hx3 ok hf; exact absurd hf (by simp [L_M_text_295])
  | succ n ih =>
    intro x3 σ hx3 ok hf
    rw [L_M_text_295] at hf
    refine SW_iload_n h rfl (dt t_M_text 156 rfl) ?_
    refine SW_iconst h (dt t_M_text 157 rfl) ?_
    refine SW_icmp_ge (tgt := 331) h (fun _ => hx3) (fun _ => (by decide)) (dt t_M_text 158 rfl) rfl hf (fun hf => ?_) (fun hf => ?_)
    · exact SW_fgt [true, true, true, false] rfl (hex σ hf ok)
    · refine SW_aload_n h rfl (dt t_M_text 159 rfl) ?_
      refine gR h cf11 o200 f11_11 j200_11 lX11_42 (dt t_M_text 160 rfl) ?_
      refine SW_bipush h (dt t_M_text 161 rfl) (by decide) ?_
      refine SW_iload_n h rfl (dt t_M_text 162 rfl) ?_
      refine SW_imul h (dt t_M_text 163 rfl) ?_
      refine SW_iconst h (dt t_M_text 164 rfl) ?_
      refine SW_iload_n h rfl (dt t_M_text 165 rfl) ?_
      refine SW_imul h (dt t_M_text 166 rfl) ?_
      refine SW_iadd h (dt t_M_text 167 rfl) ?_
      refine SW_iload_n h rfl (dt t_M_text 168 rfl) ?_
      refine SW_iadd h (dt t_M_text 169 rfl) ?_
      refine SW_aload_n h rfl (dt t_M_text 170 rfl) ?_
      refine gR h cf11 o200 f11_35 j200_35 lX11_75 (dt t_M_text 171 rfl) ?_
      refine SW_iconst h (dt t_M_text 172 rfl) ?_
      refine SW_iload_n h rfl (dt t_M_text 173 rfl) ?_
      refine SW_imul h (dt t_M_text 174 rfl) ?_
      refine SW_iload_n h rfl (dt t_M_text 175 rfl) ?_
      refine SW_iadd h (dt t_M_text 176 rfl) ?_
      refine aI h a220 (dt t_M_text 177 rfl) hf (fun hf => ?_)
      refine sI h a209 (okI ok 220 (((4 * x2) + x3).toNat) (IsA.n3 a220 (by decide))) (dt t_M_text 178 rfl) hf (fun hf => SW_bm hf (fun s45 ok45 hf => ?_))
      refine SW_iinc (lv2 := [some (.ref (xad X 200)), some (.int (i32 x1)), some (.int (i32 x2)), some (.int (i32 (x3 + 1)))]) h (dt t_M_text 179 rfl) rfl (by decide) rfl ?_
      refine SW_goto (tgt := 295) h (dt t_M_text 180 rfl) rfl ?_
      refine SW_chk hf (fun h46 hf => ?_)
      exact SW_fgt [true, true, true, true] rfl (ih (x3 + 1) s45 h46 ok45 hf)
def L_M_text_211 : Nat → Int → Int → Mm → Option (Mm)
  | 0, _, _, _ => none
  | n + 1, x1, x2, σ =>
    if σ 200 29 ≤ x2 then
      some σ
    else
      if 0 ≤ x2 ∧ x2 < 24 then
        if 0 ≤ (24 * x1) + x2 ∧ (24 * x1) + x2 < 96 then
          bindM (st2 σ 205 (((24 * x1) + x2).toNat) (σ 216 x2.toNat)) fun s40 =>
          if 0 ≤ x2 ∧ x2 < 24 then
            if r32 ((400 * x1) + (s40 217 x2.toNat)) then
              if 0 ≤ (24 * x1) + x2 ∧ (24 * x1) + x2 < 96 then
                bindM (st2 s40 206 (((24 * x1) + x2).toNat) ((400 * x1) + (s40 217 x2.toNat))) fun s42 =>
                if 0 ≤ x2 ∧ x2 < 24 then
                  if 0 ≤ (24 * x1) + x2 ∧ (24 * x1) + x2 < 96 then
                    bindM (st2 s42 207 (((24 * x1) + x2).toNat) (s42 218 x2.toNat)) fun s43 =>
                    if 0 ≤ x2 ∧ x2 < 24 then
                      if 0 ≤ (24 * x1) + x2 ∧ (24 * x1) + x2 < 96 then
                        bindM (st2 s43 208 (((24 * x1) + x2).toNat) (s43 219 x2.toNat)) fun s44 =>
                        b0M (L_M_text_295 LF x1 x2 0 s44) fun s47 =>
                        if r32 (x2 + 1) then
                          L_M_text_211 n x1 (x2 + 1) s47
                        else none
                      else none
                    else none
                  else none
                else none
              else none
            else none
          else none
        else none
      else none
set_option maxRecDepth 100000 in
set_option maxHeartbeats 4000000 in
theorem l_M_text_211 {X : Cx} (h : CX X 1 cX11_text 4 7 (some .int) RX11) (x1 : Int) (hx1 : r32 x1) {res : Mm} (hex : ∀  (σ : Mm) (hz : some σ = some res)  (ok : okM σ), SW X 1 4 337 [some (.ref (xad X 200)), some (.int (i32 x1)), none, none] [] σ) : ∀ (n : Nat) (x2 : Int) (σ : Mm) (hx2 : r32 x2) (ok : okM σ) (hf : L_M_text_211 n x1 x2 σ = some res), SW X 1 4 211 [some (.ref (xad X 200)), some (.int (i32 x1)), some (.int (i32 x2)), none] [] σ := by
  intro n
  induction n with
  | zero => intro x2 σ hx2 ok hf; exact absurd hf (by simp [L_M_text_211])
  | succ n ih =>
    intro x2 σ hx2 ok hf
    rw [L_M_text_211] at hf
    refine SW_iload_n h rfl (dt t_M_text 98 rfl) ?_
    refine SW_aload_n h rfl (dt t_M_text 99 rfl) ?_
    refine gI h cf11 o200 f11_29 lX11_332 (dt t_M_text 100 rfl) ?_
    refine SW_icmp_ge (tgt := 337) h (fun _ => hx2) (fun _ => (okI ok 200 29 (IsO.n3 o200))) (dt t_M_text 101 rfl) rfl hf (fun hf => ?_) (fun hf => ?_)
    · exact SW_fgt [true, true, false, false] rfl (hex σ hf ok)
    · refine SW_aload_n h rfl (dt t_M_text 102 rfl) ?_
      refine gR h cf11 o200 f11_7 j200_7 lX11_30 (dt t_M_text 103 rfl) ?_
      refine SW_bipush h (dt t_M_text 104 rfl) (by decide) ?_
      refine SW_iload_n h rfl (dt t_M_text 105 rfl) ?_
      refine SW_imul h (dt t_M_text 106 rfl) ?_
      refine SW_iload_n h rfl (dt t_M_text 107 rfl) ?_
      refine SW_iadd h (dt t_M_text 108 rfl) ?_
      refine SW_aload_n h rfl (dt t_M_text 109 rfl) ?_
      refine gR h cf11 o200 f11_31 j200_31 lX11_63 (dt t_M_text 110 rfl) ?_
      refine SW_iload_n h rfl (dt t_M_text 111 rfl) ?_
      refine aI h a216 (dt t_M_text 112 rfl) hf (fun hf => ?_)
      refine sI h a205 (okI ok 216 x2.toNat (IsA.n3 a216 (by decide))) (dt t_M_text 113 rfl) hf (fun hf => SW_bm hf (fun s40 ok40 hf => ?_))
      refine SW_aload_n h rfl (dt t_M_text 114 rfl) ?_
      refine gR h cf11 o200 f11_8 j200_8 lX11_33 (dt t_M_text 115 rfl) ?_
      refine SW_bipush h (dt t_M_text 116 rfl) (by decide) ?_
      refine SW_iload_n h rfl (dt t_M_text 117 rfl) ?_
      refine SW_imul h (dt t_M_text 118 rfl) ?_
      refine SW_iload_n h rfl (dt t_M_text 119 rfl) ?_
      refine SW_iadd h (dt t_M_text 120 rfl) ?_
      refine SW_sipush h (dt t_M_text 121 rfl) (by decide) ?_
      refine SW_iload_n h rfl (dt t_M_text 122 rfl) ?_
      refine SW_imul h (dt t_M_text 123 rfl) ?_
      refine SW_aload_n h rfl (dt t_M_text 124 rfl) ?_
      refine gR h cf11 o200 f11_32 j200_32 lX11_66 (dt t_M_text 125 rfl) ?_
      refine SW_iload_n h rfl (dt t_M_text 126 rfl) ?_
      refine aI h a217 (dt t_M_text 127 rfl) hf (fun hf => ?_)
      refine SW_iadd h (dt t_M_text 128 rfl) ?_
      refine SW_chk hf (fun h41 hf => ?_)
      refine sI h a206 h41 (dt t_M_text 129 rfl) hf (fun hf => SW_bm hf (fun s42 ok42 hf => ?_))
      refine SW_aload_n h rfl (dt t_M_text 130 rfl) ?_
      refine gR h cf11 o200 f11_9 j200_9 lX11_36 (dt t_M_text 131 rfl) ?_
      refine SW_bipush h (dt t_M_text 132 rfl) (by decide) ?_
      refine SW_iload_n h rfl (dt t_M_text 133 rfl) ?_
      refine SW_imul h (dt t_M_text 134 rfl) ?_
      refine SW_iload_n h rfl (dt t_M_text 135 rfl) ?_
      refine SW_iadd h (dt t_M_text 136 rfl) ?_
      refine SW_aload_n h rfl (dt t_M_text 137 rfl) ?_
      refine gR h cf11 o200 f11_33 j200_33 lX11_69 (dt t_M_text 138 rfl) ?_
      refine SW_iload_n h rfl (dt t_M_text 139 rfl) ?_
      refine aI h a218 (dt t_M_text 140 rfl) hf (fun hf => ?_)
      refine sI h a207 (okI ok42 218 x2.toNat (IsA.n3 a218 (by decide))) (dt t_M_text 141 rfl) hf (fun hf => SW_bm hf (fun s43 ok43 hf => ?_))
      refine SW_aload_n h rfl (dt t_M_text 142 rfl) ?_
      refine gR h cf11 o200 f11_10 j200_10 lX11_39 (dt t_M_text 143 rfl) ?_
      refine SW_bipush h (dt t_M_text 144 rfl) (by decide) ?_
      refine SW_iload_n h rfl (dt t_M_text 145 rfl) ?_
      refine SW_imul h (dt t_M_text 146 rfl) ?_
      refine SW_iload_n h rfl (dt t_M_text 147 rfl) ?_
      refine SW_iadd h (dt t_M_text 148 rfl) ?_
      refine SW_aload_n h rfl (dt t_M_text 149 rfl) ?_
      refine gR h cf11 o200 f11_34 j200_34 lX11_72 (dt t_M_text 150 rfl) ?_
      refine SW_iload_n h rfl (dt t_M_text 151 rfl) ?_
      refine aI h a219 (dt t_M_text 152 rfl) hf (fun hf => ?_)
      refine sI h a208 (okI ok43 219 x2.toNat (IsA.n3 a219 (by decide))) (dt t_M_text 153 rfl) hf (fun hf => SW_bm hf (fun s44 ok44 hf => ?_))
      refine SW_iconst h (dt t_M_text 154 rfl) ?_
      refine SW_istore_n (lv2 := [some (.ref (xad X 200)), some (.int (i32 x1)), some (.int (i32 x2)), some (.int (i32 0))]) h (dt t_M_text 155 rfl) (by decide) rfl ?_
      obtain ⟨z47, e47, hk47⟩ := b0M_ex hf
      refine SW_fgt [true, true, true, true] rfl (l_M_text_295 h x1 x2 hx1 hx2 (fun s47 hz47 ok47 => ?_) LF 0 s44 (by decide) ok44 e47)
      have hf := hk47 s47 hz47
      refine SW_iinc (lv2 := [some (.ref (xad X 200)), some (.int (i32 x1)), some (.int (i32 (x2 + 1))), none]) h (dt t_M_text 181 rfl) rfl (by decide) rfl ?_
      refine SW_goto (tgt := 211) h (dt t_M_text 182 rfl) rfl ?_
      refine SW_chk hf (fun h48 hf => ?_)
      exact SW_fgt [true, true, true, false] rfl (ih (x2 + 1) s47 h48 ok47 hf)
def L_M_text_339 : Nat → Int → Int → Mm → Option (Mm)
  | 0, _, _, _ => none
  | n + 1, x1, x2, σ =>
    if σ 200 36 ≤ x2 then
      some σ
    else
      if 0 ≤ x2 ∧ x2 < 400 then
        if 0 ≤ (400 * x1) + x2 ∧ (400 * x1) + x2 < 1600 then
          bindM (st2 σ 210 (((400 * x1) + x2).toNat) (σ 221 x2.toNat)) fun s50 =>
          if 0 ≤ x2 ∧ x2 < 400 then
            if 0 ≤ (400 * x1) + x2 ∧ (400 * x1) + x2 < 1600 then
              bindM (st2 s50 211 (((400 * x1) + x2).toNat) (s50 222 x2.toNat)) fun s51 =>
              if r32 (x2 + 1) then
                L_M_text_339 n x1 (x2 + 1) s51
              else none
            else none
          else none
        else none
      else none
set_option maxRecDepth 100000 in
set_option maxHeartbeats 4000000 in
theorem l_M_text_339 {X : Cx} (h : CX X 1 cX11_text 4 7 (some .int) RX11) (x1 : Int) (hx1 : r32 x1) {res : Mm} (hex : ∀  (σ : Mm) (hz : some σ = some res)  (ok : okM σ), SW X 1 4 389 [some (.ref (xad X 200)), some (.int (i32 x1)), none, none] [] σ) : ∀ (n : Nat) (x2 : Int) (σ : Mm) (hx2 : r32 x2) (ok : okM σ) (hf : L_M_text_339 n x1 x2 σ = some res), SW X 1 4 339 [some (.ref (xad X 200)), some (.int (i32 x1)), some (.int (i32 x2)), none] [] σ := by
  intro n
  induction n with
  | zero => intro x2 σ hx2 ok hf; exact absurd hf (by simp [L_M_text_339])
  | succ n ih =>
    intro x2 σ hx2 ok hf
    rw [L_M_text_339] at hf
    refine SW_iload_n h rfl (dt t_M_text 185 rfl) ?_
    refine SW_aload_n h rfl (dt t_M_text 186 rfl) ?_
    refine gI h cf11 o200 f11_36 lX11_257 (dt t_M_text 187 rfl) ?_
    refine SW_icmp_ge (tgt := 389) h (fun _ => hx2) (fun _ => (okI ok 200 36 (IsO.n3 o200))) (dt t_M_text 188 rfl) rfl hf (fun hf => ?_) (fun hf => ?_)
    · exact SW_fgt [true, true, false, false] rfl (hex σ hf ok)
    · refine SW_aload_n h rfl (dt t_M_text 189 rfl) ?_
      refine gR h cf11 o200 f11_12 j200_12 lX11_45 (dt t_M_text 190 rfl) ?_
      refine SW_sipush h (dt t_M_text 191 rfl) (by decide) ?_
      refine SW_iload_n h rfl (dt t_M_text 192 rfl) ?_
      refine SW_imul h (dt t_M_text 193 rfl) ?_
      refine SW_iload_n h rfl (dt t_M_text 194 rfl) ?_
      refine SW_iadd h (dt t_M_text 195 rfl) ?_
      refine SW_aload_n h rfl (dt t_M_text 196 rfl) ?_
      refine gR h cf11 o200 f11_37 j200_37 lX11_78 (dt t_M_text 197 rfl) ?_
      refine SW_iload_n h rfl (dt t_M_text 198 rfl) ?_
      refine aI h a221 (dt t_M_text 199 rfl) hf (fun hf => ?_)
      refine sI h a210 (okI ok 221 x2.toNat (IsA.n3 a221 (by decide))) (dt t_M_text 200 rfl) hf (fun hf => SW_bm hf (fun s50 ok50 hf => ?_))
      refine SW_aload_n h rfl (dt t_M_text 201 rfl) ?_
      refine gR h cf11 o200 f11_13 j200_13 lX11_48 (dt t_M_text 202 rfl) ?_
      refine SW_sipush h (dt t_M_text 203 rfl) (by decide) ?_
      refine SW_iload_n h rfl (dt t_M_text 204 rfl) ?_
      refine SW_imul h (dt t_M_text 205 rfl) ?_
      refine SW_iload_n h rfl (dt t_M_text 206 rfl) ?_
      refine SW_iadd h (dt t_M_text 207 rfl) ?_
      refine SW_aload_n h rfl (dt t_M_text 208 rfl) ?_
      refine gR h cf11 o200 f11_38 j200_38 lX11_81 (dt t_M_text 209 rfl) ?_
      refine SW_iload_n h rfl (dt t_M_text 210 rfl) ?_
      refine aI h a222 (dt t_M_text 211 rfl) hf (fun hf => ?_)
      refine sI h a211 (okI ok50 222 x2.toNat (IsA.n3 a222 (by decide))) (dt t_M_text 212 rfl) hf (fun hf => SW_bm hf (fun s51 ok51 hf => ?_))
      refine SW_iinc (lv2 := [some (.ref (xad X 200)), some (.int (i32 x1)), some (.int (i32 (x2 + 1))), none]) h (dt t_M_text 213 rfl) rfl (by decide) rfl ?_
      refine SW_goto (tgt := 339) h (dt t_M_text 214 rfl) rfl ?_
      refine SW_chk hf (fun h52 hf => ?_)
      exact SW_fgt [true, true, true, false] rfl (ih (x2 + 1) s51 h52 ok51 hf)
def F_M_text  (σ : Mm) : Option (Int × Mm) :=
  if σ 201 1 = 4 then
    some ((-1), σ)
  else
    bindM (st2 σ 200 14 (σ 200 3)) fun s2 =>
    bindM (st2 s2 200 3 0) fun s4 =>
    bindM (st2 s4 200 15 0) fun s6 =>
    bindM (st2 s6 200 19 0) fun s8 =>
    bindM (st2 s8 200 20 ((-1))) fun s10 =>
    bindM (st2 s10 200 21 0) fun s12 =>
    bindM (st2 s12 200 22 0) fun s14 =>
    bindM (st2 s14 200 25 0) fun s16 =>
    bindM (st2 s16 200 28 4) fun s18 =>
    bindM (st2 s18 200 29 0) fun s20 =>
    bindM (st2 s20 200 36 0) fun s22 =>
    b0M (F_M_next  s22) fun s23 =>
    b0M (L_M_text_74 LF s23) fun s34 =>
    bindM (st2 s34 200 4 (s34 200 19)) fun s36 =>
    bindM (st2 s36 200 5 (s36 200 20)) fun s38 =>
    if s38 200 19 ≤ 0 then
      if 0 ≤ s38 201 1 ∧ s38 201 1 < 4 then
        bindM (st2 s38 204 ((s38 201 1).toNat) (s38 200 29)) fun s39 =>
        b0M (L_M_text_211 LF (s38 201 1) 0 s39) fun s49 =>
        b0M (L_M_text_339 LF (s38 201 1) 0 s49) fun s53 =>
        if r32 ((s53 201 1) + 1) then
          bindM (st2 s53 201 1 ((s53 201 1) + 1)) fun s55 =>
          some (s38 201 1, s55)
        else none
      else none
    else
      some ((-1), s38)
set_option maxRecDepth 100000 in
set_option maxHeartbeats 4000000 in
theorem c_M_text  {σ : Mm} {a : Int} {σ2 : Mm} (hf : F_M_text  σ = some (a, σ2)) : CT yX11_text cX11_text 4 (some .int) 7 1 (fun ad => [.ref (ad 200)]) σ (r32 a) (some (.int (i32 a))) σ2 := by
  refine MetJ 3 (by decide +kernel) rfl (fun _ => Nat.le_of_ble_eq_true rfl) ?_
  intro X h hR ok
  obtain ⟨res, er⟩ : ∃ z, z = (a, σ2) := ⟨_, rfl⟩
  have hret : ∀ y : Int × Mm, some y = some res → RX X 1 (r32 (y.1)) (some (.int (i32 (y.1)))) y.2 := fun y e => by cases e; cases er; exact hR
  rw [← er] at hf
  clear er hR
  unfold F_M_text at hf
  show SW X 1 4 0 [some (.ref (xad X 200)), none, none, none] [] σ
  refine SW_aload_n h rfl (dt t_M_text 0 rfl) ?_
  refine gR h cf11 o200 f11_0 j200_0 lX11_7 (dt t_M_text 1 rfl) ?_
  refine SW_iconst h (dt t_M_text 2 rfl) ?_
  refine aIk h a201 (by decide) (dt t_M_text 3 rfl) ?_
  refine SW_iconst h (dt t_M_text 4 rfl) ?_
  refine SW_icmp_ne (tgt := 12) h (fun _ => (okI ok 201 1 (IsA.n3 a201 (by decide)))) (fun _ => (by decide)) (dt t_M_text 5 rfl) rfl hf (fun hf => ?_) (fun hf => ?_)
  · refine SW_iconst h (dt t_M_text 6 rfl) ?_
    exact SW_iret h (hret _ hf) (fun _ => (by decide)) rfl (dt t_M_text 7 rfl)
  · refine SW_aload_n h rfl (dt t_M_text 8 rfl) ?_
    refine SW_aload_n h rfl (dt t_M_text 9 rfl) ?_
    refine gI h cf11 o200 f11_3 lX11_164 (dt t_M_text 10 rfl) ?_
    refine pI h cf11 o200 f11_14 (okI ok 200 3 (IsO.n3 o200)) lX11_228 (dt t_M_text 11 rfl) (SW_bm hf (fun s2 ok2 hf => ?_))
    refine SW_aload_n h rfl (dt t_M_text 12 rfl) ?_
    refine SW_iconst h (dt t_M_text 13 rfl) ?_
    refine pI h cf11 o200 f11_3 (by decide) lX11_164 (dt t_M_text 14 rfl) (SW_bm hf (fun s4 ok4 hf => ?_))
    refine SW_aload_n h rfl (dt t_M_text 15 rfl) ?_
    refine SW_iconst h (dt t_M_text 16 rfl) ?_
    refine pI h cf11 o200 f11_15 (by decide) lX11_225 (dt t_M_text 17 rfl) (SW_bm hf (fun s6 ok6 hf => ?_))
    refine SW_aload_n h rfl (dt t_M_text 18 rfl) ?_
    refine SW_iconst h (dt t_M_text 19 rfl) ?_
    refine pI h cf11 o200 f11_19 (by decide) lX11_251 (dt t_M_text 20 rfl) (SW_bm hf (fun s8 ok8 hf => ?_))
    refine SW_aload_n h rfl (dt t_M_text 21 rfl) ?_
    refine SW_iconst h (dt t_M_text 22 rfl) ?_
    refine pI h cf11 o200 f11_20 (by decide) lX11_254 (dt t_M_text 23 rfl) (SW_bm hf (fun s10 ok10 hf => ?_))
    refine SW_aload_n h rfl (dt t_M_text 24 rfl) ?_
    refine SW_iconst h (dt t_M_text 25 rfl) ?_
    refine pI h cf11 o200 f11_21 (by decide) lX11_263 (dt t_M_text 26 rfl) (SW_bm hf (fun s12 ok12 hf => ?_))
    refine SW_aload_n h rfl (dt t_M_text 27 rfl) ?_
    refine SW_iconst h (dt t_M_text 28 rfl) ?_
    refine pI h cf11 o200 f11_22 (by decide) lX11_260 (dt t_M_text 29 rfl) (SW_bm hf (fun s14 ok14 hf => ?_))
    refine SW_aload_n h rfl (dt t_M_text 30 rfl) ?_
    refine SW_iconst h (dt t_M_text 31 rfl) ?_
    refine pI h cf11 o200 f11_25 (by decide) lX11_275 (dt t_M_text 32 rfl) (SW_bm hf (fun s16 ok16 hf => ?_))
    refine SW_aload_n h rfl (dt t_M_text 33 rfl) ?_
    refine SW_iconst h (dt t_M_text 34 rfl) ?_
    refine pI h cf11 o200 f11_28 (by decide) lX11_295 (dt t_M_text 35 rfl) (SW_bm hf (fun s18 ok18 hf => ?_))
    refine SW_aload_n h rfl (dt t_M_text 36 rfl) ?_
    refine SW_iconst h (dt t_M_text 37 rfl) ?_
    refine pI h cf11 o200 f11_29 (by decide) lX11_332 (dt t_M_text 38 rfl) (SW_bm hf (fun s20 ok20 hf => ?_))
    refine SW_aload_n h rfl (dt t_M_text 39 rfl) ?_
    refine SW_iconst h (dt t_M_text 40 rfl) ?_
    refine pI h cf11 o200 f11_36 (by decide) lX11_257 (dt t_M_text 41 rfl) (SW_bm hf (fun s22 ok22 hf => ?_))
    refine SW_aload_n h rfl (dt t_M_text 42 rfl) ?_
    obtain ⟨s23, e23, hf⟩ := b0M_of hf
    refine cVv h [] [] v_X11_next kX11_272 o200 (c_M_next  e23) rfl rfl (by decide) (by decide) rfl (Nat.le_of_ble_eq_true rfl) (dt t_M_text 43 rfl) (fun h23 => ?_)
    refine SW_ok (fun ok23 => ?_)
    obtain ⟨z34, e34, hk34⟩ := b0M_ex hf
    refine SW_fgt [true, false, false, false] rfl (l_M_text_74 h (fun s34 hz34 ok34 => ?_) LF s23 ok23 e34)
    have hf := hk34 s34 hz34
    refine SW_aload_n h rfl (dt t_M_text 72 rfl) ?_
    refine SW_aload_n h rfl (dt t_M_text 73 rfl) ?_
    refine gI h cf11 o200 f11_19 lX11_251 (dt t_M_text 74 rfl) ?_
    refine pI h cf11 o200 f11_4 (okI ok34 200 19 (IsO.n3 o200)) lX11_20 (dt t_M_text 75 rfl) (SW_bm hf (fun s36 ok36 hf => ?_))
    refine SW_aload_n h rfl (dt t_M_text 76 rfl) ?_
    refine SW_aload_n h rfl (dt t_M_text 77 rfl) ?_
    refine gI h cf11 o200 f11_20 lX11_254 (dt t_M_text 78 rfl) ?_
    refine pI h cf11 o200 f11_5 (okI ok36 200 20 (IsO.n3 o200)) lX11_24 (dt t_M_text 79 rfl) (SW_bm hf (fun s38 ok38 hf => ?_))
    refine SW_aload_n h rfl (dt t_M_text 80 rfl) ?_
    refine gI h cf11 o200 f11_19 lX11_251 (dt t_M_text 81 rfl) ?_
    refine SW_if_le (tgt := 192) h (fun _ => (okI ok38 200 19 (IsO.n3 o200))) (dt t_M_text 82 rfl) rfl hf (fun hf => ?_) (fun hf => ?_)
    · refine SW_aload_n h rfl (dt t_M_text 85 rfl) ?_
      refine gR h cf11 o200 f11_0 j200_0 lX11_7 (dt t_M_text 86 rfl) ?_
      refine SW_iconst h (dt t_M_text 87 rfl) ?_
      refine aIk h a201 (by decide) (dt t_M_text 88 rfl) ?_
      refine SW_istore_n (lv2 := [some (.ref (xad X 200)), some (.int (i32 (s38 201 1))), none, none]) h (dt t_M_text 89 rfl) (by decide) rfl ?_
      refine SW_aload_n h rfl (dt t_M_text 90 rfl) ?_
      refine gR h cf11 o200 f11_6 j200_6 lX11_27 (dt t_M_text 91 rfl) ?_
      refine SW_iload_n h rfl (dt t_M_text 92 rfl) ?_
      refine SW_aload_n h rfl (dt t_M_text 93 rfl) ?_
      refine gI h cf11 o200 f11_29 lX11_332 (dt t_M_text 94 rfl) ?_
      refine sI h a204 (okI ok38 200 29 (IsO.n3 o200)) (dt t_M_text 95 rfl) hf (fun hf => SW_bm hf (fun s39 ok39 hf => ?_))
      refine SW_iconst h (dt t_M_text 96 rfl) ?_
      refine SW_istore_n (lv2 := [some (.ref (xad X 200)), some (.int (i32 (s38 201 1))), some (.int (i32 0)), none]) h (dt t_M_text 97 rfl) (by decide) rfl ?_
      obtain ⟨z49, e49, hk49⟩ := b0M_ex hf
      refine SW_fgt [true, true, true, false] rfl (l_M_text_211 h (s38 201 1) (okI ok38 201 1 (IsA.n3 a201 (by decide))) (fun s49 hz49 ok49 => ?_) LF 0 s39 (by decide) ok39 e49)
      have hf := hk49 s49 hz49
      refine SW_iconst h (dt t_M_text 183 rfl) ?_
      refine SW_istore_n (lv2 := [some (.ref (xad X 200)), some (.int (i32 (s38 201 1))), some (.int (i32 0)), none]) h (dt t_M_text 184 rfl) (by decide) rfl ?_
      obtain ⟨z53, e53, hk53⟩ := b0M_ex hf
      refine SW_fgt [true, true, true, false] rfl (l_M_text_339 h (s38 201 1) (okI ok38 201 1 (IsA.n3 a201 (by decide))) (fun s53 hz53 ok53 => ?_) LF 0 s49 (by decide) ok49 e53)
      have hf := hk53 s53 hz53
      refine SW_aload_n h rfl (dt t_M_text 215 rfl) ?_
      refine gR h cf11 o200 f11_0 j200_0 lX11_7 (dt t_M_text 216 rfl) ?_
      refine SW_iconst h (dt t_M_text 217 rfl) ?_
      refine SW_dup2 h rfl rfl (dt t_M_text 218 rfl) ?_
      refine aIk h a201 (by decide) (dt t_M_text 219 rfl) ?_
      refine SW_iconst h (dt t_M_text 220 rfl) ?_
      refine SW_iadd h (dt t_M_text 221 rfl) ?_
      refine SW_chk hf (fun h54 hf => ?_)
      refine sIk h a201 (by decide) h54 (dt t_M_text 222 rfl) (SW_bm hf (fun s55 ok55 hf => ?_))
      refine SW_iload_n h rfl (dt t_M_text 223 rfl) ?_
      exact SW_iret h (hret _ hf) (fun _ => (okI ok38 201 1 (IsA.n3 a201 (by decide)))) rfl (dt t_M_text 224 rfl)
    · refine SW_iconst h (dt t_M_text 83 rfl) ?_
      exact SW_iret h (hret _ hf) (fun _ => (by decide)) rfl (dt t_M_text 84 rfl)
def b_M_undo : List (Nat × Instr × Nat) := [(0, .aload_n 0, 1), (1, .getfield 7, 3), (4, .iconst 3, 1), (5, .iaload, 1), (6, .ifCond .ne 5, 3), (9, .iconst (-1), 1), (10, .ireturn, 1), (11, .aload_n 0, 1), (12, .getfield 7, 3), (15, .iconst 3, 1), (16, .dup2, 1), (17, .iaload, 1), (18, .iconst 1, 1), (19, .isub, 1), (20, .iastore, 1), (21, .iconst 0, 1), (22, .istore_n 1, 1), (23, .iload_n 1, 1), (24, .sipush 164, 3), (27, .if_icmp .ge 40, 3), (30, .aload_n 0, 1), (31, .getfield 7, 3), (34, .sipush 140, 3), (37, .iload_n 1, 1), (38, .iadd, 1), (39, .aload_n 0, 1), (40, .getfield 7, 3), (43, .sipush 320, 3), (46, .sipush 164, 3), (49, .aload_n 0, 1), (50, .getfield 7, 3), (53, .iconst 3, 1), (54, .iaload, 1), (55, .imul, 1), (56, .iadd, 1), (57, .iload_n 1, 1), (58, .iadd, 1), (59, .iaload, 1), (60, .iastore, 1), (61, .iinc 1 1, 3), (64, .goto (-41), 3), (67, .aload_n 0, 1), (68, .getfield 7, 3), (71, .iconst 3, 1), (72, .iaload, 1), (73, .ireturn, 1)]
theorem t_M_undo : DT cX11_undo b_M_undo := DT.of (by decide +kernel)
def L_M_undo_23 : Nat → Int → Mm → Option (Mm)
  | 0, _, _ => none
  | n + 1, x1, σ =>
    if 164 ≤ x1 then
      some σ
    else
      if 0 ≤ (320 + (164 * (σ 201 3))) + x1 ∧ (320 + (164 * (σ 201 3))) + x1 < 5240 then
        if 0 ≤ 140 + x1 ∧ 140 + x1 < 5240 then
          bindM (st2 σ 201 ((140 + x1).toNat) (σ 201 (((320 + (164 * (σ 201 3))) + x1).toNat))) fun s3 =>
          if r32 (x1 + 1) then
            L_M_undo_23 n (x1 + 1) s3
          else none
        else none
      else none
set_option maxRecDepth 100000 in
set_option maxHeartbeats 4000000 in
theorem l_M_undo_23 {X : Cx} (h : CX X 1 cX11_undo 2 0 (some .int) RX11)   {res : Mm} (hex : ∀  (σ : Mm) (hz : some σ = some res)  (ok : okM σ), SW X 1 2 67 [some (.ref (xad X 200)), none] [] σ) : ∀ (n : Nat) (x1 : Int) (σ : Mm) (hx1 : r32 x1) (ok : okM σ) (hf : L_M_undo_23 n x1 σ = some res), SW X 1 2 23 [some (.ref (xad X 200)), some (.int (i32 x1))] [] σ := by
  intro n
  induction n with
  | zero => intro x1 σ hx1 ok hf; exact absurd hf (by simp [L_M_undo_23])
  | succ n ih =>
    intro x1 σ hx1 ok hf
    rw [L_M_undo_23] at hf
    refine SW_iload_n h rfl (dt t_M_undo 17 rfl) ?_
    refine SW_sipush h (dt t_M_undo 18 rfl) (by decide) ?_
    refine SW_icmp_ge (tgt := 67) h (fun _ => hx1) (fun _ => (by decide)) (dt t_M_undo 19 rfl) rfl hf (fun hf => ?_) (fun hf => ?_)
    · exact SW_fgt [true, false] rfl (hex σ hf ok)
    · refine SW_aload_n h rfl (dt t_M_undo 20 rfl) ?_
      refine gR h cf11 o200 f11_0 j200_0 lX11_7 (dt t_M_undo 21 rfl) ?_
      refine SW_sipush h (dt t_M_undo 22 rfl) (by decide) ?_
      refine SW_iload_n h rfl (dt t_M_undo 23 rfl) ?_
      refine SW_iadd h (dt t_M_undo 24 rfl) ?_
      refine SW_aload_n h rfl (dt t_M_undo 25 rfl) ?_
      refine gR h cf11 o200 f11_0 j200_0 lX11_7 (dt t_M_undo 26 rfl) ?_
      refine SW_sipush h (dt t_M_undo 27 rfl) (by decide) ?_
      refine SW_sipush h (dt t_M_undo 28 rfl) (by decide) ?_
      refine SW_aload_n h rfl (dt t_M_undo 29 rfl) ?_
      refine gR h cf11 o200 f11_0 j200_0 lX11_7 (dt t_M_undo 30 rfl) ?_
      refine SW_iconst h (dt t_M_undo 31 rfl) ?_
      refine aIk h a201 (by decide) (dt t_M_undo 32 rfl) ?_
      refine SW_imul h (dt t_M_undo 33 rfl) ?_
      refine SW_iadd h (dt t_M_undo 34 rfl) ?_
      refine SW_iload_n h rfl (dt t_M_undo 35 rfl) ?_
      refine SW_iadd h (dt t_M_undo 36 rfl) ?_
      refine aI h a201 (dt t_M_undo 37 rfl) hf (fun hf => ?_)
      refine sI h a201 (okI ok 201 (((320 + (164 * (σ 201 3))) + x1).toNat) (IsA.n3 a201 (by decide))) (dt t_M_undo 38 rfl) hf (fun hf => SW_bm hf (fun s3 ok3 hf => ?_))
      refine SW_iinc (lv2 := [some (.ref (xad X 200)), some (.int (i32 (x1 + 1)))]) h (dt t_M_undo 39 rfl) rfl (by decide) rfl ?_
      refine SW_goto (tgt := 23) h (dt t_M_undo 40 rfl) rfl ?_
      refine SW_chk hf (fun h4 hf => ?_)
      exact SW_fgt [true, true] rfl (ih (x1 + 1) s3 h4 ok3 hf)
def F_M_undo  (σ : Mm) : Option (Int × Mm) :=
  if σ 201 3 = 0 then
    some ((-1), σ)
  else
    if r32 ((σ 201 3) - 1) then
      bindM (st2 σ 201 3 ((σ 201 3) - 1)) fun s2 =>
      b0M (L_M_undo_23 LF 0 s2) fun s5 =>
      some (s5 201 3, s5)
    else none
set_option maxRecDepth 100000 in
set_option maxHeartbeats 4000000 in
theorem c_M_undo  {σ : Mm} {a : Int} {σ2 : Mm} (hf : F_M_undo  σ = some (a, σ2)) : CT yX11_undo cX11_undo 2 (some .int) 0 1 (fun ad => [.ref (ad 200)]) σ (r32 a) (some (.int (i32 a))) σ2 := by
  refine MetJ 1 (by decide +kernel) rfl (fun _ => Nat.le_of_ble_eq_true rfl) ?_
  intro X h hR ok
  obtain ⟨res, er⟩ : ∃ z, z = (a, σ2) := ⟨_, rfl⟩
  have hret : ∀ y : Int × Mm, some y = some res → RX X 1 (r32 (y.1)) (some (.int (i32 (y.1)))) y.2 := fun y e => by cases e; cases er; exact hR
  rw [← er] at hf
  clear er hR
  unfold F_M_undo at hf
  show SW X 1 2 0 [some (.ref (xad X 200)), none] [] σ
  refine SW_aload_n h rfl (dt t_M_undo 0 rfl) ?_
  refine gR h cf11 o200 f11_0 j200_0 lX11_7 (dt t_M_undo 1 rfl) ?_
  refine SW_iconst h (dt t_M_undo 2 rfl) ?_
  refine aIk h a201 (by decide) (dt t_M_undo 3 rfl) ?_
  refine SW_if_ne (tgt := 11) h (fun _ => (okI ok 201 3 (IsA.n3 a201 (by decide)))) (dt t_M_undo 4 rfl) rfl hf (fun hf => ?_) (fun hf => ?_)
  · refine SW_iconst h (dt t_M_undo 5 rfl) ?_
    exact SW_iret h (hret _ hf) (fun _ => (by decide)) rfl (dt t_M_undo 6 rfl)
  · refine SW_aload_n h rfl (dt t_M_undo 7 rfl) ?_
    refine gR h cf11 o200 f11_0 j200_0 lX11_7 (dt t_M_undo 8 rfl) ?_
    refine SW_iconst h (dt t_M_undo 9 rfl) ?_
    refine SW_dup2 h rfl rfl (dt t_M_undo 10 rfl) ?_
    refine aIk h a201 (by decide) (dt t_M_undo 11 rfl) ?_
    refine SW_iconst h (dt t_M_undo 12 rfl) ?_
    refine SW_isub h (dt t_M_undo 13 rfl) ?_
    refine SW_chk hf (fun h1 hf => ?_)
    refine sIk h a201 (by decide) h1 (dt t_M_undo 14 rfl) (SW_bm hf (fun s2 ok2 hf => ?_))
    refine SW_iconst h (dt t_M_undo 15 rfl) ?_
    refine SW_istore_n (lv2 := [some (.ref (xad X 200)), some (.int (i32 0))]) h (dt t_M_undo 16 rfl) (by decide) rfl ?_
    obtain ⟨z5, e5, hk5⟩ := b0M_ex hf
    refine SW_fgt [true, true] rfl (l_M_undo_23 h (fun s5 hz5 ok5 => ?_) LF 0 s2 (by decide) ok2 e5)
    have hf := hk5 s5 hz5
    refine SW_aload_n h rfl (dt t_M_undo 41 rfl) ?_
    refine gR h cf11 o200 f11_0 j200_0 lX11_7 (dt t_M_undo 42 rfl) ?_
    refine SW_iconst h (dt t_M_undo 43 rfl) ?_
    refine aIk h a201 (by decide) (dt t_M_undo 44 rfl) ?_
    exact SW_iret h (hret _ hf) (fun _ => (okI ok5 201 3 (IsA.n3 a201 (by decide)))) rfl (dt t_M_undo 45 rfl)
def b_M_worth : List (Nat × Instr × Nat) := [(0, .iload_n 1, 1), (1, .invokestatic 561, 3), (4, .ifCond .ne 7, 3), (7, .ldc_w 442, 3), (10, .ireturn, 1), (11, .aload_n 0, 1), (12, .invokevirtual 446, 3), (15, .iconst 0, 1), (16, .istore_n 2, 1), (17, .iconst 0, 1), (18, .istore_n 3, 1), (19, .iload_n 3, 1), (20, .bipush 6, 2), (22, .if_icmp .ge 34, 3), (25, .iload_n 2, 1), (26, .iload_n 3, 1), (27, .iload_n 1, 1), (28, .if_icmp .ne 7, 3), (31, .iconst 0, 1), (32, .goto 16, 3), (35, .aload_n 0, 1), (36, .iload_n 3, 1), (37, .iload_n 1, 1), (38, .invokevirtual 564, 3), (41, .aload_n 0, 1), (42, .iload_n 1, 1), (43, .iload_n 3, 1), (44, .invokevirtual 564, 3), (47, .isub, 1), (48, .iadd, 1), (49, .istore_n 2, 1), (50, .iinc 3 1, 3), (53, .goto (-34), 3), (56, .iload_n 2, 1), (57, .ireturn, 1)]
theorem t_M_worth : DT cX11_worth b_M_worth := DT.of (by decide +kernel)
def L_M_worth_19 : Nat → Int → Int → Int → Mm → Option (Int × Mm)
  | 0, _, _, _, _ => none
  | n + 1, x1, x2, x3, σ =>
    if 6 ≤ x3 then
      some ((x2, σ))
    else
      bindM (fun (y3 : Int) (t3 : Mm) =>
        if r32 (x2 + y3) then
          if r32 (x3 + 1) then
            L_M_worth_19 n x1 (x2 + y3) (x3 + 1) t3
          else none
        else none) fun J3 =>
      if x3 = x1 then
        J3 0 σ
      else
        b1M (F_M_owedBy x3 x1 σ) fun v6 s6 =>
        b1M (F_M_owedBy x1 x3 s6) fun v7 s7 =>
        if r32 (v6 - v7) then
          J3 (v6 - v7) s7
        else none
set_option maxRecDepth 100000 in
set_option maxHeartbeats 4000000 in
theorem l_M_worth_19 {X : Cx} (h : CX X 1 cX11_worth 4 7 (some .int) RX11) (x1 : Int) (hx1 : r32 x1) {res : Int × Mm} (hex : ∀ (x2 : Int) (σ : Mm) (hz : some ((x2, σ)) = some res) (hx2 : r32 x2) (ok : okM σ), SW X 1 4 56 [none, none, some (.int (i32 x2)), none] [] σ) : ∀ (n : Nat) (x2 : Int) (x3 : Int) (σ : Mm) (hx2 : r32 x2) (hx3 : r32 x3) (ok : okM σ) (hf : L_M_worth_19 n x1 x2 x3 σ = some res), SW X 1 4 19 [some (.ref (xad X 200)), some (.int (i32 x1)), some (.int (i32 x2)), some (.int (i32 x3))] [] σ := by
  intro n
  induction n with
  | zero => intro x2 x3 σ hx2 hx3 ok hf; exact absurd hf (by simp [L_M_worth_19])
  | succ n ih =>
    intro x2 x3 σ hx2 hx3 ok hf
    rw [L_M_worth_19] at hf
    refine SW_iload_n h rfl (dt t_M_worth 11 rfl) ?_
    refine SW_bipush h (dt t_M_worth 12 rfl) (by decide) ?_
    refine SW_icmp_ge (tgt := 56) h (fun _ => hx3) (fun _ => (by decide)) (dt t_M_worth 13 rfl) rfl hf (fun hf => ?_) (fun hf => ?_)
    · exact SW_fgt [false, false, true, false] rfl (hex x2 σ hf hx2 ok)
    · refine SW_iload_n h rfl (dt t_M_worth 14 rfl) ?_
      refine SW_iload_n h rfl (dt t_M_worth 15 rfl) ?_
      refine SW_iload_n h rfl (dt t_M_worth 16 rfl) ?_
      refine bJ hf (fun J3 e3 hf => ?_)
      have k3 : ∀ (y3 : Int) (t3 : Mm) (hy3 : r32 y3) (ot3 : okM t3) (hf : J3 y3 t3 = some res), SW X 1 4 48 [some (.ref (xad X 200)), some (.int (i32 x1)), none, some (.int (i32 x3))] [.int (i32 y3), .int (i32 x2)] t3 := by
        intro y3 t3 hy3 ot3 hf
        rw [e3] at hf
        refine SW_iadd h (dt t_M_worth 29 rfl) ?_
        refine SW_istore_n (lv2 := [some (.ref (xad X 200)), some (.int (i32 x1)), some (.int (i32 (x2 + y3))), some (.int (i32 x3))]) h (dt t_M_worth 30 rfl) (by decide) rfl ?_
        refine SW_iinc (lv2 := [some (.ref (xad X 200)), some (.int (i32 x1)), some (.int (i32 (x2 + y3))), some (.int (i32 (x3 + 1)))]) h (dt t_M_worth 31 rfl) rfl (by decide) rfl ?_
        refine SW_goto (tgt := 19) h (dt t_M_worth 32 rfl) rfl ?_
        refine SW_chk hf (fun h4 hf => ?_)
        refine SW_chk hf (fun h5 hf => ?_)
        exact SW_fgt [true, true, true, true] rfl (ih (x2 + y3) (x3 + 1) t3 h4 h5 ot3 hf)
      refine SW_icmp_ne (tgt := 35) h (fun _ => hx3) (fun _ => hx1) (dt t_M_worth 17 rfl) rfl hf (fun hf => ?_) (fun hf => ?_)
      · refine SW_iconst h (dt t_M_worth 18 rfl) ?_
        refine SW_goto (tgt := 48) h (dt t_M_worth 19 rfl) rfl ?_
        exact SW_fgt [true, true, false, true] rfl (k3 0 σ (by decide) ok hf)
      · refine SW_aload_n h rfl (dt t_M_worth 20 rfl) ?_
        refine SW_iload_n h rfl (dt t_M_worth 21 rfl) ?_
        refine SW_iload_n h rfl (dt t_M_worth 22 rfl) ?_
        obtain ⟨v6, s6, e6, hf⟩ := b1M_of hf
        refine cV h [.int (i32 x3), .int (i32 x1)] [.int (i32 x2)] v_X11_owedBy kX11_564 o200 (c_M_owedBy x3 hx3 x1 hx1 e6) rfl rfl (by decide) (by decide) rfl (Nat.le_of_ble_eq_true rfl) (dt t_M_worth 23 rfl) (fun h6 => ?_)
        refine SW_ok (fun ok6 => ?_)
        refine SW_aload_n h rfl (dt t_M_worth 24 rfl) ?_
        refine SW_iload_n h rfl (dt t_M_worth 25 rfl) ?_
        refine SW_iload_n h rfl (dt t_M_worth 26 rfl) ?_
        obtain ⟨v7, s7, e7, hf⟩ := b1M_of hf
        refine cV h [.int (i32 x1), .int (i32 x3)] [.int (i32 v6), .int (i32 x2)] v_X11_owedBy kX11_564 o200 (c_M_owedBy x1 hx1 x3 hx3 e7) rfl rfl (by decide) (by decide) rfl (Nat.le_of_ble_eq_true rfl) (dt t_M_worth 27 rfl) (fun h7 => ?_)
        refine SW_ok (fun ok7 => ?_)
        refine SW_isub h (dt t_M_worth 28 rfl) ?_
        refine SW_chk hf (fun h8 hf => ?_)
        exact SW_fgt [true, true, false, true] rfl (k3 (v6 - v7) s7 h8 ok7 hf)
def F_M_worth (x1 : Int) (σ : Mm) : Option (Int × Mm) :=
  b1 (F_M_isBank x1) fun v1 =>
  if v1 = 0 then
    some ((-1000000), σ)
  else
    b0M (F_M_laysNow  σ) fun s2 =>
    b1M (L_M_worth_19 LF x1 0 0 s2) fun x2_9 s9 =>
    some (x2_9, s9)
set_option maxRecDepth 100000 in
set_option maxHeartbeats 4000000 in
theorem c_M_worth (x1 : Int) (hx1 : r32 x1) {σ : Mm} {a : Int} {σ2 : Mm} (hf : F_M_worth x1 σ = some (a, σ2)) : CT yX11_worth cX11_worth 4 (some .int) 7 1 (fun ad => [.ref (ad 200), .int (i32 x1)]) σ (r32 a) (some (.int (i32 a))) σ2 := by
  refine MetJ 2 (by decide +kernel) rfl (fun _ => Nat.le_of_ble_eq_true rfl) ?_
  intro X h hR ok
  obtain ⟨res, er⟩ : ∃ z, z = (a, σ2) := ⟨_, rfl⟩
  have hret : ∀ y : Int × Mm, some y = some res → RX X 1 (r32 (y.1)) (some (.int (i32 (y.1)))) y.2 := fun y e => by cases e; cases er; exact hR
  rw [← er] at hf
  clear er hR
  unfold F_M_worth at hf
  show SW X 1 4 0 [some (.ref (xad X 200)), some (.int (i32 x1)), none, none] [] σ
  refine SW_iload_n h rfl (dt t_M_worth 0 rfl) ?_
  obtain ⟨v1, e1, hf⟩ := b1_of hf
  refine cS h [.int (i32 x1)] [] v_X11_isBank kX11_561 (c_M_isBank x1 hx1 e1) rfl rfl (by decide) (by decide) rfl (Nat.le_of_ble_eq_true rfl) (dt t_M_worth 1 rfl) (fun h1 => ?_)
  refine SW_if_ne (tgt := 11) h (fun _ => (r_zo h1)) (dt t_M_worth 2 rfl) rfl hf (fun hf => ?_) (fun hf => ?_)
  · refine SW_ldcw (n := -1000000) h nX11_442 (by decide) (dt t_M_worth 3 rfl) ?_
    exact SW_iret h (hret _ hf) (fun _ => (by decide)) rfl (dt t_M_worth 4 rfl)
  · refine SW_aload_n h rfl (dt t_M_worth 5 rfl) ?_
    obtain ⟨s2, e2, hf⟩ := b0M_of hf
    refine cVv h [] [] v_X11_laysNow kX11_446 o200 (c_M_laysNow  e2) rfl rfl (by decide) (by decide) rfl (Nat.le_of_ble_eq_true rfl) (dt t_M_worth 6 rfl) (fun h2 => ?_)
    refine SW_ok (fun ok2 => ?_)
    refine SW_iconst h (dt t_M_worth 7 rfl) ?_
    refine SW_istore_n (lv2 := [some (.ref (xad X 200)), some (.int (i32 x1)), some (.int (i32 0)), none]) h (dt t_M_worth 8 rfl) (by decide) rfl ?_
    refine SW_iconst h (dt t_M_worth 9 rfl) ?_
    refine SW_istore_n (lv2 := [some (.ref (xad X 200)), some (.int (i32 x1)), some (.int (i32 0)), some (.int (i32 0))]) h (dt t_M_worth 10 rfl) (by decide) rfl ?_
    obtain ⟨z9, e9, hk9⟩ := b1M_ex hf
    refine SW_fgt [true, true, true, true] rfl (l_M_worth_19 h x1 hx1 (fun x2_9 s9 hz9 hx2_9 ok9 => ?_) LF 0 0 s2 (by decide) (by decide) ok2 e9)
    have hf := hk9 x2_9 s9 hz9
    refine SW_iload_n h rfl (dt t_M_worth 33 rfl) ?_
    exact SW_iret h (hret _ hf) (fun _ => hx2_9) rfl (dt t_M_worth 34 rfl)
def b_M_year : List (Nat × Instr × Nat) := [(0, .iload_n 1, 1), (1, .iconst 0, 1), (2, .sipush 9999, 3), (5, .invokestatic 150, 3), (8, .ifCond .eq 13, 3), (11, .iload_n 2, 1), (12, .iconst 1, 1), (13, .bipush 30, 2), (15, .invokestatic 150, 3), (18, .ifCond .ne 5, 3), (21, .iconst (-1), 1), (22, .ireturn, 1), (23, .aload_n 0, 1), (24, .invokevirtual 443, 3), (27, .aload_n 0, 1), (28, .getfield 7, 3), (31, .sipush 182, 3), (34, .iload_n 1, 1), (35, .iconst 3, 1), (36, .imul, 1), (37, .bipush 53, 2), (39, .iadd, 1), (40, .iastore, 1), (41, .iconst 0, 1), (42, .istore_n 3, 1), (43, .iconst 0, 1), (44, .istore 4, 2), (46, .iload 4, 2), (48, .iload_n 2, 1), (49, .if_icmp .ge 16, 3), (52, .iload_n 3, 1), (53, .aload_n 0, 1), (54, .invokevirtual 472, 3), (57, .iadd, 1), (58, .istore_n 3, 1), (59, .iinc 4 1, 3), (62, .goto (-16), 3), (65, .iload_n 3, 1), (66, .ireturn, 1)]
theorem t_M_year : DT cX11_year b_M_year := DT.of (by decide +kernel)
def L_M_year_46 : Nat → Int → Int → Int → Mm → Option (Int × Mm)
  | 0, _, _, _, _ => none
  | n + 1, x2, x3, x4, σ =>
    if x2 ≤ x4 then
      some ((x3, σ))
    else
      b1M (F_M_happens  σ) fun v6 s6 =>
      if r32 (x3 + v6) then
        if r32 (x4 + 1) then
          L_M_year_46 n x2 (x3 + v6) (x4 + 1) s6
        else none
      else none
set_option maxRecDepth 100000 in
set_option maxHeartbeats 4000000 in
theorem l_M_year_46 {X : Cx} (h : CX X 1 cX11_year 5 10 (some .int) RX11) (x2 : Int) (hx2 : r32 x2) {res : Int × Mm} (hex : ∀ (x3 : Int) (σ : Mm) (hz : some ((x3, σ)) = some res) (hx3 : r32 x3) (ok : okM σ), SW X 1 5 65 [none, none, none, some (.int (i32 x3)), none] [] σ) : ∀ (n : Nat) (x3 : Int) (x4 : Int) (σ : Mm) (hx3 : r32 x3) (hx4 : r32 x4) (ok : okM σ) (hf : L_M_year_46 n x2 x3 x4 σ = some res), SW X 1 5 46 [some (.ref (xad X 200)), none, some (.int (i32 x2)), some (.int (i32 x3)), some (.int (i32 x4))] [] σ := by
  intro n
  induction n with
  | zero => intro x3 x4 σ hx3 hx4 ok hf; exact absurd hf (by simp [L_M_year_46])
  | succ n ih =>
    intro x3 x4 σ hx3 hx4 ok hf
    rw [L_M_year_46] at hf
    refine SW_iload h rfl (dt t_M_year 27 rfl) ?_
    refine SW_iload_n h rfl (dt t_M_year 28 rfl) ?_
    refine SW_icmp_ge (tgt := 65) h (fun _ => hx4) (fun _ => hx2) (dt t_M_year 29 rfl) rfl hf (fun hf => ?_) (fun hf => ?_)
    · exact SW_fgt [false, false, false, true, false] rfl (hex x3 σ hf hx3 ok)
    · refine SW_iload_n h rfl (dt t_M_year 30 rfl) ?_
      refine SW_aload_n h rfl (dt t_M_year 31 rfl) ?_
      obtain ⟨v6, s6, e6, hf⟩ := b1M_of hf
      refine cV h [] [.int (i32 x3)] v_X11_happens kX11_472 o200 (c_M_happens  e6) rfl rfl (by decide) (by decide) rfl (Nat.le_of_ble_eq_true rfl) (dt t_M_year 32 rfl) (fun h6 => ?_)
      refine SW_ok (fun ok6 => ?_)
      refine SW_iadd h (dt t_M_year 33 rfl) ?_
      refine SW_istore_n (lv2 := [some (.ref (xad X 200)), none, some (.int (i32 x2)), some (.int (i32 (x3 + v6))), some (.int (i32 x4))]) h (dt t_M_year 34 rfl) (by decide) rfl ?_
      refine SW_iinc (lv2 := [some (.ref (xad X 200)), none, some (.int (i32 x2)), some (.int (i32 (x3 + v6))), some (.int (i32 (x4 + 1)))]) h (dt t_M_year 35 rfl) rfl (by decide) rfl ?_
      refine SW_goto (tgt := 46) h (dt t_M_year 36 rfl) rfl ?_
      refine SW_chk hf (fun h7 hf => ?_)
      refine SW_chk hf (fun h8 hf => ?_)
      exact SW_fgt [true, false, true, true, true] rfl (ih (x3 + v6) (x4 + 1) s6 h7 h8 ok6 hf)
def F_M_year (x1 : Int) (x2 : Int) (σ : Mm) : Option (Int × Mm) :=
  b1 (F_M_in x1 0 9999) fun v1 =>
  if v1 = 0 then
    some ((-1), σ)
  else
    b1 (F_M_in x2 1 30) fun v2 =>
    if v2 = 0 then
      some ((-1), σ)
    else
      b0M (F_M_keepsStep  σ) fun s3 =>
      if r32 ((x1 * 3) + 53) then
        bindM (st2 s3 201 182 ((x1 * 3) + 53)) fun s5 =>
        b1M (L_M_year_46 LF x2 0 0 s5) fun x3_9 s9 =>
        some (x3_9, s9)
      else none
set_option maxRecDepth 100000 in
set_option maxHeartbeats 4000000 in
theorem c_M_year (x1 : Int) (hx1 : r32 x1) (x2 : Int) (hx2 : r32 x2) {σ : Mm} {a : Int} {σ2 : Mm} (hf : F_M_year x1 x2 σ = some (a, σ2)) : CT yX11_year cX11_year 5 (some .int) 10 1 (fun ad => [.ref (ad 200), .int (i32 x1), .int (i32 x2)]) σ (r32 a) (some (.int (i32 a))) σ2 := by
  refine MetJ 2 (by decide +kernel) rfl (fun _ => Nat.le_of_ble_eq_true rfl) ?_
  intro X h hR ok
  obtain ⟨res, er⟩ : ∃ z, z = (a, σ2) := ⟨_, rfl⟩
  have hret : ∀ y : Int × Mm, some y = some res → RX X 1 (r32 (y.1)) (some (.int (i32 (y.1)))) y.2 := fun y e => by cases e; cases er; exact hR
  rw [← er] at hf
  clear er hR
  unfold F_M_year at hf
  show SW X 1 5 0 [some (.ref (xad X 200)), some (.int (i32 x1)), some (.int (i32 x2)), none, none] [] σ
  refine SW_iload_n h rfl (dt t_M_year 0 rfl) ?_
  refine SW_iconst h (dt t_M_year 1 rfl) ?_
  refine SW_sipush h (dt t_M_year 2 rfl) (by decide) ?_
  obtain ⟨v1, e1, hf⟩ := b1_of hf
  refine cS h [.int (i32 x1), .int (i32 0), .int (i32 9999)] [] v_X11_in kX11_150 (c_M_in x1 hx1 0 (by decide) 9999 (by decide) e1) rfl rfl (by decide) (by decide) rfl (Nat.le_of_ble_eq_true rfl) (dt t_M_year 3 rfl) (fun h1 => ?_)
  refine SW_if_eq (tgt := 21) h (fun _ => (r_zo h1)) (dt t_M_year 4 rfl) rfl hf (fun hf => ?_) (fun hf => ?_)
  · refine SW_iconst h (dt t_M_year 10 rfl) ?_
    exact SW_iret h (hret _ hf) (fun _ => (by decide)) rfl (dt t_M_year 11 rfl)
  · refine SW_iload_n h rfl (dt t_M_year 5 rfl) ?_
    refine SW_iconst h (dt t_M_year 6 rfl) ?_
    refine SW_bipush h (dt t_M_year 7 rfl) (by decide) ?_
    obtain ⟨v2, e2, hf⟩ := b1_of hf
    refine cS h [.int (i32 x2), .int (i32 1), .int (i32 30)] [] v_X11_in kX11_150 (c_M_in x2 hx2 1 (by decide) 30 (by decide) e2) rfl rfl (by decide) (by decide) rfl (Nat.le_of_ble_eq_true rfl) (dt t_M_year 8 rfl) (fun h2 => ?_)
    refine SW_if_ne (tgt := 23) h (fun _ => (r_zo h2)) (dt t_M_year 9 rfl) rfl hf (fun hf => ?_) (fun hf => ?_)
    · refine SW_iconst h (dt t_M_year 10 rfl) ?_
      exact SW_iret h (hret _ hf) (fun _ => (by decide)) rfl (dt t_M_year 11 rfl)
    · refine SW_aload_n h rfl (dt t_M_year 12 rfl) ?_
      obtain ⟨s3, e3, hf⟩ := b0M_of hf
      refine cVv h [] [] v_X11_keepsStep kX11_443 o200 (c_M_keepsStep  e3) rfl rfl (by decide) (by decide) rfl (Nat.le_of_ble_eq_true rfl) (dt t_M_year 13 rfl) (fun h3 => ?_)
      refine SW_ok (fun ok3 => ?_)
      refine SW_aload_n h rfl (dt t_M_year 14 rfl) ?_
      refine gR h cf11 o200 f11_0 j200_0 lX11_7 (dt t_M_year 15 rfl) ?_
      refine SW_sipush h (dt t_M_year 16 rfl) (by decide) ?_
      refine SW_iload_n h rfl (dt t_M_year 17 rfl) ?_
      refine SW_iconst h (dt t_M_year 18 rfl) ?_
      refine SW_imul h (dt t_M_year 19 rfl) ?_
      refine SW_bipush h (dt t_M_year 20 rfl) (by decide) ?_
      refine SW_iadd h (dt t_M_year 21 rfl) ?_
      refine SW_chk hf (fun h4 hf => ?_)
      refine sIk h a201 (by decide) h4 (dt t_M_year 22 rfl) (SW_bm hf (fun s5 ok5 hf => ?_))
      refine SW_iconst h (dt t_M_year 23 rfl) ?_
      refine SW_istore_n (lv2 := [some (.ref (xad X 200)), some (.int (i32 x1)), some (.int (i32 x2)), some (.int (i32 0)), none]) h (dt t_M_year 24 rfl) (by decide) rfl ?_
      refine SW_iconst h (dt t_M_year 25 rfl) ?_
      refine SW_istore (lv2 := [some (.ref (xad X 200)), some (.int (i32 x1)), some (.int (i32 x2)), some (.int (i32 0)), some (.int (i32 0))]) h (dt t_M_year 26 rfl) (by decide) rfl ?_
      obtain ⟨z9, e9, hk9⟩ := b1M_ex hf
      refine SW_fgt [true, false, true, true, true] rfl (l_M_year_46 h x2 hx2 (fun x3_9 s9 hz9 hx3_9 ok9 => ?_) LF 0 0 s5 (by decide) (by decide) ok5 e9)
      have hf := hk9 x3_9 s9 hz9
      refine SW_iload_n h rfl (dt t_M_year 37 rfl) ?_
      exact SW_iret h (hret _ hf) (fun _ => hx3_9) rfl (dt t_M_year 38 rfl)
