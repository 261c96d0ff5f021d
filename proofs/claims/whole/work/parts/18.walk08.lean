def b_R_takeToken : List (Nat × Instr × Nat) := [(0, .aload_n 0, 1), (1, .getfield 47, 3), (4, .iload_n 1, 1), (5, .if_icmp .eq 11, 3), (8, .aload_n 0, 1), (9, .iconst 1, 1), (10, .invokevirtual 92, 3), (13, .pop, 1), (14, .iconst 0, 1), (15, .ireturn, 1), (16, .aload_n 0, 1), (17, .invokevirtual 44, 3), (20, .iconst 1, 1), (21, .ireturn, 1)]
theorem t_R_takeToken : DT cX5_takeToken b_R_takeToken := DT.of (by decide +kernel)
def F_R_takeToken (x1 : Int) (σ : Mm) : Option (Int × Mm) :=
  if σ 90 7 = x1 then
    b0M (F_R_step  σ) fun s1 =>
    some (1, s1)
  else
    b1M (F_R_fail 1 σ) fun v2 s2 =>
    some (0, s2)
set_option maxRecDepth 100000 in
set_option maxHeartbeats 4000000 in
theorem c_R_takeToken (x1 : Int) (hx1 : r32 x1) {σ : Mm} {a : Int} {σ2 : Mm} (hf : F_R_takeToken x1 σ = some (a, σ2)) : CT yX5_takeToken cX5_takeToken 2 (some .boolean) 10 0 (fun ad => [.ref (ad 90), .int (i32 x1)]) σ (a = 0 ∨ a = 1) (some (.int (i32 a))) σ2 := by
  refine MetJ 0 (by decide +kernel) rfl (fun _ => Nat.le_of_ble_eq_true rfl) ?_
  intro X h hR ok
  obtain ⟨res, er⟩ : ∃ z, z = (a, σ2) := ⟨_, rfl⟩
  have hret : ∀ y : Int × Mm, some y = some res → RX X 0 (y.1 = 0 ∨ y.1 = 1) (some (.int (i32 (y.1)))) y.2 := fun y e => by cases e; cases er; exact hR
  rw [← er] at hf
  clear er hR
  unfold F_R_takeToken at hf
  show SW X 0 2 0 [some (.ref (xad X 90)), some (.int (i32 x1))] [] σ
  refine SW_aload_n h rfl (dt t_R_takeToken 0 rfl) ?_
  refine gI h cf5 o90 f5_7 lX5_47 (dt t_R_takeToken 1 rfl) ?_
  refine SW_iload_n h rfl (dt t_R_takeToken 2 rfl) ?_
  refine SW_icmp_eq (tgt := 16) h (fun _ => (okI ok 90 7 (IsO.n3 o90))) (fun _ => hx1) (dt t_R_takeToken 3 rfl) rfl hf (fun hf => ?_) (fun hf => ?_)
  · refine SW_aload_n h rfl (dt t_R_takeToken 10 rfl) ?_
    obtain ⟨s1, e1, hf⟩ := b0M_of hf
    refine cVv h [] [] v_X5_step kX5_44 o90 (c_R_step  e1) rfl rfl (by decide) (by decide) rfl (Nat.le_of_ble_eq_true rfl) (dt t_R_takeToken 11 rfl) (fun h1 => ?_)
    refine SW_ok (fun ok1 => ?_)
    refine SW_iconst h (dt t_R_takeToken 12 rfl) ?_
    exact SW_zret h (hret _ hf) (by decide) rfl (dt t_R_takeToken 13 rfl)
  · refine SW_aload_n h rfl (dt t_R_takeToken 4 rfl) ?_
    refine SW_iconst h (dt t_R_takeToken 5 rfl) ?_
    obtain ⟨v2, s2, e2, hf⟩ := b1M_of hf
    refine cV h [.int (i32 1)] [] v_X5_fail kX5_92 o90 (c_R_fail 1 (by decide) e2) rfl rfl (by decide) (by decide) rfl (Nat.le_of_ble_eq_true rfl) (dt t_R_takeToken 6 rfl) (fun h2 => ?_)
    refine SW_ok (fun ok2 => ?_)
    refine SW_pop h rfl (dt t_R_takeToken 7 rfl) ?_
    refine SW_iconst h (dt t_R_takeToken 8 rfl) ?_
    exact SW_zret h (hret _ hf) (by decide) rfl (dt t_R_takeToken 9 rfl)
def b_R_readRow : List (Nat × Instr × Nat) := [(0, .iconst 0, 1), (1, .istore_n 1, 1), (2, .aload_n 0, 1), (3, .getfield 47, 3), (6, .bipush 45, 2), (8, .if_icmp .ne 9, 3), (11, .iconst 1, 1), (12, .istore_n 1, 1), (13, .aload_n 0, 1), (14, .invokevirtual 44, 3), (17, .iconst 0, 1), (18, .istore_n 2, 1), (19, .iload_n 2, 1), (20, .iconst 4, 1), (21, .if_icmp .gt 99, 3), (24, .aload_n 0, 1), (25, .getfield 47, 3), (28, .iconst 2, 1), (29, .if_icmp .ne 26, 3), (32, .aload_n 0, 1), (33, .getfield 60, 3), (36, .sipush 9999, 3), (39, .if_icmp .gt 16, 3), (42, .iload_n 2, 1), (43, .iconst 4, 1), (44, .if_icmp .ne 11, 3), (47, .aload_n 0, 1), (48, .bipush 7, 2), (50, .invokevirtual 92, 3), (53, .pop, 1), (54, .return_, 1), (55, .aload_n 0, 1), (56, .iconst 1, 1), (57, .iload_n 2, 1), (58, .iadd, 1), (59, .iconst 0, 1), (60, .sipush 9999, 3), (63, .invokevirtual 119, 3), (66, .ifCond .ne 4, 3), (69, .return_, 1), (70, .aload_n 0, 1), (71, .getfield 47, 3), (74, .bipush 43, 2), (76, .if_icmp .eq 15, 3), (79, .aload_n 0, 1), (80, .getfield 47, 3), (83, .bipush 45, 2), (85, .if_icmp .eq 6, 3), (88, .goto 32, 3), (91, .iload_n 1, 1), (92, .aload_n 0, 1), (93, .getfield 47, 3), (96, .bipush 45, 2), (98, .if_icmp .ne 9, 3), (101, .iconst 2, 1), (102, .iload_n 2, 1), (103, .ishl, 1), (104, .goto 4, 3), (107, .iconst 0, 1), (108, .ior, 1), (109, .istore_n 1, 1), (110, .aload_n 0, 1), (111, .invokevirtual 44, 3), (114, .iinc 2 1, 3), (117, .goto (-98), 3), (120, .aload_n 0, 1), (121, .getfield 22, 3), (124, .iconst 5, 1), (125, .iload_n 1, 1), (126, .invokevirtual 115, 3), (129, .aload_n 0, 1), (130, .bipush 59, 2), (132, .invokevirtual 123, 3), (135, .pop, 1), (136, .return_, 1)]
theorem t_R_readRow : DT cX5_readRow b_R_readRow := DT.of (by decide +kernel)
def L_R_readRow_19 : Nat → Int → Int → Mm → Option ((Mm) ⊕ (Int × Mm))
  | 0, _, _, _ => none
  | n + 1, x1, x2, σ =>
    if 4 < x2 then
      some (.inr ((x1, σ)))
    else
      bindM (
        if r32 (1 + x2) then
          b1M (F_R_takeNumber (1 + x2) 0 9999 σ) fun v3 s3 =>
          if v3 = 0 then
            some (.inl s3)
          else
            bindM (
              bindM (fun (y6 : Int) =>
                b0M (F_R_step  s3) fun s7 =>
                if r32 (x2 + 1) then
                  L_R_readRow_19 n (ior x1 y6) (x2 + 1) s7
                else none) fun J6 =>
              if s3 90 7 = 45 then
                J6 (ishl 2 x2)
              else
                J6 0) fun J5 =>
            if s3 90 7 = 43 then
              J5
            else
              if s3 90 7 = 45 then
                J5
              else
                some (.inr ((x1, s3)))
        else none) fun J2 =>
      if σ 90 7 = 2 then
        if 9999 < σ 90 8 then
          J2
        else
          if x2 = 4 then
            b1M (F_R_fail 7 σ) fun v9 s9 =>
            some (.inl s9)
          else
            J2
      else
        J2
set_option maxRecDepth 100000 in
set_option maxHeartbeats 4000000 in
theorem l_R_readRow_19 {X : Cx} (h : CX X 0 cX5_readRow 3 11 none RX5)   {res : (Mm) ⊕ (Int × Mm)} (hret : ∀ y : Mm, some (.inl y) = some res → RX X 0 True none y) (hex : ∀ (x1 : Int) (σ : Mm) (hz : some (.inr ((x1, σ))) = some res) (hx1 : r32 x1) (ok : okM σ), SW X 0 3 120 [some (.ref (xad X 90)), some (.int (i32 x1)), none] [] σ) : ∀ (n : Nat) (x1 : Int) (x2 : Int) (σ : Mm) (hx1 : r32 x1) (hx2 : r32 x2) (ok : okM σ) (hf : L_R_readRow_19 n x1 x2 σ = some res), SW X 0 3 19 [some (.ref (xad X 90)), some (.int (i32 x1)), some (.int (i32 x2))] [] σ := by
  intro n
  induction n with
  | zero => intro x1 x2 σ hx1 hx2 ok hf; exact absurd hf (by simp [L_R_readRow_19])
  | succ n ih =>
    intro x1 x2 σ hx1 hx2 ok hf
    rw [L_R_readRow_19] at hf
    refine SW_iload_n h rfl (dt t_R_readRow 12 rfl) ?_
    refine SW_iconst h (dt t_R_readRow 13 rfl) ?_
    refine SW_icmp_gt (tgt := 120) h (fun _ => hx2) (fun _ => (by decide)) (dt t_R_readRow 14 rfl) rfl hf (fun hf => ?_) (fun hf => ?_)
    · exact SW_fgt [true, true, false] rfl (hex x1 σ hf hx1 ok)
    · refine SW_aload_n h rfl (dt t_R_readRow 15 rfl) ?_
      refine gI h cf5 o90 f5_7 lX5_47 (dt t_R_readRow 16 rfl) ?_
      refine SW_iconst h (dt t_R_readRow 17 rfl) ?_
      refine bJ hf (fun J2 e2 hf => ?_)
      have k2 : ∀ (hf : J2 = some res), SW X 0 3 55 [some (.ref (xad X 90)), some (.int (i32 x1)), some (.int (i32 x2))] [] σ := by
        intro hf
        rw [e2] at hf
        refine SW_aload_n h rfl (dt t_R_readRow 31 rfl) ?_
        refine SW_iconst h (dt t_R_readRow 32 rfl) ?_
        refine SW_iload_n h rfl (dt t_R_readRow 33 rfl) ?_
        refine SW_iadd h (dt t_R_readRow 34 rfl) ?_
        refine SW_iconst h (dt t_R_readRow 35 rfl) ?_
        refine SW_sipush h (dt t_R_readRow 36 rfl) (by decide) ?_
        refine SW_chk hf (fun h4 hf => ?_)
        obtain ⟨v3, s3, e3, hf⟩ := b1M_of hf
        refine cV h [.int (i32 (1 + x2)), .int (i32 0), .int (i32 9999)] [] v_X5_takeNumber kX5_119 o90 (c_R_takeNumber (1 + x2) h4 0 (by decide) 9999 (by decide) e3) rfl rfl (by decide) (by decide) rfl (Nat.le_of_ble_eq_true rfl) (dt t_R_readRow 37 rfl) (fun h3 => ?_)
        refine SW_ok (fun ok3 => ?_)
        refine SW_if_ne (tgt := 70) h (fun _ => (r_zo h3)) (dt t_R_readRow 38 rfl) rfl hf (fun hf => ?_) (fun hf => ?_)
        · exact SW_vret h (hret _ hf) rfl (dt t_R_readRow 39 rfl)
        · refine SW_aload_n h rfl (dt t_R_readRow 40 rfl) ?_
          refine gI h cf5 o90 f5_7 lX5_47 (dt t_R_readRow 41 rfl) ?_
          refine SW_bipush h (dt t_R_readRow 42 rfl) (by decide) ?_
          refine bJ hf (fun J5 e5 hf => ?_)
          have k5 : ∀ (hf : J5 = some res), SW X 0 3 91 [some (.ref (xad X 90)), some (.int (i32 x1)), some (.int (i32 x2))] [] s3 := by
            intro hf
            rw [e5] at hf
            refine SW_iload_n h rfl (dt t_R_readRow 49 rfl) ?_
            refine SW_aload_n h rfl (dt t_R_readRow 50 rfl) ?_
            refine gI h cf5 o90 f5_7 lX5_47 (dt t_R_readRow 51 rfl) ?_
            refine SW_bipush h (dt t_R_readRow 52 rfl) (by decide) ?_
            refine bJ hf (fun J6 e6 hf => ?_)
            have k6 : ∀ (y6 : Int) (hy6 : r32 y6) (hf : J6 y6 = some res), SW X 0 3 108 [some (.ref (xad X 90)), none, some (.int (i32 x2))] [.int (i32 y6), .int (i32 x1)] s3 := by
              intro y6 hy6 hf
              rw [e6] at hf
              refine SW_ior h (dt t_R_readRow 59 rfl) ?_
              refine SW_istore_n (lv2 := [some (.ref (xad X 90)), some (.int (i32 (ior x1 y6))), some (.int (i32 x2))]) h (dt t_R_readRow 60 rfl) (by decide) rfl ?_
              refine SW_aload_n h rfl (dt t_R_readRow 61 rfl) ?_
              obtain ⟨s7, e7, hf⟩ := b0M_of hf
              refine cVv h [] [] v_X5_step kX5_44 o90 (c_R_step  e7) rfl rfl (by decide) (by decide) rfl (Nat.le_of_ble_eq_true rfl) (dt t_R_readRow 62 rfl) (fun h7 => ?_)
              refine SW_ok (fun ok7 => ?_)
              refine SW_iinc (lv2 := [some (.ref (xad X 90)), some (.int (i32 (ior x1 y6))), some (.int (i32 (x2 + 1)))]) h (dt t_R_readRow 63 rfl) rfl (by decide) rfl ?_
              refine SW_goto (tgt := 19) h (dt t_R_readRow 64 rfl) rfl ?_
              refine SW_chk hf (fun h8 hf => ?_)
              exact SW_fgt [true, true, true] rfl (ih (ior x1 y6) (x2 + 1) s7 (r_ior _ _) h8 ok7 hf)
            refine SW_icmp_ne (tgt := 107) h (fun _ => (okI ok3 90 7 (IsO.n3 o90))) (fun _ => (by decide)) (dt t_R_readRow 53 rfl) rfl hf (fun hf => ?_) (fun hf => ?_)
            · refine SW_iconst h (dt t_R_readRow 54 rfl) ?_
              refine SW_iload_n h rfl (dt t_R_readRow 55 rfl) ?_
              refine SW_ishl h (dt t_R_readRow 56 rfl) ?_
              refine SW_goto (tgt := 108) h (dt t_R_readRow 57 rfl) rfl ?_
              exact SW_fgt [true, false, true] rfl (k6 (ishl 2 x2) (r_ishl _ _) hf)
            · refine SW_iconst h (dt t_R_readRow 58 rfl) ?_
              exact SW_fgt [true, false, true] rfl (k6 0 (by decide) hf)
          refine SW_icmp_eq (tgt := 91) h (fun _ => (okI ok3 90 7 (IsO.n3 o90))) (fun _ => (by decide)) (dt t_R_readRow 43 rfl) rfl hf (fun hf => ?_) (fun hf => ?_)
          · exact SW_fgt [true, true, true] rfl (k5 hf)
          · refine SW_aload_n h rfl (dt t_R_readRow 44 rfl) ?_
            refine gI h cf5 o90 f5_7 lX5_47 (dt t_R_readRow 45 rfl) ?_
            refine SW_bipush h (dt t_R_readRow 46 rfl) (by decide) ?_
            refine SW_icmp_eq (tgt := 91) h (fun _ => (okI ok3 90 7 (IsO.n3 o90))) (fun _ => (by decide)) (dt t_R_readRow 47 rfl) rfl hf (fun hf => ?_) (fun hf => ?_)
            · exact SW_fgt [true, true, true] rfl (k5 hf)
            · refine SW_goto (tgt := 120) h (dt t_R_readRow 48 rfl) rfl ?_
              exact SW_fgt [true, true, false] rfl (hex x1 s3 hf hx1 ok3)
      refine SW_icmp_ne (tgt := 55) h (fun _ => (okI ok 90 7 (IsO.n3 o90))) (fun _ => (by decide)) (dt t_R_readRow 18 rfl) rfl hf (fun hf => ?_) (fun hf => ?_)
      · refine SW_aload_n h rfl (dt t_R_readRow 19 rfl) ?_
        refine gI h cf5 o90 f5_8 lX5_60 (dt t_R_readRow 20 rfl) ?_
        refine SW_sipush h (dt t_R_readRow 21 rfl) (by decide) ?_
        refine SW_icmp_gt (tgt := 55) h (fun _ => (okI ok 90 8 (IsO.n3 o90))) (fun _ => (by decide)) (dt t_R_readRow 22 rfl) rfl hf (fun hf => ?_) (fun hf => ?_)
        · exact SW_fgt [true, true, true] rfl (k2 hf)
        · refine SW_iload_n h rfl (dt t_R_readRow 23 rfl) ?_
          refine SW_iconst h (dt t_R_readRow 24 rfl) ?_
          refine SW_icmp_ne (tgt := 55) h (fun _ => hx2) (fun _ => (by decide)) (dt t_R_readRow 25 rfl) rfl hf (fun hf => ?_) (fun hf => ?_)
          · refine SW_aload_n h rfl (dt t_R_readRow 26 rfl) ?_
            refine SW_bipush h (dt t_R_readRow 27 rfl) (by decide) ?_
            obtain ⟨v9, s9, e9, hf⟩ := b1M_of hf
            refine cV h [.int (i32 7)] [] v_X5_fail kX5_92 o90 (c_R_fail 7 (by decide) e9) rfl rfl (by decide) (by decide) rfl (Nat.le_of_ble_eq_true rfl) (dt t_R_readRow 28 rfl) (fun h9 => ?_)
            refine SW_ok (fun ok9 => ?_)
            refine SW_pop h rfl (dt t_R_readRow 29 rfl) ?_
            exact SW_vret h (hret _ hf) rfl (dt t_R_readRow 30 rfl)
          · exact SW_fgt [true, true, true] rfl (k2 hf)
      · exact SW_fgt [true, true, true] rfl (k2 hf)
def F_R_readRow  (σ : Mm) : Option (Mm) :=
  bindM (fun (x1_1 : Int) (t1 : Mm) =>
    b1MS (L_R_readRow_19 LF x1_1 0 t1) (fun y => some y) fun x1_10 s10 =>
    if 0 ≤ s10 90 15 ∧ IsO 0 9 (s10 90 15).toNat then
      b0M (F_T_put ((s10 90 15).toNat) 5 x1_10 s10) fun s12 =>
      b1M (F_R_takeToken 59 s12) fun v13 s13 =>
      some s13
    else none) fun J1 =>
  if σ 90 7 = 45 then
    b0M (F_R_step  σ) fun s14 =>
    J1 1 s14
  else
    J1 0 σ
set_option maxRecDepth 100000 in
set_option maxHeartbeats 4000000 in
theorem c_R_readRow  {σ : Mm} {σ2 : Mm} (hf : F_R_readRow  σ = some σ2) : CT yX5_readRow cX5_readRow 3 none 11 0 (fun ad => [.ref (ad 90)]) σ True none σ2 := by
  refine MetJ 2 (by decide +kernel) rfl (fun _ => Nat.le_of_ble_eq_true rfl) ?_
  intro X h hR ok
  obtain ⟨res, er⟩ : ∃ z, z = σ2 := ⟨_, rfl⟩
  have hret : ∀ y : Mm, some y = some res → RX X 0 True none y := fun y e => by cases e; cases er; exact hR
  rw [← er] at hf
  clear er hR
  unfold F_R_readRow at hf
  show SW X 0 3 0 [some (.ref (xad X 90)), none, none] [] σ
  refine SW_iconst h (dt t_R_readRow 0 rfl) ?_
  refine SW_istore_n (lv2 := [some (.ref (xad X 90)), some (.int (i32 0)), none]) h (dt t_R_readRow 1 rfl) (by decide) rfl ?_
  refine SW_aload_n h rfl (dt t_R_readRow 2 rfl) ?_
  refine gI h cf5 o90 f5_7 lX5_47 (dt t_R_readRow 3 rfl) ?_
  refine SW_bipush h (dt t_R_readRow 4 rfl) (by decide) ?_
  refine bJ hf (fun J1 e1 hf => ?_)
  have k1 : ∀ (x1_1 : Int) (t1 : Mm) (hx1_1 : r32 x1_1) (ot1 : okM t1) (hf : J1 x1_1 t1 = some res), SW X 0 3 17 [some (.ref (xad X 90)), some (.int (i32 x1_1)), none] [] t1 := by
    intro x1_1 t1 hx1_1 ot1 hf
    rw [e1] at hf
    refine SW_iconst h (dt t_R_readRow 10 rfl) ?_
    refine SW_istore_n (lv2 := [some (.ref (xad X 90)), some (.int (i32 x1_1)), some (.int (i32 0))]) h (dt t_R_readRow 11 rfl) (by decide) rfl ?_
    obtain ⟨z10, e10, g10, hk10⟩ := b1MS_of hf
    refine SW_fgt [true, true, true] rfl (l_R_readRow_19 h (fun y e => hret y (g10 y (Option.some.inj e).symm)) (fun x1_10 s10 hz10 hx1_10 ok10 => ?_) LF x1_1 0 t1 hx1_1 (by decide) ot1 e10)
    have hf := hk10 x1_10 s10 (Option.some.inj hz10).symm
    refine SW_aload_n h rfl (dt t_R_readRow 65 rfl) ?_
    refine gD h cf5 o90 f5_15 lX5_22 (dt t_R_readRow 66 rfl) ?_
    refine SW_isO hf (fun h11 hf => ?_)
    refine SW_iconst h (dt t_R_readRow 67 rfl) ?_
    refine SW_iload_n h rfl (dt t_R_readRow 68 rfl) ?_
    obtain ⟨s12, e12, hf⟩ := b0M_of hf
    refine cVv h [.int (i32 5), .int (i32 x1_10)] [] v_X9_put kX5_115 h11 (c_T_put ((s10 90 15).toNat) h11 5 (by decide) x1_10 hx1_10 e12) rfl rfl (by decide) (by decide) rfl (Nat.le_of_ble_eq_true rfl) (dt t_R_readRow 69 rfl) (fun h12 => ?_)
    refine SW_ok (fun ok12 => ?_)
    refine SW_aload_n h rfl (dt t_R_readRow 70 rfl) ?_
    refine SW_bipush h (dt t_R_readRow 71 rfl) (by decide) ?_
    obtain ⟨v13, s13, e13, hf⟩ := b1M_of hf
    refine cV h [.int (i32 59)] [] v_X5_takeToken kX5_123 o90 (c_R_takeToken 59 (by decide) e13) rfl rfl (by decide) (by decide) rfl (Nat.le_of_ble_eq_true rfl) (dt t_R_readRow 72 rfl) (fun h13 => ?_)
    refine SW_ok (fun ok13 => ?_)
    refine SW_pop h rfl (dt t_R_readRow 73 rfl) ?_
    exact SW_vret h (hret _ hf) rfl (dt t_R_readRow 74 rfl)
  refine SW_icmp_ne (tgt := 17) h (fun _ => (okI ok 90 7 (IsO.n3 o90))) (fun _ => (by decide)) (dt t_R_readRow 5 rfl) rfl hf (fun hf => ?_) (fun hf => ?_)
  · refine SW_iconst h (dt t_R_readRow 6 rfl) ?_
    refine SW_istore_n (lv2 := [some (.ref (xad X 90)), some (.int (i32 1)), none]) h (dt t_R_readRow 7 rfl) (by decide) rfl ?_
    refine SW_aload_n h rfl (dt t_R_readRow 8 rfl) ?_
    obtain ⟨s14, e14, hf⟩ := b0M_of hf
    refine cVv h [] [] v_X5_step kX5_44 o90 (c_R_step  e14) rfl rfl (by decide) (by decide) rfl (Nat.le_of_ble_eq_true rfl) (dt t_R_readRow 9 rfl) (fun h14 => ?_)
    refine SW_ok (fun ok14 => ?_)
    exact SW_fgt [true, true, false] rfl (k1 1 s14 (by decide) ok14 hf)
  · exact SW_fgt [true, true, false] rfl (k1 0 σ (by decide) ok hf)
def b_R_readOrder : List (Nat × Instr × Nat) := [(0, .aload_n 0, 1), (1, .iconst 1, 1), (2, .iload_n 1, 1), (3, .iload_n 2, 1), (4, .invokevirtual 119, 3), (7, .istore 4, 2), (9, .iload 4, 2), (11, .ifCond .eq 33, 3), (14, .iload_n 3, 1), (15, .iconst (-1), 1), (16, .if_icmp .eq 28, 3), (19, .aload_n 0, 1), (20, .iload_n 3, 1), (21, .invokevirtual 123, 3), (24, .ifCond .eq 17, 3), (27, .aload_n 0, 1), (28, .iconst 2, 1), (29, .iload_n 1, 1), (30, .iload_n 2, 1), (31, .invokevirtual 119, 3), (34, .ifCond .eq 7, 3), (37, .iconst 1, 1), (38, .goto 4, 3), (41, .iconst 0, 1), (42, .istore 4, 2), (44, .iload 4, 2), (46, .ifCond .eq 10, 3), (49, .aload_n 0, 1), (50, .bipush 59, 2), (52, .invokevirtual 123, 3), (55, .pop, 1), (56, .return_, 1)]
theorem t_R_readOrder : DT cX5_readOrder b_R_readOrder := DT.of (by decide +kernel)
def F_R_readOrder (x1 : Int) (x2 : Int) (x3 : Int) (σ : Mm) : Option (Mm) :=
  b1M (F_R_takeNumber 1 x1 x2 σ) fun v1 s1 =>
  bindM (fun (x4_2 : Int) (t2 : Mm) =>
    if x4_2 = 0 then
      some t2
    else
      b1M (F_R_takeToken 59 t2) fun v3 s3 =>
      some s3) fun J2 =>
  if v1 = 0 then
    J2 v1 s1
  else
    if x3 = (-1) then
      J2 v1 s1
    else
      b1M (F_R_takeToken x3 s1) fun v4 s4 =>
      bindM (fun (y5 : Int) (t5 : Mm) =>
        J2 y5 t5) fun J5 =>
      bindM (fun  (t6 : Mm) =>
        J5 0 t6) fun J6 =>
      if v4 = 0 then
        J6 s4
      else
        b1M (F_R_takeNumber 2 x1 x2 s4) fun v7 s7 =>
        if v7 = 0 then
          J6 s7
        else
          J5 1 s7
set_option maxRecDepth 100000 in
set_option maxHeartbeats 4000000 in
theorem c_R_readOrder (x1 : Int) (hx1 : r32 x1) (x2 : Int) (hx2 : r32 x2) (x3 : Int) (hx3 : r32 x3) {σ : Mm} {σ2 : Mm} (hf : F_R_readOrder x1 x2 x3 σ = some σ2) : CT yX5_readOrder cX5_readOrder 5 none 11 0 (fun ad => [.ref (ad 90), .int (i32 x1), .int (i32 x2), .int (i32 x3)]) σ True none σ2 := by
  refine MetJ 1 (by decide +kernel) rfl (fun _ => Nat.le_of_ble_eq_true rfl) ?_
  intro X h hR ok
  obtain ⟨res, er⟩ : ∃ z, z = σ2 := ⟨_, rfl⟩
  have hret : ∀ y : Mm, some y = some res → RX X 0 True none y := fun y e => by cases e; cases er; exact hR
  rw [← er] at hf
  clear er hR
  unfold F_R_readOrder at hf
  show SW X 0 5 0 [some (.ref (xad X 90)), some (.int (i32 x1)), some (.int (i32 x2)), some (.int (i32 x3)), none] [] σ
  refine SW_aload_n h rfl (dt t_R_readOrder 0 rfl) ?_
  refine SW_iconst h (dt t_R_readOrder 1 rfl) ?_
  refine SW_iload_n h rfl (dt t_R_readOrder 2 rfl) ?_
  refine SW_iload_n h rfl (dt t_R_readOrder 3 rfl) ?_
  obtain ⟨v1, s1, e1, hf⟩ := b1M_of hf
  refine cV h [.int (i32 1), .int (i32 x1), .int (i32 x2)] [] v_X5_takeNumber kX5_119 o90 (c_R_takeNumber 1 (by decide) x1 hx1 x2 hx2 e1) rfl rfl (by decide) (by decide) rfl (Nat.le_of_ble_eq_true rfl) (dt t_R_readOrder 4 rfl) (fun h1 => ?_)
  refine SW_ok (fun ok1 => ?_)
  refine SW_istore (lv2 := [some (.ref (xad X 90)), some (.int (i32 x1)), some (.int (i32 x2)), some (.int (i32 x3)), some (.int (i32 v1))]) h (dt t_R_readOrder 5 rfl) (by decide) rfl ?_
  refine SW_iload h rfl (dt t_R_readOrder 6 rfl) ?_
  refine bJ hf (fun J2 e2 hf => ?_)
  have k2 : ∀ (x4_2 : Int) (t2 : Mm) (hx4_2 : r32 x4_2) (ot2 : okM t2) (hf : J2 x4_2 t2 = some res), SW X 0 5 44 [some (.ref (xad X 90)), none, none, none, some (.int (i32 x4_2))] [] t2 := by
    intro x4_2 t2 hx4_2 ot2 hf
    rw [e2] at hf
    refine SW_iload h rfl (dt t_R_readOrder 25 rfl) ?_
    refine SW_if_eq (tgt := 56) h (fun _ => hx4_2) (dt t_R_readOrder 26 rfl) rfl hf (fun hf => ?_) (fun hf => ?_)
    · exact SW_vret h (hret _ hf) rfl (dt t_R_readOrder 31 rfl)
    · refine SW_aload_n h rfl (dt t_R_readOrder 27 rfl) ?_
      refine SW_bipush h (dt t_R_readOrder 28 rfl) (by decide) ?_
      obtain ⟨v3, s3, e3, hf⟩ := b1M_of hf
      refine cV h [.int (i32 59)] [] v_X5_takeToken kX5_123 o90 (c_R_takeToken 59 (by decide) e3) rfl rfl (by decide) (by decide) rfl (Nat.le_of_ble_eq_true rfl) (dt t_R_readOrder 29 rfl) (fun h3 => ?_)
      refine SW_ok (fun ok3 => ?_)
      refine SW_pop h rfl (dt t_R_readOrder 30 rfl) ?_
      exact SW_vret h (hret _ hf) rfl (dt t_R_readOrder 31 rfl)
  refine SW_if_eq (tgt := 44) h (fun _ => (r_zo h1)) (dt t_R_readOrder 7 rfl) rfl hf (fun hf => ?_) (fun hf => ?_)
  · exact SW_fgt [true, false, false, false, true] rfl (k2 v1 s1 (r_zo h1) ok1 hf)
  · refine SW_iload_n h rfl (dt t_R_readOrder 8 rfl) ?_
    refine SW_iconst h (dt t_R_readOrder 9 rfl) ?_
    refine SW_icmp_eq (tgt := 44) h (fun _ => hx3) (fun _ => (by decide)) (dt t_R_readOrder 10 rfl) rfl hf (fun hf => ?_) (fun hf => ?_)
    · exact SW_fgt [true, false, false, false, true] rfl (k2 v1 s1 (r_zo h1) ok1 hf)
    · refine SW_aload_n h rfl (dt t_R_readOrder 11 rfl) ?_
      refine SW_iload_n h rfl (dt t_R_readOrder 12 rfl) ?_
      obtain ⟨v4, s4, e4, hf⟩ := b1M_of hf
      refine cV h [.int (i32 x3)] [] v_X5_takeToken kX5_123 o90 (c_R_takeToken x3 hx3 e4) rfl rfl (by decide) (by decide) rfl (Nat.le_of_ble_eq_true rfl) (dt t_R_readOrder 13 rfl) (fun h4 => ?_)
      refine SW_ok (fun ok4 => ?_)
      refine bJ hf (fun J5 e5 hf => ?_)
      have k5 : ∀ (y5 : Int) (t5 : Mm) (hy5 : r32 y5) (ot5 : okM t5) (hf : J5 y5 t5 = some res), SW X 0 5 42 [some (.ref (xad X 90)), none, none, none, none] [.int (i32 y5)] t5 := by
        intro y5 t5 hy5 ot5 hf
        rw [e5] at hf
        refine SW_istore (lv2 := [some (.ref (xad X 90)), none, none, none, some (.int (i32 y5))]) h (dt t_R_readOrder 24 rfl) (by decide) rfl ?_
        exact SW_fgt [true, false, false, false, true] rfl (k2 y5 t5 hy5 ot5 hf)
      refine bJ hf (fun J6 e6 hf => ?_)
      have k6 : ∀  (t6 : Mm)  (ot6 : okM t6) (hf : J6 t6 = some res), SW X 0 5 41 [some (.ref (xad X 90)), none, none, none, none] [] t6 := by
        intro t6 ot6 hf
        rw [e6] at hf
        refine SW_iconst h (dt t_R_readOrder 23 rfl) ?_
        exact SW_fgt [true, false, false, false, false] rfl (k5 0 t6 (by decide) ot6 hf)
      refine SW_if_eq (tgt := 41) h (fun _ => (r_zo h4)) (dt t_R_readOrder 14 rfl) rfl hf (fun hf => ?_) (fun hf => ?_)
      · exact SW_fgt [true, false, false, false, false] rfl (k6 s4 ok4 hf)
      · refine SW_aload_n h rfl (dt t_R_readOrder 15 rfl) ?_
        refine SW_iconst h (dt t_R_readOrder 16 rfl) ?_
        refine SW_iload_n h rfl (dt t_R_readOrder 17 rfl) ?_
        refine SW_iload_n h rfl (dt t_R_readOrder 18 rfl) ?_
        obtain ⟨v7, s7, e7, hf⟩ := b1M_of hf
        refine cV h [.int (i32 2), .int (i32 x1), .int (i32 x2)] [] v_X5_takeNumber kX5_119 o90 (c_R_takeNumber 2 (by decide) x1 hx1 x2 hx2 e7) rfl rfl (by decide) (by decide) rfl (Nat.le_of_ble_eq_true rfl) (dt t_R_readOrder 19 rfl) (fun h7 => ?_)
        refine SW_ok (fun ok7 => ?_)
        refine SW_if_eq (tgt := 41) h (fun _ => (r_zo h7)) (dt t_R_readOrder 20 rfl) rfl hf (fun hf => ?_) (fun hf => ?_)
        · exact SW_fgt [true, false, false, false, false] rfl (k6 s7 ok7 hf)
        · refine SW_iconst h (dt t_R_readOrder 21 rfl) ?_
          refine SW_goto (tgt := 42) h (dt t_R_readOrder 22 rfl) rfl ?_
          exact SW_fgt [true, false, false, false, false] rfl (k5 1 s7 (by decide) ok7 hf)
def b_T_emit : List (Nat × Instr × Nat) := [(0, .aload_n 0, 1), (1, .getfield 24, 3), (4, .aload_n 0, 1), (5, .getfield 9, 3), (8, .arraylength, 1), (9, .if_icmp .ge 23, 3), (12, .aload_n 0, 1), (13, .getfield 9, 3), (16, .aload_n 0, 1), (17, .getfield 24, 3), (20, .iload_n 1, 1), (21, .iastore, 1), (22, .aload_n 0, 1), (23, .dup, 1), (24, .getfield 24, 3), (27, .iconst 1, 1), (28, .iadd, 1), (29, .putfield 24, 3), (32, .return_, 1)]
theorem t_T_emit : DT cX9_emit b_T_emit := DT.of (by decide +kernel)
def F_T_emit (r0 : Nat) (x1 : Int) (σ : Mm) : Option (Mm) :=
  if ((300 : Nat) : Int) ≤ σ r0 4 then
    some σ
  else
    if 0 ≤ σ r0 4 ∧ σ r0 4 < 300 then
      bindM (st2 σ (r0 + 4) ((σ r0 4).toNat) x1) fun s1 =>
      if r32 ((s1 r0 4) + 1) then
        bindM (st2 s1 r0 4 ((s1 r0 4) + 1)) fun s4 =>
        some s4
      else none
    else none
set_option maxRecDepth 100000 in
set_option maxHeartbeats 4000000 in
theorem c_T_emit (r0 : Nat) (q0 : IsO 0 9 r0) (x1 : Int) (hx1 : r32 x1) {σ : Mm} {σ2 : Mm} (hf : F_T_emit r0 x1 σ = some σ2) : CT yX9_emit cX9_emit 2 none 0 0 (fun ad => [.ref (ad r0), .int (i32 x1)]) σ True none σ2 := by
  refine MetJ 0 (by decide +kernel) rfl (fun _ => Nat.le_of_ble_eq_true rfl) ?_
  intro X h hR ok
  obtain ⟨res, er⟩ : ∃ z, z = σ2 := ⟨_, rfl⟩
  have hret : ∀ y : Mm, some y = some res → RX X 0 True none y := fun y e => by cases e; cases er; exact hR
  rw [← er] at hf
  clear er hR
  unfold F_T_emit at hf
  show SW X 0 2 0 [some (.ref (xad X r0)), some (.int (i32 x1))] [] σ
  refine SW_aload_n h rfl (dt t_T_emit 0 rfl) ?_
  refine gI h cf9 q0 f9_4 lX9_24 (dt t_T_emit 1 rfl) ?_
  refine SW_aload_n h rfl (dt t_T_emit 2 rfl) ?_
  refine gR h cf9 q0 f9_0 (dy9_0 q0).1 lX9_9 (dt t_T_emit 3 rfl) ?_
  refine aLen h (by decide) (dy9_0 q0).2 (dt t_T_emit 4 rfl) ?_
  refine SW_icmp_ge (tgt := 32) h (fun _ => (okI ok r0 4 (IsO.n3 q0))) (fun _ => (by decide)) (dt t_T_emit 5 rfl) rfl hf (fun hf => ?_) (fun hf => ?_)
  · exact SW_vret h (hret _ hf) rfl (dt t_T_emit 18 rfl)
  · refine SW_aload_n h rfl (dt t_T_emit 6 rfl) ?_
    refine gR h cf9 q0 f9_0 (dy9_0 q0).1 lX9_9 (dt t_T_emit 7 rfl) ?_
    refine SW_aload_n h rfl (dt t_T_emit 8 rfl) ?_
    refine gI h cf9 q0 f9_4 lX9_24 (dt t_T_emit 9 rfl) ?_
    refine SW_iload_n h rfl (dt t_T_emit 10 rfl) ?_
    refine sI h (dy9_0 q0).2 hx1 (dt t_T_emit 11 rfl) hf (fun hf => SW_bm hf (fun s1 ok1 hf => ?_))
    refine SW_aload_n h rfl (dt t_T_emit 12 rfl) ?_
    refine SW_dup h rfl (dt t_T_emit 13 rfl) ?_
    refine gI h cf9 q0 f9_4 lX9_24 (dt t_T_emit 14 rfl) ?_
    refine SW_iconst h (dt t_T_emit 15 rfl) ?_
    refine SW_iadd h (dt t_T_emit 16 rfl) ?_
    refine SW_chk hf (fun h3 hf => ?_)
    refine pI h cf9 q0 f9_4 h3 lX9_24 (dt t_T_emit 17 rfl) (SW_bm hf (fun s4 ok4 hf => ?_))
    exact SW_vret h (hret _ hf) rfl (dt t_T_emit 18 rfl)
def b_R_outer : List (Nat × Instr × Nat) := [(0, .aload_n 0, 1), (1, .getfield 129, 3), (4, .ifCond .le 17, 3), (7, .aload_n 0, 1), (8, .getfield 15, 3), (11, .aload_n 0, 1), (12, .getfield 129, 3), (15, .iconst 1, 1), (16, .isub, 1), (17, .iaload, 1), (18, .goto 4, 3), (21, .iconst (-1), 1), (22, .ireturn, 1)]
theorem t_R_outer : DT cX5_outer b_R_outer := DT.of (by decide +kernel)
def F_R_outer  (σ : Mm) : Option (Int) :=
  if σ 90 10 ≤ 0 then
    some ((-1))
  else
    if 0 ≤ (σ 90 10) - 1 ∧ (σ 90 10) - 1 < 300 then
      some (σ 92 (((σ 90 10) - 1).toNat))
    else none
set_option maxRecDepth 100000 in
set_option maxHeartbeats 4000000 in
theorem c_R_outer  {σ : Mm} {a : Int} (hf : F_R_outer  σ = some a) : CT yX5_outer cX5_outer 1 (some .int) 0 0 (fun ad => [.ref (ad 90)]) σ (r32 a) (some (.int (i32 a))) σ := by
  refine MetJ 0 (by decide +kernel) rfl (fun _ => Nat.le_of_ble_eq_true rfl) ?_
  intro X h hR ok
  obtain ⟨res, er⟩ : ∃ z, z = a := ⟨_, rfl⟩
  have hret : ∀ y : Int, some y = some res → RX X 0 (r32 (y)) (some (.int (i32 (y)))) σ := fun y e => by cases e; cases er; exact hR
  rw [← er] at hf
  clear er hR
  unfold F_R_outer at hf
  show SW X 0 1 0 [some (.ref (xad X 90))] [] σ
  refine SW_aload_n h rfl (dt t_R_outer 0 rfl) ?_
  refine gI h cf5 o90 f5_10 lX5_129 (dt t_R_outer 1 rfl) ?_
  refine SW_if_le (tgt := 21) h (fun _ => (okI ok 90 10 (IsO.n3 o90))) (dt t_R_outer 2 rfl) rfl hf (fun hf => ?_) (fun hf => ?_)
  · refine SW_iconst h (dt t_R_outer 11 rfl) ?_
    exact SW_iret h (hret _ hf) (fun _ => (by decide)) rfl (dt t_R_outer 12 rfl)
  · refine SW_aload_n h rfl (dt t_R_outer 3 rfl) ?_
    refine gR h cf5 o90 f5_9 j90_9 lX5_15 (dt t_R_outer 4 rfl) ?_
    refine SW_aload_n h rfl (dt t_R_outer 5 rfl) ?_
    refine gI h cf5 o90 f5_10 lX5_129 (dt t_R_outer 6 rfl) ?_
    refine SW_iconst h (dt t_R_outer 7 rfl) ?_
    refine SW_isub h (dt t_R_outer 8 rfl) ?_
    refine aI h a92 (dt t_R_outer 9 rfl) hf (fun hf => ?_)
    refine SW_goto (tgt := 22) h (dt t_R_outer 10 rfl) rfl ?_
    exact SW_iret h (hret _ hf) (fun _ => (okI ok 92 (((σ 90 10) - 1).toNat) (IsA.n3 a92 (by decide)))) rfl (dt t_R_outer 12 rfl)
def b_R_openingBy : List (Nat × Instr × Nat) := [(0, .aload_n 0, 1), (1, .getfield 47, 3), (4, .bipush 40, 2), (6, .if_icmp .ne 7, 3), (9, .sipush 20017, 3), (12, .ireturn, 1), (13, .aload_n 0, 1), (14, .getfield 47, 3), (17, .bipush 45, 2), (19, .if_icmp .ne 7, 3), (22, .sipush 20015, 3), (25, .ireturn, 1), (26, .iload_n 1, 1), (27, .bipush 13, 2), (29, .if_icmp .ne 7, 3), (32, .sipush 20018, 3), (35, .ireturn, 1), (36, .iload_n 1, 1), (37, .bipush 14, 2), (39, .if_icmp .ne 7, 3), (42, .sipush 20019, 3), (45, .ireturn, 1), (46, .aload_n 0, 1), (47, .invokevirtual 168, 3), (50, .istore_n 2, 1), (51, .iload_n 2, 1), (52, .iconst (-1), 1), (53, .if_icmp .eq 24, 3), (56, .iload_n 2, 1), (57, .sipush 20011, 3), (60, .if_icmp .eq 17, 3), (63, .iload_n 2, 1), (64, .sipush 20012, 3), (67, .if_icmp .eq 10, 3), (70, .iload_n 2, 1), (71, .sipush 20016, 3), (74, .if_icmp .ne 7, 3), (77, .iconst 1, 1), (78, .goto 4, 3), (81, .iconst 0, 1), (82, .istore_n 3, 1), (83, .iload_n 1, 1), (84, .bipush 12, 2), (86, .if_icmp .ne 20, 3), (89, .aload_n 0, 1), (90, .getfield 126, 3), (93, .ifCond .ne 13, 3), (96, .iload_n 3, 1), (97, .ifCond .eq 9, 3), (100, .sipush 20016, 3), (103, .goto 4, 3), (106, .iconst (-1), 1), (107, .ireturn, 1)]
theorem t_R_openingBy : DT cX5_openingBy b_R_openingBy := DT.of (by decide +kernel)
def F_R_openingBy (x1 : Int) (σ : Mm) : Option (Int) :=
  if σ 90 7 = 40 then
    some 20017
  else
    if σ 90 7 = 45 then
      some 20015
    else
      if x1 = 13 then
        some 20018
      else
        if x1 = 14 then
          some 20019
        else
          b1 (F_R_outer  σ) fun v1 =>
          bindM (fun (y2 : Int) =>
            if x1 = 12 then
              if σ 90 14 = 0 then
                if y2 = 0 then
                  some ((-1))
                else
                  some 20016
              else
                some ((-1))
            else
              some ((-1))) fun J2 =>
          bindM (
            J2 1) fun J3 =>
          if v1 = (-1) then
            J3
          else
            if v1 = 20011 then
              J3
            else
              if v1 = 20012 then
                J3
              else
                if v1 = 20016 then
                  J3
                else
                  J2 0
set_option maxRecDepth 100000 in
set_option maxHeartbeats 4000000 in
theorem c_R_openingBy (x1 : Int) (hx1 : r32 x1) {σ : Mm} {a : Int} (hf : F_R_openingBy x1 σ = some a) : CT yX5_openingBy cX5_openingBy 4 (some .int) 1 0 (fun ad => [.ref (ad 90), .int (i32 x1)]) σ (r32 a) (some (.int (i32 a))) σ := by
  refine MetJ 2 (by decide +kernel) rfl (fun _ => Nat.le_of_ble_eq_true rfl) ?_
  intro X h hR ok
  obtain ⟨res, er⟩ : ∃ z, z = a := ⟨_, rfl⟩
  have hret : ∀ y : Int, some y = some res → RX X 0 (r32 (y)) (some (.int (i32 (y)))) σ := fun y e => by cases e; cases er; exact hR
  rw [← er] at hf
  clear er hR
  unfold F_R_openingBy at hf
  show SW X 0 4 0 [some (.ref (xad X 90)), some (.int (i32 x1)), none, none] [] σ
  refine SW_aload_n h rfl (dt t_R_openingBy 0 rfl) ?_
  refine gI h cf5 o90 f5_7 lX5_47 (dt t_R_openingBy 1 rfl) ?_
  refine SW_bipush h (dt t_R_openingBy 2 rfl) (by decide) ?_
  refine SW_icmp_ne (tgt := 13) h (fun _ => (okI ok 90 7 (IsO.n3 o90))) (fun _ => (by decide)) (dt t_R_openingBy 3 rfl) rfl hf (fun hf => ?_) (fun hf => ?_)
  · refine SW_sipush h (dt t_R_openingBy 4 rfl) (by decide) ?_
    exact SW_iret h (hret _ hf) (fun _ => (by decide)) rfl (dt t_R_openingBy 5 rfl)
  · refine SW_aload_n h rfl (dt t_R_openingBy 6 rfl) ?_
    refine gI h cf5 o90 f5_7 lX5_47 (dt t_R_openingBy 7 rfl) ?_
    refine SW_bipush h (dt t_R_openingBy 8 rfl) (by decide) ?_
    refine SW_icmp_ne (tgt := 26) h (fun _ => (okI ok 90 7 (IsO.n3 o90))) (fun _ => (by decide)) (dt t_R_openingBy 9 rfl) rfl hf (fun hf => ?_) (fun hf => ?_)
    · refine SW_sipush h (dt t_R_openingBy 10 rfl) (by decide) ?_
      exact SW_iret h (hret _ hf) (fun _ => (by decide)) rfl (dt t_R_openingBy 11 rfl)
    · refine SW_iload_n h rfl (dt t_R_openingBy 12 rfl) ?_
      refine SW_bipush h (dt t_R_openingBy 13 rfl) (by decide) ?_
      refine SW_icmp_ne (tgt := 36) h (fun _ => hx1) (fun _ => (by decide)) (dt t_R_openingBy 14 rfl) rfl hf (fun hf => ?_) (fun hf => ?_)
      · refine SW_sipush h (dt t_R_openingBy 15 rfl) (by decide) ?_
        exact SW_iret h (hret _ hf) (fun _ => (by decide)) rfl (dt t_R_openingBy 16 rfl)
      · refine SW_iload_n h rfl (dt t_R_openingBy 17 rfl) ?_
        refine SW_bipush h (dt t_R_openingBy 18 rfl) (by decide) ?_
        refine SW_icmp_ne (tgt := 46) h (fun _ => hx1) (fun _ => (by decide)) (dt t_R_openingBy 19 rfl) rfl hf (fun hf => ?_) (fun hf => ?_)
        · refine SW_sipush h (dt t_R_openingBy 20 rfl) (by decide) ?_
          exact SW_iret h (hret _ hf) (fun _ => (by decide)) rfl (dt t_R_openingBy 21 rfl)
        · refine SW_aload_n h rfl (dt t_R_openingBy 22 rfl) ?_
          obtain ⟨v1, e1, hf⟩ := b1_of hf
          refine cV h [] [] v_X5_outer kX5_168 o90 (c_R_outer  e1) rfl rfl (by decide) (by decide) rfl (Nat.le_of_ble_eq_true rfl) (dt t_R_openingBy 23 rfl) (fun h1 => ?_)
          refine SW_istore_n (lv2 := [some (.ref (xad X 90)), some (.int (i32 x1)), some (.int (i32 v1)), none]) h (dt t_R_openingBy 24 rfl) (by decide) rfl ?_
          refine SW_iload_n h rfl (dt t_R_openingBy 25 rfl) ?_
          refine SW_iconst h (dt t_R_openingBy 26 rfl) ?_
          refine bJ hf (fun J2 e2 hf => ?_)
          have k2 : ∀ (y2 : Int) (hy2 : r32 y2) (hf : J2 y2 = some res), SW X 0 4 82 [some (.ref (xad X 90)), some (.int (i32 x1)), none, none] [.int (i32 y2)] σ := by
            intro y2 hy2 hf
            rw [e2] at hf
            refine SW_istore_n (lv2 := [some (.ref (xad X 90)), some (.int (i32 x1)), none, some (.int (i32 y2))]) h (dt t_R_openingBy 40 rfl) (by decide) rfl ?_
            refine SW_iload_n h rfl (dt t_R_openingBy 41 rfl) ?_
            refine SW_bipush h (dt t_R_openingBy 42 rfl) (by decide) ?_
            refine SW_icmp_ne (tgt := 106) h (fun _ => hx1) (fun _ => (by decide)) (dt t_R_openingBy 43 rfl) rfl hf (fun hf => ?_) (fun hf => ?_)
            · refine SW_aload_n h rfl (dt t_R_openingBy 44 rfl) ?_
              refine gI h cf5 o90 f5_14 lX5_126 (dt t_R_openingBy 45 rfl) ?_
              refine SW_if_ne (tgt := 106) h (fun _ => (okI ok 90 14 (IsO.n3 o90))) (dt t_R_openingBy 46 rfl) rfl hf (fun hf => ?_) (fun hf => ?_)
              · refine SW_iload_n h rfl (dt t_R_openingBy 47 rfl) ?_
                refine SW_if_eq (tgt := 106) h (fun _ => hy2) (dt t_R_openingBy 48 rfl) rfl hf (fun hf => ?_) (fun hf => ?_)
                · refine SW_iconst h (dt t_R_openingBy 51 rfl) ?_
                  exact SW_iret h (hret _ hf) (fun _ => (by decide)) rfl (dt t_R_openingBy 52 rfl)
                · refine SW_sipush h (dt t_R_openingBy 49 rfl) (by decide) ?_
                  refine SW_goto (tgt := 107) h (dt t_R_openingBy 50 rfl) rfl ?_
                  exact SW_iret h (hret _ hf) (fun _ => (by decide)) rfl (dt t_R_openingBy 52 rfl)
              · refine SW_iconst h (dt t_R_openingBy 51 rfl) ?_
                exact SW_iret h (hret _ hf) (fun _ => (by decide)) rfl (dt t_R_openingBy 52 rfl)
            · refine SW_iconst h (dt t_R_openingBy 51 rfl) ?_
              exact SW_iret h (hret _ hf) (fun _ => (by decide)) rfl (dt t_R_openingBy 52 rfl)
          refine bJ hf (fun J3 e3 hf => ?_)
          have k3 : ∀ (hf : J3 = some res), SW X 0 4 77 [some (.ref (xad X 90)), some (.int (i32 x1)), none, none] [] σ := by
            intro hf
            rw [e3] at hf
            refine SW_iconst h (dt t_R_openingBy 37 rfl) ?_
            refine SW_goto (tgt := 82) h (dt t_R_openingBy 38 rfl) rfl ?_
            exact SW_fgt [true, true, false, false] rfl (k2 1 (by decide) hf)
          refine SW_icmp_eq (tgt := 77) h (fun _ => h1) (fun _ => (by decide)) (dt t_R_openingBy 27 rfl) rfl hf (fun hf => ?_) (fun hf => ?_)
          · exact SW_fgt [true, true, false, false] rfl (k3 hf)
          · refine SW_iload_n h rfl (dt t_R_openingBy 28 rfl) ?_
            refine SW_sipush h (dt t_R_openingBy 29 rfl) (by decide) ?_
            refine SW_icmp_eq (tgt := 77) h (fun _ => h1) (fun _ => (by decide)) (dt t_R_openingBy 30 rfl) rfl hf (fun hf => ?_) (fun hf => ?_)
            · exact SW_fgt [true, true, false, false] rfl (k3 hf)
            · refine SW_iload_n h rfl (dt t_R_openingBy 31 rfl) ?_
              refine SW_sipush h (dt t_R_openingBy 32 rfl) (by decide) ?_
              refine SW_icmp_eq (tgt := 77) h (fun _ => h1) (fun _ => (by decide)) (dt t_R_openingBy 33 rfl) rfl hf (fun hf => ?_) (fun hf => ?_)
              · exact SW_fgt [true, true, false, false] rfl (k3 hf)
              · refine SW_iload_n h rfl (dt t_R_openingBy 34 rfl) ?_
                refine SW_sipush h (dt t_R_openingBy 35 rfl) (by decide) ?_
                refine SW_icmp_ne (tgt := 81) h (fun _ => h1) (fun _ => (by decide)) (dt t_R_openingBy 36 rfl) rfl hf (fun hf => ?_) (fun hf => ?_)
                · exact SW_fgt [true, true, false, false] rfl (k3 hf)
                · refine SW_iconst h (dt t_R_openingBy 39 rfl) ?_
                  exact SW_fgt [true, true, false, false] rfl (k2 0 (by decide) hf)
def b_R_hold : List (Nat × Instr × Nat) := [(0, .aload_n 0, 1), (1, .getfield 129, 3), (4, .aload_n 0, 1), (5, .getfield 15, 3), (8, .arraylength, 1), (9, .if_icmp .ge 23, 3), (12, .aload_n 0, 1), (13, .getfield 15, 3), (16, .aload_n 0, 1), (17, .getfield 129, 3), (20, .iload_n 1, 1), (21, .iastore, 1), (22, .aload_n 0, 1), (23, .dup, 1), (24, .getfield 129, 3), (27, .iconst 1, 1), (28, .iadd, 1), (29, .putfield 129, 3), (32, .return_, 1)]
theorem t_R_hold : DT cX5_hold b_R_hold := DT.of (by decide +kernel)
def F_R_hold (x1 : Int) (σ : Mm) : Option (Mm) :=
  if ((300 : Nat) : Int) ≤ σ 90 10 then
    some σ
  else
    if 0 ≤ σ 90 10 ∧ σ 90 10 < 300 then
      bindM (st2 σ 92 ((σ 90 10).toNat) x1) fun s1 =>
      if r32 ((s1 90 10) + 1) then
        bindM (st2 s1 90 10 ((s1 90 10) + 1)) fun s4 =>
        some s4
      else none
    else none
set_option maxRecDepth 100000 in
set_option maxHeartbeats 4000000 in
theorem c_R_hold (x1 : Int) (hx1 : r32 x1) {σ : Mm} {σ2 : Mm} (hf : F_R_hold x1 σ = some σ2) : CT yX5_hold cX5_hold 2 none 0 0 (fun ad => [.ref (ad 90), .int (i32 x1)]) σ True none σ2 := by
  refine MetJ 0 (by decide +kernel) rfl (fun _ => Nat.le_of_ble_eq_true rfl) ?_
  intro X h hR ok
  obtain ⟨res, er⟩ : ∃ z, z = σ2 := ⟨_, rfl⟩
  have hret : ∀ y : Mm, some y = some res → RX X 0 True none y := fun y e => by cases e; cases er; exact hR
  rw [← er] at hf
  clear er hR
  unfold F_R_hold at hf
  show SW X 0 2 0 [some (.ref (xad X 90)), some (.int (i32 x1))] [] σ
  refine SW_aload_n h rfl (dt t_R_hold 0 rfl) ?_
  refine gI h cf5 o90 f5_10 lX5_129 (dt t_R_hold 1 rfl) ?_
  refine SW_aload_n h rfl (dt t_R_hold 2 rfl) ?_
  refine gR h cf5 o90 f5_9 j90_9 lX5_15 (dt t_R_hold 3 rfl) ?_
  refine aLen h (by decide) a92 (dt t_R_hold 4 rfl) ?_
  refine SW_icmp_ge (tgt := 32) h (fun _ => (okI ok 90 10 (IsO.n3 o90))) (fun _ => (by decide)) (dt t_R_hold 5 rfl) rfl hf (fun hf => ?_) (fun hf => ?_)
  · exact SW_vret h (hret _ hf) rfl (dt t_R_hold 18 rfl)
  · refine SW_aload_n h rfl (dt t_R_hold 6 rfl) ?_
    refine gR h cf5 o90 f5_9 j90_9 lX5_15 (dt t_R_hold 7 rfl) ?_
    refine SW_aload_n h rfl (dt t_R_hold 8 rfl) ?_
    refine gI h cf5 o90 f5_10 lX5_129 (dt t_R_hold 9 rfl) ?_
    refine SW_iload_n h rfl (dt t_R_hold 10 rfl) ?_
    refine sI h a92 hx1 (dt t_R_hold 11 rfl) hf (fun hf => SW_bm hf (fun s1 ok1 hf => ?_))
    refine SW_aload_n h rfl (dt t_R_hold 12 rfl) ?_
    refine SW_dup h rfl (dt t_R_hold 13 rfl) ?_
    refine gI h cf5 o90 f5_10 lX5_129 (dt t_R_hold 14 rfl) ?_
    refine SW_iconst h (dt t_R_hold 15 rfl) ?_
    refine SW_iadd h (dt t_R_hold 16 rfl) ?_
    refine SW_chk hf (fun h3 hf => ?_)
    refine pI h cf5 o90 f5_10 h3 lX5_129 (dt t_R_hold 17 rfl) (SW_bm hf (fun s4 ok4 hf => ?_))
    exact SW_vret h (hret _ hf) rfl (dt t_R_hold 18 rfl)
def b_R_readOne : List (Nat × Instr × Nat) := [(0, .aload_n 0, 1), (1, .getfield 47, 3), (4, .iconst 2, 1), (5, .if_icmp .ne 36, 3), (8, .aload_n 0, 1), (9, .getfield 60, 3), (12, .sipush 9999, 3), (15, .if_icmp .le 9, 3), (18, .aload_n 0, 1), (19, .iconst 2, 1), (20, .invokevirtual 92, 3), (23, .ireturn, 1), (24, .aload_n 0, 1), (25, .getfield 22, 3), (28, .aload_n 0, 1), (29, .getfield 60, 3), (32, .invokevirtual 159, 3), (35, .aload_n 0, 1), (36, .invokevirtual 44, 3), (39, .iconst 1, 1), (40, .ireturn, 1), (41, .aload_n 0, 1), (42, .getfield 47, 3), (45, .sipush 300, 3), (48, .isub, 1), (49, .istore_n 1, 1), (50, .iload_n 1, 1), (51, .bipush 9, 2), (53, .if_icmp .eq 15, 3), (56, .iload_n 1, 1), (57, .bipush 15, 2), (59, .if_icmp .lt 81, 3), (62, .iload_n 1, 1), (63, .bipush 26, 2), (65, .if_icmp .gt 75, 3), (68, .iload_n 1, 1), (69, .bipush 9, 2), (71, .if_icmp .ne 7, 3), (74, .iconst 0, 1), (75, .goto 9, 3), (78, .iload_n 1, 1), (79, .bipush 15, 2), (81, .isub, 1), (82, .iconst 1, 1), (83, .iadd, 1), (84, .istore_n 2, 1), (85, .iload_n 2, 1), (86, .ifCond .eq 36, 3), (89, .iload_n 2, 1), (90, .bipush 9, 2), (92, .if_icmp .lt 7, 3), (95, .iconst 1, 1), (96, .goto 4, 3), (99, .iconst 0, 1), (100, .aload_n 0, 1), (101, .getfield 126, 3), (104, .iconst 2, 1), (105, .if_icmp .ne 7, 3), (108, .iconst 1, 1), (109, .goto 4, 3), (112, .iconst 0, 1), (113, .if_icmp .eq 9, 3), (116, .aload_n 0, 1), (117, .iconst 5, 1), (118, .invokevirtual 92, 3), (121, .ireturn, 1), (122, .aload_n 0, 1), (123, .getfield 22, 3), (126, .sipush 10000, 3), (129, .iload_n 2, 1), (130, .iadd, 1), (131, .invokevirtual 159, 3), (134, .aload_n 0, 1), (135, .invokevirtual 44, 3), (138, .iconst 1, 1), (139, .ireturn, 1), (140, .aload_n 0, 1), (141, .iload_n 1, 1), (142, .invokevirtual 162, 3), (145, .istore_n 2, 1), (146, .iload_n 2, 1), (147, .iconst (-1), 1), (148, .if_icmp .ne 9, 3), (151, .aload_n 0, 1), (152, .iconst 1, 1), (153, .invokevirtual 92, 3), (156, .ireturn, 1), (157, .aload_n 0, 1), (158, .getfield 132, 3), (161, .bipush 8, 2), (163, .if_icmp .lt 9, 3), (166, .aload_n 0, 1), (167, .iconst 3, 1), (168, .invokevirtual 92, 3), (171, .ireturn, 1), (172, .aload_n 0, 1), (173, .dup, 1), (174, .getfield 132, 3), (177, .iconst 1, 1), (178, .iadd, 1), (179, .putfield 132, 3), (182, .aload_n 0, 1), (183, .dup, 1), (184, .getfield 135, 3), (187, .iload_n 2, 1), (188, .sipush 20017, 3), (191, .if_icmp .lt 7, 3), (194, .iconst 1, 1), (195, .goto 4, 3), (198, .iconst 0, 1), (199, .iadd, 1), (200, .putfield 135, 3), (203, .aload_n 0, 1), (204, .iload_n 2, 1), (205, .invokevirtual 165, 3), (208, .aload_n 0, 1), (209, .invokevirtual 44, 3), (212, .iload_n 2, 1), (213, .sipush 20018, 3), (216, .if_icmp .eq 10, 3), (219, .iload_n 2, 1), (220, .sipush 20019, 3), (223, .if_icmp .ne 22, 3), (226, .aload_n 0, 1), (227, .getfield 47, 3), (230, .bipush 40, 2), (232, .if_icmp .eq 9, 3), (235, .aload_n 0, 1), (236, .iconst 1, 1), (237, .invokevirtual 92, 3), (240, .ireturn, 1), (241, .aload_n 0, 1), (242, .invokevirtual 44, 3), (245, .iconst 0, 1), (246, .ireturn, 1)]
theorem t_R_readOne : DT cX5_readOne b_R_readOne := DT.of (by decide +kernel)
def F_R_readOne  (σ : Mm) : Option (Int × Mm) :=
  if σ 90 7 = 2 then
    if σ 90 8 ≤ 9999 then
      if 0 ≤ σ 90 15 ∧ IsO 0 9 (σ 90 15).toNat then
        b0M (F_T_emit ((σ 90 15).toNat) (σ 90 8) σ) fun s2 =>
        b0M (F_R_step  s2) fun s3 =>
        some (1, s3)
      else none
    else
      b1M (F_R_fail 2 σ) fun v4 s4 =>
      some (v4, s4)
  else
    bindM ((σ 90 7) - 300) fun v5 =>
    if r32 v5 then
      bindM (
        bindM ((if v5 = 9 then 0 else ((v5 - 15) + 1) : Int)) fun v8 =>
        if r32 v8 then
          bindM (
            if 0 ≤ σ 90 15 ∧ IsO 0 9 (σ 90 15).toNat then
              if r32 (10000 + v8) then
                b0M (F_T_emit ((σ 90 15).toNat) (10000 + v8) σ) fun s12 =>
                b0M (F_R_step  s12) fun s14 =>
                some (1, s14)
              else none
            else none) fun J10 =>
          if v8 = 0 then
            J10
          else
            bindM ((if v8 < 9 then 0 else 1 : Int)) fun v15 =>
            bindM ((if σ 90 14 = 2 then 1 else 0 : Int)) fun v16 =>
            if v15 = v16 then
              J10
            else
              b1M (F_R_fail 5 σ) fun v17 s17 =>
              some (v17, s17)
        else none) fun J7 =>
      if v5 = 9 then
        J7
      else
        bindM (
          b1 (F_R_openingBy v5 σ) fun v19 =>
          if v19 = (-1) then
            b1M (F_R_fail 1 σ) fun v20 s20 =>
            some (v20, s20)
          else
            if σ 90 11 < 8 then
              if r32 ((σ 90 11) + 1) then
                bindM (st2 σ 90 11 ((σ 90 11) + 1)) fun s23 =>
                bindM ((if v19 < 20017 then 0 else 1 : Int)) fun v24 =>
                if r32 ((s23 90 12) + v24) then
                  bindM (st2 s23 90 12 ((s23 90 12) + v24)) fun s27 =>
                  b0M (F_R_hold v19 s27) fun s28 =>
                  b0M (F_R_step  s28) fun s29 =>
                  bindM (
                    if s29 90 7 = 40 then
                      b0M (F_R_step  s29) fun s31 =>
                      some (0, s31)
                    else
                      b1M (F_R_fail 1 s29) fun v32 s32 =>
                      some (v32, s32)) fun J30 =>
                  if v19 = 20018 then
                    J30
                  else
                    if v19 = 20019 then
                      J30
                    else
                      some (0, s29)
                else none
              else none
            else
              b1M (F_R_fail 3 σ) fun v33 s33 =>
              some (v33, s33)) fun J18 =>
        if v5 < 15 then
          J18
        else
          if 26 < v5 then
            J18
          else
            J7
    else none
set_option maxRecDepth 100000 in
set_option maxHeartbeats 4000000 in
theorem c_R_readOne  {σ : Mm} {a : Int} {σ2 : Mm} (hf : F_R_readOne  σ = some (a, σ2)) : CT yX5_readOne cX5_readOne 3 (some .int) 10 0 (fun ad => [.ref (ad 90)]) σ (r32 a) (some (.int (i32 a))) σ2 := by
  refine MetJ 2 (by decide +kernel) rfl (fun _ => Nat.le_of_ble_eq_true rfl) ?_
  intro X h hR ok
  obtain ⟨res, er⟩ : ∃ z, z = (a, σ2) := ⟨_, rfl⟩
  have hret : ∀ y : Int × Mm, some y = some res → RX X 0 (r32 (y.1)) (some (.int (i32 (y.1)))) y.2 := fun y e => by cases e; cases er; exact hR
  rw [← er] at hf
  clear er hR
  unfold F_R_readOne at hf
  show SW X 0 3 0 [some (.ref (xad X 90)), none, none] [] σ
  refine SW_aload_n h rfl (dt t_R_readOne 0 rfl) ?_
  refine gI h cf5 o90 f5_7 lX5_47 (dt t_R_readOne 1 rfl) ?_
  refine SW_iconst h (dt t_R_readOne 2 rfl) ?_
  refine SW_icmp_ne (tgt := 41) h (fun _ => (okI ok 90 7 (IsO.n3 o90))) (fun _ => (by decide)) (dt t_R_readOne 3 rfl) rfl hf (fun hf => ?_) (fun hf => ?_)
  · refine SW_aload_n h rfl (dt t_R_readOne 4 rfl) ?_
    refine gI h cf5 o90 f5_8 lX5_60 (dt t_R_readOne 5 rfl) ?_
    refine SW_sipush h (dt t_R_readOne 6 rfl) (by decide) ?_
    refine SW_icmp_le (tgt := 24) h (fun _ => (okI ok 90 8 (IsO.n3 o90))) (fun _ => (by decide)) (dt t_R_readOne 7 rfl) rfl hf (fun hf => ?_) (fun hf => ?_)
    · refine SW_aload_n h rfl (dt t_R_readOne 12 rfl) ?_
      refine gD h cf5 o90 f5_15 lX5_22 (dt t_R_readOne 13 rfl) ?_
      refine SW_isO hf (fun h1 hf => ?_)
      refine SW_aload_n h rfl (dt t_R_readOne 14 rfl) ?_
      refine gI h cf5 o90 f5_8 lX5_60 (dt t_R_readOne 15 rfl) ?_
      obtain ⟨s2, e2, hf⟩ := b0M_of hf
      refine cVv h [.int (i32 (σ 90 8))] [] v_X9_emit kX5_159 h1 (c_T_emit ((σ 90 15).toNat) h1 (σ 90 8) (okI ok 90 8 (IsO.n3 o90)) e2) rfl rfl (by decide) (by decide) rfl (Nat.le_of_ble_eq_true rfl) (dt t_R_readOne 16 rfl) (fun h2 => ?_)
      refine SW_ok (fun ok2 => ?_)
      refine SW_aload_n h rfl (dt t_R_readOne 17 rfl) ?_
      obtain ⟨s3, e3, hf⟩ := b0M_of hf
      refine cVv h [] [] v_X5_step kX5_44 o90 (c_R_step  e3) rfl rfl (by decide) (by decide) rfl (Nat.le_of_ble_eq_true rfl) (dt t_R_readOne 18 rfl) (fun h3 => ?_)
      refine SW_ok (fun ok3 => ?_)
      refine SW_iconst h (dt t_R_readOne 19 rfl) ?_
      exact SW_iret h (hret _ hf) (fun _ => (by decide)) rfl (dt t_R_readOne 20 rfl)
    · refine SW_aload_n h rfl (dt t_R_readOne 8 rfl) ?_
      refine SW_iconst h (dt t_R_readOne 9 rfl) ?_
      obtain ⟨v4, s4, e4, hf⟩ := b1M_of hf
      refine cV h [.int (i32 2)] [] v_X5_fail kX5_92 o90 (c_R_fail 2 (by decide) e4) rfl rfl (by decide) (by decide) rfl (Nat.le_of_ble_eq_true rfl) (dt t_R_readOne 10 rfl) (fun h4 => ?_)
      refine SW_ok (fun ok4 => ?_)
      exact SW_iret h (hret _ hf) (fun _ => h4) rfl (dt t_R_readOne 11 rfl)
  · refine SW_aload_n h rfl (dt t_R_readOne 21 rfl) ?_
    refine gI h cf5 o90 f5_7 lX5_47 (dt t_R_readOne 22 rfl) ?_
    refine SW_sipush h (dt t_R_readOne 23 rfl) (by decide) ?_
    refine SW_isub h (dt t_R_readOne 24 rfl) ?_
    refine SW_vu hf (fun v5 hf => ?_)
    refine SW_istore_n (lv2 := [some (.ref (xad X 90)), some (.int (i32 v5)), none]) h (dt t_R_readOne 25 rfl) (by decide) rfl ?_
    refine SW_iload_n h rfl (dt t_R_readOne 26 rfl) ?_
    refine SW_bipush h (dt t_R_readOne 27 rfl) (by decide) ?_
    refine SW_chk hf (fun h6 hf => ?_)
    refine bJ hf (fun J7 e7 hf => ?_)
    have k7 : ∀ (hf : J7 = some res), SW X 0 3 68 [some (.ref (xad X 90)), some (.int (i32 v5)), none] [] σ := by
      intro hf
      rw [e7] at hf
      refine SW_iload_n h rfl (dt t_R_readOne 35 rfl) ?_
      refine SW_bipush h (dt t_R_readOne 36 rfl) (by decide) ?_
      refine bT hf (fun g8 e8 hf => ?_)
      have k8 : ∀ (v8 : Int) (hf : g8 v8 = some res), SW X 0 3 84 [some (.ref (xad X 90)), some (.int (i32 v5)), none] [.int (i32 v8)] σ := by
        intro v8 hf
        rw [e8] at hf
        refine SW_istore_n (lv2 := [some (.ref (xad X 90)), some (.int (i32 v5)), some (.int (i32 v8))]) h (dt t_R_readOne 45 rfl) (by decide) rfl ?_
        refine SW_iload_n h rfl (dt t_R_readOne 46 rfl) ?_
        refine SW_chk hf (fun h9 hf => ?_)
        refine bJ hf (fun J10 e10 hf => ?_)
        have k10 : ∀ (hf : J10 = some res), SW X 0 3 122 [some (.ref (xad X 90)), none, some (.int (i32 v8))] [] σ := by
          intro hf
          rw [e10] at hf
          refine SW_aload_n h rfl (dt t_R_readOne 66 rfl) ?_
          refine gD h cf5 o90 f5_15 lX5_22 (dt t_R_readOne 67 rfl) ?_
          refine SW_isO hf (fun h11 hf => ?_)
          refine SW_sipush h (dt t_R_readOne 68 rfl) (by decide) ?_
          refine SW_iload_n h rfl (dt t_R_readOne 69 rfl) ?_
          refine SW_iadd h (dt t_R_readOne 70 rfl) ?_
          refine SW_chk hf (fun h13 hf => ?_)
          obtain ⟨s12, e12, hf⟩ := b0M_of hf
          refine cVv h [.int (i32 (10000 + v8))] [] v_X9_emit kX5_159 h11 (c_T_emit ((σ 90 15).toNat) h11 (10000 + v8) h13 e12) rfl rfl (by decide) (by decide) rfl (Nat.le_of_ble_eq_true rfl) (dt t_R_readOne 71 rfl) (fun h12 => ?_)
          refine SW_ok (fun ok12 => ?_)
          refine SW_aload_n h rfl (dt t_R_readOne 72 rfl) ?_
          obtain ⟨s14, e14, hf⟩ := b0M_of hf
          refine cVv h [] [] v_X5_step kX5_44 o90 (c_R_step  e14) rfl rfl (by decide) (by decide) rfl (Nat.le_of_ble_eq_true rfl) (dt t_R_readOne 73 rfl) (fun h14 => ?_)
          refine SW_ok (fun ok14 => ?_)
          refine SW_iconst h (dt t_R_readOne 74 rfl) ?_
          exact SW_iret h (hret _ hf) (fun _ => (by decide)) rfl (dt t_R_readOne 75 rfl)
        refine SW_if_eq (tgt := 122) h (fun _ => h9) (dt t_R_readOne 47 rfl) rfl hf (fun hf => ?_) (fun hf => ?_)
        · exact SW_fgt [true, false, true] rfl (k10 hf)
        · refine SW_iload_n h rfl (dt t_R_readOne 48 rfl) ?_
          refine SW_bipush h (dt t_R_readOne 49 rfl) (by decide) ?_
          refine bT hf (fun g15 e15 hf => ?_)
          have k15 : ∀ (v15 : Int) (h15 : r32 v15) (hf : g15 v15 = some res), SW X 0 3 100 [some (.ref (xad X 90)), some (.int (i32 v5)), some (.int (i32 v8))] [.int (i32 v15)] σ := by
            intro v15 h15 hf
            rw [e15] at hf
            refine SW_aload_n h rfl (dt t_R_readOne 54 rfl) ?_
            refine gI h cf5 o90 f5_14 lX5_126 (dt t_R_readOne 55 rfl) ?_
            refine SW_iconst h (dt t_R_readOne 56 rfl) ?_
            refine bT hf (fun g16 e16 hf => ?_)
            have k16 : ∀ (v16 : Int) (h16 : r32 v16) (hf : g16 v16 = some res), SW X 0 3 113 [some (.ref (xad X 90)), some (.int (i32 v5)), some (.int (i32 v8))] [.int (i32 v16), .int (i32 v15)] σ := by
              intro v16 h16 hf
              rw [e16] at hf
              refine SW_icmp_eq (tgt := 122) h (fun _ => h15) (fun _ => h16) (dt t_R_readOne 61 rfl) rfl hf (fun hf => ?_) (fun hf => ?_)
              · exact SW_fgt [true, false, true] rfl (k10 hf)
              · refine SW_aload_n h rfl (dt t_R_readOne 62 rfl) ?_
                refine SW_iconst h (dt t_R_readOne 63 rfl) ?_
                obtain ⟨v17, s17, e17, hf⟩ := b1M_of hf
                refine cV h [.int (i32 5)] [] v_X5_fail kX5_92 o90 (c_R_fail 5 (by decide) e17) rfl rfl (by decide) (by decide) rfl (Nat.le_of_ble_eq_true rfl) (dt t_R_readOne 64 rfl) (fun h17 => ?_)
                refine SW_ok (fun ok17 => ?_)
                exact SW_iret h (hret _ hf) (fun _ => h17) rfl (dt t_R_readOne 65 rfl)
            have hf := bIte hf
            refine SW_icmp_ne (tgt := 112) h (fun _ => (okI ok 90 14 (IsO.n3 o90))) (fun _ => (by decide)) (dt t_R_readOne 57 rfl) rfl hf (fun hf => ?_) (fun hf => ?_)
            · refine SW_iconst h (dt t_R_readOne 58 rfl) ?_
              refine SW_goto (tgt := 113) h (dt t_R_readOne 59 rfl) rfl ?_
              exact k16 1 (by decide) hf
            · refine SW_iconst h (dt t_R_readOne 60 rfl) ?_
              exact k16 0 (by decide) hf
          have hf := bIte hf
          refine SW_icmp_lt (tgt := 99) h (fun _ => h9) (fun _ => (by decide)) (dt t_R_readOne 50 rfl) rfl hf (fun hf => ?_) (fun hf => ?_)
          · refine SW_iconst h (dt t_R_readOne 53 rfl) ?_
            exact k15 0 (by decide) hf
          · refine SW_iconst h (dt t_R_readOne 51 rfl) ?_
            refine SW_goto (tgt := 100) h (dt t_R_readOne 52 rfl) rfl ?_
            exact k15 1 (by decide) hf
      have hf := bIte hf
      refine SW_icmp_ne (tgt := 78) h (fun _ => h6) (fun _ => (by decide)) (dt t_R_readOne 37 rfl) rfl hf (fun hf => ?_) (fun hf => ?_)
      · refine SW_iconst h (dt t_R_readOne 38 rfl) ?_
        refine SW_goto (tgt := 84) h (dt t_R_readOne 39 rfl) rfl ?_
        exact k8 0 hf
      · refine SW_iload_n h rfl (dt t_R_readOne 40 rfl) ?_
        refine SW_bipush h (dt t_R_readOne 41 rfl) (by decide) ?_
        refine SW_isub h (dt t_R_readOne 42 rfl) ?_
        refine SW_iconst h (dt t_R_readOne 43 rfl) ?_
        refine SW_iadd h (dt t_R_readOne 44 rfl) ?_
        exact k8 ((v5 - 15) + 1) hf
    refine SW_icmp_eq (tgt := 68) h (fun _ => h6) (fun _ => (by decide)) (dt t_R_readOne 28 rfl) rfl hf (fun hf => ?_) (fun hf => ?_)
    · exact SW_fgt [true, true, false] rfl (k7 hf)
    · refine SW_iload_n h rfl (dt t_R_readOne 29 rfl) ?_
      refine SW_bipush h (dt t_R_readOne 30 rfl) (by decide) ?_
      refine bJ hf (fun J18 e18 hf => ?_)
      have k18 : ∀ (hf : J18 = some res), SW X 0 3 140 [some (.ref (xad X 90)), some (.int (i32 v5)), none] [] σ := by
        intro hf
        rw [e18] at hf
        refine SW_aload_n h rfl (dt t_R_readOne 76 rfl) ?_
        refine SW_iload_n h rfl (dt t_R_readOne 77 rfl) ?_
        obtain ⟨v19, e19, hf⟩ := b1_of hf
        refine cV h [.int (i32 v5)] [] v_X5_openingBy kX5_162 o90 (c_R_openingBy v5 h6 e19) rfl rfl (by decide) (by decide) rfl (Nat.le_of_ble_eq_true rfl) (dt t_R_readOne 78 rfl) (fun h19 => ?_)
        refine SW_istore_n (lv2 := [some (.ref (xad X 90)), some (.int (i32 v5)), some (.int (i32 v19))]) h (dt t_R_readOne 79 rfl) (by decide) rfl ?_
        refine SW_iload_n h rfl (dt t_R_readOne 80 rfl) ?_
        refine SW_iconst h (dt t_R_readOne 81 rfl) ?_
        refine SW_icmp_ne (tgt := 157) h (fun _ => h19) (fun _ => (by decide)) (dt t_R_readOne 82 rfl) rfl hf (fun hf => ?_) (fun hf => ?_)
        · refine SW_aload_n h rfl (dt t_R_readOne 83 rfl) ?_
          refine SW_iconst h (dt t_R_readOne 84 rfl) ?_
          obtain ⟨v20, s20, e20, hf⟩ := b1M_of hf
          refine cV h [.int (i32 1)] [] v_X5_fail kX5_92 o90 (c_R_fail 1 (by decide) e20) rfl rfl (by decide) (by decide) rfl (Nat.le_of_ble_eq_true rfl) (dt t_R_readOne 85 rfl) (fun h20 => ?_)
          refine SW_ok (fun ok20 => ?_)
          exact SW_iret h (hret _ hf) (fun _ => h20) rfl (dt t_R_readOne 86 rfl)
        · refine SW_aload_n h rfl (dt t_R_readOne 87 rfl) ?_
          refine gI h cf5 o90 f5_11 lX5_132 (dt t_R_readOne 88 rfl) ?_
          refine SW_bipush h (dt t_R_readOne 89 rfl) (by decide) ?_
          refine SW_icmp_lt (tgt := 172) h (fun _ => (okI ok 90 11 (IsO.n3 o90))) (fun _ => (by decide)) (dt t_R_readOne 90 rfl) rfl hf (fun hf => ?_) (fun hf => ?_)
          · refine SW_aload_n h rfl (dt t_R_readOne 95 rfl) ?_
            refine SW_dup h rfl (dt t_R_readOne 96 rfl) ?_
            refine gI h cf5 o90 f5_11 lX5_132 (dt t_R_readOne 97 rfl) ?_
            refine SW_iconst h (dt t_R_readOne 98 rfl) ?_
            refine SW_iadd h (dt t_R_readOne 99 rfl) ?_
            refine SW_chk hf (fun h22 hf => ?_)
            refine pI h cf5 o90 f5_11 h22 lX5_132 (dt t_R_readOne 100 rfl) (SW_bm hf (fun s23 ok23 hf => ?_))
            refine SW_aload_n h rfl (dt t_R_readOne 101 rfl) ?_
            refine SW_dup h rfl (dt t_R_readOne 102 rfl) ?_
            refine gI h cf5 o90 f5_12 lX5_135 (dt t_R_readOne 103 rfl) ?_
            refine SW_iload_n h rfl (dt t_R_readOne 104 rfl) ?_
            refine SW_sipush h (dt t_R_readOne 105 rfl) (by decide) ?_
            refine bT hf (fun g24 e24 hf => ?_)
            have k24 : ∀ (v24 : Int) (h24 : r32 v24) (hf : g24 v24 = some res), SW X 0 3 199 [some (.ref (xad X 90)), some (.int (i32 v5)), some (.int (i32 v19))] [.int (i32 v24), .int (i32 (s23 90 12)), .ref (xad X 90)] s23 := by
              intro v24 h24 hf
              rw [e24] at hf
              refine SW_iadd h (dt t_R_readOne 110 rfl) ?_
              refine SW_chk hf (fun h26 hf => ?_)
              refine pI h cf5 o90 f5_12 h26 lX5_135 (dt t_R_readOne 111 rfl) (SW_bm hf (fun s27 ok27 hf => ?_))
              refine SW_aload_n h rfl (dt t_R_readOne 112 rfl) ?_
              refine SW_iload_n h rfl (dt t_R_readOne 113 rfl) ?_
              obtain ⟨s28, e28, hf⟩ := b0M_of hf
              refine cVv h [.int (i32 v19)] [] v_X5_hold kX5_165 o90 (c_R_hold v19 h19 e28) rfl rfl (by decide) (by decide) rfl (Nat.le_of_ble_eq_true rfl) (dt t_R_readOne 114 rfl) (fun h28 => ?_)
              refine SW_ok (fun ok28 => ?_)
              refine SW_aload_n h rfl (dt t_R_readOne 115 rfl) ?_
              obtain ⟨s29, e29, hf⟩ := b0M_of hf
              refine cVv h [] [] v_X5_step kX5_44 o90 (c_R_step  e29) rfl rfl (by decide) (by decide) rfl (Nat.le_of_ble_eq_true rfl) (dt t_R_readOne 116 rfl) (fun h29 => ?_)
              refine SW_ok (fun ok29 => ?_)
              refine SW_iload_n h rfl (dt t_R_readOne 117 rfl) ?_
              refine SW_sipush h (dt t_R_readOne 118 rfl) (by decide) ?_
              refine bJ hf (fun J30 e30 hf => ?_)
              have k30 : ∀ (hf : J30 = some res), SW X 0 3 226 [some (.ref (xad X 90)), none, none] [] s29 := by
                intro hf
                rw [e30] at hf
                refine SW_aload_n h rfl (dt t_R_readOne 123 rfl) ?_
                refine gI h cf5 o90 f5_7 lX5_47 (dt t_R_readOne 124 rfl) ?_
                refine SW_bipush h (dt t_R_readOne 125 rfl) (by decide) ?_
                refine SW_icmp_eq (tgt := 241) h (fun _ => (okI ok29 90 7 (IsO.n3 o90))) (fun _ => (by decide)) (dt t_R_readOne 126 rfl) rfl hf (fun hf => ?_) (fun hf => ?_)
                · refine SW_aload_n h rfl (dt t_R_readOne 131 rfl) ?_
                  obtain ⟨s31, e31, hf⟩ := b0M_of hf
                  refine cVv h [] [] v_X5_step kX5_44 o90 (c_R_step  e31) rfl rfl (by decide) (by decide) rfl (Nat.le_of_ble_eq_true rfl) (dt t_R_readOne 132 rfl) (fun h31 => ?_)
                  refine SW_ok (fun ok31 => ?_)
                  refine SW_iconst h (dt t_R_readOne 133 rfl) ?_
                  exact SW_iret h (hret _ hf) (fun _ => (by decide)) rfl (dt t_R_readOne 134 rfl)
                · refine SW_aload_n h rfl (dt t_R_readOne 127 rfl) ?_
                  refine SW_iconst h (dt t_R_readOne 128 rfl) ?_
                  obtain ⟨v32, s32, e32, hf⟩ := b1M_of hf
                  refine cV h [.int (i32 1)] [] v_X5_fail kX5_92 o90 (c_R_fail 1 (by decide) e32) rfl rfl (by decide) (by decide) rfl (Nat.le_of_ble_eq_true rfl) (dt t_R_readOne 129 rfl) (fun h32 => ?_)
                  refine SW_ok (fun ok32 => ?_)
                  exact SW_iret h (hret _ hf) (fun _ => h32) rfl (dt t_R_readOne 130 rfl)
              refine SW_icmp_eq (tgt := 226) h (fun _ => h19) (fun _ => (by decide)) (dt t_R_readOne 119 rfl) rfl hf (fun hf => ?_) (fun hf => ?_)
              · exact SW_fgt [true, false, false] rfl (k30 hf)
              · refine SW_iload_n h rfl (dt t_R_readOne 120 rfl) ?_
                refine SW_sipush h (dt t_R_readOne 121 rfl) (by decide) ?_
                refine SW_icmp_ne (tgt := 245) h (fun _ => h19) (fun _ => (by decide)) (dt t_R_readOne 122 rfl) rfl hf (fun hf => ?_) (fun hf => ?_)
                · exact SW_fgt [true, false, false] rfl (k30 hf)
                · refine SW_iconst h (dt t_R_readOne 133 rfl) ?_
                  exact SW_iret h (hret _ hf) (fun _ => (by decide)) rfl (dt t_R_readOne 134 rfl)
            have hf := bIte hf
            refine SW_icmp_lt (tgt := 198) h (fun _ => h19) (fun _ => (by decide)) (dt t_R_readOne 106 rfl) rfl hf (fun hf => ?_) (fun hf => ?_)
            · refine SW_iconst h (dt t_R_readOne 109 rfl) ?_
              exact k24 0 (by decide) hf
            · refine SW_iconst h (dt t_R_readOne 107 rfl) ?_
              refine SW_goto (tgt := 199) h (dt t_R_readOne 108 rfl) rfl ?_
              exact k24 1 (by decide) hf
          · refine SW_aload_n h rfl (dt t_R_readOne 91 rfl) ?_
            refine SW_iconst h (dt t_R_readOne 92 rfl) ?_
            obtain ⟨v33, s33, e33, hf⟩ := b1M_of hf
            refine cV h [.int (i32 3)] [] v_X5_fail kX5_92 o90 (c_R_fail 3 (by decide) e33) rfl rfl (by decide) (by decide) rfl (Nat.le_of_ble_eq_true rfl) (dt t_R_readOne 93 rfl) (fun h33 => ?_)
            refine SW_ok (fun ok33 => ?_)
            exact SW_iret h (hret _ hf) (fun _ => h33) rfl (dt t_R_readOne 94 rfl)
      refine SW_icmp_lt (tgt := 140) h (fun _ => h6) (fun _ => (by decide)) (dt t_R_readOne 31 rfl) rfl hf (fun hf => ?_) (fun hf => ?_)
      · exact SW_fgt [true, true, false] rfl (k18 hf)
      · refine SW_iload_n h rfl (dt t_R_readOne 32 rfl) ?_
        refine SW_bipush h (dt t_R_readOne 33 rfl) (by decide) ?_
        refine SW_icmp_gt (tgt := 140) h (fun _ => h6) (fun _ => (by decide)) (dt t_R_readOne 34 rfl) rfl hf (fun hf => ?_) (fun hf => ?_)
        · exact SW_fgt [true, true, false] rfl (k18 hf)
        · exact SW_fgt [true, true, false] rfl (k7 hf)
def b_R_rank : List (Nat × Instr × Nat) := [(0, .iload_n 0, 1), (1, .tableswitch 97 20000 20016 #[86, 86, 86, 89, 89, 97, 97, 97, 97, 97, 97, 93, 95, 97, 97, 83, 91], 83), (84, .bipush 7, 2), (86, .ireturn, 1), (87, .bipush 6, 2), (89, .ireturn, 1), (90, .iconst 5, 1), (91, .ireturn, 1), (92, .iconst 3, 1), (93, .ireturn, 1), (94, .iconst 2, 1), (95, .ireturn, 1), (96, .iconst 1, 1), (97, .ireturn, 1), (98, .iload_n 0, 1), (99, .sipush 20005, 3), (102, .if_icmp .lt 14, 3), (105, .iload_n 0, 1), (106, .sipush 20010, 3), (109, .if_icmp .gt 7, 3), (112, .iconst 4, 1), (113, .goto 4, 3), (116, .iconst 0, 1), (117, .ireturn, 1)]
theorem t_R_rank : DT cX5_rank b_R_rank := DT.of (by decide +kernel)
def F_R_rank (x0 : Int) : Option (Int) :=
  if x0 = 20000 then
    some 6
  else
    if x0 = 20001 then
      some 6
    else
      if x0 = 20002 then
        some 6
      else
        if x0 = 20003 then
          some 5
        else
          if x0 = 20004 then
            some 5
          else
            if x0 = 20005 then
              if x0 < 20005 then
                some 0
              else
                if 20010 < x0 then
                  some 0
                else
                  some 4
            else
              if x0 = 20006 then
                if x0 < 20005 then
                  some 0
                else
                  if 20010 < x0 then
                    some 0
                  else
                    some 4
              else
                if x0 = 20007 then
                  if x0 < 20005 then
                    some 0
                  else
                    if 20010 < x0 then
                      some 0
                    else
                      some 4
                else
                  if x0 = 20008 then
                    if x0 < 20005 then
                      some 0
                    else
                      if 20010 < x0 then
                        some 0
                      else
                        some 4
                  else
                    if x0 = 20009 then
                      if x0 < 20005 then
                        some 0
                      else
                        if 20010 < x0 then
                          some 0
                        else
                          some 4
                    else
                      if x0 = 20010 then
                        if x0 < 20005 then
                          some 0
                        else
                          if 20010 < x0 then
                            some 0
                          else
                            some 4
                      else
                        if x0 = 20011 then
                          some 2
                        else
                          if x0 = 20012 then
                            some 1
                          else
                            if x0 = 20013 then
                              if x0 < 20005 then
                                some 0
                              else
                                if 20010 < x0 then
                                  some 0
                                else
                                  some 4
                            else
                              if x0 = 20014 then
                                if x0 < 20005 then
                                  some 0
                                else
                                  if 20010 < x0 then
                                    some 0
                                  else
                                    some 4
                              else
                                if x0 = 20015 then
                                  some 7
                                else
                                  if x0 = 20016 then
                                    some 3
                                  else
                                    if x0 < 20005 then
                                      some 0
                                    else
                                      if 20010 < x0 then
                                        some 0
                                      else
                                        some 4
set_option maxRecDepth 100000 in
set_option maxHeartbeats 4000000 in
theorem c_R_rank (x0 : Int) (hx0 : r32 x0) {σ : Mm} {a : Int} (hf : F_R_rank x0 = some a) : CT yX5_rank cX5_rank 1 (some .int) 0 0 (fun ad => [.int (i32 x0)]) σ (r32 a) (some (.int (i32 a))) σ := by
  refine MetJ 0 (by decide +kernel) rfl (fun _ => Nat.le_of_ble_eq_true rfl) ?_
  intro X h hR ok
  obtain ⟨res, er⟩ : ∃ z, z = a := ⟨_, rfl⟩
  have hret : ∀ y : Int, some y = some res → RX X 0 (r32 (y)) (some (.int (i32 (y)))) σ := fun y e => by cases e; cases er; exact hR
  rw [← er] at hf
  clear er hR
  unfold F_R_rank at hf
  show SW X 0 1 0 [some (.int (i32 x0))] [] σ
  refine SW_iload_n h rfl (dt t_R_rank 0 rfl) ?_
  refine SW_ite hf (fun h1 hf => ?_) (fun h1 hf => ?_)
  · refine SW_tabIn (tgt := 87) h 0 (fun _ => hx0) (dt t_R_rank 1 rfl) (h1.trans rfl) (by decide) rfl rfl ?_
    refine SW_bipush h (dt t_R_rank 4 rfl) (by decide) ?_
    exact SW_iret h (hret _ hf) (fun _ => (by decide)) rfl (dt t_R_rank 5 rfl)
  · refine SW_ite hf (fun h2 hf => ?_) (fun h2 hf => ?_)
    · refine SW_tabIn (tgt := 87) h 1 (fun _ => hx0) (dt t_R_rank 1 rfl) (h2.trans rfl) (by decide) rfl rfl ?_
      refine SW_bipush h (dt t_R_rank 4 rfl) (by decide) ?_
      exact SW_iret h (hret _ hf) (fun _ => (by decide)) rfl (dt t_R_rank 5 rfl)
    · refine SW_ite hf (fun h3 hf => ?_) (fun h3 hf => ?_)
      · refine SW_tabIn (tgt := 87) h 2 (fun _ => hx0) (dt t_R_rank 1 rfl) (h3.trans rfl) (by decide) rfl rfl ?_
        refine SW_bipush h (dt t_R_rank 4 rfl) (by decide) ?_
        exact SW_iret h (hret _ hf) (fun _ => (by decide)) rfl (dt t_R_rank 5 rfl)
      · refine SW_ite hf (fun h4 hf => ?_) (fun h4 hf => ?_)
        · refine SW_tabIn (tgt := 90) h 3 (fun _ => hx0) (dt t_R_rank 1 rfl) (h4.trans rfl) (by decide) rfl rfl ?_
          refine SW_iconst h (dt t_R_rank 6 rfl) ?_
          exact SW_iret h (hret _ hf) (fun _ => (by decide)) rfl (dt t_R_rank 7 rfl)
        · refine SW_ite hf (fun h5 hf => ?_) (fun h5 hf => ?_)
          · refine SW_tabIn (tgt := 90) h 4 (fun _ => hx0) (dt t_R_rank 1 rfl) (h5.trans rfl) (by decide) rfl rfl ?_
            refine SW_iconst h (dt t_R_rank 6 rfl) ?_
            exact SW_iret h (hret _ hf) (fun _ => (by decide)) rfl (dt t_R_rank 7 rfl)
          · refine SW_ite hf (fun h6 hf => ?_) (fun h6 hf => ?_)
            · refine SW_tabIn (tgt := 98) h 5 (fun _ => hx0) (dt t_R_rank 1 rfl) (h6.trans rfl) (by decide) rfl rfl ?_
              refine SW_iload_n h rfl (dt t_R_rank 14 rfl) ?_
              refine SW_sipush h (dt t_R_rank 15 rfl) (by decide) ?_
              refine SW_icmp_lt (tgt := 116) h (fun _ => hx0) (fun _ => (by decide)) (dt t_R_rank 16 rfl) rfl hf (fun hf => ?_) (fun hf => ?_)
              · refine SW_iconst h (dt t_R_rank 22 rfl) ?_
                exact SW_iret h (hret _ hf) (fun _ => (by decide)) rfl (dt t_R_rank 23 rfl)
              · refine SW_iload_n h rfl (dt t_R_rank 17 rfl) ?_
                refine SW_sipush h (dt t_R_rank 18 rfl) (by decide) ?_
                refine SW_icmp_gt (tgt := 116) h (fun _ => hx0) (fun _ => (by decide)) (dt t_R_rank 19 rfl) rfl hf (fun hf => ?_) (fun hf => ?_)
                · refine SW_iconst h (dt t_R_rank 22 rfl) ?_
                  exact SW_iret h (hret _ hf) (fun _ => (by decide)) rfl (dt t_R_rank 23 rfl)
                · refine SW_iconst h (dt t_R_rank 20 rfl) ?_
                  refine SW_goto (tgt := 117) h (dt t_R_rank 21 rfl) rfl ?_
                  exact SW_iret h (hret _ hf) (fun _ => (by decide)) rfl (dt t_R_rank 23 rfl)
            · refine SW_ite hf (fun h7 hf => ?_) (fun h7 hf => ?_)
              · refine SW_tabIn (tgt := 98) h 6 (fun _ => hx0) (dt t_R_rank 1 rfl) (h7.trans rfl) (by decide) rfl rfl ?_
                refine SW_iload_n h rfl (dt t_R_rank 14 rfl) ?_
                refine SW_sipush h (dt t_R_rank 15 rfl) (by decide) ?_
                refine SW_icmp_lt (tgt := 116) h (fun _ => hx0) (fun _ => (by decide)) (dt t_R_rank 16 rfl) rfl hf (fun hf => ?_) (fun hf => ?_)
                · refine SW_iconst h (dt t_R_rank 22 rfl) ?_
                  exact SW_iret h (hret _ hf) (fun _ => (by decide)) rfl (dt t_R_rank 23 rfl)
                · refine SW_iload_n h rfl (dt t_R_rank 17 rfl) ?_
                  refine SW_sipush h (dt t_R_rank 18 rfl) (by decide) ?_
                  refine SW_icmp_gt (tgt := 116) h (fun _ => hx0) (fun _ => (by decide)) (dt t_R_rank 19 rfl) rfl hf (fun hf => ?_) (fun hf => ?_)
                  · refine SW_iconst h (dt t_R_rank 22 rfl) ?_
                    exact SW_iret h (hret _ hf) (fun _ => (by decide)) rfl (dt t_R_rank 23 rfl)
                  · refine SW_iconst h (dt t_R_rank 20 rfl) ?_
                    refine SW_goto (tgt := 117) h (dt t_R_rank 21 rfl) rfl ?_
                    exact SW_iret h (hret _ hf) (fun _ => (by decide)) rfl (dt t_R_rank 23 rfl)
              · refine SW_ite hf (fun h8 hf => ?_) (fun h8 hf => ?_)
                · refine SW_tabIn (tgt := 98) h 7 (fun _ => hx0) (dt t_R_rank 1 rfl) (h8.trans rfl) (by decide) rfl rfl ?_
                  refine SW_iload_n h rfl (dt t_R_rank 14 rfl) ?_
                  refine SW_sipush h (dt t_R_rank 15 rfl) (by decide) ?_
                  refine SW_icmp_lt (tgt := 116) h (fun _ => hx0) (fun _ => (by decide)) (dt t_R_rank 16 rfl) rfl hf (fun hf => ?_) (fun hf => ?_)
                  · refine SW_iconst h (dt t_R_rank 22 rfl) ?_
                    exact SW_iret h (hret _ hf) (fun _ => (by decide)) rfl (dt t_R_rank 23 rfl)
                  · refine SW_iload_n h rfl (dt t_R_rank 17 rfl) ?_
                    refine SW_sipush h (dt t_R_rank 18 rfl) (by decide) ?_
                    refine SW_icmp_gt (tgt := 116) h (fun _ => hx0) (fun _ => (by decide)) (dt t_R_rank 19 rfl) rfl hf (fun hf => ?_) (fun hf => ?_)
                    · refine SW_iconst h (dt t_R_rank 22 rfl) ?_
                      exact SW_iret h (hret _ hf) (fun _ => (by decide)) rfl (dt t_R_rank 23 rfl)
                    · refine SW_iconst h (dt t_R_rank 20 rfl) ?_
                      refine SW_goto (tgt := 117) h (dt t_R_rank 21 rfl) rfl ?_
                      exact SW_iret h (hret _ hf) (fun _ => (by decide)) rfl (dt t_R_rank 23 rfl)
                · refine SW_ite hf (fun h9 hf => ?_) (fun h9 hf => ?_)
                  · refine SW_tabIn (tgt := 98) h 8 (fun _ => hx0) (dt t_R_rank 1 rfl) (h9.trans rfl) (by decide) rfl rfl ?_
                    refine SW_iload_n h rfl (dt t_R_rank 14 rfl) ?_
                    refine SW_sipush h (dt t_R_rank 15 rfl) (by decide) ?_
                    refine SW_icmp_lt (tgt := 116) h (fun _ => hx0) (fun _ => (by decide)) (dt t_R_rank 16 rfl) rfl hf (fun hf => ?_) (fun hf => ?_)
                    · refine SW_iconst h (dt t_R_rank 22 rfl) ?_
                      exact SW_iret h (hret _ hf) (fun _ => (by decide)) rfl (dt t_R_rank 23 rfl)
                    · refine SW_iload_n h rfl (dt t_R_rank 17 rfl) ?_
                      refine SW_sipush h (dt t_R_rank 18 rfl) (by decide) ?_
                      refine SW_icmp_gt (tgt := 116) h (fun _ => hx0) (fun _ => (by decide)) (dt t_R_rank 19 rfl) rfl hf (fun hf => ?_) (fun hf => ?_)
                      · refine SW_iconst h (dt t_R_rank 22 rfl) ?_
                        exact SW_iret h (hret _ hf) (fun _ => (by decide)) rfl (dt t_R_rank 23 rfl)
                      · refine SW_iconst h (dt t_R_rank 20 rfl) ?_
                        refine SW_goto (tgt := 117) h (dt t_R_rank 21 rfl) rfl ?_
                        exact SW_iret h (hret _ hf) (fun _ => (by decide)) rfl (dt t_R_rank 23 rfl)
                  · refine SW_ite hf (fun h10 hf => ?_) (fun h10 hf => ?_)
                    · refine SW_tabIn (tgt := 98) h 9 (fun _ => hx0) (dt t_R_rank 1 rfl) (h10.trans rfl) (by decide) rfl rfl ?_
                      refine SW_iload_n h rfl (dt t_R_rank 14 rfl) ?_
                      refine SW_sipush h (dt t_R_rank 15 rfl) (by decide) ?_
                      refine SW_icmp_lt (tgt := 116) h (fun _ => hx0) (fun _ => (by decide)) (dt t_R_rank 16 rfl) rfl hf (fun hf => ?_) (fun hf => ?_)
                      · refine SW_iconst h (dt t_R_rank 22 rfl) ?_
                        exact SW_iret h (hret _ hf) (fun _ => (by decide)) rfl (dt t_R_rank 23 rfl)
                      · refine SW_iload_n h rfl (dt t_R_rank 17 rfl) ?_
                        refine SW_sipush h (dt t_R_rank 18 rfl) (by decide) ?_
                        refine SW_icmp_gt (tgt := 116) h (fun _ => hx0) (fun _ => (by decide)) (dt t_R_rank 19 rfl) rfl hf (fun hf => ?_) (fun hf => ?_)
                        · refine SW_iconst h (dt t_R_rank 22 rfl) ?_
                          exact SW_iret h (hret _ hf) (fun _ => (by decide)) rfl (dt t_R_rank 23 rfl)
                        · refine SW_iconst h (dt t_R_rank 20 rfl) ?_
                          refine SW_goto (tgt := 117) h (dt t_R_rank 21 rfl) rfl ?_
                          exact SW_iret h (hret _ hf) (fun _ => (by decide)) rfl (dt t_R_rank 23 rfl)
                    · refine SW_ite hf (fun h11 hf => ?_) (fun h11 hf => ?_)
                      · refine SW_tabIn (tgt := 98) h 10 (fun _ => hx0) (dt t_R_rank 1 rfl) (h11.trans rfl) (by decide) rfl rfl ?_
                        refine SW_iload_n h rfl (dt t_R_rank 14 rfl) ?_
                        refine SW_sipush h (dt t_R_rank 15 rfl) (by decide) ?_
                        refine SW_icmp_lt (tgt := 116) h (fun _ => hx0) (fun _ => (by decide)) (dt t_R_rank 16 rfl) rfl hf (fun hf => ?_) (fun hf => ?_)
                        · refine SW_iconst h (dt t_R_rank 22 rfl) ?_
                          exact SW_iret h (hret _ hf) (fun _ => (by decide)) rfl (dt t_R_rank 23 rfl)
                        · refine SW_iload_n h rfl (dt t_R_rank 17 rfl) ?_
                          refine SW_sipush h (dt t_R_rank 18 rfl) (by decide) ?_
                          refine SW_icmp_gt (tgt := 116) h (fun _ => hx0) (fun _ => (by decide)) (dt t_R_rank 19 rfl) rfl hf (fun hf => ?_) (fun hf => ?_)
                          · refine SW_iconst h (dt t_R_rank 22 rfl) ?_
                            exact SW_iret h (hret _ hf) (fun _ => (by decide)) rfl (dt t_R_rank 23 rfl)
                          · refine SW_iconst h (dt t_R_rank 20 rfl) ?_
                            refine SW_goto (tgt := 117) h (dt t_R_rank 21 rfl) rfl ?_
                            exact SW_iret h (hret _ hf) (fun _ => (by decide)) rfl (dt t_R_rank 23 rfl)
                      · refine SW_ite hf (fun h12 hf => ?_) (fun h12 hf => ?_)
                        · refine SW_tabIn (tgt := 94) h 11 (fun _ => hx0) (dt t_R_rank 1 rfl) (h12.trans rfl) (by decide) rfl rfl ?_
                          refine SW_iconst h (dt t_R_rank 10 rfl) ?_
                          exact SW_iret h (hret _ hf) (fun _ => (by decide)) rfl (dt t_R_rank 11 rfl)
                        · refine SW_ite hf (fun h13 hf => ?_) (fun h13 hf => ?_)
                          · refine SW_tabIn (tgt := 96) h 12 (fun _ => hx0) (dt t_R_rank 1 rfl) (h13.trans rfl) (by decide) rfl rfl ?_
                            refine SW_iconst h (dt t_R_rank 12 rfl) ?_
                            exact SW_iret h (hret _ hf) (fun _ => (by decide)) rfl (dt t_R_rank 13 rfl)
                          · refine SW_ite hf (fun h14 hf => ?_) (fun h14 hf => ?_)
                            · refine SW_tabIn (tgt := 98) h 13 (fun _ => hx0) (dt t_R_rank 1 rfl) (h14.trans rfl) (by decide) rfl rfl ?_
                              refine SW_iload_n h rfl (dt t_R_rank 14 rfl) ?_
                              refine SW_sipush h (dt t_R_rank 15 rfl) (by decide) ?_
                              refine SW_icmp_lt (tgt := 116) h (fun _ => hx0) (fun _ => (by decide)) (dt t_R_rank 16 rfl) rfl hf (fun hf => ?_) (fun hf => ?_)
                              · refine SW_iconst h (dt t_R_rank 22 rfl) ?_
                                exact SW_iret h (hret _ hf) (fun _ => (by decide)) rfl (dt t_R_rank 23 rfl)
                              · refine SW_iload_n h rfl (dt t_R_rank 17 rfl) ?_
                                refine SW_sipush h (dt t_R_rank 18 rfl) (by decide) ?_
                                refine SW_icmp_gt (tgt := 116) h (fun _ => hx0) (fun _ => (by decide)) (dt t_R_rank 19 rfl) rfl hf (fun hf => ?_) (fun hf => ?_)
                                · refine SW_iconst h (dt t_R_rank 22 rfl) ?_
                                  exact SW_iret h (hret _ hf) (fun _ => (by decide)) rfl (dt t_R_rank 23 rfl)
                                · refine SW_iconst h (dt t_R_rank 20 rfl) ?_
                                  refine SW_goto (tgt := 117) h (dt t_R_rank 21 rfl) rfl ?_
                                  exact SW_iret h (hret _ hf) (fun _ => (by decide)) rfl (dt t_R_rank 23 rfl)
                            · refine SW_ite hf (fun h15 hf => ?_) (fun h15 hf => ?_)
                              · refine SW_tabIn (tgt := 98) h 14 (fun _ => hx0) (dt t_R_rank 1 rfl) (h15.trans rfl) (by decide) rfl rfl ?_
                                refine SW_iload_n h rfl (dt t_R_rank 14 rfl) ?_
                                refine SW_sipush h (dt t_R_rank 15 rfl) (by decide) ?_
                                refine SW_icmp_lt (tgt := 116) h (fun _ => hx0) (fun _ => (by decide)) (dt t_R_rank 16 rfl) rfl hf (fun hf => ?_) (fun hf => ?_)
                                · refine SW_iconst h (dt t_R_rank 22 rfl) ?_
                                  exact SW_iret h (hret _ hf) (fun _ => (by decide)) rfl (dt t_R_rank 23 rfl)
                                · refine SW_iload_n h rfl (dt t_R_rank 17 rfl) ?_
                                  refine SW_sipush h (dt t_R_rank 18 rfl) (by decide) ?_
                                  refine SW_icmp_gt (tgt := 116) h (fun _ => hx0) (fun _ => (by decide)) (dt t_R_rank 19 rfl) rfl hf (fun hf => ?_) (fun hf => ?_)
                                  · refine SW_iconst h (dt t_R_rank 22 rfl) ?_
                                    exact SW_iret h (hret _ hf) (fun _ => (by decide)) rfl (dt t_R_rank 23 rfl)
                                  · refine SW_iconst h (dt t_R_rank 20 rfl) ?_
                                    refine SW_goto (tgt := 117) h (dt t_R_rank 21 rfl) rfl ?_
                                    exact SW_iret h (hret _ hf) (fun _ => (by decide)) rfl (dt t_R_rank 23 rfl)
                              · refine SW_ite hf (fun h16 hf => ?_) (fun h16 hf => ?_)
                                · refine SW_tabIn (tgt := 84) h 15 (fun _ => hx0) (dt t_R_rank 1 rfl) (h16.trans rfl) (by decide) rfl rfl ?_
                                  refine SW_bipush h (dt t_R_rank 2 rfl) (by decide) ?_
                                  exact SW_iret h (hret _ hf) (fun _ => (by decide)) rfl (dt t_R_rank 3 rfl)
                                · refine SW_ite hf (fun h17 hf => ?_) (fun h17 hf => ?_)
                                  · refine SW_tabIn (tgt := 92) h 16 (fun _ => hx0) (dt t_R_rank 1 rfl) (h17.trans rfl) (by decide) rfl rfl ?_
                                    refine SW_iconst h (dt t_R_rank 8 rfl) ?_
                                    exact SW_iret h (hret _ hf) (fun _ => (by decide)) rfl (dt t_R_rank 9 rfl)
                                  · refine SW_tabOut (tgt := 98) h (fun _ => hx0) (dt t_R_rank 1 rfl) (by omega) rfl ?_
                                    refine SW_iload_n h rfl (dt t_R_rank 14 rfl) ?_
                                    refine SW_sipush h (dt t_R_rank 15 rfl) (by decide) ?_
                                    refine SW_icmp_lt (tgt := 116) h (fun _ => hx0) (fun _ => (by decide)) (dt t_R_rank 16 rfl) rfl hf (fun hf => ?_) (fun hf => ?_)
                                    · refine SW_iconst h (dt t_R_rank 22 rfl) ?_
                                      exact SW_iret h (hret _ hf) (fun _ => (by decide)) rfl (dt t_R_rank 23 rfl)
                                    · refine SW_iload_n h rfl (dt t_R_rank 17 rfl) ?_
                                      refine SW_sipush h (dt t_R_rank 18 rfl) (by decide) ?_
                                      refine SW_icmp_gt (tgt := 116) h (fun _ => hx0) (fun _ => (by decide)) (dt t_R_rank 19 rfl) rfl hf (fun hf => ?_) (fun hf => ?_)
                                      · refine SW_iconst h (dt t_R_rank 22 rfl) ?_
                                        exact SW_iret h (hret _ hf) (fun _ => (by decide)) rfl (dt t_R_rank 23 rfl)
                                      · refine SW_iconst h (dt t_R_rank 20 rfl) ?_
                                        refine SW_goto (tgt := 117) h (dt t_R_rank 21 rfl) rfl ?_
                                        exact SW_iret h (hret _ hf) (fun _ => (by decide)) rfl (dt t_R_rank 23 rfl)
def b_R_finish : List (Nat × Instr × Nat) := [(0, .aload_n 0, 1), (1, .getfield 129, 3), (4, .ifCond .le 80, 3), (7, .aload_n 0, 1), (8, .getfield 15, 3), (11, .aload_n 0, 1), (12, .getfield 129, 3), (15, .iconst 1, 1), (16, .isub, 1), (17, .iaload, 1), (18, .invokestatic 174, 3), (21, .iload_n 1, 1), (22, .if_icmp .lt 62, 3), (25, .aload_n 0, 1), (26, .dup, 1), (27, .getfield 129, 3), (30, .iconst 1, 1), (31, .isub, 1), (32, .putfield 129, 3), (35, .aload_n 0, 1), (36, .getfield 15, 3), (39, .aload_n 0, 1), (40, .getfield 129, 3), (43, .iaload, 1), (44, .istore_n 2, 1), (45, .aload_n 0, 1), (46, .getfield 22, 3), (49, .iload_n 2, 1), (50, .invokevirtual 159, 3), (53, .aload_n 0, 1), (54, .dup, 1), (55, .getfield 132, 3), (58, .iload_n 2, 1), (59, .sipush 20015, 3), (62, .if_icmp .eq 10, 3), (65, .iload_n 2, 1), (66, .sipush 20016, 3), (69, .if_icmp .ne 7, 3), (72, .iconst 1, 1), (73, .goto 4, 3), (76, .iconst 0, 1), (77, .isub, 1), (78, .putfield 132, 3), (81, .goto (-81), 3), (84, .return_, 1)]
theorem t_R_finish : DT cX5_finish b_R_finish := DT.of (by decide +kernel)
def L_R_finish_0 : Nat → Int → Mm → Option (Mm)
  | 0, _, _ => none
  | n + 1, x1, σ =>
    if σ 90 10 ≤ 0 then
      some σ
    else
      if 0 ≤ (σ 90 10) - 1 ∧ (σ 90 10) - 1 < 300 then
        b1 (F_R_rank (σ 92 (((σ 90 10) - 1).toNat))) fun v1 =>
        if v1 < x1 then
          some σ
        else
          if r32 ((σ 90 10) - 1) then
            bindM (st2 σ 90 10 ((σ 90 10) - 1)) fun s4 =>
            if 0 ≤ s4 90 10 ∧ s4 90 10 < 300 then
              bindM (s4 92 ((s4 90 10).toNat)) fun v5 =>
              if 0 ≤ s4 90 15 ∧ IsO 0 9 (s4 90 15).toNat then
                b0M (F_T_emit ((s4 90 15).toNat) v5 s4) fun s7 =>
                bindM (fun (y8 : Int) =>
                  if r32 ((s7 90 11) - y8) then
                    bindM (st2 s7 90 11 ((s7 90 11) - y8)) fun s11 =>
                    L_R_finish_0 n x1 s11
                  else none) fun J8 =>
                bindM (
                  J8 1) fun J12 =>
                if v5 = 20015 then
                  J12
                else
                  if v5 = 20016 then
                    J12
                  else
                    J8 0
              else none
            else none
          else none
      else none
set_option maxRecDepth 100000 in
set_option maxHeartbeats 4000000 in
theorem l_R_finish_0 {X : Cx} (h : CX X 0 cX5_finish 3 1 none RX5) (x1 : Int) (hx1 : r32 x1) {res : Mm} (hex : ∀  (σ : Mm) (hz : some σ = some res)  (ok : okM σ), SW X 0 3 84 [none, none, none] [] σ) : ∀ (n : Nat)  (σ : Mm)  (ok : okM σ) (hf : L_R_finish_0 n x1 σ = some res), SW X 0 3 0 [some (.ref (xad X 90)), some (.int (i32 x1)), none] [] σ := by
  intro n
  induction n with
  | zero => intro σ ok hf; exact absurd hf (by simp [L_R_finish_0])
  | succ n ih =>
    intro σ ok hf
    rw [L_R_finish_0] at hf
    refine SW_aload_n h rfl (dt t_R_finish 0 rfl) ?_
    refine gI h cf5 o90 f5_10 lX5_129 (dt t_R_finish 1 rfl) ?_
    refine SW_if_le (tgt := 84) h (fun _ => (okI ok 90 10 (IsO.n3 o90))) (dt t_R_finish 2 rfl) rfl hf (fun hf => ?_) (fun hf => ?_)
    · exact SW_fgt [false, false, false] rfl (hex σ hf ok)
    · refine SW_aload_n h rfl (dt t_R_finish 3 rfl) ?_
      refine gR h cf5 o90 f5_9 j90_9 lX5_15 (dt t_R_finish 4 rfl) ?_
      refine SW_aload_n h rfl (dt t_R_finish 5 rfl) ?_
      refine gI h cf5 o90 f5_10 lX5_129 (dt t_R_finish 6 rfl) ?_
      refine SW_iconst h (dt t_R_finish 7 rfl) ?_
      refine SW_isub h (dt t_R_finish 8 rfl) ?_
      refine aI h a92 (dt t_R_finish 9 rfl) hf (fun hf => ?_)
      obtain ⟨v1, e1, hf⟩ := b1_of hf
      refine cS h [.int (i32 (σ 92 (((σ 90 10) - 1).toNat)))] [] v_X5_rank kX5_174 (c_R_rank (σ 92 (((σ 90 10) - 1).toNat)) (okI ok 92 (((σ 90 10) - 1).toNat) (IsA.n3 a92 (by decide))) e1) rfl rfl (by decide) (by decide) rfl (Nat.le_of_ble_eq_true rfl) (dt t_R_finish 10 rfl) (fun h1 => ?_)
      refine SW_iload_n h rfl (dt t_R_finish 11 rfl) ?_
      refine SW_icmp_lt (tgt := 84) h (fun _ => h1) (fun _ => hx1) (dt t_R_finish 12 rfl) rfl hf (fun hf => ?_) (fun hf => ?_)
      · exact SW_fgt [false, false, false] rfl (hex σ hf ok)
      · refine SW_aload_n h rfl (dt t_R_finish 13 rfl) ?_
        refine SW_dup h rfl (dt t_R_finish 14 rfl) ?_
        refine gI h cf5 o90 f5_10 lX5_129 (dt t_R_finish 15 rfl) ?_
        refine SW_iconst h (dt t_R_finish 16 rfl) ?_
        refine SW_isub h (dt t_R_finish 17 rfl) ?_
        refine SW_chk hf (fun h3 hf => ?_)
        refine pI h cf5 o90 f5_10 h3 lX5_129 (dt t_R_finish 18 rfl) (SW_bm hf (fun s4 ok4 hf => ?_))
        refine SW_aload_n h rfl (dt t_R_finish 19 rfl) ?_
        refine gR h cf5 o90 f5_9 j90_9 lX5_15 (dt t_R_finish 20 rfl) ?_
        refine SW_aload_n h rfl (dt t_R_finish 21 rfl) ?_
        refine gI h cf5 o90 f5_10 lX5_129 (dt t_R_finish 22 rfl) ?_
        refine aI h a92 (dt t_R_finish 23 rfl) hf (fun hf => ?_)
        refine SW_vi hf (okI ok4 92 ((s4 90 10).toNat) (IsA.n3 a92 (by decide))) (fun v5 h5 hf => ?_)
        refine SW_istore_n (lv2 := [some (.ref (xad X 90)), some (.int (i32 x1)), some (.int (i32 v5))]) h (dt t_R_finish 24 rfl) (by decide) rfl ?_
        refine SW_aload_n h rfl (dt t_R_finish 25 rfl) ?_
        refine gD h cf5 o90 f5_15 lX5_22 (dt t_R_finish 26 rfl) ?_
        refine SW_isO hf (fun h6 hf => ?_)
        refine SW_iload_n h rfl (dt t_R_finish 27 rfl) ?_
        obtain ⟨s7, e7, hf⟩ := b0M_of hf
        refine cVv h [.int (i32 v5)] [] v_X9_emit kX5_159 h6 (c_T_emit ((s4 90 15).toNat) h6 v5 h5 e7) rfl rfl (by decide) (by decide) rfl (Nat.le_of_ble_eq_true rfl) (dt t_R_finish 28 rfl) (fun h7 => ?_)
        refine SW_ok (fun ok7 => ?_)
        refine SW_aload_n h rfl (dt t_R_finish 29 rfl) ?_
        refine SW_dup h rfl (dt t_R_finish 30 rfl) ?_
        refine gI h cf5 o90 f5_11 lX5_132 (dt t_R_finish 31 rfl) ?_
        refine SW_iload_n h rfl (dt t_R_finish 32 rfl) ?_
        refine SW_sipush h (dt t_R_finish 33 rfl) (by decide) ?_
        refine bJ hf (fun J8 e8 hf => ?_)
        have k8 : ∀ (y8 : Int) (hy8 : r32 y8) (hf : J8 y8 = some res), SW X 0 3 77 [some (.ref (xad X 90)), some (.int (i32 x1)), none] [.int (i32 y8), .int (i32 (s7 90 11)), .ref (xad X 90)] s7 := by
          intro y8 hy8 hf
          rw [e8] at hf
          refine SW_isub h (dt t_R_finish 41 rfl) ?_
          refine SW_chk hf (fun h10 hf => ?_)
          refine pI h cf5 o90 f5_11 h10 lX5_132 (dt t_R_finish 42 rfl) (SW_bm hf (fun s11 ok11 hf => ?_))
          refine SW_goto (tgt := 0) h (dt t_R_finish 43 rfl) rfl ?_
          exact SW_fgt [true, true, false] rfl (ih s11 ok11 hf)
        refine bJ hf (fun J12 e12 hf => ?_)
        have k12 : ∀ (hf : J12 = some res), SW X 0 3 72 [some (.ref (xad X 90)), some (.int (i32 x1)), none] [.int (i32 (s7 90 11)), .ref (xad X 90)] s7 := by
          intro hf
          rw [e12] at hf
          refine SW_iconst h (dt t_R_finish 38 rfl) ?_
          refine SW_goto (tgt := 77) h (dt t_R_finish 39 rfl) rfl ?_
          exact SW_fgt [true, true, false] rfl (k8 1 (by decide) hf)
        refine SW_icmp_eq (tgt := 72) h (fun _ => h5) (fun _ => (by decide)) (dt t_R_finish 34 rfl) rfl hf (fun hf => ?_) (fun hf => ?_)
        · exact SW_fgt [true, true, false] rfl (k12 hf)
        · refine SW_iload_n h rfl (dt t_R_finish 35 rfl) ?_
          refine SW_sipush h (dt t_R_finish 36 rfl) (by decide) ?_
          refine SW_icmp_ne (tgt := 76) h (fun _ => h5) (fun _ => (by decide)) (dt t_R_finish 37 rfl) rfl hf (fun hf => ?_) (fun hf => ?_)
          · exact SW_fgt [true, true, false] rfl (k12 hf)
          · refine SW_iconst h (dt t_R_finish 40 rfl) ?_
            exact SW_fgt [true, true, false] rfl (k8 0 (by decide) hf)
def F_R_finish (x1 : Int) (σ : Mm) : Option (Mm) :=
  b0M (L_R_finish_0 LF x1 σ) fun s13 =>
  some s13
set_option maxRecDepth 100000 in
set_option maxHeartbeats 4000000 in
theorem c_R_finish (x1 : Int) (hx1 : r32 x1) {σ : Mm} {σ2 : Mm} (hf : F_R_finish x1 σ = some σ2) : CT yX5_finish cX5_finish 3 none 1 0 (fun ad => [.ref (ad 90), .int (i32 x1)]) σ True none σ2 := by
  refine MetJ 1 (by decide +kernel) rfl (fun _ => Nat.le_of_ble_eq_true rfl) ?_
  intro X h hR ok
  obtain ⟨res, er⟩ : ∃ z, z = σ2 := ⟨_, rfl⟩
  have hret : ∀ y : Mm, some y = some res → RX X 0 True none y := fun y e => by cases e; cases er; exact hR
  rw [← er] at hf
  clear er hR
  unfold F_R_finish at hf
  show SW X 0 3 0 [some (.ref (xad X 90)), some (.int (i32 x1)), none] [] σ
  obtain ⟨z13, e13, hk13⟩ := b0M_ex hf
  refine SW_fgt [true, true, false] rfl (l_R_finish_0 h x1 hx1 (fun s13 hz13 ok13 => ?_) LF σ ok e13)
  have hf := hk13 s13 hz13
  exact SW_vret h (hret _ hf) rfl (dt t_R_finish 44 rfl)
def b_R_readEnd : List (Nat × Instr × Nat) := [(0, .aload_n 0, 1), (1, .iconst 1, 1), (2, .invokevirtual 177, 3), (5, .aload_n 0, 1), (6, .invokevirtual 168, 3), (9, .istore_n 1, 1), (10, .aload_n 0, 1), (11, .getfield 47, 3), (14, .bipush 59, 2), (16, .if_icmp .ne 28, 3), (19, .iload_n 1, 1), (20, .iconst (-1), 1), (21, .if_icmp .ne 23, 3), (24, .aload_n 0, 1), (25, .getfield 126, 3), (28, .ifCond .ne 10, 3), (31, .aload_n 0, 1), (32, .getfield 138, 3), (35, .ifCond .eq 9, 3), (38, .aload_n 0, 1), (39, .invokevirtual 44, 3), (42, .iconst 2, 1), (43, .ireturn, 1), (44, .aload_n 0, 1), (45, .getfield 47, 3), (48, .bipush 44, 2), (50, .if_icmp .ne 50, 3), (53, .iload_n 1, 1), (54, .sipush 20018, 3), (57, .if_icmp .eq 10, 3), (60, .iload_n 1, 1), (61, .sipush 20019, 3), (64, .if_icmp .ne 36, 3), (67, .aload_n 0, 1), (68, .getfield 15, 3), (71, .aload_n 0, 1), (72, .getfield 129, 3), (75, .iconst 1, 1), (76, .isub, 1), (77, .iload_n 1, 1), (78, .sipush 20018, 3), (81, .if_icmp .ne 9, 3), (84, .sipush 20020, 3), (87, .goto 6, 3), (90, .sipush 20021, 3), (93, .iastore, 1), (94, .aload_n 0, 1), (95, .invokevirtual 44, 3), (98, .iconst 0, 1), (99, .ireturn, 1), (100, .aload_n 0, 1), (101, .getfield 47, 3), (104, .bipush 41, 2), (106, .if_icmp .ne 17, 3), (109, .iload_n 1, 1), (110, .sipush 20017, 3), (113, .if_icmp .eq 16, 3), (116, .iload_n 1, 1), (117, .sipush 20020, 3), (120, .if_icmp .ge 9, 3), (123, .aload_n 0, 1), (124, .iconst 1, 1), (125, .invokevirtual 92, 3), (128, .ireturn, 1), (129, .iload_n 1, 1), (130, .sipush 20017, 3), (133, .if_icmp .eq 26, 3), (136, .aload_n 0, 1), (137, .getfield 22, 3), (140, .iload_n 1, 1), (141, .sipush 20020, 3), (144, .if_icmp .ne 9, 3), (147, .sipush 20013, 3), (150, .goto 6, 3), (153, .sipush 20014, 3), (156, .invokevirtual 159, 3), (159, .aload_n 0, 1), (160, .dup, 1), (161, .getfield 129, 3), (164, .iconst 1, 1), (165, .isub, 1), (166, .putfield 129, 3), (169, .aload_n 0, 1), (170, .dup, 1), (171, .getfield 132, 3), (174, .iconst 1, 1), (175, .isub, 1), (176, .putfield 132, 3), (179, .aload_n 0, 1), (180, .dup, 1), (181, .getfield 135, 3), (184, .iconst 1, 1), (185, .isub, 1), (186, .putfield 135, 3), (189, .aload_n 0, 1), (190, .invokevirtual 44, 3), (193, .iconst 1, 1), (194, .ireturn, 1)]
theorem t_R_readEnd : DT cX5_readEnd b_R_readEnd := DT.of (by decide +kernel)
def F_R_readEnd  (σ : Mm) : Option (Int × Mm) :=
  b0M (F_R_finish 1 σ) fun s1 =>
  b1 (F_R_outer  s1) fun v2 =>
  bindM (
    bindM (
      bindM (
        b1M (F_R_fail 1 s1) fun v6 s6 =>
        some (v6, s6)) fun J5 =>
      if s1 90 7 = 41 then
        bindM (
          bindM (fun  (t8 : Mm) =>
            if r32 ((t8 90 10) - 1) then
              bindM (st2 t8 90 10 ((t8 90 10) - 1)) fun s11 =>
              if r32 ((s11 90 11) - 1) then
                bindM (st2 s11 90 11 ((s11 90 11) - 1)) fun s14 =>
                if r32 ((s14 90 12) - 1) then
                  bindM (st2 s14 90 12 ((s14 90 12) - 1)) fun s17 =>
                  b0M (F_R_step  s17) fun s18 =>
                  some (1, s18)
                else none
              else none
            else none) fun J8 =>
          if v2 = 20017 then
            J8 s1
          else
            if 0 ≤ s1 90 15 ∧ IsO 0 9 (s1 90 15).toNat then
              bindM ((if v2 = 20020 then 20013 else 20014 : Int)) fun v20 =>
              b0M (F_T_emit ((s1 90 15).toNat) v20 s1) fun s21 =>
              J8 s21
            else none) fun J7 =>
        if v2 = 20017 then
          J7
        else
          if 20020 ≤ v2 then
            J7
          else
            J5
      else
        J5) fun J4 =>
    if s1 90 7 = 44 then
      bindM (
        bindM ((if v2 = 20018 then 20020 else 20021 : Int)) fun v23 =>
        if 0 ≤ (s1 90 10) - 1 ∧ (s1 90 10) - 1 < 300 then
          bindM (st2 s1 92 (((s1 90 10) - 1).toNat) v23) fun s24 =>
          b0M (F_R_step  s24) fun s25 =>
          some (0, s25)
        else none) fun J22 =>
      if v2 = 20018 then
        J22
      else
        if v2 = 20019 then
          J22
        else
          J4
    else
      J4) fun J3 =>
  if s1 90 7 = 59 then
    if v2 = (-1) then
      bindM (
        b0M (F_R_step  s1) fun s27 =>
        some (2, s27)) fun J26 =>
      if s1 90 14 = 0 then
        if s1 90 13 = 0 then
          J3
        else
          J26
      else
        J26
    else
      J3
  else
    J3
set_option maxRecDepth 100000 in
set_option maxHeartbeats 4000000 in
theorem c_R_readEnd  {σ : Mm} {a : Int} {σ2 : Mm} (hf : F_R_readEnd  σ = some (a, σ2)) : CT yX5_readEnd cX5_readEnd 2 (some .int) 10 0 (fun ad => [.ref (ad 90)]) σ (r32 a) (some (.int (i32 a))) σ2 := by
  refine MetJ 1 (by decide +kernel) rfl (fun _ => Nat.le_of_ble_eq_true rfl) ?_
  intro X h hR ok
  obtain ⟨res, er⟩ : ∃ z, z = (a, σ2) := ⟨_, rfl⟩
  have hret : ∀ y : Int × Mm, some y = some res → RX X 0 (r32 (y.1)) (some (.int (i32 (y.1)))) y.2 := fun y e => by cases e; cases er; exact hR
  rw [← er] at hf
  clear er hR
  unfold F_R_readEnd at hf
  show SW X 0 2 0 [some (.ref (xad X 90)), none] [] σ
  refine SW_aload_n h rfl (dt t_R_readEnd 0 rfl) ?_
  refine SW_iconst h (dt t_R_readEnd 1 rfl) ?_
  obtain ⟨s1, e1, hf⟩ := b0M_of hf
  refine cVv h [.int (i32 1)] [] v_X5_finish kX5_177 o90 (c_R_finish 1 (by decide) e1) rfl rfl (by decide) (by decide) rfl (Nat.le_of_ble_eq_true rfl) (dt t_R_readEnd 2 rfl) (fun h1 => ?_)
  refine SW_ok (fun ok1 => ?_)
  refine SW_aload_n h rfl (dt t_R_readEnd 3 rfl) ?_
  obtain ⟨v2, e2, hf⟩ := b1_of hf
  refine cV h [] [] v_X5_outer kX5_168 o90 (c_R_outer  e2) rfl rfl (by decide) (by decide) rfl (Nat.le_of_ble_eq_true rfl) (dt t_R_readEnd 4 rfl) (fun h2 => ?_)
  refine SW_istore_n (lv2 := [some (.ref (xad X 90)), some (.int (i32 v2))]) h (dt t_R_readEnd 5 rfl) (by decide) rfl ?_
  refine SW_aload_n h rfl (dt t_R_readEnd 6 rfl) ?_
  refine gI h cf5 o90 f5_7 lX5_47 (dt t_R_readEnd 7 rfl) ?_
  refine SW_bipush h (dt t_R_readEnd 8 rfl) (by decide) ?_
  refine bJ hf (fun J3 e3 hf => ?_)
  have k3 : ∀ (hf : J3 = some res), SW X 0 2 44 [some (.ref (xad X 90)), some (.int (i32 v2))] [] s1 := by
    intro hf
    rw [e3] at hf
    refine SW_aload_n h rfl (dt t_R_readEnd 23 rfl) ?_
    refine gI h cf5 o90 f5_7 lX5_47 (dt t_R_readEnd 24 rfl) ?_
    refine SW_bipush h (dt t_R_readEnd 25 rfl) (by decide) ?_
    refine bJ hf (fun J4 e4 hf => ?_)
    have k4 : ∀ (hf : J4 = some res), SW X 0 2 100 [some (.ref (xad X 90)), some (.int (i32 v2))] [] s1 := by
      intro hf
      rw [e4] at hf
      refine SW_aload_n h rfl (dt t_R_readEnd 50 rfl) ?_
      refine gI h cf5 o90 f5_7 lX5_47 (dt t_R_readEnd 51 rfl) ?_
      refine SW_bipush h (dt t_R_readEnd 52 rfl) (by decide) ?_
      refine bJ hf (fun J5 e5 hf => ?_)
      have k5 : ∀ (hf : J5 = some res), SW X 0 2 123 [some (.ref (xad X 90)), none] [] s1 := by
        intro hf
        rw [e5] at hf
        refine SW_aload_n h rfl (dt t_R_readEnd 60 rfl) ?_
        refine SW_iconst h (dt t_R_readEnd 61 rfl) ?_
        obtain ⟨v6, s6, e6, hf⟩ := b1M_of hf
        refine cV h [.int (i32 1)] [] v_X5_fail kX5_92 o90 (c_R_fail 1 (by decide) e6) rfl rfl (by decide) (by decide) rfl (Nat.le_of_ble_eq_true rfl) (dt t_R_readEnd 62 rfl) (fun h6 => ?_)
        refine SW_ok (fun ok6 => ?_)
        exact SW_iret h (hret _ hf) (fun _ => h6) rfl (dt t_R_readEnd 63 rfl)
      refine SW_icmp_ne (tgt := 123) h (fun _ => (okI ok1 90 7 (IsO.n3 o90))) (fun _ => (by decide)) (dt t_R_readEnd 53 rfl) rfl hf (fun hf => ?_) (fun hf => ?_)
      · refine SW_iload_n h rfl (dt t_R_readEnd 54 rfl) ?_
        refine SW_sipush h (dt t_R_readEnd 55 rfl) (by decide) ?_
        refine bJ hf (fun J7 e7 hf => ?_)
        have k7 : ∀ (hf : J7 = some res), SW X 0 2 129 [some (.ref (xad X 90)), some (.int (i32 v2))] [] s1 := by
          intro hf
          rw [e7] at hf
          refine SW_iload_n h rfl (dt t_R_readEnd 64 rfl) ?_
          refine SW_sipush h (dt t_R_readEnd 65 rfl) (by decide) ?_
          refine bJ hf (fun J8 e8 hf => ?_)
          have k8 : ∀  (t8 : Mm)  (ot8 : okM t8) (hf : J8 t8 = some res), SW X 0 2 159 [some (.ref (xad X 90)), none] [] t8 := by
            intro t8 ot8 hf
            rw [e8] at hf
            refine SW_aload_n h rfl (dt t_R_readEnd 76 rfl) ?_
            refine SW_dup h rfl (dt t_R_readEnd 77 rfl) ?_
            refine gI h cf5 o90 f5_10 lX5_129 (dt t_R_readEnd 78 rfl) ?_
            refine SW_iconst h (dt t_R_readEnd 79 rfl) ?_
            refine SW_isub h (dt t_R_readEnd 80 rfl) ?_
            refine SW_chk hf (fun h10 hf => ?_)
            refine pI h cf5 o90 f5_10 h10 lX5_129 (dt t_R_readEnd 81 rfl) (SW_bm hf (fun s11 ok11 hf => ?_))
            refine SW_aload_n h rfl (dt t_R_readEnd 82 rfl) ?_
            refine SW_dup h rfl (dt t_R_readEnd 83 rfl) ?_
            refine gI h cf5 o90 f5_11 lX5_132 (dt t_R_readEnd 84 rfl) ?_
            refine SW_iconst h (dt t_R_readEnd 85 rfl) ?_
            refine SW_isub h (dt t_R_readEnd 86 rfl) ?_
            refine SW_chk hf (fun h13 hf => ?_)
            refine pI h cf5 o90 f5_11 h13 lX5_132 (dt t_R_readEnd 87 rfl) (SW_bm hf (fun s14 ok14 hf => ?_))
            refine SW_aload_n h rfl (dt t_R_readEnd 88 rfl) ?_
            refine SW_dup h rfl (dt t_R_readEnd 89 rfl) ?_
            refine gI h cf5 o90 f5_12 lX5_135 (dt t_R_readEnd 90 rfl) ?_
            refine SW_iconst h (dt t_R_readEnd 91 rfl) ?_
            refine SW_isub h (dt t_R_readEnd 92 rfl) ?_
            refine SW_chk hf (fun h16 hf => ?_)
            refine pI h cf5 o90 f5_12 h16 lX5_135 (dt t_R_readEnd 93 rfl) (SW_bm hf (fun s17 ok17 hf => ?_))
            refine SW_aload_n h rfl (dt t_R_readEnd 94 rfl) ?_
            obtain ⟨s18, e18, hf⟩ := b0M_of hf
            refine cVv h [] [] v_X5_step kX5_44 o90 (c_R_step  e18) rfl rfl (by decide) (by decide) rfl (Nat.le_of_ble_eq_true rfl) (dt t_R_readEnd 95 rfl) (fun h18 => ?_)
            refine SW_ok (fun ok18 => ?_)
            refine SW_iconst h (dt t_R_readEnd 96 rfl) ?_
            exact SW_iret h (hret _ hf) (fun _ => (by decide)) rfl (dt t_R_readEnd 97 rfl)
          refine SW_icmp_eq (tgt := 159) h (fun _ => h2) (fun _ => (by decide)) (dt t_R_readEnd 66 rfl) rfl hf (fun hf => ?_) (fun hf => ?_)
          · exact SW_fgt [true, false] rfl (k8 s1 ok1 hf)
          · refine SW_aload_n h rfl (dt t_R_readEnd 67 rfl) ?_
            refine gD h cf5 o90 f5_15 lX5_22 (dt t_R_readEnd 68 rfl) ?_
            refine SW_isO hf (fun h19 hf => ?_)
            refine SW_iload_n h rfl (dt t_R_readEnd 69 rfl) ?_
            refine SW_sipush h (dt t_R_readEnd 70 rfl) (by decide) ?_
            refine bT hf (fun g20 e20 hf => ?_)
            have k20 : ∀ (v20 : Int) (h20 : r32 v20) (hf : g20 v20 = some res), SW X 0 2 156 [some (.ref (xad X 90)), some (.int (i32 v2))] [.int (i32 v20), .ref (xad X ((s1 90 15).toNat))] s1 := by
              intro v20 h20 hf
              rw [e20] at hf
              obtain ⟨s21, e21, hf⟩ := b0M_of hf
              refine cVv h [.int (i32 v20)] [] v_X9_emit kX5_159 h19 (c_T_emit ((s1 90 15).toNat) h19 v20 h20 e21) rfl rfl (by decide) (by decide) rfl (Nat.le_of_ble_eq_true rfl) (dt t_R_readEnd 75 rfl) (fun h21 => ?_)
              refine SW_ok (fun ok21 => ?_)
              exact SW_fgt [true, false] rfl (k8 s21 ok21 hf)
            have hf := bIte hf
            refine SW_icmp_ne (tgt := 153) h (fun _ => h2) (fun _ => (by decide)) (dt t_R_readEnd 71 rfl) rfl hf (fun hf => ?_) (fun hf => ?_)
            · refine SW_sipush h (dt t_R_readEnd 72 rfl) (by decide) ?_
              refine SW_goto (tgt := 156) h (dt t_R_readEnd 73 rfl) rfl ?_
              exact k20 20013 (by decide) hf
            · refine SW_sipush h (dt t_R_readEnd 74 rfl) (by decide) ?_
              exact k20 20014 (by decide) hf
        refine SW_icmp_eq (tgt := 129) h (fun _ => h2) (fun _ => (by decide)) (dt t_R_readEnd 56 rfl) rfl hf (fun hf => ?_) (fun hf => ?_)
        · exact SW_fgt [true, true] rfl (k7 hf)
        · refine SW_iload_n h rfl (dt t_R_readEnd 57 rfl) ?_
          refine SW_sipush h (dt t_R_readEnd 58 rfl) (by decide) ?_
          refine SW_icmp_ge (tgt := 129) h (fun _ => h2) (fun _ => (by decide)) (dt t_R_readEnd 59 rfl) rfl hf (fun hf => ?_) (fun hf => ?_)
          · exact SW_fgt [true, true] rfl (k7 hf)
          · exact SW_fgt [true, false] rfl (k5 hf)
      · exact SW_fgt [true, false] rfl (k5 hf)
    refine SW_icmp_ne (tgt := 100) h (fun _ => (okI ok1 90 7 (IsO.n3 o90))) (fun _ => (by decide)) (dt t_R_readEnd 26 rfl) rfl hf (fun hf => ?_) (fun hf => ?_)
    · refine SW_iload_n h rfl (dt t_R_readEnd 27 rfl) ?_
      refine SW_sipush h (dt t_R_readEnd 28 rfl) (by decide) ?_
      refine bJ hf (fun J22 e22 hf => ?_)
      have k22 : ∀ (hf : J22 = some res), SW X 0 2 67 [some (.ref (xad X 90)), some (.int (i32 v2))] [] s1 := by
        intro hf
        rw [e22] at hf
        refine SW_aload_n h rfl (dt t_R_readEnd 33 rfl) ?_
        refine gR h cf5 o90 f5_9 j90_9 lX5_15 (dt t_R_readEnd 34 rfl) ?_
        refine SW_aload_n h rfl (dt t_R_readEnd 35 rfl) ?_
        refine gI h cf5 o90 f5_10 lX5_129 (dt t_R_readEnd 36 rfl) ?_
        refine SW_iconst h (dt t_R_readEnd 37 rfl) ?_
        refine SW_isub h (dt t_R_readEnd 38 rfl) ?_
        refine SW_iload_n h rfl (dt t_R_readEnd 39 rfl) ?_
        refine SW_sipush h (dt t_R_readEnd 40 rfl) (by decide) ?_
        refine bT hf (fun g23 e23 hf => ?_)
        have k23 : ∀ (v23 : Int) (h23 : r32 v23) (hf : g23 v23 = some res), SW X 0 2 93 [some (.ref (xad X 90)), some (.int (i32 v2))] [.int (i32 v23), .int (i32 ((s1 90 10) - 1)), .ref (xad X 92)] s1 := by
          intro v23 h23 hf
          rw [e23] at hf
          refine sI h a92 h23 (dt t_R_readEnd 45 rfl) hf (fun hf => SW_bm hf (fun s24 ok24 hf => ?_))
          refine SW_aload_n h rfl (dt t_R_readEnd 46 rfl) ?_
          obtain ⟨s25, e25, hf⟩ := b0M_of hf
          refine cVv h [] [] v_X5_step kX5_44 o90 (c_R_step  e25) rfl rfl (by decide) (by decide) rfl (Nat.le_of_ble_eq_true rfl) (dt t_R_readEnd 47 rfl) (fun h25 => ?_)
          refine SW_ok (fun ok25 => ?_)
          refine SW_iconst h (dt t_R_readEnd 48 rfl) ?_
          exact SW_iret h (hret _ hf) (fun _ => (by decide)) rfl (dt t_R_readEnd 49 rfl)
        have hf := bIte hf
        refine SW_icmp_ne (tgt := 90) h (fun _ => h2) (fun _ => (by decide)) (dt t_R_readEnd 41 rfl) rfl hf (fun hf => ?_) (fun hf => ?_)
        · refine SW_sipush h (dt t_R_readEnd 42 rfl) (by decide) ?_
          refine SW_goto (tgt := 93) h (dt t_R_readEnd 43 rfl) rfl ?_
          exact k23 20020 (by decide) hf
        · refine SW_sipush h (dt t_R_readEnd 44 rfl) (by decide) ?_
          exact k23 20021 (by decide) hf
      refine SW_icmp_eq (tgt := 67) h (fun _ => h2) (fun _ => (by decide)) (dt t_R_readEnd 29 rfl) rfl hf (fun hf => ?_) (fun hf => ?_)
      · exact SW_fgt [true, true] rfl (k22 hf)
      · refine SW_iload_n h rfl (dt t_R_readEnd 30 rfl) ?_
        refine SW_sipush h (dt t_R_readEnd 31 rfl) (by decide) ?_
        refine SW_icmp_ne (tgt := 100) h (fun _ => h2) (fun _ => (by decide)) (dt t_R_readEnd 32 rfl) rfl hf (fun hf => ?_) (fun hf => ?_)
        · exact SW_fgt [true, true] rfl (k22 hf)
        · exact SW_fgt [true, true] rfl (k4 hf)
    · exact SW_fgt [true, true] rfl (k4 hf)
  refine SW_icmp_ne (tgt := 44) h (fun _ => (okI ok1 90 7 (IsO.n3 o90))) (fun _ => (by decide)) (dt t_R_readEnd 9 rfl) rfl hf (fun hf => ?_) (fun hf => ?_)
  · refine SW_iload_n h rfl (dt t_R_readEnd 10 rfl) ?_
    refine SW_iconst h (dt t_R_readEnd 11 rfl) ?_
    refine SW_icmp_ne (tgt := 44) h (fun _ => h2) (fun _ => (by decide)) (dt t_R_readEnd 12 rfl) rfl hf (fun hf => ?_) (fun hf => ?_)
    · refine SW_aload_n h rfl (dt t_R_readEnd 13 rfl) ?_
      refine gI h cf5 o90 f5_14 lX5_126 (dt t_R_readEnd 14 rfl) ?_
      refine bJ hf (fun J26 e26 hf => ?_)
      have k26 : ∀ (hf : J26 = some res), SW X 0 2 38 [some (.ref (xad X 90)), none] [] s1 := by
        intro hf
        rw [e26] at hf
        refine SW_aload_n h rfl (dt t_R_readEnd 19 rfl) ?_
        obtain ⟨s27, e27, hf⟩ := b0M_of hf
        refine cVv h [] [] v_X5_step kX5_44 o90 (c_R_step  e27) rfl rfl (by decide) (by decide) rfl (Nat.le_of_ble_eq_true rfl) (dt t_R_readEnd 20 rfl) (fun h27 => ?_)
        refine SW_ok (fun ok27 => ?_)
        refine SW_iconst h (dt t_R_readEnd 21 rfl) ?_
        exact SW_iret h (hret _ hf) (fun _ => (by decide)) rfl (dt t_R_readEnd 22 rfl)
      refine SW_if_ne (tgt := 38) h (fun _ => (okI ok1 90 14 (IsO.n3 o90))) (dt t_R_readEnd 15 rfl) rfl hf (fun hf => ?_) (fun hf => ?_)
      · refine SW_aload_n h rfl (dt t_R_readEnd 16 rfl) ?_
        refine gZ h cf5 o90 f5_13 lX5_138 (dt t_R_readEnd 17 rfl) ?_
        refine SW_if_eq (tgt := 44) h (fun _ => (okI ok1 90 13 (IsO.n3 o90))) (dt t_R_readEnd 18 rfl) rfl hf (fun hf => ?_) (fun hf => ?_)
        · exact SW_fgt [true, true] rfl (k3 hf)
        · exact SW_fgt [true, false] rfl (k26 hf)
      · exact SW_fgt [true, false] rfl (k26 hf)
    · exact SW_fgt [true, true] rfl (k3 hf)
  · exact SW_fgt [true, true] rfl (k3 hf)
def b_R_doneBy : List (Nat × Instr × Nat) := [(0, .aload_n 0, 1), (1, .getfield 47, 3), (4, .lookupswitch 168 #[(3, 140), (4, 148), (35, 156), (37, 124), (42, 116), (43, 128), (45, 132), (47, 120), (60, 136), (61, 152), (62, 144), (310, 164), (311, 160)], 116), (120, .sipush 20000, 3), (123, .ireturn, 1), (124, .sipush 20001, 3), (127, .ireturn, 1), (128, .sipush 20002, 3), (131, .ireturn, 1), (132, .sipush 20003, 3), (135, .ireturn, 1), (136, .sipush 20004, 3), (139, .ireturn, 1), (140, .sipush 20005, 3), (143, .ireturn, 1), (144, .sipush 20006, 3), (147, .ireturn, 1), (148, .sipush 20007, 3), (151, .ireturn, 1), (152, .sipush 20008, 3), (155, .ireturn, 1), (156, .sipush 20009, 3), (159, .ireturn, 1), (160, .sipush 20010, 3), (163, .ireturn, 1), (164, .sipush 20011, 3), (167, .ireturn, 1), (168, .sipush 20012, 3), (171, .ireturn, 1), (172, .iconst (-1), 1), (173, .ireturn, 1)]
theorem t_R_doneBy : DT cX5_doneBy b_R_doneBy := DT.of (by decide +kernel)
def F_R_doneBy  (σ : Mm) : Option (Int) :=
  if σ 90 7 = 3 then
    some 20006
  else
    if σ 90 7 = 4 then
      some 20008
    else
      if σ 90 7 = 35 then
        some 20010
      else
        if σ 90 7 = 37 then
          some 20002
        else
          if σ 90 7 = 42 then
            some 20000
          else
            if σ 90 7 = 43 then
              some 20003
            else
              if σ 90 7 = 45 then
                some 20004
              else
                if σ 90 7 = 47 then
                  some 20001
                else
                  if σ 90 7 = 60 then
                    some 20005
                  else
                    if σ 90 7 = 61 then
                      some 20009
                    else
                      if σ 90 7 = 62 then
                        some 20007
                      else
                        if σ 90 7 = 310 then
                          some 20012
                        else
                          if σ 90 7 = 311 then
                            some 20011
                          else
                            some ((-1))
set_option maxRecDepth 100000 in
set_option maxHeartbeats 4000000 in
theorem c_R_doneBy  {σ : Mm} {a : Int} (hf : F_R_doneBy  σ = some a) : CT yX5_doneBy cX5_doneBy 1 (some .int) 0 0 (fun ad => [.ref (ad 90)]) σ (r32 a) (some (.int (i32 a))) σ := by
  refine MetJ 0 (by decide +kernel) rfl (fun _ => Nat.le_of_ble_eq_true rfl) ?_
  intro X h hR ok
  obtain ⟨res, er⟩ : ∃ z, z = a := ⟨_, rfl⟩
  have hret : ∀ y : Int, some y = some res → RX X 0 (r32 (y)) (some (.int (i32 (y)))) σ := fun y e => by cases e; cases er; exact hR
  rw [← er] at hf
  clear er hR
  unfold F_R_doneBy at hf
  show SW X 0 1 0 [some (.ref (xad X 90))] [] σ
  refine SW_aload_n h rfl (dt t_R_doneBy 0 rfl) ?_
  refine gI h cf5 o90 f5_7 lX5_47 (dt t_R_doneBy 1 rfl) ?_
  refine SW_ite hf (fun h1 hf => ?_) (fun h1 hf => ?_)
  · refine SW_look (off := 140) (tgt := 144) h (fun _ => (okI ok 90 7 (IsO.n3 o90))) (dt t_R_doneBy 2 rfl) (by decide) (by rw [h1]; rfl) rfl ?_
    refine SW_sipush h (dt t_R_doneBy 15 rfl) (by decide) ?_
    exact SW_iret h (hret _ hf) (fun _ => (by decide)) rfl (dt t_R_doneBy 16 rfl)
  · refine SW_ite hf (fun h2 hf => ?_) (fun h2 hf => ?_)
    · refine SW_look (off := 148) (tgt := 152) h (fun _ => (okI ok 90 7 (IsO.n3 o90))) (dt t_R_doneBy 2 rfl) (by decide) (by rw [h2]; rfl) rfl ?_
      refine SW_sipush h (dt t_R_doneBy 19 rfl) (by decide) ?_
      exact SW_iret h (hret _ hf) (fun _ => (by decide)) rfl (dt t_R_doneBy 20 rfl)
    · refine SW_ite hf (fun h3 hf => ?_) (fun h3 hf => ?_)
      · refine SW_look (off := 156) (tgt := 160) h (fun _ => (okI ok 90 7 (IsO.n3 o90))) (dt t_R_doneBy 2 rfl) (by decide) (by rw [h3]; rfl) rfl ?_
        refine SW_sipush h (dt t_R_doneBy 23 rfl) (by decide) ?_
        exact SW_iret h (hret _ hf) (fun _ => (by decide)) rfl (dt t_R_doneBy 24 rfl)
      · refine SW_ite hf (fun h4 hf => ?_) (fun h4 hf => ?_)
        · refine SW_look (off := 124) (tgt := 128) h (fun _ => (okI ok 90 7 (IsO.n3 o90))) (dt t_R_doneBy 2 rfl) (by decide) (by rw [h4]; rfl) rfl ?_
          refine SW_sipush h (dt t_R_doneBy 7 rfl) (by decide) ?_
          exact SW_iret h (hret _ hf) (fun _ => (by decide)) rfl (dt t_R_doneBy 8 rfl)
        · refine SW_ite hf (fun h5 hf => ?_) (fun h5 hf => ?_)
          · refine SW_look (off := 116) (tgt := 120) h (fun _ => (okI ok 90 7 (IsO.n3 o90))) (dt t_R_doneBy 2 rfl) (by decide) (by rw [h5]; rfl) rfl ?_
            refine SW_sipush h (dt t_R_doneBy 3 rfl) (by decide) ?_
            exact SW_iret h (hret _ hf) (fun _ => (by decide)) rfl (dt t_R_doneBy 4 rfl)
          · refine SW_ite hf (fun h6 hf => ?_) (fun h6 hf => ?_)
            · refine SW_look (off := 128) (tgt := 132) h (fun _ => (okI ok 90 7 (IsO.n3 o90))) (dt t_R_doneBy 2 rfl) (by decide) (by rw [h6]; rfl) rfl ?_
              refine SW_sipush h (dt t_R_doneBy 9 rfl) (by decide) ?_
              exact SW_iret h (hret _ hf) (fun _ => (by decide)) rfl (dt t_R_doneBy 10 rfl)
            · refine SW_ite hf (fun h7 hf => ?_) (fun h7 hf => ?_)
              · refine SW_look (off := 132) (tgt := 136) h (fun _ => (okI ok 90 7 (IsO.n3 o90))) (dt t_R_doneBy 2 rfl) (by decide) (by rw [h7]; rfl) rfl ?_
                refine SW_sipush h (dt t_R_doneBy 11 rfl) (by decide) ?_
                exact SW_iret h (hret _ hf) (fun _ => (by decide)) rfl (dt t_R_doneBy 12 rfl)
              · refine SW_ite hf (fun h8 hf => ?_) (fun h8 hf => ?_)
                · refine SW_look (off := 120) (tgt := 124) h (fun _ => (okI ok 90 7 (IsO.n3 o90))) (dt t_R_doneBy 2 rfl) (by decide) (by rw [h8]; rfl) rfl ?_
                  refine SW_sipush h (dt t_R_doneBy 5 rfl) (by decide) ?_
                  exact SW_iret h (hret _ hf) (fun _ => (by decide)) rfl (dt t_R_doneBy 6 rfl)
                · refine SW_ite hf (fun h9 hf => ?_) (fun h9 hf => ?_)
                  · refine SW_look (off := 136) (tgt := 140) h (fun _ => (okI ok 90 7 (IsO.n3 o90))) (dt t_R_doneBy 2 rfl) (by decide) (by rw [h9]; rfl) rfl ?_
                    refine SW_sipush h (dt t_R_doneBy 13 rfl) (by decide) ?_
                    exact SW_iret h (hret _ hf) (fun _ => (by decide)) rfl (dt t_R_doneBy 14 rfl)
                  · refine SW_ite hf (fun h10 hf => ?_) (fun h10 hf => ?_)
                    · refine SW_look (off := 152) (tgt := 156) h (fun _ => (okI ok 90 7 (IsO.n3 o90))) (dt t_R_doneBy 2 rfl) (by decide) (by rw [h10]; rfl) rfl ?_
                      refine SW_sipush h (dt t_R_doneBy 21 rfl) (by decide) ?_
                      exact SW_iret h (hret _ hf) (fun _ => (by decide)) rfl (dt t_R_doneBy 22 rfl)
                    · refine SW_ite hf (fun h11 hf => ?_) (fun h11 hf => ?_)
                      · refine SW_look (off := 144) (tgt := 148) h (fun _ => (okI ok 90 7 (IsO.n3 o90))) (dt t_R_doneBy 2 rfl) (by decide) (by rw [h11]; rfl) rfl ?_
                        refine SW_sipush h (dt t_R_doneBy 17 rfl) (by decide) ?_
                        exact SW_iret h (hret _ hf) (fun _ => (by decide)) rfl (dt t_R_doneBy 18 rfl)
                      · refine SW_ite hf (fun h12 hf => ?_) (fun h12 hf => ?_)
                        · refine SW_look (off := 164) (tgt := 168) h (fun _ => (okI ok 90 7 (IsO.n3 o90))) (dt t_R_doneBy 2 rfl) (by decide) (by rw [h12]; rfl) rfl ?_
                          refine SW_sipush h (dt t_R_doneBy 27 rfl) (by decide) ?_
                          exact SW_iret h (hret _ hf) (fun _ => (by decide)) rfl (dt t_R_doneBy 28 rfl)
                        · refine SW_ite hf (fun h13 hf => ?_) (fun h13 hf => ?_)
                          · refine SW_look (off := 160) (tgt := 164) h (fun _ => (okI ok 90 7 (IsO.n3 o90))) (dt t_R_doneBy 2 rfl) (by decide) (by rw [h13]; rfl) rfl ?_
                            refine SW_sipush h (dt t_R_doneBy 25 rfl) (by decide) ?_
                            exact SW_iret h (hret _ hf) (fun _ => (by decide)) rfl (dt t_R_doneBy 26 rfl)
                          · refine SW_look (off := 168) (tgt := 172) h (fun _ => (okI ok 90 7 (IsO.n3 o90))) (dt t_R_doneBy 2 rfl) (by decide) (by simp [Op.lookupswitch.offset, Ne.symm h1, Ne.symm h2, Ne.symm h3, Ne.symm h4, Ne.symm h5, Ne.symm h6, Ne.symm h7, Ne.symm h8, Ne.symm h9, Ne.symm h10, Ne.symm h11, Ne.symm h12, Ne.symm h13]) rfl ?_
                            refine SW_iconst h (dt t_R_doneBy 29 rfl) ?_
                            exact SW_iret h (hret _ hf) (fun _ => (by decide)) rfl (dt t_R_doneBy 30 rfl)
