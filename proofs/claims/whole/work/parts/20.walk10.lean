def b_M_laysDigits : List (Nat × Instr × Nat) := [(0, .aload_n 0, 1), (1, .iconst 0, 1), (2, .putfield 385, 3), (5, .iconst 0, 1), (6, .istore_n 1, 1), (7, .iload_n 1, 1), (8, .aload_n 0, 1), (9, .getfield 154, 3), (12, .if_icmp .ge 132, 3), (15, .aload_n 0, 1), (16, .getfield 103, 3), (19, .iload_n 1, 1), (20, .iaload, 1), (21, .sipush 999, 3), (24, .if_icmp .le 9, 3), (27, .sipush 1000, 3), (30, .goto 36, 3), (33, .aload_n 0, 1), (34, .getfield 103, 3), (37, .iload_n 1, 1), (38, .iaload, 1), (39, .bipush 99, 2), (41, .if_icmp .le 8, 3), (44, .bipush 100, 2), (46, .goto 20, 3), (49, .aload_n 0, 1), (50, .getfield 103, 3), (53, .iload_n 1, 1), (54, .iaload, 1), (55, .bipush 9, 2), (57, .if_icmp .le 8, 3), (60, .bipush 10, 2), (62, .goto 4, 3), (65, .iconst 1, 1), (66, .istore_n 2, 1), (67, .iload_n 2, 1), (68, .ifCond .le 70, 3), (71, .aload_n 0, 1), (72, .getfield 106, 3), (75, .aload_n 0, 1), (76, .getfield 385, 3), (79, .aload_n 0, 1), (80, .getfield 103, 3), (83, .iload_n 1, 1), (84, .iaload, 1), (85, .iload_n 2, 1), (86, .idiv, 1), (87, .bipush 10, 2), (89, .irem, 1), (90, .iastore, 1), (91, .aload_n 0, 1), (92, .getfield 109, 3), (95, .aload_n 0, 1), (96, .getfield 385, 3), (99, .iload_n 1, 1), (100, .iastore, 1), (101, .aload_n 0, 1), (102, .getfield 112, 3), (105, .aload_n 0, 1), (106, .getfield 385, 3), (109, .iload_n 2, 1), (110, .iconst 1, 1), (111, .if_icmp .ne 7, 3), (114, .iconst 1, 1), (115, .goto 4, 3), (118, .iconst 0, 1), (119, .bastore, 1), (120, .aload_n 0, 1), (121, .dup, 1), (122, .getfield 385, 3), (125, .iconst 1, 1), (126, .iadd, 1), (127, .putfield 385, 3), (130, .iload_n 2, 1), (131, .bipush 10, 2), (133, .idiv, 1), (134, .istore_n 2, 1), (135, .goto (-68), 3), (138, .iinc 1 1, 3), (141, .goto (-134), 3), (144, .return_, 1)]
theorem t_M_laysDigits : DT cX11_laysDigits b_M_laysDigits := DT.of (by decide +kernel)
def L_M_laysDigits_67 : Nat → Int → Int → Mm → Option (Mm)
  | 0, _, _, _ => none
  | n + 1, x1, x2, σ =>
    if x2 ≤ 0 then
      some σ
    else
      if 0 ≤ x1 ∧ x1 < 4 then
        if ¬ x2 = 0 then
          if r32 ((σ 229 x1.toNat).tdiv x2) then
            if 0 ≤ σ 200 53 ∧ σ 200 53 < 16 then
              bindM (st2 σ 230 ((σ 200 53).toNat) (((σ 229 x1.toNat).tdiv x2).tmod 10)) fun s6 =>
              if 0 ≤ s6 200 53 ∧ s6 200 53 < 16 then
                bindM (st2 s6 231 ((s6 200 53).toNat) x1) fun s7 =>
                bindM ((if x2 = 1 then 1 else 0 : Int)) fun v8 =>
                if 0 ≤ s7 200 53 ∧ s7 200 53 < 16 then
                  bindM (st2 s7 232 ((s7 200 53).toNat) (nzI v8)) fun s9 =>
                  if r32 ((s9 200 53) + 1) then
                    bindM (st2 s9 200 53 ((s9 200 53) + 1)) fun s12 =>
                    L_M_laysDigits_67 n x1 (x2.tdiv 10) s12
                  else none
                else none
              else none
            else none
          else none
        else none
      else none
set_option maxRecDepth 100000 in
set_option maxHeartbeats 4000000 in
theorem l_M_laysDigits_67 {X : Cx} (h : CX X 1 cX11_laysDigits 3 0 none RX11) (x1 : Int) (hx1 : r32 x1) {res : Mm} (hex : ∀  (σ : Mm) (hz : some σ = some res)  (ok : okM σ), SW X 1 3 138 [some (.ref (xad X 200)), some (.int (i32 x1)), none] [] σ) : ∀ (n : Nat) (x2 : Int) (σ : Mm) (hx2 : r32 x2) (ok : okM σ) (hf : L_M_laysDigits_67 n x1 x2 σ = some res), SW X 1 3 67 [some (.ref (xad X 200)), some (.int (i32 x1)), some (.int (i32 x2))] [] σ := by
  intro n
  induction n with
  | zero => intro x2 σ hx2 ok hf; exact absurd hf (by simp [L_M_laysDigits_67])
  | succ n ih =>
    intro x2 σ hx2 ok hf
    rw [L_M_laysDigits_67] at hf
    refine SW_iload_n h rfl (dt t_M_laysDigits 35 rfl) ?_
    refine SW_if_le (tgt := 138) h (fun _ => hx2) (dt t_M_laysDigits 36 rfl) rfl hf (fun hf => ?_) (fun hf => ?_)
    · exact SW_fgt [true, true, false] rfl (hex σ hf ok)
    · refine SW_aload_n h rfl (dt t_M_laysDigits 37 rfl) ?_
      refine gR h cf11 o200 f11_50 j200_50 lX11_106 (dt t_M_laysDigits 38 rfl) ?_
      refine SW_aload_n h rfl (dt t_M_laysDigits 39 rfl) ?_
      refine gI h cf11 o200 f11_53 lX11_385 (dt t_M_laysDigits 40 rfl) ?_
      refine SW_aload_n h rfl (dt t_M_laysDigits 41 rfl) ?_
      refine gR h cf11 o200 f11_47 j200_47 lX11_103 (dt t_M_laysDigits 42 rfl) ?_
      refine SW_iload_n h rfl (dt t_M_laysDigits 43 rfl) ?_
      refine aI h a229 (dt t_M_laysDigits 44 rfl) hf (fun hf => ?_)
      refine SW_iload_n h rfl (dt t_M_laysDigits 45 rfl) ?_
      refine SW_chk hf (fun h4 hf => ?_)
      refine SW_idiv h (fun _ => (okI ok 229 x1.toNat (IsA.n3 a229 (by decide)))) (fun _ => hx2) h4 (dt t_M_laysDigits 46 rfl) ?_
      refine SW_bipush h (dt t_M_laysDigits 47 rfl) (by decide) ?_
      refine SW_chk hf (fun h5 hf => ?_)
      refine SW_irem h (fun _ => h5) (fun _ => (by decide)) (by decide) (dt t_M_laysDigits 48 rfl) ?_
      refine sI h a230 (r_tmod h5 (by decide)) (dt t_M_laysDigits 49 rfl) hf (fun hf => SW_bm hf (fun s6 ok6 hf => ?_))
      refine SW_aload_n h rfl (dt t_M_laysDigits 50 rfl) ?_
      refine gR h cf11 o200 f11_51 j200_51 lX11_109 (dt t_M_laysDigits 51 rfl) ?_
      refine SW_aload_n h rfl (dt t_M_laysDigits 52 rfl) ?_
      refine gI h cf11 o200 f11_53 lX11_385 (dt t_M_laysDigits 53 rfl) ?_
      refine SW_iload_n h rfl (dt t_M_laysDigits 54 rfl) ?_
      refine sI h a231 hx1 (dt t_M_laysDigits 55 rfl) hf (fun hf => SW_bm hf (fun s7 ok7 hf => ?_))
      refine SW_aload_n h rfl (dt t_M_laysDigits 56 rfl) ?_
      refine gR h cf11 o200 f11_52 j200_52 lX11_112 (dt t_M_laysDigits 57 rfl) ?_
      refine SW_aload_n h rfl (dt t_M_laysDigits 58 rfl) ?_
      refine gI h cf11 o200 f11_53 lX11_385 (dt t_M_laysDigits 59 rfl) ?_
      refine SW_iload_n h rfl (dt t_M_laysDigits 60 rfl) ?_
      refine SW_iconst h (dt t_M_laysDigits 61 rfl) ?_
      refine bT hf (fun g8 e8 hf => ?_)
      have k8 : ∀ (v8 : Int) (h8 : r32 v8) (hf : g8 v8 = some res), SW X 1 3 119 [some (.ref (xad X 200)), some (.int (i32 x1)), some (.int (i32 x2))] [.int (i32 v8), .int (i32 (s7 200 53)), .ref (xad X 232)] s7 := by
        intro v8 h8 hf
        rw [e8] at hf
        refine sZ h a232 (dt t_M_laysDigits 66 rfl) hf (fun hf => SW_bm hf (fun s9 ok9 hf => ?_))
        refine SW_aload_n h rfl (dt t_M_laysDigits 67 rfl) ?_
        refine SW_dup h rfl (dt t_M_laysDigits 68 rfl) ?_
        refine gI h cf11 o200 f11_53 lX11_385 (dt t_M_laysDigits 69 rfl) ?_
        refine SW_iconst h (dt t_M_laysDigits 70 rfl) ?_
        refine SW_iadd h (dt t_M_laysDigits 71 rfl) ?_
        refine SW_chk hf (fun h11 hf => ?_)
        refine pI h cf11 o200 f11_53 h11 lX11_385 (dt t_M_laysDigits 72 rfl) (SW_bm hf (fun s12 ok12 hf => ?_))
        refine SW_iload_n h rfl (dt t_M_laysDigits 73 rfl) ?_
        refine SW_bipush h (dt t_M_laysDigits 74 rfl) (by decide) ?_
        refine SW_idiv h (fun _ => hx2) (fun _ => (by decide)) (by decide) (dt t_M_laysDigits 75 rfl) ?_
        refine SW_istore_n (lv2 := [some (.ref (xad X 200)), some (.int (i32 x1)), some (.int (i32 (x2.tdiv 10)))]) h (dt t_M_laysDigits 76 rfl) (by decide) rfl ?_
        refine SW_goto (tgt := 67) h (dt t_M_laysDigits 77 rfl) rfl ?_
        exact SW_fgt [true, true, true] rfl (ih (x2.tdiv 10) s12 (r_tdiv hx2 (by decide)) ok12 hf)
      have hf := bIte hf
      refine SW_icmp_ne (tgt := 118) h (fun _ => hx2) (fun _ => (by decide)) (dt t_M_laysDigits 62 rfl) rfl hf (fun hf => ?_) (fun hf => ?_)
      · refine SW_iconst h (dt t_M_laysDigits 63 rfl) ?_
        refine SW_goto (tgt := 119) h (dt t_M_laysDigits 64 rfl) rfl ?_
        exact k8 1 (by decide) hf
      · refine SW_iconst h (dt t_M_laysDigits 65 rfl) ?_
        exact k8 0 (by decide) hf
def L_M_laysDigits_7 : Nat → Int → Mm → Option (Mm)
  | 0, _, _ => none
  | n + 1, x1, σ =>
    if σ 200 48 ≤ x1 then
      some σ
    else
      if 0 ≤ x1 ∧ x1 < 4 then
        bindM (fun (y3 : Int) =>
          b0M (L_M_laysDigits_67 LF x1 y3 σ) fun s13 =>
          if r32 (x1 + 1) then
            L_M_laysDigits_7 n (x1 + 1) s13
          else none) fun J3 =>
        if σ 229 x1.toNat ≤ 999 then
          if 0 ≤ x1 ∧ x1 < 4 then
            if σ 229 x1.toNat ≤ 99 then
              if 0 ≤ x1 ∧ x1 < 4 then
                if σ 229 x1.toNat ≤ 9 then
                  J3 1
                else
                  J3 10
              else none
            else
              J3 100
          else none
        else
          J3 1000
      else none
set_option maxRecDepth 100000 in
set_option maxHeartbeats 4000000 in
theorem l_M_laysDigits_7 {X : Cx} (h : CX X 1 cX11_laysDigits 3 0 none RX11)   {res : Mm} (hex : ∀  (σ : Mm) (hz : some σ = some res)  (ok : okM σ), SW X 1 3 144 [none, none, none] [] σ) : ∀ (n : Nat) (x1 : Int) (σ : Mm) (hx1 : r32 x1) (ok : okM σ) (hf : L_M_laysDigits_7 n x1 σ = some res), SW X 1 3 7 [some (.ref (xad X 200)), some (.int (i32 x1)), none] [] σ := by
  intro n
  induction n with
  | zero => intro x1 σ hx1 ok hf; exact absurd hf (by simp [L_M_laysDigits_7])
  | succ n ih =>
    intro x1 σ hx1 ok hf
    rw [L_M_laysDigits_7] at hf
    refine SW_iload_n h rfl (dt t_M_laysDigits 5 rfl) ?_
    refine SW_aload_n h rfl (dt t_M_laysDigits 6 rfl) ?_
    refine gI h cf11 o200 f11_48 lX11_154 (dt t_M_laysDigits 7 rfl) ?_
    refine SW_icmp_ge (tgt := 144) h (fun _ => hx1) (fun _ => (okI ok 200 48 (IsO.n3 o200))) (dt t_M_laysDigits 8 rfl) rfl hf (fun hf => ?_) (fun hf => ?_)
    · exact SW_fgt [false, false, false] rfl (hex σ hf ok)
    · refine SW_aload_n h rfl (dt t_M_laysDigits 9 rfl) ?_
      refine gR h cf11 o200 f11_47 j200_47 lX11_103 (dt t_M_laysDigits 10 rfl) ?_
      refine SW_iload_n h rfl (dt t_M_laysDigits 11 rfl) ?_
      refine aI h a229 (dt t_M_laysDigits 12 rfl) hf (fun hf => ?_)
      refine SW_sipush h (dt t_M_laysDigits 13 rfl) (by decide) ?_
      refine bJ hf (fun J3 e3 hf => ?_)
      have k3 : ∀ (y3 : Int) (hy3 : r32 y3) (hf : J3 y3 = some res), SW X 1 3 66 [some (.ref (xad X 200)), some (.int (i32 x1)), none] [.int (i32 y3)] σ := by
        intro y3 hy3 hf
        rw [e3] at hf
        refine SW_istore_n (lv2 := [some (.ref (xad X 200)), some (.int (i32 x1)), some (.int (i32 y3))]) h (dt t_M_laysDigits 34 rfl) (by decide) rfl ?_
        obtain ⟨z13, e13, hk13⟩ := b0M_ex hf
        refine SW_fgt [true, true, true] rfl (l_M_laysDigits_67 h x1 hx1 (fun s13 hz13 ok13 => ?_) LF y3 σ hy3 ok e13)
        have hf := hk13 s13 hz13
        refine SW_iinc (lv2 := [some (.ref (xad X 200)), some (.int (i32 (x1 + 1))), none]) h (dt t_M_laysDigits 78 rfl) rfl (by decide) rfl ?_
        refine SW_goto (tgt := 7) h (dt t_M_laysDigits 79 rfl) rfl ?_
        refine SW_chk hf (fun h14 hf => ?_)
        exact SW_fgt [true, true, false] rfl (ih (x1 + 1) s13 h14 ok13 hf)
      refine SW_icmp_le (tgt := 33) h (fun _ => (okI ok 229 x1.toNat (IsA.n3 a229 (by decide)))) (fun _ => (by decide)) (dt t_M_laysDigits 14 rfl) rfl hf (fun hf => ?_) (fun hf => ?_)
      · refine SW_aload_n h rfl (dt t_M_laysDigits 17 rfl) ?_
        refine gR h cf11 o200 f11_47 j200_47 lX11_103 (dt t_M_laysDigits 18 rfl) ?_
        refine SW_iload_n h rfl (dt t_M_laysDigits 19 rfl) ?_
        refine aI h a229 (dt t_M_laysDigits 20 rfl) hf (fun hf => ?_)
        refine SW_bipush h (dt t_M_laysDigits 21 rfl) (by decide) ?_
        refine SW_icmp_le (tgt := 49) h (fun _ => (okI ok 229 x1.toNat (IsA.n3 a229 (by decide)))) (fun _ => (by decide)) (dt t_M_laysDigits 22 rfl) rfl hf (fun hf => ?_) (fun hf => ?_)
        · refine SW_aload_n h rfl (dt t_M_laysDigits 25 rfl) ?_
          refine gR h cf11 o200 f11_47 j200_47 lX11_103 (dt t_M_laysDigits 26 rfl) ?_
          refine SW_iload_n h rfl (dt t_M_laysDigits 27 rfl) ?_
          refine aI h a229 (dt t_M_laysDigits 28 rfl) hf (fun hf => ?_)
          refine SW_bipush h (dt t_M_laysDigits 29 rfl) (by decide) ?_
          refine SW_icmp_le (tgt := 65) h (fun _ => (okI ok 229 x1.toNat (IsA.n3 a229 (by decide)))) (fun _ => (by decide)) (dt t_M_laysDigits 30 rfl) rfl hf (fun hf => ?_) (fun hf => ?_)
          · refine SW_iconst h (dt t_M_laysDigits 33 rfl) ?_
            exact SW_fgt [true, true, false] rfl (k3 1 (by decide) hf)
          · refine SW_bipush h (dt t_M_laysDigits 31 rfl) (by decide) ?_
            refine SW_goto (tgt := 66) h (dt t_M_laysDigits 32 rfl) rfl ?_
            exact SW_fgt [true, true, false] rfl (k3 10 (by decide) hf)
        · refine SW_bipush h (dt t_M_laysDigits 23 rfl) (by decide) ?_
          refine SW_goto (tgt := 66) h (dt t_M_laysDigits 24 rfl) rfl ?_
          exact SW_fgt [true, true, false] rfl (k3 100 (by decide) hf)
      · refine SW_sipush h (dt t_M_laysDigits 15 rfl) (by decide) ?_
        refine SW_goto (tgt := 66) h (dt t_M_laysDigits 16 rfl) rfl ?_
        exact SW_fgt [true, true, false] rfl (k3 1000 (by decide) hf)
def F_M_laysDigits  (σ : Mm) : Option (Mm) :=
  bindM (st2 σ 200 53 0) fun s2 =>
  b0M (L_M_laysDigits_7 LF 0 s2) fun s15 =>
  some s15
set_option maxRecDepth 100000 in
set_option maxHeartbeats 4000000 in
theorem c_M_laysDigits  {σ : Mm} {σ2 : Mm} (hf : F_M_laysDigits  σ = some σ2) : CT yX11_laysDigits cX11_laysDigits 3 none 0 1 (fun ad => [.ref (ad 200)]) σ True none σ2 := by
  refine MetJ 2 (by decide +kernel) rfl (fun _ => Nat.le_of_ble_eq_true rfl) ?_
  intro X h hR ok
  obtain ⟨res, er⟩ : ∃ z, z = σ2 := ⟨_, rfl⟩
  have hret : ∀ y : Mm, some y = some res → RX X 1 True none y := fun y e => by cases e; cases er; exact hR
  rw [← er] at hf
  clear er hR
  unfold F_M_laysDigits at hf
  show SW X 1 3 0 [some (.ref (xad X 200)), none, none] [] σ
  refine SW_aload_n h rfl (dt t_M_laysDigits 0 rfl) ?_
  refine SW_iconst h (dt t_M_laysDigits 1 rfl) ?_
  refine pI h cf11 o200 f11_53 (by decide) lX11_385 (dt t_M_laysDigits 2 rfl) (SW_bm hf (fun s2 ok2 hf => ?_))
  refine SW_iconst h (dt t_M_laysDigits 3 rfl) ?_
  refine SW_istore_n (lv2 := [some (.ref (xad X 200)), some (.int (i32 0)), none]) h (dt t_M_laysDigits 4 rfl) (by decide) rfl ?_
  obtain ⟨z15, e15, hk15⟩ := b0M_ex hf
  refine SW_fgt [true, true, false] rfl (l_M_laysDigits_7 h (fun s15 hz15 ok15 => ?_) LF 0 s2 (by decide) ok2 e15)
  have hf := hk15 s15 hz15
  exact SW_vret h (hret _ hf) rfl (dt t_M_laysDigits 80 rfl)
def b_M_has : List (Nat × Instr × Nat) := [(0, .iload_n 0, 1), (1, .iload_n 1, 1), (2, .ishr, 1), (3, .iconst 1, 1), (4, .iand, 1), (5, .iconst 1, 1), (6, .if_icmp .ne 7, 3), (9, .iconst 1, 1), (10, .goto 4, 3), (13, .iconst 0, 1), (14, .ireturn, 1)]
theorem t_M_has : DT cX11_has b_M_has := DT.of (by decide +kernel)
def F_M_has (x0 : Int) (x1 : Int) : Option (Int) :=
  if iand (ishr x0 x1) 1 = 1 then
    some 1
  else
    some 0
set_option maxRecDepth 100000 in
set_option maxHeartbeats 4000000 in
theorem c_M_has (x0 : Int) (hx0 : r32 x0) (x1 : Int) (hx1 : r32 x1) {σ : Mm} {a : Int} (hf : F_M_has x0 x1 = some a) : CT yX11_has cX11_has 2 (some .boolean) 0 1 (fun ad => [.int (i32 x0), .int (i32 x1)]) σ (a = 0 ∨ a = 1) (some (.int (i32 a))) σ := by
  refine MetJ 0 (by decide +kernel) rfl (fun _ => Nat.le_of_ble_eq_true rfl) ?_
  intro X h hR ok
  obtain ⟨res, er⟩ : ∃ z, z = a := ⟨_, rfl⟩
  have hret : ∀ y : Int, some y = some res → RX X 1 (y = 0 ∨ y = 1) (some (.int (i32 (y)))) σ := fun y e => by cases e; cases er; exact hR
  rw [← er] at hf
  clear er hR
  unfold F_M_has at hf
  show SW X 1 2 0 [some (.int (i32 x0)), some (.int (i32 x1))] [] σ
  refine SW_iload_n h rfl (dt t_M_has 0 rfl) ?_
  refine SW_iload_n h rfl (dt t_M_has 1 rfl) ?_
  refine SW_ishr h (dt t_M_has 2 rfl) ?_
  refine SW_iconst h (dt t_M_has 3 rfl) ?_
  refine SW_iand h (dt t_M_has 4 rfl) ?_
  refine SW_iconst h (dt t_M_has 5 rfl) ?_
  refine SW_icmp_ne (tgt := 13) h (fun _ => (r_iand _ _)) (fun _ => (by decide)) (dt t_M_has 6 rfl) rfl hf (fun hf => ?_) (fun hf => ?_)
  · refine SW_iconst h (dt t_M_has 7 rfl) ?_
    refine SW_goto (tgt := 14) h (dt t_M_has 8 rfl) rfl ?_
    exact SW_zret h (hret _ hf) (by decide) rfl (dt t_M_has 10 rfl)
  · refine SW_iconst h (dt t_M_has 9 rfl) ?_
    exact SW_zret h (hret _ hf) (by decide) rfl (dt t_M_has 10 rfl)
def b_M_trueNow : List (Nat × Instr × Nat) := [(0, .iconst 0, 1), (1, .istore_n 1, 1), (2, .iconst 0, 1), (3, .istore_n 2, 1), (4, .iload_n 2, 1), (5, .aload_n 0, 1), (6, .getfield 154, 3), (9, .if_icmp .ge 39, 3), (12, .iload_n 1, 1), (13, .aload_n 0, 1), (14, .getfield 157, 3), (17, .iload_n 2, 1), (18, .invokestatic 388, 3), (21, .ifCond .eq 13, 3), (24, .aload_n 0, 1), (25, .getfield 103, 3), (28, .iload_n 2, 1), (29, .iaload, 1), (30, .ineg, 1), (31, .goto 9, 3), (34, .aload_n 0, 1), (35, .getfield 103, 3), (38, .iload_n 2, 1), (39, .iaload, 1), (40, .iadd, 1), (41, .istore_n 1, 1), (42, .iinc 2 1, 3), (45, .goto (-41), 3), (48, .iload_n 1, 1), (49, .ireturn, 1)]
theorem t_M_trueNow : DT cX11_trueNow b_M_trueNow := DT.of (by decide +kernel)
def L_M_trueNow_4 : Nat → Int → Int → Mm → Option (Int)
  | 0, _, _, _ => none
  | n + 1, x1, x2, σ =>
    if σ 200 48 ≤ x2 then
      some x1
    else
      b1 (F_M_has (σ 200 49) x2) fun v1 =>
      bindM (fun (y2 : Int) =>
        if r32 (x1 + y2) then
          if r32 (x2 + 1) then
            L_M_trueNow_4 n (x1 + y2) (x2 + 1) σ
          else none
        else none) fun J2 =>
      if v1 = 0 then
        if 0 ≤ x2 ∧ x2 < 4 then
          J2 (σ 229 x2.toNat)
        else none
      else
        if 0 ≤ x2 ∧ x2 < 4 then
          if r32 (-(σ 229 x2.toNat)) then
            J2 (-(σ 229 x2.toNat))
          else none
        else none
set_option maxRecDepth 100000 in
set_option maxHeartbeats 4000000 in
theorem l_M_trueNow_4 {X : Cx} (h : CX X 1 cX11_trueNow 3 1 (some .int) RX11)  (σ : Mm)  (ok : okM σ) {res : Int} (hex : ∀ (x1 : Int) (hz : some x1 = some res) (hx1 : r32 x1), SW X 1 3 48 [none, some (.int (i32 x1)), none] [] σ) : ∀ (n : Nat) (x1 : Int) (x2 : Int) (hx1 : r32 x1) (hx2 : r32 x2) (hf : L_M_trueNow_4 n x1 x2 σ = some res), SW X 1 3 4 [some (.ref (xad X 200)), some (.int (i32 x1)), some (.int (i32 x2))] [] σ := by
  intro n
  induction n with
  | zero => intro x1 x2 hx1 hx2 hf; exact absurd hf (by simp [L_M_trueNow_4])
  | succ n ih =>
    intro x1 x2 hx1 hx2 hf
    rw [L_M_trueNow_4] at hf
    refine SW_iload_n h rfl (dt t_M_trueNow 4 rfl) ?_
    refine SW_aload_n h rfl (dt t_M_trueNow 5 rfl) ?_
    refine gI h cf11 o200 f11_48 lX11_154 (dt t_M_trueNow 6 rfl) ?_
    refine SW_icmp_ge (tgt := 48) h (fun _ => hx2) (fun _ => (okI ok 200 48 (IsO.n3 o200))) (dt t_M_trueNow 7 rfl) rfl hf (fun hf => ?_) (fun hf => ?_)
    · exact SW_fgt [false, true, false] rfl (hex x1 hf hx1)
    · refine SW_iload_n h rfl (dt t_M_trueNow 8 rfl) ?_
      refine SW_aload_n h rfl (dt t_M_trueNow 9 rfl) ?_
      refine gI h cf11 o200 f11_49 lX11_157 (dt t_M_trueNow 10 rfl) ?_
      refine SW_iload_n h rfl (dt t_M_trueNow 11 rfl) ?_
      obtain ⟨v1, e1, hf⟩ := b1_of hf
      refine cS h [.int (i32 (σ 200 49)), .int (i32 x2)] [.int (i32 x1)] v_X11_has kX11_388 (c_M_has (σ 200 49) (okI ok 200 49 (IsO.n3 o200)) x2 hx2 e1) rfl rfl (by decide) (by decide) rfl (Nat.le_of_ble_eq_true rfl) (dt t_M_trueNow 12 rfl) (fun h1 => ?_)
      refine bJ hf (fun J2 e2 hf => ?_)
      have k2 : ∀ (y2 : Int) (hy2 : r32 y2) (hf : J2 y2 = some res), SW X 1 3 40 [some (.ref (xad X 200)), none, some (.int (i32 x2))] [.int (i32 y2), .int (i32 x1)] σ := by
        intro y2 hy2 hf
        rw [e2] at hf
        refine SW_iadd h (dt t_M_trueNow 24 rfl) ?_
        refine SW_istore_n (lv2 := [some (.ref (xad X 200)), some (.int (i32 (x1 + y2))), some (.int (i32 x2))]) h (dt t_M_trueNow 25 rfl) (by decide) rfl ?_
        refine SW_iinc (lv2 := [some (.ref (xad X 200)), some (.int (i32 (x1 + y2))), some (.int (i32 (x2 + 1)))]) h (dt t_M_trueNow 26 rfl) rfl (by decide) rfl ?_
        refine SW_goto (tgt := 4) h (dt t_M_trueNow 27 rfl) rfl ?_
        refine SW_chk hf (fun h3 hf => ?_)
        refine SW_chk hf (fun h4 hf => ?_)
        exact SW_fgt [true, true, true] rfl (ih (x1 + y2) (x2 + 1) h3 h4 hf)
      refine SW_if_eq (tgt := 34) h (fun _ => (r_zo h1)) (dt t_M_trueNow 13 rfl) rfl hf (fun hf => ?_) (fun hf => ?_)
      · refine SW_aload_n h rfl (dt t_M_trueNow 20 rfl) ?_
        refine gR h cf11 o200 f11_47 j200_47 lX11_103 (dt t_M_trueNow 21 rfl) ?_
        refine SW_iload_n h rfl (dt t_M_trueNow 22 rfl) ?_
        refine aI h a229 (dt t_M_trueNow 23 rfl) hf (fun hf => ?_)
        exact SW_fgt [true, false, true] rfl (k2 (σ 229 x2.toNat) (okI ok 229 x2.toNat (IsA.n3 a229 (by decide))) hf)
      · refine SW_aload_n h rfl (dt t_M_trueNow 14 rfl) ?_
        refine gR h cf11 o200 f11_47 j200_47 lX11_103 (dt t_M_trueNow 15 rfl) ?_
        refine SW_iload_n h rfl (dt t_M_trueNow 16 rfl) ?_
        refine aI h a229 (dt t_M_trueNow 17 rfl) hf (fun hf => ?_)
        refine SW_ineg h (dt t_M_trueNow 18 rfl) ?_
        refine SW_goto (tgt := 40) h (dt t_M_trueNow 19 rfl) rfl ?_
        refine SW_chk hf (fun h5 hf => ?_)
        exact SW_fgt [true, false, true] rfl (k2 (-(σ 229 x2.toNat)) h5 hf)
def F_M_trueNow  (σ : Mm) : Option (Int) :=
  b1 (L_M_trueNow_4 LF 0 0 σ) fun x1_6 =>
  some x1_6
set_option maxRecDepth 100000 in
set_option maxHeartbeats 4000000 in
theorem c_M_trueNow  {σ : Mm} {a : Int} (hf : F_M_trueNow  σ = some a) : CT yX11_trueNow cX11_trueNow 3 (some .int) 1 1 (fun ad => [.ref (ad 200)]) σ (r32 a) (some (.int (i32 a))) σ := by
  refine MetJ 2 (by decide +kernel) rfl (fun _ => Nat.le_of_ble_eq_true rfl) ?_
  intro X h hR ok
  obtain ⟨res, er⟩ : ∃ z, z = a := ⟨_, rfl⟩
  have hret : ∀ y : Int, some y = some res → RX X 1 (r32 (y)) (some (.int (i32 (y)))) σ := fun y e => by cases e; cases er; exact hR
  rw [← er] at hf
  clear er hR
  unfold F_M_trueNow at hf
  show SW X 1 3 0 [some (.ref (xad X 200)), none, none] [] σ
  refine SW_iconst h (dt t_M_trueNow 0 rfl) ?_
  refine SW_istore_n (lv2 := [some (.ref (xad X 200)), some (.int (i32 0)), none]) h (dt t_M_trueNow 1 rfl) (by decide) rfl ?_
  refine SW_iconst h (dt t_M_trueNow 2 rfl) ?_
  refine SW_istore_n (lv2 := [some (.ref (xad X 200)), some (.int (i32 0)), some (.int (i32 0))]) h (dt t_M_trueNow 3 rfl) (by decide) rfl ?_
  obtain ⟨z6, e6, hk6⟩ := b1_ex hf
  refine SW_fgt [true, true, true] rfl (l_M_trueNow_4 h σ ok (fun x1_6 hz6 hx1_6 => ?_) LF 0 0 (by decide) (by decide) e6)
  have hf := hk6 x1_6 hz6
  refine SW_iload_n h rfl (dt t_M_trueNow 28 rfl) ?_
  exact SW_iret h (hret _ hf) (fun _ => hx1_6) rfl (dt t_M_trueNow 29 rfl)
def b_M_ordersOf : List (Nat × Instr × Nat) := [(0, .iconst (-1), 1), (1, .istore_n 2, 1), (2, .iconst 0, 1), (3, .istore_n 3, 1), (4, .aload_n 0, 1), (5, .getfield 7, 3), (8, .iconst 2, 1), (9, .iaload, 1), (10, .iconst (-1), 1), (11, .if_icmp .eq 60, 3), (14, .iload_n 3, 1), (15, .aload_n 0, 1), (16, .getfield 27, 3), (19, .aload_n 0, 1), (20, .getfield 7, 3), (23, .iconst 2, 1), (24, .iaload, 1), (25, .iaload, 1), (26, .if_icmp .ge 45, 3), (29, .bipush 24, 2), (31, .aload_n 0, 1), (32, .getfield 7, 3), (35, .iconst 2, 1), (36, .iaload, 1), (37, .imul, 1), (38, .iload_n 3, 1), (39, .iadd, 1), (40, .istore 4, 2), (42, .aload_n 0, 1), (43, .getfield 30, 3), (46, .iload 4, 2), (48, .iaload, 1), (49, .iload_n 1, 1), (50, .if_icmp .ne 13, 3), (53, .aload_n 0, 1), (54, .getfield 33, 3), (57, .iload 4, 2), (59, .iaload, 1), (60, .goto 4, 3), (63, .iload_n 2, 1), (64, .istore_n 2, 1), (65, .iinc 3 1, 3), (68, .goto (-64), 3), (71, .iload_n 2, 1), (72, .ireturn, 1)]
theorem t_M_ordersOf : DT cX11_ordersOf b_M_ordersOf := DT.of (by decide +kernel)
def L_M_ordersOf_4 : Nat → Int → Int → Int → Mm → Option (Int)
  | 0, _, _, _, _ => none
  | n + 1, x1, x2, x3, σ =>
    if σ 201 2 = (-1) then
      some x2
    else
      if 0 ≤ σ 201 2 ∧ σ 201 2 < 4 then
        if σ 204 ((σ 201 2).toNat) ≤ x3 then
          some x2
        else
          bindM ((24 * (σ 201 2)) + x3) fun v1 =>
          if 0 ≤ v1 ∧ v1 < 96 then
            bindM (fun (y2 : Int) =>
              if r32 (x3 + 1) then
                L_M_ordersOf_4 n x1 y2 (x3 + 1) σ
              else none) fun J2 =>
            if σ 205 v1.toNat = x1 then
              if 0 ≤ v1 ∧ v1 < 96 then
                J2 (σ 206 v1.toNat)
              else none
            else
              J2 x2
          else none
      else none
set_option maxRecDepth 100000 in
set_option maxHeartbeats 4000000 in
theorem l_M_ordersOf_4 {X : Cx} (h : CX X 1 cX11_ordersOf 5 0 (some .int) RX11) (x1 : Int) (σ : Mm) (hx1 : r32 x1) (ok : okM σ) {res : Int} (hex : ∀ (x2 : Int) (hz : some x2 = some res) (hx2 : r32 x2), SW X 1 5 71 [none, none, some (.int (i32 x2)), none, none] [] σ) : ∀ (n : Nat) (x2 : Int) (x3 : Int) (hx2 : r32 x2) (hx3 : r32 x3) (hf : L_M_ordersOf_4 n x1 x2 x3 σ = some res), SW X 1 5 4 [some (.ref (xad X 200)), some (.int (i32 x1)), some (.int (i32 x2)), some (.int (i32 x3)), none] [] σ := by
  intro n
  induction n with
  | zero => intro x2 x3 hx2 hx3 hf; exact absurd hf (by simp [L_M_ordersOf_4])
  | succ n ih =>
    intro x2 x3 hx2 hx3 hf
    rw [L_M_ordersOf_4] at hf
    refine SW_aload_n h rfl (dt t_M_ordersOf 4 rfl) ?_
    refine gR h cf11 o200 f11_0 j200_0 lX11_7 (dt t_M_ordersOf 5 rfl) ?_
    refine SW_iconst h (dt t_M_ordersOf 6 rfl) ?_
    refine aIk h a201 (by decide) (dt t_M_ordersOf 7 rfl) ?_
    refine SW_iconst h (dt t_M_ordersOf 8 rfl) ?_
    refine SW_icmp_eq (tgt := 71) h (fun _ => (okI ok 201 2 (IsA.n3 a201 (by decide)))) (fun _ => (by decide)) (dt t_M_ordersOf 9 rfl) rfl hf (fun hf => ?_) (fun hf => ?_)
    · exact SW_fgt [false, false, true, false, false] rfl (hex x2 hf hx2)
    · refine SW_iload_n h rfl (dt t_M_ordersOf 10 rfl) ?_
      refine SW_aload_n h rfl (dt t_M_ordersOf 11 rfl) ?_
      refine gR h cf11 o200 f11_6 j200_6 lX11_27 (dt t_M_ordersOf 12 rfl) ?_
      refine SW_aload_n h rfl (dt t_M_ordersOf 13 rfl) ?_
      refine gR h cf11 o200 f11_0 j200_0 lX11_7 (dt t_M_ordersOf 14 rfl) ?_
      refine SW_iconst h (dt t_M_ordersOf 15 rfl) ?_
      refine aIk h a201 (by decide) (dt t_M_ordersOf 16 rfl) ?_
      refine aI h a204 (dt t_M_ordersOf 17 rfl) hf (fun hf => ?_)
      refine SW_icmp_ge (tgt := 71) h (fun _ => hx3) (fun _ => (okI ok 204 ((σ 201 2).toNat) (IsA.n3 a204 (by decide)))) (dt t_M_ordersOf 18 rfl) rfl hf (fun hf => ?_) (fun hf => ?_)
      · exact SW_fgt [false, false, true, false, false] rfl (hex x2 hf hx2)
      · refine SW_bipush h (dt t_M_ordersOf 19 rfl) (by decide) ?_
        refine SW_aload_n h rfl (dt t_M_ordersOf 20 rfl) ?_
        refine gR h cf11 o200 f11_0 j200_0 lX11_7 (dt t_M_ordersOf 21 rfl) ?_
        refine SW_iconst h (dt t_M_ordersOf 22 rfl) ?_
        refine aIk h a201 (by decide) (dt t_M_ordersOf 23 rfl) ?_
        refine SW_imul h (dt t_M_ordersOf 24 rfl) ?_
        refine SW_iload_n h rfl (dt t_M_ordersOf 25 rfl) ?_
        refine SW_iadd h (dt t_M_ordersOf 26 rfl) ?_
        refine SW_vu hf (fun v1 hf => ?_)
        refine SW_istore (lv2 := [some (.ref (xad X 200)), some (.int (i32 x1)), some (.int (i32 x2)), some (.int (i32 x3)), some (.int (i32 v1))]) h (dt t_M_ordersOf 27 rfl) (by decide) rfl ?_
        refine SW_aload_n h rfl (dt t_M_ordersOf 28 rfl) ?_
        refine gR h cf11 o200 f11_7 j200_7 lX11_30 (dt t_M_ordersOf 29 rfl) ?_
        refine SW_iload h rfl (dt t_M_ordersOf 30 rfl) ?_
        refine aI h a205 (dt t_M_ordersOf 31 rfl) hf (fun hf => ?_)
        refine SW_iload_n h rfl (dt t_M_ordersOf 32 rfl) ?_
        refine bJ hf (fun J2 e2 hf => ?_)
        have k2 : ∀ (y2 : Int) (hy2 : r32 y2) (hf : J2 y2 = some res), SW X 1 5 64 [some (.ref (xad X 200)), some (.int (i32 x1)), none, some (.int (i32 x3)), none] [.int (i32 y2)] σ := by
          intro y2 hy2 hf
          rw [e2] at hf
          refine SW_istore_n (lv2 := [some (.ref (xad X 200)), some (.int (i32 x1)), some (.int (i32 y2)), some (.int (i32 x3)), none]) h (dt t_M_ordersOf 40 rfl) (by decide) rfl ?_
          refine SW_iinc (lv2 := [some (.ref (xad X 200)), some (.int (i32 x1)), some (.int (i32 y2)), some (.int (i32 (x3 + 1))), none]) h (dt t_M_ordersOf 41 rfl) rfl (by decide) rfl ?_
          refine SW_goto (tgt := 4) h (dt t_M_ordersOf 42 rfl) rfl ?_
          refine SW_chk hf (fun h3 hf => ?_)
          exact SW_fgt [true, true, true, true, false] rfl (ih y2 (x3 + 1) hy2 h3 hf)
        refine SW_icmp_ne (tgt := 63) h (fun _ => (okI ok 205 v1.toNat (IsA.n3 a205 (by decide)))) (fun _ => hx1) (dt t_M_ordersOf 33 rfl) rfl hf (fun hf => ?_) (fun hf => ?_)
        · refine SW_aload_n h rfl (dt t_M_ordersOf 34 rfl) ?_
          refine gR h cf11 o200 f11_8 j200_8 lX11_33 (dt t_M_ordersOf 35 rfl) ?_
          refine SW_iload h rfl (dt t_M_ordersOf 36 rfl) ?_
          refine aI h a206 (dt t_M_ordersOf 37 rfl) hf (fun hf => ?_)
          refine SW_goto (tgt := 64) h (dt t_M_ordersOf 38 rfl) rfl ?_
          exact SW_fgt [true, true, false, true, false] rfl (k2 (σ 206 v1.toNat) (okI ok 206 v1.toNat (IsA.n3 a206 (by decide))) hf)
        · refine SW_iload_n h rfl (dt t_M_ordersOf 39 rfl) ?_
          exact SW_fgt [true, true, false, true, false] rfl (k2 x2 hx2 hf)
def F_M_ordersOf (x1 : Int) (σ : Mm) : Option (Int) :=
  b1 (L_M_ordersOf_4 LF x1 ((-1)) 0 σ) fun x2_4 =>
  some x2_4
set_option maxRecDepth 100000 in
set_option maxHeartbeats 4000000 in
theorem c_M_ordersOf (x1 : Int) (hx1 : r32 x1) {σ : Mm} {a : Int} (hf : F_M_ordersOf x1 σ = some a) : CT yX11_ordersOf cX11_ordersOf 5 (some .int) 0 1 (fun ad => [.ref (ad 200), .int (i32 x1)]) σ (r32 a) (some (.int (i32 a))) σ := by
  refine MetJ 3 (by decide +kernel) rfl (fun _ => Nat.le_of_ble_eq_true rfl) ?_
  intro X h hR ok
  obtain ⟨res, er⟩ : ∃ z, z = a := ⟨_, rfl⟩
  have hret : ∀ y : Int, some y = some res → RX X 1 (r32 (y)) (some (.int (i32 (y)))) σ := fun y e => by cases e; cases er; exact hR
  rw [← er] at hf
  clear er hR
  unfold F_M_ordersOf at hf
  show SW X 1 5 0 [some (.ref (xad X 200)), some (.int (i32 x1)), none, none, none] [] σ
  refine SW_iconst h (dt t_M_ordersOf 0 rfl) ?_
  refine SW_istore_n (lv2 := [some (.ref (xad X 200)), some (.int (i32 x1)), some (.int (i32 ((-1)))), none, none]) h (dt t_M_ordersOf 1 rfl) (by decide) rfl ?_
  refine SW_iconst h (dt t_M_ordersOf 2 rfl) ?_
  refine SW_istore_n (lv2 := [some (.ref (xad X 200)), some (.int (i32 x1)), some (.int (i32 ((-1)))), some (.int (i32 0)), none]) h (dt t_M_ordersOf 3 rfl) (by decide) rfl ?_
  obtain ⟨z4, e4, hk4⟩ := b1_ex hf
  refine SW_fgt [true, true, true, true, false] rfl (l_M_ordersOf_4 h x1 σ hx1 ok (fun x2_4 hz4 hx2_4 => ?_) LF ((-1)) 0 (by decide) (by decide) e4)
  have hf := hk4 x2_4 hz4
  refine SW_iload_n h rfl (dt t_M_ordersOf 43 rfl) ?_
  exact SW_iret h (hret _ hf) (fun _ => hx2_4) rfl (dt t_M_ordersOf 44 rfl)
def b_M_names : List (Nat × Instr × Nat) := [(0, .aload_n 0, 1), (1, .getfield 84, 3), (4, .iconst 0, 1), (5, .aload_n 0, 1), (6, .getfield 379, 3), (9, .iastore, 1), (10, .aload_n 0, 1), (11, .getfield 84, 3), (14, .iconst 1, 1), (15, .iload_n 1, 1), (16, .iastore, 1), (17, .aload_n 0, 1), (18, .getfield 84, 3), (21, .iconst 2, 1), (22, .iload_n 2, 1), (23, .iastore, 1), (24, .aload_n 0, 1), (25, .getfield 84, 3), (28, .iconst 3, 1), (29, .aload_n 0, 1), (30, .getfield 91, 3), (33, .iload_n 1, 1), (34, .iaload, 1), (35, .iastore, 1), (36, .aload_n 0, 1), (37, .getfield 84, 3), (40, .iconst 4, 1), (41, .aload_n 0, 1), (42, .getfield 91, 3), (45, .iload_n 2, 1), (46, .iaload, 1), (47, .iastore, 1), (48, .aload_n 0, 1), (49, .getfield 84, 3), (52, .iconst 5, 1), (53, .aload_n 0, 1), (54, .getfield 94, 3), (57, .iload_n 1, 1), (58, .iaload, 1), (59, .aload_n 0, 1), (60, .getfield 94, 3), (63, .iload_n 2, 1), (64, .iaload, 1), (65, .iadd, 1), (66, .iastore, 1), (67, .aload_n 0, 1), (68, .getfield 84, 3), (71, .bipush 6, 2), (73, .iload_n 3, 1), (74, .iastore, 1), (75, .aload_n 0, 1), (76, .getfield 84, 3), (79, .bipush 7, 2), (81, .iload 4, 2), (83, .iastore, 1), (84, .aload_n 0, 1), (85, .getfield 84, 3), (88, .bipush 8, 2), (90, .aload_n 0, 1), (91, .getfield 100, 3), (94, .iload_n 1, 1), (95, .iaload, 1), (96, .iload_n 2, 1), (97, .ishr, 1), (98, .iconst 1, 1), (99, .iand, 1), (100, .iastore, 1), (101, .return_, 1)]
theorem t_M_names : DT cX11_names b_M_names := DT.of (by decide +kernel)
def F_M_names (x1 : Int) (x2 : Int) (x3 : Int) (x4 : Int) (σ : Mm) : Option (Mm) :=
  bindM (st2 σ 223 0 (σ 200 45)) fun s1 =>
  bindM (st2 s1 223 1 x1) fun s2 =>
  bindM (st2 s2 223 2 x2) fun s3 =>
  if 0 ≤ x1 ∧ x1 < 10 then
    bindM (st2 s3 223 3 (s3 225 x1.toNat)) fun s4 =>
    if 0 ≤ x2 ∧ x2 < 10 then
      bindM (st2 s4 223 4 (s4 225 x2.toNat)) fun s5 =>
      if 0 ≤ x1 ∧ x1 < 10 then
        if 0 ≤ x2 ∧ x2 < 10 then
          if r32 ((s5 226 x1.toNat) + (s5 226 x2.toNat)) then
            bindM (st2 s5 223 5 ((s5 226 x1.toNat) + (s5 226 x2.toNat))) fun s7 =>
            bindM (st2 s7 223 6 x3) fun s8 =>
            bindM (st2 s8 223 7 x4) fun s9 =>
            if 0 ≤ x1 ∧ x1 < 10 then
              bindM (st2 s9 223 8 (iand (ishr (s9 228 x1.toNat) x2) 1)) fun s10 =>
              some s10
            else none
          else none
        else none
      else none
    else none
  else none
set_option maxRecDepth 100000 in
set_option maxHeartbeats 4000000 in
theorem c_M_names (x1 : Int) (hx1 : r32 x1) (x2 : Int) (hx2 : r32 x2) (x3 : Int) (hx3 : r32 x3) (x4 : Int) (hx4 : r32 x4) {σ : Mm} {σ2 : Mm} (hf : F_M_names x1 x2 x3 x4 σ = some σ2) : CT yX11_names cX11_names 5 none 0 1 (fun ad => [.ref (ad 200), .int (i32 x1), .int (i32 x2), .int (i32 x3), .int (i32 x4)]) σ True none σ2 := by
  refine MetJ 0 (by decide +kernel) rfl (fun _ => Nat.le_of_ble_eq_true rfl) ?_
  intro X h hR ok
  obtain ⟨res, er⟩ : ∃ z, z = σ2 := ⟨_, rfl⟩
  have hret : ∀ y : Mm, some y = some res → RX X 1 True none y := fun y e => by cases e; cases er; exact hR
  rw [← er] at hf
  clear er hR
  unfold F_M_names at hf
  show SW X 1 5 0 [some (.ref (xad X 200)), some (.int (i32 x1)), some (.int (i32 x2)), some (.int (i32 x3)), some (.int (i32 x4))] [] σ
  refine SW_aload_n h rfl (dt t_M_names 0 rfl) ?_
  refine gR h cf11 o200 f11_39 j200_39 lX11_84 (dt t_M_names 1 rfl) ?_
  refine SW_iconst h (dt t_M_names 2 rfl) ?_
  refine SW_aload_n h rfl (dt t_M_names 3 rfl) ?_
  refine gI h cf11 o200 f11_45 lX11_379 (dt t_M_names 4 rfl) ?_
  refine sIk h a223 (by decide) (okI ok 200 45 (IsO.n3 o200)) (dt t_M_names 5 rfl) (SW_bm hf (fun s1 ok1 hf => ?_))
  refine SW_aload_n h rfl (dt t_M_names 6 rfl) ?_
  refine gR h cf11 o200 f11_39 j200_39 lX11_84 (dt t_M_names 7 rfl) ?_
  refine SW_iconst h (dt t_M_names 8 rfl) ?_
  refine SW_iload_n h rfl (dt t_M_names 9 rfl) ?_
  refine sIk h a223 (by decide) hx1 (dt t_M_names 10 rfl) (SW_bm hf (fun s2 ok2 hf => ?_))
  refine SW_aload_n h rfl (dt t_M_names 11 rfl) ?_
  refine gR h cf11 o200 f11_39 j200_39 lX11_84 (dt t_M_names 12 rfl) ?_
  refine SW_iconst h (dt t_M_names 13 rfl) ?_
  refine SW_iload_n h rfl (dt t_M_names 14 rfl) ?_
  refine sIk h a223 (by decide) hx2 (dt t_M_names 15 rfl) (SW_bm hf (fun s3 ok3 hf => ?_))
  refine SW_aload_n h rfl (dt t_M_names 16 rfl) ?_
  refine gR h cf11 o200 f11_39 j200_39 lX11_84 (dt t_M_names 17 rfl) ?_
  refine SW_iconst h (dt t_M_names 18 rfl) ?_
  refine SW_aload_n h rfl (dt t_M_names 19 rfl) ?_
  refine gR h cf11 o200 f11_41 j200_41 lX11_91 (dt t_M_names 20 rfl) ?_
  refine SW_iload_n h rfl (dt t_M_names 21 rfl) ?_
  refine aI h a225 (dt t_M_names 22 rfl) hf (fun hf => ?_)
  refine sIk h a223 (by decide) (okI ok3 225 x1.toNat (IsA.n3 a225 (by decide))) (dt t_M_names 23 rfl) (SW_bm hf (fun s4 ok4 hf => ?_))
  refine SW_aload_n h rfl (dt t_M_names 24 rfl) ?_
  refine gR h cf11 o200 f11_39 j200_39 lX11_84 (dt t_M_names 25 rfl) ?_
  refine SW_iconst h (dt t_M_names 26 rfl) ?_
  refine SW_aload_n h rfl (dt t_M_names 27 rfl) ?_
  refine gR h cf11 o200 f11_41 j200_41 lX11_91 (dt t_M_names 28 rfl) ?_
  refine SW_iload_n h rfl (dt t_M_names 29 rfl) ?_
  refine aI h a225 (dt t_M_names 30 rfl) hf (fun hf => ?_)
  refine sIk h a223 (by decide) (okI ok4 225 x2.toNat (IsA.n3 a225 (by decide))) (dt t_M_names 31 rfl) (SW_bm hf (fun s5 ok5 hf => ?_))
  refine SW_aload_n h rfl (dt t_M_names 32 rfl) ?_
  refine gR h cf11 o200 f11_39 j200_39 lX11_84 (dt t_M_names 33 rfl) ?_
  refine SW_iconst h (dt t_M_names 34 rfl) ?_
  refine SW_aload_n h rfl (dt t_M_names 35 rfl) ?_
  refine gR h cf11 o200 f11_42 j200_42 lX11_94 (dt t_M_names 36 rfl) ?_
  refine SW_iload_n h rfl (dt t_M_names 37 rfl) ?_
  refine aI h a226 (dt t_M_names 38 rfl) hf (fun hf => ?_)
  refine SW_aload_n h rfl (dt t_M_names 39 rfl) ?_
  refine gR h cf11 o200 f11_42 j200_42 lX11_94 (dt t_M_names 40 rfl) ?_
  refine SW_iload_n h rfl (dt t_M_names 41 rfl) ?_
  refine aI h a226 (dt t_M_names 42 rfl) hf (fun hf => ?_)
  refine SW_iadd h (dt t_M_names 43 rfl) ?_
  refine SW_chk hf (fun h6 hf => ?_)
  refine sIk h a223 (by decide) h6 (dt t_M_names 44 rfl) (SW_bm hf (fun s7 ok7 hf => ?_))
  refine SW_aload_n h rfl (dt t_M_names 45 rfl) ?_
  refine gR h cf11 o200 f11_39 j200_39 lX11_84 (dt t_M_names 46 rfl) ?_
  refine SW_bipush h (dt t_M_names 47 rfl) (by decide) ?_
  refine SW_iload_n h rfl (dt t_M_names 48 rfl) ?_
  refine sIk h a223 (by decide) hx3 (dt t_M_names 49 rfl) (SW_bm hf (fun s8 ok8 hf => ?_))
  refine SW_aload_n h rfl (dt t_M_names 50 rfl) ?_
  refine gR h cf11 o200 f11_39 j200_39 lX11_84 (dt t_M_names 51 rfl) ?_
  refine SW_bipush h (dt t_M_names 52 rfl) (by decide) ?_
  refine SW_iload h rfl (dt t_M_names 53 rfl) ?_
  refine sIk h a223 (by decide) hx4 (dt t_M_names 54 rfl) (SW_bm hf (fun s9 ok9 hf => ?_))
  refine SW_aload_n h rfl (dt t_M_names 55 rfl) ?_
  refine gR h cf11 o200 f11_39 j200_39 lX11_84 (dt t_M_names 56 rfl) ?_
  refine SW_bipush h (dt t_M_names 57 rfl) (by decide) ?_
  refine SW_aload_n h rfl (dt t_M_names 58 rfl) ?_
  refine gR h cf11 o200 f11_44 j200_44 lX11_100 (dt t_M_names 59 rfl) ?_
  refine SW_iload_n h rfl (dt t_M_names 60 rfl) ?_
  refine aI h a228 (dt t_M_names 61 rfl) hf (fun hf => ?_)
  refine SW_iload_n h rfl (dt t_M_names 62 rfl) ?_
  refine SW_ishr h (dt t_M_names 63 rfl) ?_
  refine SW_iconst h (dt t_M_names 64 rfl) ?_
  refine SW_iand h (dt t_M_names 65 rfl) ?_
  refine sIk h a223 (by decide) (r_iand _ _) (dt t_M_names 66 rfl) (SW_bm hf (fun s10 ok10 hf => ?_))
  exact SW_vret h (hret _ hf) rfl (dt t_M_names 67 rfl)
def b_M_bound : List (Nat × Instr × Nat) := [(0, .lload_n 0, 1), (1, .ldc2_w 367, 3), (4, .lcmp, 1), (5, .ifCond .le 9, 3), (8, .ldc2_w 367, 3), (11, .goto 18, 3), (14, .lload_n 0, 1), (15, .ldc2_w 369, 3), (18, .lcmp, 1), (19, .ifCond .ge 9, 3), (22, .ldc2_w 369, 3), (25, .goto 4, 3), (28, .lload_n 0, 1), (29, .lreturn, 1)]
theorem t_M_bound : DT cX11_bound b_M_bound := DT.of (by decide +kernel)
def F_M_bound (x0 : Int) : Option (Int) :=
  if lcmpI x0 1000000 ≤ 0 then
    if 0 ≤ lcmpI x0 ((-1000000)) then
      some x0
    else
      some ((-1000000))
  else
    some 1000000
set_option maxRecDepth 100000 in
set_option maxHeartbeats 4000000 in
theorem c_M_bound (x0 : Int) (hx0 : r64 x0) {σ : Mm} {a : Int} (hf : F_M_bound x0 = some a) : CT yX11_bound cX11_bound 2 (some .long) 0 1 (fun ad => [.long (i64 x0)]) σ (r64 a) (some (.long (i64 a))) σ := by
  refine MetJ 0 (by decide +kernel) rfl (fun _ => Nat.le_of_ble_eq_true rfl) ?_
  intro X h hR ok
  obtain ⟨res, er⟩ : ∃ z, z = a := ⟨_, rfl⟩
  have hret : ∀ y : Int, some y = some res → RX X 1 (r64 (y)) (some (.long (i64 (y)))) σ := fun y e => by cases e; cases er; exact hR
  rw [← er] at hf
  clear er hR
  unfold F_M_bound at hf
  show SW X 1 2 0 [some (.long (i64 x0)), none] [] σ
  refine SW_lload_n h rfl (dt t_M_bound 0 rfl) ?_
  refine SW_ldc2 (n := 1000000) h nX11_367 (by decide) (dt t_M_bound 1 rfl) ?_
  refine SW_lcmp h (fun _ => hx0) (fun _ => (by decide)) (dt t_M_bound 2 rfl) ?_
  refine SW_if_le (tgt := 14) h (fun _ => (r_lcmp _ _)) (dt t_M_bound 3 rfl) rfl hf (fun hf => ?_) (fun hf => ?_)
  · refine SW_lload_n h rfl (dt t_M_bound 6 rfl) ?_
    refine SW_ldc2 (n := -1000000) h nX11_369 (by decide) (dt t_M_bound 7 rfl) ?_
    refine SW_lcmp h (fun _ => hx0) (fun _ => (by decide)) (dt t_M_bound 8 rfl) ?_
    refine SW_if_ge (tgt := 28) h (fun _ => (r_lcmp _ _)) (dt t_M_bound 9 rfl) rfl hf (fun hf => ?_) (fun hf => ?_)
    · refine SW_lload_n h rfl (dt t_M_bound 12 rfl) ?_
      exact SW_lret h (hret _ hf) (fun _ => hx0) rfl (dt t_M_bound 13 rfl)
    · refine SW_ldc2 (n := -1000000) h nX11_369 (by decide) (dt t_M_bound 10 rfl) ?_
      refine SW_goto (tgt := 29) h (dt t_M_bound 11 rfl) rfl ?_
      exact SW_lret h (hret _ hf) (fun _ => (by decide)) rfl (dt t_M_bound 13 rfl)
  · refine SW_ldc2 (n := 1000000) h nX11_367 (by decide) (dt t_M_bound 4 rfl) ?_
    refine SW_goto (tgt := 29) h (dt t_M_bound 5 rfl) rfl ?_
    exact SW_lret h (hret _ hf) (fun _ => (by decide)) rfl (dt t_M_bound 13 rfl)
def b_M_worked : List (Nat × Instr × Nat) := [(0, .iload_n 0, 1), (1, .lookupswitch 272 #[(35, 232), (37, 158), (42, 137), (43, 123), (45, 130), (47, 144), (60, 196), (61, 220), (62, 208), (300, 244), (301, 256), (403, 172), (404, 184), (406, 268)], 123), (124, .lload_n 1, 1), (125, .lload_n 3, 1), (126, .ladd, 1), (127, .invokestatic 371, 3), (130, .lreturn, 1), (131, .lload_n 1, 1), (132, .lload_n 3, 1), (133, .lsub, 1), (134, .invokestatic 371, 3), (137, .lreturn, 1), (138, .lload_n 1, 1), (139, .lload_n 3, 1), (140, .lmul, 1), (141, .invokestatic 371, 3), (144, .lreturn, 1), (145, .lload_n 3, 1), (146, .lconst 0, 1), (147, .lcmp, 1), (148, .ifCond .ne 7, 3), (151, .lconst 0, 1), (152, .goto 6, 3), (155, .lload_n 1, 1), (156, .lload_n 3, 1), (157, .ldiv, 1), (158, .lreturn, 1), (159, .lload_n 3, 1), (160, .lconst 0, 1), (161, .lcmp, 1), (162, .ifCond .ne 7, 3), (165, .lconst 0, 1), (166, .goto 6, 3), (169, .lload_n 1, 1), (170, .lload_n 3, 1), (171, .lrem, 1), (172, .lreturn, 1), (173, .lload_n 1, 1), (174, .lload_n 3, 1), (175, .lcmp, 1), (176, .ifCond .ge 7, 3), (179, .lload_n 1, 1), (180, .goto 4, 3), (183, .lload_n 3, 1), (184, .lreturn, 1), (185, .lload_n 1, 1), (186, .lload_n 3, 1), (187, .lcmp, 1), (188, .ifCond .le 7, 3), (191, .lload_n 1, 1), (192, .goto 4, 3), (195, .lload_n 3, 1), (196, .lreturn, 1), (197, .lload_n 1, 1), (198, .lload_n 3, 1), (199, .lcmp, 1), (200, .ifCond .ge 7, 3), (203, .lconst 1, 1), (204, .goto 4, 3), (207, .lconst 0, 1), (208, .lreturn, 1), (209, .lload_n 1, 1), (210, .lload_n 3, 1), (211, .lcmp, 1), (212, .ifCond .le 7, 3), (215, .lconst 1, 1), (216, .goto 4, 3), (219, .lconst 0, 1), (220, .lreturn, 1), (221, .lload_n 1, 1), (222, .lload_n 3, 1), (223, .lcmp, 1), (224, .ifCond .ne 7, 3), (227, .lconst 1, 1), (228, .goto 4, 3), (231, .lconst 0, 1), (232, .lreturn, 1), (233, .lload_n 1, 1), (234, .lload_n 3, 1), (235, .lcmp, 1), (236, .ifCond .eq 7, 3), (239, .lconst 1, 1), (240, .goto 4, 3), (243, .lconst 0, 1), (244, .lreturn, 1), (245, .lload_n 1, 1), (246, .lload_n 3, 1), (247, .lcmp, 1), (248, .ifCond .gt 7, 3), (251, .lconst 1, 1), (252, .goto 4, 3), (255, .lconst 0, 1), (256, .lreturn, 1), (257, .lload_n 1, 1), (258, .lload_n 3, 1), (259, .lcmp, 1), (260, .ifCond .lt 7, 3), (263, .lconst 1, 1), (264, .goto 4, 3), (267, .lconst 0, 1), (268, .lreturn, 1), (269, .lload_n 1, 1), (270, .lload_n 3, 1), (271, .lmul, 1), (272, .lreturn, 1), (273, .lload_n 1, 1), (274, .lload_n 3, 1), (275, .ladd, 1), (276, .lconst 0, 1), (277, .lcmp, 1), (278, .ifCond .le 7, 3), (281, .lconst 1, 1), (282, .goto 4, 3), (285, .lconst 0, 1), (286, .lreturn, 1)]
theorem t_M_worked : DT cX11_worked b_M_worked := DT.of (by decide +kernel)
def F_M_worked (x0 : Int) (x1 : Int) (x3 : Int) : Option (Int) :=
  if x0 = 35 then
    if lcmpI x1 x3 = 0 then
      some 0
    else
      some 1
  else
    if x0 = 37 then
      if lcmpI x3 0 = 0 then
        some 0
      else
        if ¬ x3 = 0 then
          if r64 (x1.tmod x3) then
            some (x1.tmod x3)
          else none
        else none
    else
      if x0 = 42 then
        if r64 (x1 * x3) then
          b1 (F_M_bound (x1 * x3)) fun v6 =>
          some v6
        else none
      else
        if x0 = 43 then
          if r64 (x1 + x3) then
            b1 (F_M_bound (x1 + x3)) fun v9 =>
            some v9
          else none
        else
          if x0 = 45 then
            if r64 (x1 - x3) then
              b1 (F_M_bound (x1 - x3)) fun v12 =>
              some v12
            else none
          else
            if x0 = 47 then
              if lcmpI x3 0 = 0 then
                some 0
              else
                if ¬ x3 = 0 then
                  if r64 (x1.tdiv x3) then
                    some (x1.tdiv x3)
                  else none
                else none
            else
              if x0 = 60 then
                if 0 ≤ lcmpI x1 x3 then
                  some 0
                else
                  some 1
              else
                if x0 = 61 then
                  if lcmpI x1 x3 = 0 then
                    some 1
                  else
                    some 0
                else
                  if x0 = 62 then
                    if lcmpI x1 x3 ≤ 0 then
                      some 0
                    else
                      some 1
                  else
                    if x0 = 300 then
                      if 0 < lcmpI x1 x3 then
                        some 0
                      else
                        some 1
                    else
                      if x0 = 301 then
                        if lcmpI x1 x3 < 0 then
                          some 0
                        else
                          some 1
                      else
                        if x0 = 403 then
                          if 0 ≤ lcmpI x1 x3 then
                            some x3
                          else
                            some x1
                        else
                          if x0 = 404 then
                            if lcmpI x1 x3 ≤ 0 then
                              some x3
                            else
                              some x1
                          else
                            if x0 = 406 then
                              if r64 (x1 * x3) then
                                some (x1 * x3)
                              else none
                            else
                              if r64 (x1 + x3) then
                                if lcmpI (x1 + x3) 0 ≤ 0 then
                                  some 0
                                else
                                  some 1
                              else none
set_option maxRecDepth 100000 in
set_option maxHeartbeats 4000000 in
theorem c_M_worked (x0 : Int) (hx0 : r32 x0) (x1 : Int) (hx1 : r64 x1) (x3 : Int) (hx3 : r64 x3) {σ : Mm} {a : Int} (hf : F_M_worked x0 x1 x3 = some a) : CT yX11_worked cX11_worked 5 (some .long) 1 1 (fun ad => [.int (i32 x0), .long (i64 x1), .long (i64 x3)]) σ (r64 a) (some (.long (i64 a))) σ := by
  refine MetJ 0 (by decide +kernel) rfl (fun _ => Nat.le_of_ble_eq_true rfl) ?_
  intro X h hR ok
  obtain ⟨res, er⟩ : ∃ z, z = a := ⟨_, rfl⟩
  have hret : ∀ y : Int, some y = some res → RX X 1 (r64 (y)) (some (.long (i64 (y)))) σ := fun y e => by cases e; cases er; exact hR
  rw [← er] at hf
  clear er hR
  unfold F_M_worked at hf
  show SW X 1 5 0 [some (.int (i32 x0)), some (.long (i64 x1)), none, some (.long (i64 x3)), none] [] σ
  refine SW_iload_n h rfl (dt t_M_worked 0 rfl) ?_
  refine SW_ite hf (fun h1 hf => ?_) (fun h1 hf => ?_)
  · refine SW_look (off := 232) (tgt := 233) h (fun _ => hx0) (dt t_M_worked 1 rfl) (by decide) (by rw [h1]; rfl) rfl ?_
    refine SW_lload_n h rfl (dt t_M_worked 77 rfl) ?_
    refine SW_lload_n h rfl (dt t_M_worked 78 rfl) ?_
    refine SW_lcmp h (fun _ => hx1) (fun _ => hx3) (dt t_M_worked 79 rfl) ?_
    refine SW_if_eq (tgt := 243) h (fun _ => (r_lcmp _ _)) (dt t_M_worked 80 rfl) rfl hf (fun hf => ?_) (fun hf => ?_)
    · refine SW_lc0 h (dt t_M_worked 83 rfl) ?_
      exact SW_lret h (hret _ hf) (fun _ => (by decide)) rfl (dt t_M_worked 84 rfl)
    · refine SW_lc1 h (dt t_M_worked 81 rfl) ?_
      refine SW_goto (tgt := 244) h (dt t_M_worked 82 rfl) rfl ?_
      exact SW_lret h (hret _ hf) (fun _ => (by decide)) rfl (dt t_M_worked 84 rfl)
  · refine SW_ite hf (fun h2 hf => ?_) (fun h2 hf => ?_)
    · refine SW_look (off := 158) (tgt := 159) h (fun _ => hx0) (dt t_M_worked 1 rfl) (by decide) (by rw [h2]; rfl) rfl ?_
      refine SW_lload_n h rfl (dt t_M_worked 27 rfl) ?_
      refine SW_lc0 h (dt t_M_worked 28 rfl) ?_
      refine SW_lcmp h (fun _ => hx3) (fun _ => (by decide)) (dt t_M_worked 29 rfl) ?_
      refine SW_if_ne (tgt := 169) h (fun _ => (r_lcmp _ _)) (dt t_M_worked 30 rfl) rfl hf (fun hf => ?_) (fun hf => ?_)
      · refine SW_lc0 h (dt t_M_worked 31 rfl) ?_
        refine SW_goto (tgt := 172) h (dt t_M_worked 32 rfl) rfl ?_
        exact SW_lret h (hret _ hf) (fun _ => (by decide)) rfl (dt t_M_worked 36 rfl)
      · refine SW_lload_n h rfl (dt t_M_worked 33 rfl) ?_
        refine SW_lload_n h rfl (dt t_M_worked 34 rfl) ?_
        refine SW_chk hf (fun h3 hf => ?_)
        refine SW_lrem h (fun _ => hx1) (fun _ => hx3) h3 (dt t_M_worked 35 rfl) ?_
        refine SW_chk hf (fun h4 hf => ?_)
        exact SW_lret h (hret _ hf) (fun _ => h4) rfl (dt t_M_worked 36 rfl)
    · refine SW_ite hf (fun h5 hf => ?_) (fun h5 hf => ?_)
      · refine SW_look (off := 137) (tgt := 138) h (fun _ => hx0) (dt t_M_worked 1 rfl) (by decide) (by rw [h5]; rfl) rfl ?_
        refine SW_lload_n h rfl (dt t_M_worked 12 rfl) ?_
        refine SW_lload_n h rfl (dt t_M_worked 13 rfl) ?_
        refine SW_lmul h (dt t_M_worked 14 rfl) ?_
        refine SW_chk hf (fun h7 hf => ?_)
        obtain ⟨v6, e6, hf⟩ := b1_of hf
        refine cS h [.long (i64 (x1 * x3))] [] v_X11_bound kX11_371 (c_M_bound (x1 * x3) h7 e6) rfl rfl (by decide) (by decide) rfl (Nat.le_of_ble_eq_true rfl) (dt t_M_worked 15 rfl) (fun h6 => ?_)
        exact SW_lret h (hret _ hf) (fun _ => h6) rfl (dt t_M_worked 16 rfl)
      · refine SW_ite hf (fun h8 hf => ?_) (fun h8 hf => ?_)
        · refine SW_look (off := 123) (tgt := 124) h (fun _ => hx0) (dt t_M_worked 1 rfl) (by decide) (by rw [h8]; rfl) rfl ?_
          refine SW_lload_n h rfl (dt t_M_worked 2 rfl) ?_
          refine SW_lload_n h rfl (dt t_M_worked 3 rfl) ?_
          refine SW_ladd h (dt t_M_worked 4 rfl) ?_
          refine SW_chk hf (fun h10 hf => ?_)
          obtain ⟨v9, e9, hf⟩ := b1_of hf
          refine cS h [.long (i64 (x1 + x3))] [] v_X11_bound kX11_371 (c_M_bound (x1 + x3) h10 e9) rfl rfl (by decide) (by decide) rfl (Nat.le_of_ble_eq_true rfl) (dt t_M_worked 5 rfl) (fun h9 => ?_)
          exact SW_lret h (hret _ hf) (fun _ => h9) rfl (dt t_M_worked 6 rfl)
        · refine SW_ite hf (fun h11 hf => ?_) (fun h11 hf => ?_)
          · refine SW_look (off := 130) (tgt := 131) h (fun _ => hx0) (dt t_M_worked 1 rfl) (by decide) (by rw [h11]; rfl) rfl ?_
            refine SW_lload_n h rfl (dt t_M_worked 7 rfl) ?_
            refine SW_lload_n h rfl (dt t_M_worked 8 rfl) ?_
            refine SW_lsub h (dt t_M_worked 9 rfl) ?_
            refine SW_chk hf (fun h13 hf => ?_)
            obtain ⟨v12, e12, hf⟩ := b1_of hf
            refine cS h [.long (i64 (x1 - x3))] [] v_X11_bound kX11_371 (c_M_bound (x1 - x3) h13 e12) rfl rfl (by decide) (by decide) rfl (Nat.le_of_ble_eq_true rfl) (dt t_M_worked 10 rfl) (fun h12 => ?_)
            exact SW_lret h (hret _ hf) (fun _ => h12) rfl (dt t_M_worked 11 rfl)
          · refine SW_ite hf (fun h14 hf => ?_) (fun h14 hf => ?_)
            · refine SW_look (off := 144) (tgt := 145) h (fun _ => hx0) (dt t_M_worked 1 rfl) (by decide) (by rw [h14]; rfl) rfl ?_
              refine SW_lload_n h rfl (dt t_M_worked 17 rfl) ?_
              refine SW_lc0 h (dt t_M_worked 18 rfl) ?_
              refine SW_lcmp h (fun _ => hx3) (fun _ => (by decide)) (dt t_M_worked 19 rfl) ?_
              refine SW_if_ne (tgt := 155) h (fun _ => (r_lcmp _ _)) (dt t_M_worked 20 rfl) rfl hf (fun hf => ?_) (fun hf => ?_)
              · refine SW_lc0 h (dt t_M_worked 21 rfl) ?_
                refine SW_goto (tgt := 158) h (dt t_M_worked 22 rfl) rfl ?_
                exact SW_lret h (hret _ hf) (fun _ => (by decide)) rfl (dt t_M_worked 26 rfl)
              · refine SW_lload_n h rfl (dt t_M_worked 23 rfl) ?_
                refine SW_lload_n h rfl (dt t_M_worked 24 rfl) ?_
                refine SW_chk hf (fun h15 hf => ?_)
                refine SW_ldiv h (fun _ => hx1) (fun _ => hx3) h15 (dt t_M_worked 25 rfl) ?_
                refine SW_chk hf (fun h16 hf => ?_)
                exact SW_lret h (hret _ hf) (fun _ => h16) rfl (dt t_M_worked 26 rfl)
            · refine SW_ite hf (fun h17 hf => ?_) (fun h17 hf => ?_)
              · refine SW_look (off := 196) (tgt := 197) h (fun _ => hx0) (dt t_M_worked 1 rfl) (by decide) (by rw [h17]; rfl) rfl ?_
                refine SW_lload_n h rfl (dt t_M_worked 53 rfl) ?_
                refine SW_lload_n h rfl (dt t_M_worked 54 rfl) ?_
                refine SW_lcmp h (fun _ => hx1) (fun _ => hx3) (dt t_M_worked 55 rfl) ?_
                refine SW_if_ge (tgt := 207) h (fun _ => (r_lcmp _ _)) (dt t_M_worked 56 rfl) rfl hf (fun hf => ?_) (fun hf => ?_)
                · refine SW_lc0 h (dt t_M_worked 59 rfl) ?_
                  exact SW_lret h (hret _ hf) (fun _ => (by decide)) rfl (dt t_M_worked 60 rfl)
                · refine SW_lc1 h (dt t_M_worked 57 rfl) ?_
                  refine SW_goto (tgt := 208) h (dt t_M_worked 58 rfl) rfl ?_
                  exact SW_lret h (hret _ hf) (fun _ => (by decide)) rfl (dt t_M_worked 60 rfl)
              · refine SW_ite hf (fun h18 hf => ?_) (fun h18 hf => ?_)
                · refine SW_look (off := 220) (tgt := 221) h (fun _ => hx0) (dt t_M_worked 1 rfl) (by decide) (by rw [h18]; rfl) rfl ?_
                  refine SW_lload_n h rfl (dt t_M_worked 69 rfl) ?_
                  refine SW_lload_n h rfl (dt t_M_worked 70 rfl) ?_
                  refine SW_lcmp h (fun _ => hx1) (fun _ => hx3) (dt t_M_worked 71 rfl) ?_
                  refine SW_if_ne (tgt := 231) h (fun _ => (r_lcmp _ _)) (dt t_M_worked 72 rfl) rfl hf (fun hf => ?_) (fun hf => ?_)
                  · refine SW_lc1 h (dt t_M_worked 73 rfl) ?_
                    refine SW_goto (tgt := 232) h (dt t_M_worked 74 rfl) rfl ?_
                    exact SW_lret h (hret _ hf) (fun _ => (by decide)) rfl (dt t_M_worked 76 rfl)
                  · refine SW_lc0 h (dt t_M_worked 75 rfl) ?_
                    exact SW_lret h (hret _ hf) (fun _ => (by decide)) rfl (dt t_M_worked 76 rfl)
                · refine SW_ite hf (fun h19 hf => ?_) (fun h19 hf => ?_)
                  · refine SW_look (off := 208) (tgt := 209) h (fun _ => hx0) (dt t_M_worked 1 rfl) (by decide) (by rw [h19]; rfl) rfl ?_
                    refine SW_lload_n h rfl (dt t_M_worked 61 rfl) ?_
                    refine SW_lload_n h rfl (dt t_M_worked 62 rfl) ?_
                    refine SW_lcmp h (fun _ => hx1) (fun _ => hx3) (dt t_M_worked 63 rfl) ?_
                    refine SW_if_le (tgt := 219) h (fun _ => (r_lcmp _ _)) (dt t_M_worked 64 rfl) rfl hf (fun hf => ?_) (fun hf => ?_)
                    · refine SW_lc0 h (dt t_M_worked 67 rfl) ?_
                      exact SW_lret h (hret _ hf) (fun _ => (by decide)) rfl (dt t_M_worked 68 rfl)
                    · refine SW_lc1 h (dt t_M_worked 65 rfl) ?_
                      refine SW_goto (tgt := 220) h (dt t_M_worked 66 rfl) rfl ?_
                      exact SW_lret h (hret _ hf) (fun _ => (by decide)) rfl (dt t_M_worked 68 rfl)
                  · refine SW_ite hf (fun h20 hf => ?_) (fun h20 hf => ?_)
                    · refine SW_look (off := 244) (tgt := 245) h (fun _ => hx0) (dt t_M_worked 1 rfl) (by decide) (by rw [h20]; rfl) rfl ?_
                      refine SW_lload_n h rfl (dt t_M_worked 85 rfl) ?_
                      refine SW_lload_n h rfl (dt t_M_worked 86 rfl) ?_
                      refine SW_lcmp h (fun _ => hx1) (fun _ => hx3) (dt t_M_worked 87 rfl) ?_
                      refine SW_if_gt (tgt := 255) h (fun _ => (r_lcmp _ _)) (dt t_M_worked 88 rfl) rfl hf (fun hf => ?_) (fun hf => ?_)
                      · refine SW_lc0 h (dt t_M_worked 91 rfl) ?_
                        exact SW_lret h (hret _ hf) (fun _ => (by decide)) rfl (dt t_M_worked 92 rfl)
                      · refine SW_lc1 h (dt t_M_worked 89 rfl) ?_
                        refine SW_goto (tgt := 256) h (dt t_M_worked 90 rfl) rfl ?_
                        exact SW_lret h (hret _ hf) (fun _ => (by decide)) rfl (dt t_M_worked 92 rfl)
                    · refine SW_ite hf (fun h21 hf => ?_) (fun h21 hf => ?_)
                      · refine SW_look (off := 256) (tgt := 257) h (fun _ => hx0) (dt t_M_worked 1 rfl) (by decide) (by rw [h21]; rfl) rfl ?_
                        refine SW_lload_n h rfl (dt t_M_worked 93 rfl) ?_
                        refine SW_lload_n h rfl (dt t_M_worked 94 rfl) ?_
                        refine SW_lcmp h (fun _ => hx1) (fun _ => hx3) (dt t_M_worked 95 rfl) ?_
                        refine SW_if_lt (tgt := 267) h (fun _ => (r_lcmp _ _)) (dt t_M_worked 96 rfl) rfl hf (fun hf => ?_) (fun hf => ?_)
                        · refine SW_lc0 h (dt t_M_worked 99 rfl) ?_
                          exact SW_lret h (hret _ hf) (fun _ => (by decide)) rfl (dt t_M_worked 100 rfl)
                        · refine SW_lc1 h (dt t_M_worked 97 rfl) ?_
                          refine SW_goto (tgt := 268) h (dt t_M_worked 98 rfl) rfl ?_
                          exact SW_lret h (hret _ hf) (fun _ => (by decide)) rfl (dt t_M_worked 100 rfl)
                      · refine SW_ite hf (fun h22 hf => ?_) (fun h22 hf => ?_)
                        · refine SW_look (off := 172) (tgt := 173) h (fun _ => hx0) (dt t_M_worked 1 rfl) (by decide) (by rw [h22]; rfl) rfl ?_
                          refine SW_lload_n h rfl (dt t_M_worked 37 rfl) ?_
                          refine SW_lload_n h rfl (dt t_M_worked 38 rfl) ?_
                          refine SW_lcmp h (fun _ => hx1) (fun _ => hx3) (dt t_M_worked 39 rfl) ?_
                          refine SW_if_ge (tgt := 183) h (fun _ => (r_lcmp _ _)) (dt t_M_worked 40 rfl) rfl hf (fun hf => ?_) (fun hf => ?_)
                          · refine SW_lload_n h rfl (dt t_M_worked 43 rfl) ?_
                            exact SW_lret h (hret _ hf) (fun _ => hx3) rfl (dt t_M_worked 44 rfl)
                          · refine SW_lload_n h rfl (dt t_M_worked 41 rfl) ?_
                            refine SW_goto (tgt := 184) h (dt t_M_worked 42 rfl) rfl ?_
                            exact SW_lret h (hret _ hf) (fun _ => hx1) rfl (dt t_M_worked 44 rfl)
                        · refine SW_ite hf (fun h23 hf => ?_) (fun h23 hf => ?_)
                          · refine SW_look (off := 184) (tgt := 185) h (fun _ => hx0) (dt t_M_worked 1 rfl) (by decide) (by rw [h23]; rfl) rfl ?_
                            refine SW_lload_n h rfl (dt t_M_worked 45 rfl) ?_
                            refine SW_lload_n h rfl (dt t_M_worked 46 rfl) ?_
                            refine SW_lcmp h (fun _ => hx1) (fun _ => hx3) (dt t_M_worked 47 rfl) ?_
                            refine SW_if_le (tgt := 195) h (fun _ => (r_lcmp _ _)) (dt t_M_worked 48 rfl) rfl hf (fun hf => ?_) (fun hf => ?_)
                            · refine SW_lload_n h rfl (dt t_M_worked 51 rfl) ?_
                              exact SW_lret h (hret _ hf) (fun _ => hx3) rfl (dt t_M_worked 52 rfl)
                            · refine SW_lload_n h rfl (dt t_M_worked 49 rfl) ?_
                              refine SW_goto (tgt := 196) h (dt t_M_worked 50 rfl) rfl ?_
                              exact SW_lret h (hret _ hf) (fun _ => hx1) rfl (dt t_M_worked 52 rfl)
                          · refine SW_ite hf (fun h24 hf => ?_) (fun h24 hf => ?_)
                            · refine SW_look (off := 268) (tgt := 269) h (fun _ => hx0) (dt t_M_worked 1 rfl) (by decide) (by rw [h24]; rfl) rfl ?_
                              refine SW_lload_n h rfl (dt t_M_worked 101 rfl) ?_
                              refine SW_lload_n h rfl (dt t_M_worked 102 rfl) ?_
                              refine SW_lmul h (dt t_M_worked 103 rfl) ?_
                              refine SW_chk hf (fun h25 hf => ?_)
                              exact SW_lret h (hret _ hf) (fun _ => h25) rfl (dt t_M_worked 104 rfl)
                            · refine SW_look (off := 272) (tgt := 273) h (fun _ => hx0) (dt t_M_worked 1 rfl) (by decide) (by simp [Op.lookupswitch.offset, Ne.symm h1, Ne.symm h2, Ne.symm h5, Ne.symm h8, Ne.symm h11, Ne.symm h14, Ne.symm h17, Ne.symm h18, Ne.symm h19, Ne.symm h20, Ne.symm h21, Ne.symm h22, Ne.symm h23, Ne.symm h24]) rfl ?_
                              refine SW_lload_n h rfl (dt t_M_worked 105 rfl) ?_
                              refine SW_lload_n h rfl (dt t_M_worked 106 rfl) ?_
                              refine SW_ladd h (dt t_M_worked 107 rfl) ?_
                              refine SW_lc0 h (dt t_M_worked 108 rfl) ?_
                              refine SW_chk hf (fun h26 hf => ?_)
                              refine SW_lcmp h (fun _ => h26) (fun _ => (by decide)) (dt t_M_worked 109 rfl) ?_
                              refine SW_if_le (tgt := 285) h (fun _ => (r_lcmp _ _)) (dt t_M_worked 110 rfl) rfl hf (fun hf => ?_) (fun hf => ?_)
                              · refine SW_lc0 h (dt t_M_worked 113 rfl) ?_
                                exact SW_lret h (hret _ hf) (fun _ => (by decide)) rfl (dt t_M_worked 114 rfl)
                              · refine SW_lc1 h (dt t_M_worked 111 rfl) ?_
                                refine SW_goto (tgt := 286) h (dt t_M_worked 112 rfl) rfl ?_
                                exact SW_lret h (hret _ hf) (fun _ => (by decide)) rfl (dt t_M_worked 114 rfl)
def b_M_saysOf : List (Nat × Instr × Nat) := [(0, .iconst 0, 1), (1, .istore_n 2, 1), (2, .iload_n 1, 1), (3, .istore_n 3, 1), (4, .aload_n 0, 1), (5, .getfield 45, 3), (8, .iload_n 3, 1), (9, .iaload, 1), (10, .sipush 408, 3), (13, .if_icmp .eq 162, 3), (16, .aload_n 0, 1), (17, .getfield 45, 3), (20, .iload_n 3, 1), (21, .iaload, 1), (22, .istore 4, 2), (24, .iload 4, 2), (26, .sipush 400, 3), (29, .if_icmp .eq 11, 3), (32, .iload 4, 2), (34, .sipush 401, 3), (37, .if_icmp .ne 45, 3), (40, .aload_n 0, 1), (41, .getfield 87, 3), (44, .iload_n 2, 1), (45, .iload 4, 2), (47, .sipush 400, 3), (50, .if_icmp .ne 13, 3), (53, .aload_n 0, 1), (54, .getfield 48, 3), (57, .iload_n 3, 1), (58, .iaload, 1), (59, .i2l, 1), (60, .goto 15, 3), (63, .aload_n 0, 1), (64, .getfield 84, 3), (67, .aload_n 0, 1), (68, .getfield 48, 3), (71, .iload_n 3, 1), (72, .iaload, 1), (73, .iaload, 1), (74, .i2l, 1), (75, .lastore, 1), (76, .iinc 2 1, 3), (79, .goto 90, 3), (82, .iload 4, 2), (84, .sipush 402, 3), (87, .if_icmp .ne 23, 3), (90, .aload_n 0, 1), (91, .getfield 87, 3), (94, .iload_n 2, 1), (95, .iconst 1, 1), (96, .isub, 1), (97, .aload_n 0, 1), (98, .getfield 87, 3), (101, .iload_n 2, 1), (102, .iconst 1, 1), (103, .isub, 1), (104, .laload, 1), (105, .lneg, 1), (106, .lastore, 1), (107, .goto 62, 3), (110, .iload 4, 2), (112, .sipush 405, 3), (115, .if_icmp .ne 24, 3), (118, .aload_n 0, 1), (119, .getfield 87, 3), (122, .iload_n 2, 1), (123, .iconst 1, 1), (124, .isub, 1), (125, .lconst 1, 1), (126, .aload_n 0, 1), (127, .getfield 87, 3), (130, .iload_n 2, 1), (131, .iconst 1, 1), (132, .isub, 1), (133, .laload, 1), (134, .lsub, 1), (135, .lastore, 1), (136, .goto 33, 3), (139, .iinc 2 (-1), 3), (142, .aload_n 0, 1), (143, .getfield 87, 3), (146, .iload_n 2, 1), (147, .iconst 1, 1), (148, .isub, 1), (149, .iload 4, 2), (151, .aload_n 0, 1), (152, .getfield 87, 3), (155, .iload_n 2, 1), (156, .iconst 1, 1), (157, .isub, 1), (158, .laload, 1), (159, .aload_n 0, 1), (160, .getfield 87, 3), (163, .iload_n 2, 1), (164, .laload, 1), (165, .invokestatic 375, 3), (168, .lastore, 1), (169, .iinc 3 1, 3), (172, .goto (-168), 3), (175, .aload_n 0, 1), (176, .getfield 87, 3), (179, .iconst 0, 1), (180, .laload, 1), (181, .lreturn, 1)]
theorem t_M_saysOf : DT cX11_saysOf b_M_saysOf := DT.of (by decide +kernel)
def L_M_saysOf_4 : Nat → Int → Int → Mm → Option (Mm)
  | 0, _, _, _ => none
  | n + 1, x2, x3, σ =>
    if 0 ≤ x3 ∧ x3 < 1600 then
      if σ 210 x3.toNat = 408 then
        some σ
      else
        if 0 ≤ x3 ∧ x3 < 1600 then
          bindM (σ 210 x3.toNat) fun v1 =>
          bindM (fun (x2_2 : Int) (t2 : Mm) =>
            if r32 (x3 + 1) then
              L_M_saysOf_4 n x2_2 (x3 + 1) t2
            else none) fun J2 =>
          bindM (
            bindM (fun (y5 : Int) =>
              if 0 ≤ x2 ∧ x2 < 200 then
                bindM (st2 σ 224 x2.toNat y5) fun s6 =>
                if r32 (x2 + 1) then
                  J2 (x2 + 1) s6
                else none
              else none) fun J5 =>
            if v1 = 400 then
              if 0 ≤ x3 ∧ x3 < 1600 then
                J5 (σ 211 x3.toNat)
              else none
            else
              if 0 ≤ x3 ∧ x3 < 1600 then
                if 0 ≤ σ 211 x3.toNat ∧ σ 211 x3.toNat < 13 then
                  J5 (σ 223 ((σ 211 x3.toNat).toNat))
                else none
              else none) fun J4 =>
          if v1 = 400 then
            J4
          else
            if v1 = 401 then
              J4
            else
              if v1 = 402 then
                if 0 ≤ x2 - 1 ∧ x2 - 1 < 200 then
                  if r64 (-(σ 224 ((x2 - 1).toNat))) then
                    if 0 ≤ x2 - 1 ∧ x2 - 1 < 200 then
                      bindM (st2 σ 224 ((x2 - 1).toNat) (-(σ 224 ((x2 - 1).toNat)))) fun s9 =>
                      J2 x2 s9
                    else none
                  else none
                else none
              else
                if v1 = 405 then
                  if 0 ≤ x2 - 1 ∧ x2 - 1 < 200 then
                    if r64 (1 - (σ 224 ((x2 - 1).toNat))) then
                      if 0 ≤ x2 - 1 ∧ x2 - 1 < 200 then
                        bindM (st2 σ 224 ((x2 - 1).toNat) (1 - (σ 224 ((x2 - 1).toNat)))) fun s11 =>
                        J2 x2 s11
                      else none
                    else none
                  else none
                else
                  if 0 ≤ (x2 + (-1)) - 1 ∧ (x2 + (-1)) - 1 < 200 then
                    if 0 ≤ x2 + (-1) ∧ x2 + (-1) < 200 then
                      b1 (F_M_worked v1 (σ 224 (((x2 + (-1)) - 1).toNat)) (σ 224 ((x2 + (-1)).toNat))) fun v12 =>
                      if 0 ≤ (x2 + (-1)) - 1 ∧ (x2 + (-1)) - 1 < 200 then
                        bindM (st2 σ 224 (((x2 + (-1)) - 1).toNat) v12) fun s13 =>
                        if r32 (x2 + (-1)) then
                          J2 (x2 + (-1)) s13
                        else none
                      else none
                    else none
                  else none
        else none
    else none
set_option maxRecDepth 100000 in
set_option maxHeartbeats 4000000 in
theorem l_M_saysOf_4 {X : Cx} (h : CX X 1 cX11_saysOf 5 2 (some .long) RX11)   {res : Mm} (hex : ∀  (σ : Mm) (hz : some σ = some res)  (ok : okM σ), SW X 1 5 175 [some (.ref (xad X 200)), none, none, none, none] [] σ) : ∀ (n : Nat) (x2 : Int) (x3 : Int) (σ : Mm) (hx2 : r32 x2) (hx3 : r32 x3) (ok : okM σ) (hf : L_M_saysOf_4 n x2 x3 σ = some res), SW X 1 5 4 [some (.ref (xad X 200)), none, some (.int (i32 x2)), some (.int (i32 x3)), none] [] σ := by
  intro n
  induction n with
  | zero => intro x2 x3 σ hx2 hx3 ok hf; exact absurd hf (by simp [L_M_saysOf_4])
  | succ n ih =>
    intro x2 x3 σ hx2 hx3 ok hf
    rw [L_M_saysOf_4] at hf
    refine SW_aload_n h rfl (dt t_M_saysOf 4 rfl) ?_
    refine gR h cf11 o200 f11_12 j200_12 lX11_45 (dt t_M_saysOf 5 rfl) ?_
    refine SW_iload_n h rfl (dt t_M_saysOf 6 rfl) ?_
    refine aI h a210 (dt t_M_saysOf 7 rfl) hf (fun hf => ?_)
    refine SW_sipush h (dt t_M_saysOf 8 rfl) (by decide) ?_
    refine SW_icmp_eq (tgt := 175) h (fun _ => (okI ok 210 x3.toNat (IsA.n3 a210 (by decide)))) (fun _ => (by decide)) (dt t_M_saysOf 9 rfl) rfl hf (fun hf => ?_) (fun hf => ?_)
    · exact SW_fgt [true, false, false, false, false] rfl (hex σ hf ok)
    · refine SW_aload_n h rfl (dt t_M_saysOf 10 rfl) ?_
      refine gR h cf11 o200 f11_12 j200_12 lX11_45 (dt t_M_saysOf 11 rfl) ?_
      refine SW_iload_n h rfl (dt t_M_saysOf 12 rfl) ?_
      refine aI h a210 (dt t_M_saysOf 13 rfl) hf (fun hf => ?_)
      refine SW_vi hf (okI ok 210 x3.toNat (IsA.n3 a210 (by decide))) (fun v1 h1 hf => ?_)
      refine SW_istore (lv2 := [some (.ref (xad X 200)), none, some (.int (i32 x2)), some (.int (i32 x3)), some (.int (i32 v1))]) h (dt t_M_saysOf 14 rfl) (by decide) rfl ?_
      refine SW_iload h rfl (dt t_M_saysOf 15 rfl) ?_
      refine SW_sipush h (dt t_M_saysOf 16 rfl) (by decide) ?_
      refine bJ hf (fun J2 e2 hf => ?_)
      have k2 : ∀ (x2_2 : Int) (t2 : Mm) (hx2_2 : r32 x2_2) (ot2 : okM t2) (hf : J2 x2_2 t2 = some res), SW X 1 5 169 [some (.ref (xad X 200)), none, some (.int (i32 x2_2)), some (.int (i32 x3)), none] [] t2 := by
        intro x2_2 t2 hx2_2 ot2 hf
        rw [e2] at hf
        refine SW_iinc (lv2 := [some (.ref (xad X 200)), none, some (.int (i32 x2_2)), some (.int (i32 (x3 + 1))), none]) h (dt t_M_saysOf 98 rfl) rfl (by decide) rfl ?_
        refine SW_goto (tgt := 4) h (dt t_M_saysOf 99 rfl) rfl ?_
        refine SW_chk hf (fun h3 hf => ?_)
        exact SW_fgt [true, false, true, true, false] rfl (ih x2_2 (x3 + 1) t2 hx2_2 h3 ot2 hf)
      refine bJ hf (fun J4 e4 hf => ?_)
      have k4 : ∀ (hf : J4 = some res), SW X 1 5 40 [some (.ref (xad X 200)), none, some (.int (i32 x2)), some (.int (i32 x3)), some (.int (i32 v1))] [] σ := by
        intro hf
        rw [e4] at hf
        refine SW_aload_n h rfl (dt t_M_saysOf 21 rfl) ?_
        refine gR h cf11 o200 f11_40 j200_40 lX11_87 (dt t_M_saysOf 22 rfl) ?_
        refine SW_iload_n h rfl (dt t_M_saysOf 23 rfl) ?_
        refine SW_iload h rfl (dt t_M_saysOf 24 rfl) ?_
        refine SW_sipush h (dt t_M_saysOf 25 rfl) (by decide) ?_
        refine bJ hf (fun J5 e5 hf => ?_)
        have k5 : ∀ (y5 : Int) (hy5 : r64 y5) (hf : J5 y5 = some res), SW X 1 5 75 [some (.ref (xad X 200)), none, some (.int (i32 x2)), some (.int (i32 x3)), none] [.long (i64 y5), .int (i32 x2), .ref (xad X 224)] σ := by
          intro y5 hy5 hf
          rw [e5] at hf
          refine sL h a224 hy5 (dt t_M_saysOf 41 rfl) hf (fun hf => SW_bm hf (fun s6 ok6 hf => ?_))
          refine SW_iinc (lv2 := [some (.ref (xad X 200)), none, some (.int (i32 (x2 + 1))), some (.int (i32 x3)), none]) h (dt t_M_saysOf 42 rfl) rfl (by decide) rfl ?_
          refine SW_goto (tgt := 169) h (dt t_M_saysOf 43 rfl) rfl ?_
          refine SW_chk hf (fun h7 hf => ?_)
          exact SW_fgt [true, false, true, true, false] rfl (k2 (x2 + 1) s6 h7 ok6 hf)
        refine SW_icmp_ne (tgt := 63) h (fun _ => h1) (fun _ => (by decide)) (dt t_M_saysOf 26 rfl) rfl hf (fun hf => ?_) (fun hf => ?_)
        · refine SW_aload_n h rfl (dt t_M_saysOf 27 rfl) ?_
          refine gR h cf11 o200 f11_13 j200_13 lX11_48 (dt t_M_saysOf 28 rfl) ?_
          refine SW_iload_n h rfl (dt t_M_saysOf 29 rfl) ?_
          refine aI h a211 (dt t_M_saysOf 30 rfl) hf (fun hf => ?_)
          refine SW_i2l h (fun _ => (okI ok 211 x3.toNat (IsA.n3 a211 (by decide)))) (dt t_M_saysOf 31 rfl) ?_
          refine SW_goto (tgt := 75) h (dt t_M_saysOf 32 rfl) rfl ?_
          exact SW_fgt [true, false, true, true, false] rfl (k5 (σ 211 x3.toNat) (r_i2l (okI ok 211 x3.toNat (IsA.n3 a211 (by decide)))) hf)
        · refine SW_aload_n h rfl (dt t_M_saysOf 33 rfl) ?_
          refine gR h cf11 o200 f11_39 j200_39 lX11_84 (dt t_M_saysOf 34 rfl) ?_
          refine SW_aload_n h rfl (dt t_M_saysOf 35 rfl) ?_
          refine gR h cf11 o200 f11_13 j200_13 lX11_48 (dt t_M_saysOf 36 rfl) ?_
          refine SW_iload_n h rfl (dt t_M_saysOf 37 rfl) ?_
          refine aI h a211 (dt t_M_saysOf 38 rfl) hf (fun hf => ?_)
          refine aI h a223 (dt t_M_saysOf 39 rfl) hf (fun hf => ?_)
          refine SW_i2l h (fun _ => (okI ok 223 ((σ 211 x3.toNat).toNat) (IsA.n3 a223 (by decide)))) (dt t_M_saysOf 40 rfl) ?_
          exact SW_fgt [true, false, true, true, false] rfl (k5 (σ 223 ((σ 211 x3.toNat).toNat)) (r_i2l (okI ok 223 ((σ 211 x3.toNat).toNat) (IsA.n3 a223 (by decide)))) hf)
      refine SW_icmp_eq (tgt := 40) h (fun _ => h1) (fun _ => (by decide)) (dt t_M_saysOf 17 rfl) rfl hf (fun hf => ?_) (fun hf => ?_)
      · exact SW_fgt [true, false, true, true, true] rfl (k4 hf)
      · refine SW_iload h rfl (dt t_M_saysOf 18 rfl) ?_
        refine SW_sipush h (dt t_M_saysOf 19 rfl) (by decide) ?_
        refine SW_icmp_ne (tgt := 82) h (fun _ => h1) (fun _ => (by decide)) (dt t_M_saysOf 20 rfl) rfl hf (fun hf => ?_) (fun hf => ?_)
        · exact SW_fgt [true, false, true, true, true] rfl (k4 hf)
        · refine SW_iload h rfl (dt t_M_saysOf 44 rfl) ?_
          refine SW_sipush h (dt t_M_saysOf 45 rfl) (by decide) ?_
          refine SW_icmp_ne (tgt := 110) h (fun _ => h1) (fun _ => (by decide)) (dt t_M_saysOf 46 rfl) rfl hf (fun hf => ?_) (fun hf => ?_)
          · refine SW_aload_n h rfl (dt t_M_saysOf 47 rfl) ?_
            refine gR h cf11 o200 f11_40 j200_40 lX11_87 (dt t_M_saysOf 48 rfl) ?_
            refine SW_iload_n h rfl (dt t_M_saysOf 49 rfl) ?_
            refine SW_iconst h (dt t_M_saysOf 50 rfl) ?_
            refine SW_isub h (dt t_M_saysOf 51 rfl) ?_
            refine SW_aload_n h rfl (dt t_M_saysOf 52 rfl) ?_
            refine gR h cf11 o200 f11_40 j200_40 lX11_87 (dt t_M_saysOf 53 rfl) ?_
            refine SW_iload_n h rfl (dt t_M_saysOf 54 rfl) ?_
            refine SW_iconst h (dt t_M_saysOf 55 rfl) ?_
            refine SW_isub h (dt t_M_saysOf 56 rfl) ?_
            refine aL h a224 (dt t_M_saysOf 57 rfl) hf (fun hf => ?_)
            refine SW_lneg h (dt t_M_saysOf 58 rfl) ?_
            refine SW_chk hf (fun h8 hf => ?_)
            refine sL h a224 h8 (dt t_M_saysOf 59 rfl) hf (fun hf => SW_bm hf (fun s9 ok9 hf => ?_))
            refine SW_goto (tgt := 169) h (dt t_M_saysOf 60 rfl) rfl ?_
            exact SW_fgt [true, false, true, true, false] rfl (k2 x2 s9 hx2 ok9 hf)
          · refine SW_iload h rfl (dt t_M_saysOf 61 rfl) ?_
            refine SW_sipush h (dt t_M_saysOf 62 rfl) (by decide) ?_
            refine SW_icmp_ne (tgt := 139) h (fun _ => h1) (fun _ => (by decide)) (dt t_M_saysOf 63 rfl) rfl hf (fun hf => ?_) (fun hf => ?_)
            · refine SW_aload_n h rfl (dt t_M_saysOf 64 rfl) ?_
              refine gR h cf11 o200 f11_40 j200_40 lX11_87 (dt t_M_saysOf 65 rfl) ?_
              refine SW_iload_n h rfl (dt t_M_saysOf 66 rfl) ?_
              refine SW_iconst h (dt t_M_saysOf 67 rfl) ?_
              refine SW_isub h (dt t_M_saysOf 68 rfl) ?_
              refine SW_lc1 h (dt t_M_saysOf 69 rfl) ?_
              refine SW_aload_n h rfl (dt t_M_saysOf 70 rfl) ?_
              refine gR h cf11 o200 f11_40 j200_40 lX11_87 (dt t_M_saysOf 71 rfl) ?_
              refine SW_iload_n h rfl (dt t_M_saysOf 72 rfl) ?_
              refine SW_iconst h (dt t_M_saysOf 73 rfl) ?_
              refine SW_isub h (dt t_M_saysOf 74 rfl) ?_
              refine aL h a224 (dt t_M_saysOf 75 rfl) hf (fun hf => ?_)
              refine SW_lsub h (dt t_M_saysOf 76 rfl) ?_
              refine SW_chk hf (fun h10 hf => ?_)
              refine sL h a224 h10 (dt t_M_saysOf 77 rfl) hf (fun hf => SW_bm hf (fun s11 ok11 hf => ?_))
              refine SW_goto (tgt := 169) h (dt t_M_saysOf 78 rfl) rfl ?_
              exact SW_fgt [true, false, true, true, false] rfl (k2 x2 s11 hx2 ok11 hf)
            · refine SW_iinc (lv2 := [some (.ref (xad X 200)), none, some (.int (i32 (x2 + (-1)))), some (.int (i32 x3)), some (.int (i32 v1))]) h (dt t_M_saysOf 79 rfl) rfl (by decide) rfl ?_
              refine SW_aload_n h rfl (dt t_M_saysOf 80 rfl) ?_
              refine gR h cf11 o200 f11_40 j200_40 lX11_87 (dt t_M_saysOf 81 rfl) ?_
              refine SW_iload_n h rfl (dt t_M_saysOf 82 rfl) ?_
              refine SW_iconst h (dt t_M_saysOf 83 rfl) ?_
              refine SW_isub h (dt t_M_saysOf 84 rfl) ?_
              refine SW_iload h rfl (dt t_M_saysOf 85 rfl) ?_
              refine SW_aload_n h rfl (dt t_M_saysOf 86 rfl) ?_
              refine gR h cf11 o200 f11_40 j200_40 lX11_87 (dt t_M_saysOf 87 rfl) ?_
              refine SW_iload_n h rfl (dt t_M_saysOf 88 rfl) ?_
              refine SW_iconst h (dt t_M_saysOf 89 rfl) ?_
              refine SW_isub h (dt t_M_saysOf 90 rfl) ?_
              refine aL h a224 (dt t_M_saysOf 91 rfl) hf (fun hf => ?_)
              refine SW_aload_n h rfl (dt t_M_saysOf 92 rfl) ?_
              refine gR h cf11 o200 f11_40 j200_40 lX11_87 (dt t_M_saysOf 93 rfl) ?_
              refine SW_iload_n h rfl (dt t_M_saysOf 94 rfl) ?_
              refine aL h a224 (dt t_M_saysOf 95 rfl) hf (fun hf => ?_)
              obtain ⟨v12, e12, hf⟩ := b1_of hf
              refine cS h [.int (i32 v1), .long (i64 (σ 224 (((x2 + (-1)) - 1).toNat))), .long (i64 (σ 224 ((x2 + (-1)).toNat)))] [.int (i32 ((x2 + (-1)) - 1)), .ref (xad X 224)] v_X11_worked kX11_375 (c_M_worked v1 h1 (σ 224 (((x2 + (-1)) - 1).toNat)) (okL ok 224 (((x2 + (-1)) - 1).toNat) (a224).2.1) (σ 224 ((x2 + (-1)).toNat)) (okL ok 224 ((x2 + (-1)).toNat) (a224).2.1) e12) rfl rfl (by decide) (by decide) rfl (Nat.le_of_ble_eq_true rfl) (dt t_M_saysOf 96 rfl) (fun h12 => ?_)
              refine sL h a224 h12 (dt t_M_saysOf 97 rfl) hf (fun hf => SW_bm hf (fun s13 ok13 hf => ?_))
              refine SW_chk hf (fun h14 hf => ?_)
              exact SW_fgt [true, false, true, true, false] rfl (k2 (x2 + (-1)) s13 h14 ok13 hf)
def F_M_saysOf (x1 : Int) (σ : Mm) : Option (Int × Mm) :=
  b0M (L_M_saysOf_4 LF 0 x1 σ) fun s15 =>
  some (s15 224 0, s15)
set_option maxRecDepth 100000 in
set_option maxHeartbeats 4000000 in
theorem c_M_saysOf (x1 : Int) (hx1 : r32 x1) {σ : Mm} {a : Int} {σ2 : Mm} (hf : F_M_saysOf x1 σ = some (a, σ2)) : CT yX11_saysOf cX11_saysOf 5 (some .long) 2 1 (fun ad => [.ref (ad 200), .int (i32 x1)]) σ (r64 a) (some (.long (i64 a))) σ2 := by
  refine MetJ 3 (by decide +kernel) rfl (fun _ => Nat.le_of_ble_eq_true rfl) ?_
  intro X h hR ok
  obtain ⟨res, er⟩ : ∃ z, z = (a, σ2) := ⟨_, rfl⟩
  have hret : ∀ y : Int × Mm, some y = some res → RX X 1 (r64 (y.1)) (some (.long (i64 (y.1)))) y.2 := fun y e => by cases e; cases er; exact hR
  rw [← er] at hf
  clear er hR
  unfold F_M_saysOf at hf
  show SW X 1 5 0 [some (.ref (xad X 200)), some (.int (i32 x1)), none, none, none] [] σ
  refine SW_iconst h (dt t_M_saysOf 0 rfl) ?_
  refine SW_istore_n (lv2 := [some (.ref (xad X 200)), some (.int (i32 x1)), some (.int (i32 0)), none, none]) h (dt t_M_saysOf 1 rfl) (by decide) rfl ?_
  refine SW_iload_n h rfl (dt t_M_saysOf 2 rfl) ?_
  refine SW_istore_n (lv2 := [some (.ref (xad X 200)), some (.int (i32 x1)), some (.int (i32 0)), some (.int (i32 x1)), none]) h (dt t_M_saysOf 3 rfl) (by decide) rfl ?_
  obtain ⟨z15, e15, hk15⟩ := b0M_ex hf
  refine SW_fgt [true, false, true, true, false] rfl (l_M_saysOf_4 h (fun s15 hz15 ok15 => ?_) LF 0 x1 σ (by decide) hx1 ok e15)
  have hf := hk15 s15 hz15
  refine SW_aload_n h rfl (dt t_M_saysOf 100 rfl) ?_
  refine gR h cf11 o200 f11_40 j200_40 lX11_87 (dt t_M_saysOf 101 rfl) ?_
  refine SW_iconst h (dt t_M_saysOf 102 rfl) ?_
  refine aLk h a224 (by decide) (dt t_M_saysOf 103 rfl) ?_
  exact SW_lret h (hret _ hf) (fun _ => (okL ok15 224 0 (a224).2.1)) rfl (dt t_M_saysOf 104 rfl)
def b_M_doQuarrel : List (Nat × Instr × Nat) := [(0, .aload_n 0, 1), (1, .iconst 0, 1), (2, .invokevirtual 391, 3), (5, .istore 5, 2), (7, .aload_n 0, 1), (8, .iload_n 1, 1), (9, .iload_n 2, 1), (10, .iload_n 3, 1), (11, .iload 4, 2), (13, .invokevirtual 394, 3), (16, .iload 5, 2), (18, .iconst (-1), 1), (19, .if_icmp .ne 22, 3), (22, .aload_n 0, 1), (23, .getfield 84, 3), (26, .bipush 8, 2), (28, .iaload, 1), (29, .iconst 1, 1), (30, .if_icmp .ne 7, 3), (33, .iconst 1, 1), (34, .goto 23, 3), (37, .iconst 0, 1), (38, .goto 19, 3), (41, .aload_n 0, 1), (42, .iload 5, 2), (44, .invokevirtual 398, 3), (47, .lconst 0, 1), (48, .lcmp, 1), (49, .ifCond .ne 7, 3), (52, .iconst 1, 1), (53, .goto 4, 3), (56, .iconst 0, 1), (57, .ireturn, 1)]
theorem t_M_doQuarrel : DT cX11_doQuarrel b_M_doQuarrel := DT.of (by decide +kernel)
def F_M_doQuarrel (x1 : Int) (x2 : Int) (x3 : Int) (x4 : Int) (σ : Mm) : Option (Int × Mm) :=
  b1 (F_M_ordersOf 0 σ) fun v1 =>
  b0M (F_M_names x1 x2 x3 x4 σ) fun s2 =>
  if v1 = (-1) then
    if s2 223 8 = 1 then
      some (1, s2)
    else
      some (0, s2)
  else
    b1M (F_M_saysOf v1 s2) fun v3 s3 =>
    if lcmpI v3 0 = 0 then
      some (1, s3)
    else
      some (0, s3)
set_option maxRecDepth 100000 in
set_option maxHeartbeats 4000000 in
theorem c_M_doQuarrel (x1 : Int) (hx1 : r32 x1) (x2 : Int) (hx2 : r32 x2) (x3 : Int) (hx3 : r32 x3) (x4 : Int) (hx4 : r32 x4) {σ : Mm} {a : Int} {σ2 : Mm} (hf : F_M_doQuarrel x1 x2 x3 x4 σ = some (a, σ2)) : CT yX11_doQuarrel cX11_doQuarrel 6 (some .boolean) 3 1 (fun ad => [.ref (ad 200), .int (i32 x1), .int (i32 x2), .int (i32 x3), .int (i32 x4)]) σ (a = 0 ∨ a = 1) (some (.int (i32 a))) σ2 := by
  refine MetJ 1 (by decide +kernel) rfl (fun _ => Nat.le_of_ble_eq_true rfl) ?_
  intro X h hR ok
  obtain ⟨res, er⟩ : ∃ z, z = (a, σ2) := ⟨_, rfl⟩
  have hret : ∀ y : Int × Mm, some y = some res → RX X 1 (y.1 = 0 ∨ y.1 = 1) (some (.int (i32 (y.1)))) y.2 := fun y e => by cases e; cases er; exact hR
  rw [← er] at hf
  clear er hR
  unfold F_M_doQuarrel at hf
  show SW X 1 6 0 [some (.ref (xad X 200)), some (.int (i32 x1)), some (.int (i32 x2)), some (.int (i32 x3)), some (.int (i32 x4)), none] [] σ
  refine SW_aload_n h rfl (dt t_M_doQuarrel 0 rfl) ?_
  refine SW_iconst h (dt t_M_doQuarrel 1 rfl) ?_
  obtain ⟨v1, e1, hf⟩ := b1_of hf
  refine cV h [.int (i32 0)] [] v_X11_ordersOf kX11_391 o200 (c_M_ordersOf 0 (by decide) e1) rfl rfl (by decide) (by decide) rfl (Nat.le_of_ble_eq_true rfl) (dt t_M_doQuarrel 2 rfl) (fun h1 => ?_)
  refine SW_istore (lv2 := [some (.ref (xad X 200)), some (.int (i32 x1)), some (.int (i32 x2)), some (.int (i32 x3)), some (.int (i32 x4)), some (.int (i32 v1))]) h (dt t_M_doQuarrel 3 rfl) (by decide) rfl ?_
  refine SW_aload_n h rfl (dt t_M_doQuarrel 4 rfl) ?_
  refine SW_iload_n h rfl (dt t_M_doQuarrel 5 rfl) ?_
  refine SW_iload_n h rfl (dt t_M_doQuarrel 6 rfl) ?_
  refine SW_iload_n h rfl (dt t_M_doQuarrel 7 rfl) ?_
  refine SW_iload h rfl (dt t_M_doQuarrel 8 rfl) ?_
  obtain ⟨s2, e2, hf⟩ := b0M_of hf
  refine cVv h [.int (i32 x1), .int (i32 x2), .int (i32 x3), .int (i32 x4)] [] v_X11_names kX11_394 o200 (c_M_names x1 hx1 x2 hx2 x3 hx3 x4 hx4 e2) rfl rfl (by decide) (by decide) rfl (Nat.le_of_ble_eq_true rfl) (dt t_M_doQuarrel 9 rfl) (fun h2 => ?_)
  refine SW_ok (fun ok2 => ?_)
  refine SW_iload h rfl (dt t_M_doQuarrel 10 rfl) ?_
  refine SW_iconst h (dt t_M_doQuarrel 11 rfl) ?_
  refine SW_icmp_ne (tgt := 41) h (fun _ => h1) (fun _ => (by decide)) (dt t_M_doQuarrel 12 rfl) rfl hf (fun hf => ?_) (fun hf => ?_)
  · refine SW_aload_n h rfl (dt t_M_doQuarrel 13 rfl) ?_
    refine gR h cf11 o200 f11_39 j200_39 lX11_84 (dt t_M_doQuarrel 14 rfl) ?_
    refine SW_bipush h (dt t_M_doQuarrel 15 rfl) (by decide) ?_
    refine aIk h a223 (by decide) (dt t_M_doQuarrel 16 rfl) ?_
    refine SW_iconst h (dt t_M_doQuarrel 17 rfl) ?_
    refine SW_icmp_ne (tgt := 37) h (fun _ => (okI ok2 223 8 (IsA.n3 a223 (by decide)))) (fun _ => (by decide)) (dt t_M_doQuarrel 18 rfl) rfl hf (fun hf => ?_) (fun hf => ?_)
    · refine SW_iconst h (dt t_M_doQuarrel 19 rfl) ?_
      refine SW_goto (tgt := 57) h (dt t_M_doQuarrel 20 rfl) rfl ?_
      exact SW_zret h (hret _ hf) (by decide) rfl (dt t_M_doQuarrel 32 rfl)
    · refine SW_iconst h (dt t_M_doQuarrel 21 rfl) ?_
      refine SW_goto (tgt := 57) h (dt t_M_doQuarrel 22 rfl) rfl ?_
      exact SW_zret h (hret _ hf) (by decide) rfl (dt t_M_doQuarrel 32 rfl)
  · refine SW_aload_n h rfl (dt t_M_doQuarrel 23 rfl) ?_
    refine SW_iload h rfl (dt t_M_doQuarrel 24 rfl) ?_
    obtain ⟨v3, s3, e3, hf⟩ := b1M_of hf
    refine cV h [.int (i32 v1)] [] v_X11_saysOf kX11_398 o200 (c_M_saysOf v1 h1 e3) rfl rfl (by decide) (by decide) rfl (Nat.le_of_ble_eq_true rfl) (dt t_M_doQuarrel 25 rfl) (fun h3 => ?_)
    refine SW_ok (fun ok3 => ?_)
    refine SW_lc0 h (dt t_M_doQuarrel 26 rfl) ?_
    refine SW_lcmp h (fun _ => h3) (fun _ => (by decide)) (dt t_M_doQuarrel 27 rfl) ?_
    refine SW_if_ne (tgt := 56) h (fun _ => (r_lcmp _ _)) (dt t_M_doQuarrel 28 rfl) rfl hf (fun hf => ?_) (fun hf => ?_)
    · refine SW_iconst h (dt t_M_doQuarrel 29 rfl) ?_
      refine SW_goto (tgt := 57) h (dt t_M_doQuarrel 30 rfl) rfl ?_
      exact SW_zret h (hret _ hf) (by decide) rfl (dt t_M_doQuarrel 32 rfl)
    · refine SW_iconst h (dt t_M_doQuarrel 31 rfl) ?_
      exact SW_zret h (hret _ hf) (by decide) rfl (dt t_M_doQuarrel 32 rfl)
def b_M_quarrelAt : List (Nat × Instr × Nat) := [(0, .aload_n 0, 1), (1, .aload_n 0, 1), (2, .getfield 106, 3), (5, .iload_n 1, 1), (6, .iaload, 1), (7, .aload_n 0, 1), (8, .getfield 106, 3), (11, .iload_n 1, 1), (12, .iconst 1, 1), (13, .iadd, 1), (14, .iaload, 1), (15, .aload_n 0, 1), (16, .getfield 109, 3), (19, .iload_n 1, 1), (20, .iaload, 1), (21, .aload_n 0, 1), (22, .getfield 109, 3), (25, .iload_n 1, 1), (26, .iconst 1, 1), (27, .iadd, 1), (28, .iaload, 1), (29, .if_icmp .ne 7, 3), (32, .iconst 0, 1), (33, .goto 4, 3), (36, .iconst 1, 1), (37, .aload_n 0, 1), (38, .getfield 112, 3), (41, .iload_n 1, 1), (42, .iconst 1, 1), (43, .iadd, 1), (44, .baload, 1), (45, .ifCond .eq 7, 3), (48, .iconst 1, 1), (49, .goto 4, 3), (52, .iconst 0, 1), (53, .invokevirtual 402, 3), (56, .ireturn, 1)]
theorem t_M_quarrelAt : DT cX11_quarrelAt b_M_quarrelAt := DT.of (by decide +kernel)
def F_M_quarrelAt (x1 : Int) (σ : Mm) : Option (Int × Mm) :=
  if 0 ≤ x1 ∧ x1 < 16 then
    if 0 ≤ x1 + 1 ∧ x1 + 1 < 16 then
      if 0 ≤ x1 ∧ x1 < 16 then
        if 0 ≤ x1 + 1 ∧ x1 + 1 < 16 then
          bindM ((if σ 231 x1.toNat = σ 231 ((x1 + 1).toNat) then 0 else 1 : Int)) fun v1 =>
          if 0 ≤ x1 + 1 ∧ x1 + 1 < 16 then
            bindM ((if σ 232 ((x1 + 1).toNat) = 0 then 0 else 1 : Int)) fun v2 =>
            b1M (F_M_doQuarrel (σ 230 x1.toNat) (σ 230 ((x1 + 1).toNat)) v1 v2 σ) fun v3 s3 =>
            some (v3, s3)
          else none
        else none
      else none
    else none
  else none
set_option maxRecDepth 100000 in
set_option maxHeartbeats 4000000 in
theorem c_M_quarrelAt (x1 : Int) (hx1 : r32 x1) {σ : Mm} {a : Int} {σ2 : Mm} (hf : F_M_quarrelAt x1 σ = some (a, σ2)) : CT yX11_quarrelAt cX11_quarrelAt 2 (some .boolean) 4 1 (fun ad => [.ref (ad 200), .int (i32 x1)]) σ (a = 0 ∨ a = 1) (some (.int (i32 a))) σ2 := by
  refine MetJ 0 (by decide +kernel) rfl (fun _ => Nat.le_of_ble_eq_true rfl) ?_
  intro X h hR ok
  obtain ⟨res, er⟩ : ∃ z, z = (a, σ2) := ⟨_, rfl⟩
  have hret : ∀ y : Int × Mm, some y = some res → RX X 1 (y.1 = 0 ∨ y.1 = 1) (some (.int (i32 (y.1)))) y.2 := fun y e => by cases e; cases er; exact hR
  rw [← er] at hf
  clear er hR
  unfold F_M_quarrelAt at hf
  show SW X 1 2 0 [some (.ref (xad X 200)), some (.int (i32 x1))] [] σ
  refine SW_aload_n h rfl (dt t_M_quarrelAt 0 rfl) ?_
  refine SW_aload_n h rfl (dt t_M_quarrelAt 1 rfl) ?_
  refine gR h cf11 o200 f11_50 j200_50 lX11_106 (dt t_M_quarrelAt 2 rfl) ?_
  refine SW_iload_n h rfl (dt t_M_quarrelAt 3 rfl) ?_
  refine aI h a230 (dt t_M_quarrelAt 4 rfl) hf (fun hf => ?_)
  refine SW_aload_n h rfl (dt t_M_quarrelAt 5 rfl) ?_
  refine gR h cf11 o200 f11_50 j200_50 lX11_106 (dt t_M_quarrelAt 6 rfl) ?_
  refine SW_iload_n h rfl (dt t_M_quarrelAt 7 rfl) ?_
  refine SW_iconst h (dt t_M_quarrelAt 8 rfl) ?_
  refine SW_iadd h (dt t_M_quarrelAt 9 rfl) ?_
  refine aI h a230 (dt t_M_quarrelAt 10 rfl) hf (fun hf => ?_)
  refine SW_aload_n h rfl (dt t_M_quarrelAt 11 rfl) ?_
  refine gR h cf11 o200 f11_51 j200_51 lX11_109 (dt t_M_quarrelAt 12 rfl) ?_
  refine SW_iload_n h rfl (dt t_M_quarrelAt 13 rfl) ?_
  refine aI h a231 (dt t_M_quarrelAt 14 rfl) hf (fun hf => ?_)
  refine SW_aload_n h rfl (dt t_M_quarrelAt 15 rfl) ?_
  refine gR h cf11 o200 f11_51 j200_51 lX11_109 (dt t_M_quarrelAt 16 rfl) ?_
  refine SW_iload_n h rfl (dt t_M_quarrelAt 17 rfl) ?_
  refine SW_iconst h (dt t_M_quarrelAt 18 rfl) ?_
  refine SW_iadd h (dt t_M_quarrelAt 19 rfl) ?_
  refine aI h a231 (dt t_M_quarrelAt 20 rfl) hf (fun hf => ?_)
  refine bT hf (fun g1 e1 hf => ?_)
  have k1 : ∀ (v1 : Int) (h1 : r32 v1) (hf : g1 v1 = some res), SW X 1 2 37 [some (.ref (xad X 200)), some (.int (i32 x1))] [.int (i32 v1), .int (i32 (σ 230 ((x1 + 1).toNat))), .int (i32 (σ 230 x1.toNat)), .ref (xad X 200)] σ := by
    intro v1 h1 hf
    rw [e1] at hf
    refine SW_aload_n h rfl (dt t_M_quarrelAt 25 rfl) ?_
    refine gR h cf11 o200 f11_52 j200_52 lX11_112 (dt t_M_quarrelAt 26 rfl) ?_
    refine SW_iload_n h rfl (dt t_M_quarrelAt 27 rfl) ?_
    refine SW_iconst h (dt t_M_quarrelAt 28 rfl) ?_
    refine SW_iadd h (dt t_M_quarrelAt 29 rfl) ?_
    refine aZ h a232 (dt t_M_quarrelAt 30 rfl) hf (fun hf => ?_)
    refine bT hf (fun g2 e2 hf => ?_)
    have k2 : ∀ (v2 : Int) (h2 : r32 v2) (hf : g2 v2 = some res), SW X 1 2 53 [some (.ref (xad X 200)), some (.int (i32 x1))] [.int (i32 v2), .int (i32 v1), .int (i32 (σ 230 ((x1 + 1).toNat))), .int (i32 (σ 230 x1.toNat)), .ref (xad X 200)] σ := by
      intro v2 h2 hf
      rw [e2] at hf
      obtain ⟨v3, s3, e3, hf⟩ := b1M_of hf
      refine cV h [.int (i32 (σ 230 x1.toNat)), .int (i32 (σ 230 ((x1 + 1).toNat))), .int (i32 v1), .int (i32 v2)] [] v_X11_doQuarrel kX11_402 o200 (c_M_doQuarrel (σ 230 x1.toNat) (okI ok 230 x1.toNat (IsA.n3 a230 (by decide))) (σ 230 ((x1 + 1).toNat)) (okI ok 230 ((x1 + 1).toNat) (IsA.n3 a230 (by decide))) v1 h1 v2 h2 e3) rfl rfl (by decide) (by decide) rfl (Nat.le_of_ble_eq_true rfl) (dt t_M_quarrelAt 35 rfl) (fun h3 => ?_)
      refine SW_ok (fun ok3 => ?_)
      exact SW_zret h (hret _ hf) h3 rfl (dt t_M_quarrelAt 36 rfl)
    have hf := bIte hf
    refine SW_if_eq (tgt := 52) h (fun _ => (okI ok 232 ((x1 + 1).toNat) (IsA.n3 a232 (by decide)))) (dt t_M_quarrelAt 31 rfl) rfl hf (fun hf => ?_) (fun hf => ?_)
    · refine SW_iconst h (dt t_M_quarrelAt 34 rfl) ?_
      exact k2 0 (by decide) hf
    · refine SW_iconst h (dt t_M_quarrelAt 32 rfl) ?_
      refine SW_goto (tgt := 53) h (dt t_M_quarrelAt 33 rfl) rfl ?_
      exact k2 1 (by decide) hf
  have hf := bIte hf
  refine SW_icmp_ne (tgt := 36) h (fun _ => (okI ok 231 x1.toNat (IsA.n3 a231 (by decide)))) (fun _ => (okI ok 231 ((x1 + 1).toNat) (IsA.n3 a231 (by decide)))) (dt t_M_quarrelAt 21 rfl) rfl hf (fun hf => ?_) (fun hf => ?_)
  · refine SW_iconst h (dt t_M_quarrelAt 22 rfl) ?_
    refine SW_goto (tgt := 37) h (dt t_M_quarrelAt 23 rfl) rfl ?_
    exact k1 0 (by decide) hf
  · refine SW_iconst h (dt t_M_quarrelAt 24 rfl) ?_
    exact k1 1 (by decide) hf
def b_M_held : List (Nat × Instr × Nat) := [(0, .lload_n 0, 1), (1, .iload_n 2, 1), (2, .i2l, 1), (3, .lcmp, 1), (4, .ifCond .ge 7, 3), (7, .iload_n 2, 1), (8, .goto 16, 3), (11, .lload_n 0, 1), (12, .iload_n 3, 1), (13, .i2l, 1), (14, .lcmp, 1), (15, .ifCond .le 7, 3), (18, .iload_n 3, 1), (19, .goto 5, 3), (22, .lload_n 0, 1), (23, .l2i, 1), (24, .ireturn, 1)]
theorem t_M_held : DT cX11_held b_M_held := DT.of (by decide +kernel)
def F_M_held (x0 : Int) (x2 : Int) (x3 : Int) : Option (Int) :=
  if 0 ≤ lcmpI x0 x2 then
    if lcmpI x0 x3 ≤ 0 then
      some (l2iI x0)
    else
      some x3
  else
    some x2
set_option maxRecDepth 100000 in
set_option maxHeartbeats 4000000 in
theorem c_M_held (x0 : Int) (hx0 : r64 x0) (x2 : Int) (hx2 : r32 x2) (x3 : Int) (hx3 : r32 x3) {σ : Mm} {a : Int} (hf : F_M_held x0 x2 x3 = some a) : CT yX11_held cX11_held 4 (some .int) 0 1 (fun ad => [.long (i64 x0), .int (i32 x2), .int (i32 x3)]) σ (r32 a) (some (.int (i32 a))) σ := by
  refine MetJ 0 (by decide +kernel) rfl (fun _ => Nat.le_of_ble_eq_true rfl) ?_
  intro X h hR ok
  obtain ⟨res, er⟩ : ∃ z, z = a := ⟨_, rfl⟩
  have hret : ∀ y : Int, some y = some res → RX X 1 (r32 (y)) (some (.int (i32 (y)))) σ := fun y e => by cases e; cases er; exact hR
  rw [← er] at hf
  clear er hR
  unfold F_M_held at hf
  show SW X 1 4 0 [some (.long (i64 x0)), none, some (.int (i32 x2)), some (.int (i32 x3))] [] σ
  refine SW_lload_n h rfl (dt t_M_held 0 rfl) ?_
  refine SW_iload_n h rfl (dt t_M_held 1 rfl) ?_
  refine SW_i2l h (fun _ => hx2) (dt t_M_held 2 rfl) ?_
  refine SW_lcmp h (fun _ => hx0) (fun _ => (r_i2l hx2)) (dt t_M_held 3 rfl) ?_
  refine SW_if_ge (tgt := 11) h (fun _ => (r_lcmp _ _)) (dt t_M_held 4 rfl) rfl hf (fun hf => ?_) (fun hf => ?_)
  · refine SW_lload_n h rfl (dt t_M_held 7 rfl) ?_
    refine SW_iload_n h rfl (dt t_M_held 8 rfl) ?_
    refine SW_i2l h (fun _ => hx3) (dt t_M_held 9 rfl) ?_
    refine SW_lcmp h (fun _ => hx0) (fun _ => (r_i2l hx3)) (dt t_M_held 10 rfl) ?_
    refine SW_if_le (tgt := 22) h (fun _ => (r_lcmp _ _)) (dt t_M_held 11 rfl) rfl hf (fun hf => ?_) (fun hf => ?_)
    · refine SW_lload_n h rfl (dt t_M_held 14 rfl) ?_
      refine SW_l2i h (dt t_M_held 15 rfl) ?_
      exact SW_iret h (hret _ hf) (fun _ => (r_l2i _)) rfl (dt t_M_held 16 rfl)
    · refine SW_iload_n h rfl (dt t_M_held 12 rfl) ?_
      refine SW_goto (tgt := 24) h (dt t_M_held 13 rfl) rfl ?_
      exact SW_iret h (hret _ hf) (fun _ => hx3) rfl (dt t_M_held 16 rfl)
  · refine SW_iload_n h rfl (dt t_M_held 5 rfl) ?_
    refine SW_goto (tgt := 24) h (dt t_M_held 6 rfl) rfl ?_
    exact SW_iret h (hret _ hf) (fun _ => hx2) rfl (dt t_M_held 16 rfl)
def b_M_outNow : List (Nat × Instr × Nat) := [(0, .aload_n 0, 1), (1, .invokevirtual 406, 3), (4, .aload_n 0, 1), (5, .invokevirtual 409, 3), (8, .istore_n 1, 1), (9, .iconst 0, 1), (10, .istore_n 2, 1), (11, .iload_n 2, 1), (12, .iconst 1, 1), (13, .iadd, 1), (14, .aload_n 0, 1), (15, .getfield 385, 3), (18, .if_icmp .ge 47, 3), (21, .aload_n 0, 1), (22, .iload_n 2, 1), (23, .invokevirtual 412, 3), (26, .ifCond .eq 33, 3), (29, .aload_n 0, 1), (30, .iconst 1, 1), (31, .invokevirtual 391, 3), (34, .istore_n 3, 1), (35, .iload_n 1, 1), (36, .iload_n 3, 1), (37, .iconst (-1), 1), (38, .if_icmp .ne 7, 3), (41, .iconst 1, 1), (42, .goto 15, 3), (45, .aload_n 0, 1), (46, .iload_n 3, 1), (47, .invokevirtual 398, 3), (50, .bipush (-99), 2), (52, .bipush 99, 2), (54, .invokestatic 415, 3), (57, .iadd, 1), (58, .istore_n 1, 1), (59, .iinc 2 1, 3), (62, .goto (-51), 3), (65, .iload_n 1, 1), (66, .ireturn, 1)]
theorem t_M_outNow : DT cX11_outNow b_M_outNow := DT.of (by decide +kernel)
def L_M_outNow_11 : Nat → Int → Int → Mm → Option (Int × Mm)
  | 0, _, _, _ => none
  | n + 1, x1, x2, σ =>
    if r32 (x2 + 1) then
      if σ 200 53 ≤ x2 + 1 then
        some ((x1, σ))
      else
        b1M (F_M_quarrelAt x2 σ) fun v4 s4 =>
        bindM (fun (x1_5 : Int) (t5 : Mm) =>
          if r32 (x2 + 1) then
            L_M_outNow_11 n x1_5 (x2 + 1) t5
          else none) fun J5 =>
        if v4 = 0 then
          J5 x1 s4
        else
          b1 (F_M_ordersOf 1 s4) fun v7 =>
          bindM (fun (y8 : Int) (t8 : Mm) =>
            if r32 (x1 + y8) then
              J5 (x1 + y8) t8
            else none) fun J8 =>
          if v7 = (-1) then
            J8 1 s4
          else
            b1M (F_M_saysOf v7 s4) fun v10 s10 =>
            b1 (F_M_held v10 ((-99)) 99) fun v11 =>
            J8 v11 s10
    else none
set_option maxRecDepth 100000 in
set_option maxHeartbeats 4000000 in
theorem l_M_outNow_11 {X : Cx} (h : CX X 1 cX11_outNow 4 5 (some .int) RX11)   {res : Int × Mm} (hex : ∀ (x1 : Int) (σ : Mm) (hz : some ((x1, σ)) = some res) (hx1 : r32 x1) (ok : okM σ), SW X 1 4 65 [none, some (.int (i32 x1)), none, none] [] σ) : ∀ (n : Nat) (x1 : Int) (x2 : Int) (σ : Mm) (hx1 : r32 x1) (hx2 : r32 x2) (ok : okM σ) (hf : L_M_outNow_11 n x1 x2 σ = some res), SW X 1 4 11 [some (.ref (xad X 200)), some (.int (i32 x1)), some (.int (i32 x2)), none] [] σ := by
  intro n
  induction n with
  | zero => intro x1 x2 σ hx1 hx2 ok hf; exact absurd hf (by simp [L_M_outNow_11])
  | succ n ih =>
    intro x1 x2 σ hx1 hx2 ok hf
    rw [L_M_outNow_11] at hf
    refine SW_iload_n h rfl (dt t_M_outNow 7 rfl) ?_
    refine SW_iconst h (dt t_M_outNow 8 rfl) ?_
    refine SW_iadd h (dt t_M_outNow 9 rfl) ?_
    refine SW_aload_n h rfl (dt t_M_outNow 10 rfl) ?_
    refine gI h cf11 o200 f11_53 lX11_385 (dt t_M_outNow 11 rfl) ?_
    refine SW_chk hf (fun h3 hf => ?_)
    refine SW_icmp_ge (tgt := 65) h (fun _ => h3) (fun _ => (okI ok 200 53 (IsO.n3 o200))) (dt t_M_outNow 12 rfl) rfl hf (fun hf => ?_) (fun hf => ?_)
    · exact SW_fgt [false, true, false, false] rfl (hex x1 σ hf hx1 ok)
    · refine SW_aload_n h rfl (dt t_M_outNow 13 rfl) ?_
      refine SW_iload_n h rfl (dt t_M_outNow 14 rfl) ?_
      obtain ⟨v4, s4, e4, hf⟩ := b1M_of hf
      refine cV h [.int (i32 x2)] [] v_X11_quarrelAt kX11_412 o200 (c_M_quarrelAt x2 hx2 e4) rfl rfl (by decide) (by decide) rfl (Nat.le_of_ble_eq_true rfl) (dt t_M_outNow 15 rfl) (fun h4 => ?_)
      refine SW_ok (fun ok4 => ?_)
      refine bJ hf (fun J5 e5 hf => ?_)
      have k5 : ∀ (x1_5 : Int) (t5 : Mm) (hx1_5 : r32 x1_5) (ot5 : okM t5) (hf : J5 x1_5 t5 = some res), SW X 1 4 59 [some (.ref (xad X 200)), some (.int (i32 x1_5)), some (.int (i32 x2)), none] [] t5 := by
        intro x1_5 t5 hx1_5 ot5 hf
        rw [e5] at hf
        refine SW_iinc (lv2 := [some (.ref (xad X 200)), some (.int (i32 x1_5)), some (.int (i32 (x2 + 1))), none]) h (dt t_M_outNow 35 rfl) rfl (by decide) rfl ?_
        refine SW_goto (tgt := 11) h (dt t_M_outNow 36 rfl) rfl ?_
        refine SW_chk hf (fun h6 hf => ?_)
        exact SW_fgt [true, true, true, false] rfl (ih x1_5 (x2 + 1) t5 hx1_5 h6 ot5 hf)
      refine SW_if_eq (tgt := 59) h (fun _ => (r_zo h4)) (dt t_M_outNow 16 rfl) rfl hf (fun hf => ?_) (fun hf => ?_)
      · exact SW_fgt [true, true, true, false] rfl (k5 x1 s4 hx1 ok4 hf)
      · refine SW_aload_n h rfl (dt t_M_outNow 17 rfl) ?_
        refine SW_iconst h (dt t_M_outNow 18 rfl) ?_
        obtain ⟨v7, e7, hf⟩ := b1_of hf
        refine cV h [.int (i32 1)] [] v_X11_ordersOf kX11_391 o200 (c_M_ordersOf 1 (by decide) e7) rfl rfl (by decide) (by decide) rfl (Nat.le_of_ble_eq_true rfl) (dt t_M_outNow 19 rfl) (fun h7 => ?_)
        refine SW_istore_n (lv2 := [some (.ref (xad X 200)), some (.int (i32 x1)), some (.int (i32 x2)), some (.int (i32 v7))]) h (dt t_M_outNow 20 rfl) (by decide) rfl ?_
        refine SW_iload_n h rfl (dt t_M_outNow 21 rfl) ?_
        refine SW_iload_n h rfl (dt t_M_outNow 22 rfl) ?_
        refine SW_iconst h (dt t_M_outNow 23 rfl) ?_
        refine bJ hf (fun J8 e8 hf => ?_)
        have k8 : ∀ (y8 : Int) (t8 : Mm) (hy8 : r32 y8) (ot8 : okM t8) (hf : J8 y8 t8 = some res), SW X 1 4 57 [some (.ref (xad X 200)), none, some (.int (i32 x2)), none] [.int (i32 y8), .int (i32 x1)] t8 := by
          intro y8 t8 hy8 ot8 hf
          rw [e8] at hf
          refine SW_iadd h (dt t_M_outNow 33 rfl) ?_
          refine SW_istore_n (lv2 := [some (.ref (xad X 200)), some (.int (i32 (x1 + y8))), some (.int (i32 x2)), none]) h (dt t_M_outNow 34 rfl) (by decide) rfl ?_
          refine SW_chk hf (fun h9 hf => ?_)
          exact SW_fgt [true, true, true, false] rfl (k5 (x1 + y8) t8 h9 ot8 hf)
        refine SW_icmp_ne (tgt := 45) h (fun _ => h7) (fun _ => (by decide)) (dt t_M_outNow 24 rfl) rfl hf (fun hf => ?_) (fun hf => ?_)
        · refine SW_iconst h (dt t_M_outNow 25 rfl) ?_
          refine SW_goto (tgt := 57) h (dt t_M_outNow 26 rfl) rfl ?_
          exact SW_fgt [true, false, true, false] rfl (k8 1 s4 (by decide) ok4 hf)
        · refine SW_aload_n h rfl (dt t_M_outNow 27 rfl) ?_
          refine SW_iload_n h rfl (dt t_M_outNow 28 rfl) ?_
          obtain ⟨v10, s10, e10, hf⟩ := b1M_of hf
          refine cV h [.int (i32 v7)] [.int (i32 x1)] v_X11_saysOf kX11_398 o200 (c_M_saysOf v7 h7 e10) rfl rfl (by decide) (by decide) rfl (Nat.le_of_ble_eq_true rfl) (dt t_M_outNow 29 rfl) (fun h10 => ?_)
          refine SW_ok (fun ok10 => ?_)
          refine SW_bipush h (dt t_M_outNow 30 rfl) (by decide) ?_
          refine SW_bipush h (dt t_M_outNow 31 rfl) (by decide) ?_
          obtain ⟨v11, e11, hf⟩ := b1_of hf
          refine cS h [.long (i64 v10), .int (i32 ((-99))), .int (i32 99)] [.int (i32 x1)] v_X11_held kX11_415 (c_M_held v10 h10 ((-99)) (by decide) 99 (by decide) e11) rfl rfl (by decide) (by decide) rfl (Nat.le_of_ble_eq_true rfl) (dt t_M_outNow 32 rfl) (fun h11 => ?_)
          exact SW_fgt [true, false, true, false] rfl (k8 v11 s10 h11 ok10 hf)
def F_M_outNow  (σ : Mm) : Option (Int × Mm) :=
  b0M (F_M_laysDigits  σ) fun s1 =>
  b1 (F_M_trueNow  s1) fun v2 =>
  b1M (L_M_outNow_11 LF v2 0 s1) fun x1_12 s12 =>
  some (x1_12, s12)
set_option maxRecDepth 100000 in
set_option maxHeartbeats 4000000 in
theorem c_M_outNow  {σ : Mm} {a : Int} {σ2 : Mm} (hf : F_M_outNow  σ = some (a, σ2)) : CT yX11_outNow cX11_outNow 4 (some .int) 5 1 (fun ad => [.ref (ad 200)]) σ (r32 a) (some (.int (i32 a))) σ2 := by
  refine MetJ 3 (by decide +kernel) rfl (fun _ => Nat.le_of_ble_eq_true rfl) ?_
  intro X h hR ok
  obtain ⟨res, er⟩ : ∃ z, z = (a, σ2) := ⟨_, rfl⟩
  have hret : ∀ y : Int × Mm, some y = some res → RX X 1 (r32 (y.1)) (some (.int (i32 (y.1)))) y.2 := fun y e => by cases e; cases er; exact hR
  rw [← er] at hf
  clear er hR
  unfold F_M_outNow at hf
  show SW X 1 4 0 [some (.ref (xad X 200)), none, none, none] [] σ
  refine SW_aload_n h rfl (dt t_M_outNow 0 rfl) ?_
  obtain ⟨s1, e1, hf⟩ := b0M_of hf
  refine cVv h [] [] v_X11_laysDigits kX11_406 o200 (c_M_laysDigits  e1) rfl rfl (by decide) (by decide) rfl (Nat.le_of_ble_eq_true rfl) (dt t_M_outNow 1 rfl) (fun h1 => ?_)
  refine SW_ok (fun ok1 => ?_)
  refine SW_aload_n h rfl (dt t_M_outNow 2 rfl) ?_
  obtain ⟨v2, e2, hf⟩ := b1_of hf
  refine cV h [] [] v_X11_trueNow kX11_409 o200 (c_M_trueNow  e2) rfl rfl (by decide) (by decide) rfl (Nat.le_of_ble_eq_true rfl) (dt t_M_outNow 3 rfl) (fun h2 => ?_)
  refine SW_istore_n (lv2 := [some (.ref (xad X 200)), some (.int (i32 v2)), none, none]) h (dt t_M_outNow 4 rfl) (by decide) rfl ?_
  refine SW_iconst h (dt t_M_outNow 5 rfl) ?_
  refine SW_istore_n (lv2 := [some (.ref (xad X 200)), some (.int (i32 v2)), some (.int (i32 0)), none]) h (dt t_M_outNow 6 rfl) (by decide) rfl ?_
  obtain ⟨z12, e12, hk12⟩ := b1M_ex hf
  refine SW_fgt [true, true, true, false] rfl (l_M_outNow_11 h (fun x1_12 s12 hz12 hx1_12 ok12 => ?_) LF v2 0 s1 h2 (by decide) ok1 e12)
  have hf := hk12 x1_12 s12 hz12
  refine SW_iload_n h rfl (dt t_M_outNow 37 rfl) ?_
  exact SW_iret h (hret _ hf) (fun _ => hx1_12) rfl (dt t_M_outNow 38 rfl)
def b_M_size : List (Nat × Instr × Nat) := [(0, .iload_n 0, 1), (1, .ifCond .ge 8, 3), (4, .iload_n 0, 1), (5, .ineg, 1), (6, .goto 4, 3), (9, .iload_n 0, 1), (10, .ireturn, 1)]
theorem t_M_size : DT cX11_size b_M_size := DT.of (by decide +kernel)
def F_M_size (x0 : Int) : Option (Int) :=
  if 0 ≤ x0 then
    some x0
  else
    if r32 (-x0) then
      some (-x0)
    else none
set_option maxRecDepth 100000 in
set_option maxHeartbeats 4000000 in
theorem c_M_size (x0 : Int) (hx0 : r32 x0) {σ : Mm} {a : Int} (hf : F_M_size x0 = some a) : CT yX11_size cX11_size 1 (some .int) 0 1 (fun ad => [.int (i32 x0)]) σ (r32 a) (some (.int (i32 a))) σ := by
  refine MetJ 0 (by decide +kernel) rfl (fun _ => Nat.le_of_ble_eq_true rfl) ?_
  intro X h hR ok
  obtain ⟨res, er⟩ : ∃ z, z = a := ⟨_, rfl⟩
  have hret : ∀ y : Int, some y = some res → RX X 1 (r32 (y)) (some (.int (i32 (y)))) σ := fun y e => by cases e; cases er; exact hR
  rw [← er] at hf
  clear er hR
  unfold F_M_size at hf
  show SW X 1 1 0 [some (.int (i32 x0))] [] σ
  refine SW_iload_n h rfl (dt t_M_size 0 rfl) ?_
  refine SW_if_ge (tgt := 9) h (fun _ => hx0) (dt t_M_size 1 rfl) rfl hf (fun hf => ?_) (fun hf => ?_)
  · refine SW_iload_n h rfl (dt t_M_size 5 rfl) ?_
    exact SW_iret h (hret _ hf) (fun _ => hx0) rfl (dt t_M_size 6 rfl)
  · refine SW_iload_n h rfl (dt t_M_size 2 rfl) ?_
    refine SW_ineg h (dt t_M_size 3 rfl) ?_
    refine SW_goto (tgt := 10) h (dt t_M_size 4 rfl) rfl ?_
    refine SW_chk hf (fun h1 hf => ?_)
    exact SW_iret h (hret _ hf) (fun _ => h1) rfl (dt t_M_size 6 rfl)
def b_M_usesDigits : List (Nat × Instr × Nat) := [(0, .iconst 0, 1), (1, .istore_n 1, 1), (2, .iload_n 1, 1), (3, .aload_n 0, 1), (4, .getfield 385, 3), (7, .if_icmp .ge 45, 3), (10, .aload_n 0, 1), (11, .getfield 94, 3), (14, .aload_n 0, 1), (15, .getfield 106, 3), (18, .iload_n 1, 1), (19, .iaload, 1), (20, .dup2, 1), (21, .iaload, 1), (22, .aload_n 0, 1), (23, .getfield 94, 3), (26, .aload_n 0, 1), (27, .getfield 106, 3), (30, .iload_n 1, 1), (31, .iaload, 1), (32, .iaload, 1), (33, .sipush 999, 3), (36, .if_icmp .ge 7, 3), (39, .iconst 1, 1), (40, .goto 4, 3), (43, .iconst 0, 1), (44, .iadd, 1), (45, .iastore, 1), (46, .iinc 1 1, 3), (49, .goto (-47), 3), (52, .return_, 1)]
theorem t_M_usesDigits : DT cX11_usesDigits b_M_usesDigits := DT.of (by decide +kernel)
def L_M_usesDigits_2 : Nat → Int → Mm → Option (Mm)
  | 0, _, _ => none
  | n + 1, x1, σ =>
    if σ 200 53 ≤ x1 then
      some σ
    else
      if 0 ≤ x1 ∧ x1 < 16 then
        if 0 ≤ σ 230 x1.toNat ∧ σ 230 x1.toNat < 10 then
          if 0 ≤ x1 ∧ x1 < 16 then
            if 0 ≤ σ 230 x1.toNat ∧ σ 230 x1.toNat < 10 then
              bindM ((if 999 ≤ σ 226 ((σ 230 x1.toNat).toNat) then 0 else 1 : Int)) fun v1 =>
              if r32 ((σ 226 ((σ 230 x1.toNat).toNat)) + v1) then
                if 0 ≤ σ 230 x1.toNat ∧ σ 230 x1.toNat < 10 then
                  bindM (st2 σ 226 ((σ 230 x1.toNat).toNat) ((σ 226 ((σ 230 x1.toNat).toNat)) + v1)) fun s3 =>
                  if r32 (x1 + 1) then
                    L_M_usesDigits_2 n (x1 + 1) s3
                  else none
                else none
              else none
            else none
          else none
        else none
      else none
set_option maxRecDepth 100000 in
set_option maxHeartbeats 4000000 in
theorem l_M_usesDigits_2 {X : Cx} (h : CX X 1 cX11_usesDigits 2 0 none RX11)   {res : Mm} (hex : ∀  (σ : Mm) (hz : some σ = some res)  (ok : okM σ), SW X 1 2 52 [none, none] [] σ) : ∀ (n : Nat) (x1 : Int) (σ : Mm) (hx1 : r32 x1) (ok : okM σ) (hf : L_M_usesDigits_2 n x1 σ = some res), SW X 1 2 2 [some (.ref (xad X 200)), some (.int (i32 x1))] [] σ := by
  intro n
  induction n with
  | zero => intro x1 σ hx1 ok hf; exact absurd hf (by simp [L_M_usesDigits_2])
  | succ n ih =>
    intro x1 σ hx1 ok hf
    rw [L_M_usesDigits_2] at hf
    refine SW_iload_n h rfl (dt t_M_usesDigits 2 rfl) ?_
    refine SW_aload_n h rfl (dt t_M_usesDigits 3 rfl) ?_
    refine gI h cf11 o200 f11_53 lX11_385 (dt t_M_usesDigits 4 rfl) ?_
    refine SW_icmp_ge (tgt := 52) h (fun _ => hx1) (fun _ => (okI ok 200 53 (IsO.n3 o200))) (dt t_M_usesDigits 5 rfl) rfl hf (fun hf => ?_) (fun hf => ?_)
    · exact SW_fgt [false, false] rfl (hex σ hf ok)
    · refine SW_aload_n h rfl (dt t_M_usesDigits 6 rfl) ?_
      refine gR h cf11 o200 f11_42 j200_42 lX11_94 (dt t_M_usesDigits 7 rfl) ?_
      refine SW_aload_n h rfl (dt t_M_usesDigits 8 rfl) ?_
      refine gR h cf11 o200 f11_50 j200_50 lX11_106 (dt t_M_usesDigits 9 rfl) ?_
      refine SW_iload_n h rfl (dt t_M_usesDigits 10 rfl) ?_
      refine aI h a230 (dt t_M_usesDigits 11 rfl) hf (fun hf => ?_)
      refine SW_dup2 h rfl rfl (dt t_M_usesDigits 12 rfl) ?_
      refine aI h a226 (dt t_M_usesDigits 13 rfl) hf (fun hf => ?_)
      refine SW_aload_n h rfl (dt t_M_usesDigits 14 rfl) ?_
      refine gR h cf11 o200 f11_42 j200_42 lX11_94 (dt t_M_usesDigits 15 rfl) ?_
      refine SW_aload_n h rfl (dt t_M_usesDigits 16 rfl) ?_
      refine gR h cf11 o200 f11_50 j200_50 lX11_106 (dt t_M_usesDigits 17 rfl) ?_
      refine SW_iload_n h rfl (dt t_M_usesDigits 18 rfl) ?_
      refine aI h a230 (dt t_M_usesDigits 19 rfl) hf (fun hf => ?_)
      refine aI h a226 (dt t_M_usesDigits 20 rfl) hf (fun hf => ?_)
      refine SW_sipush h (dt t_M_usesDigits 21 rfl) (by decide) ?_
      refine bT hf (fun g1 e1 hf => ?_)
      have k1 : ∀ (v1 : Int) (h1 : r32 v1) (hf : g1 v1 = some res), SW X 1 2 44 [some (.ref (xad X 200)), some (.int (i32 x1))] [.int (i32 v1), .int (i32 (σ 226 ((σ 230 x1.toNat).toNat))), .int (i32 (σ 230 x1.toNat)), .ref (xad X 226)] σ := by
        intro v1 h1 hf
        rw [e1] at hf
        refine SW_iadd h (dt t_M_usesDigits 26 rfl) ?_
        refine SW_chk hf (fun h2 hf => ?_)
        refine sI h a226 h2 (dt t_M_usesDigits 27 rfl) hf (fun hf => SW_bm hf (fun s3 ok3 hf => ?_))
        refine SW_iinc (lv2 := [some (.ref (xad X 200)), some (.int (i32 (x1 + 1)))]) h (dt t_M_usesDigits 28 rfl) rfl (by decide) rfl ?_
        refine SW_goto (tgt := 2) h (dt t_M_usesDigits 29 rfl) rfl ?_
        refine SW_chk hf (fun h4 hf => ?_)
        exact SW_fgt [true, true] rfl (ih (x1 + 1) s3 h4 ok3 hf)
      have hf := bIte hf
      refine SW_icmp_ge (tgt := 43) h (fun _ => (okI ok 226 ((σ 230 x1.toNat).toNat) (IsA.n3 a226 (by decide)))) (fun _ => (by decide)) (dt t_M_usesDigits 22 rfl) rfl hf (fun hf => ?_) (fun hf => ?_)
      · refine SW_iconst h (dt t_M_usesDigits 25 rfl) ?_
        exact k1 0 (by decide) hf
      · refine SW_iconst h (dt t_M_usesDigits 23 rfl) ?_
        refine SW_goto (tgt := 44) h (dt t_M_usesDigits 24 rfl) rfl ?_
        exact k1 1 (by decide) hf
def F_M_usesDigits  (σ : Mm) : Option (Mm) :=
  b0M (L_M_usesDigits_2 LF 0 σ) fun s5 =>
  some s5
set_option maxRecDepth 100000 in
set_option maxHeartbeats 4000000 in
theorem c_M_usesDigits  {σ : Mm} {σ2 : Mm} (hf : F_M_usesDigits  σ = some σ2) : CT yX11_usesDigits cX11_usesDigits 2 none 0 1 (fun ad => [.ref (ad 200)]) σ True none σ2 := by
  refine MetJ 1 (by decide +kernel) rfl (fun _ => Nat.le_of_ble_eq_true rfl) ?_
  intro X h hR ok
  obtain ⟨res, er⟩ : ∃ z, z = σ2 := ⟨_, rfl⟩
  have hret : ∀ y : Mm, some y = some res → RX X 1 True none y := fun y e => by cases e; cases er; exact hR
  rw [← er] at hf
  clear er hR
  unfold F_M_usesDigits at hf
  show SW X 1 2 0 [some (.ref (xad X 200)), none] [] σ
  refine SW_iconst h (dt t_M_usesDigits 0 rfl) ?_
  refine SW_istore_n (lv2 := [some (.ref (xad X 200)), some (.int (i32 0))]) h (dt t_M_usesDigits 1 rfl) (by decide) rfl ?_
  obtain ⟨z5, e5, hk5⟩ := b0M_ex hf
  refine SW_fgt [true, true] rfl (l_M_usesDigits_2 h (fun s5 hz5 ok5 => ?_) LF 0 σ (by decide) ok e5)
  have hf := hk5 s5 hz5
  exact SW_vret h (hret _ hf) rfl (dt t_M_usesDigits 30 rfl)
def b_M_apartSo : List (Nat × Instr × Nat) := [(0, .aload_n 0, 1), (1, .invokevirtual 446, 3), (4, .iconst 0, 1), (5, .istore_n 2, 1), (6, .iconst 0, 1), (7, .istore_n 3, 1), (8, .iload_n 3, 1), (9, .iload_n 1, 1), (10, .if_icmp .ge 43, 3), (13, .aload_n 0, 1), (14, .aload_n 0, 1), (15, .getfield 134, 3), (18, .aload_n 0, 1), (19, .getfield 119, 3), (22, .iload_n 3, 1), (23, .iaload, 1), (24, .iaload, 1), (25, .invokevirtual 419, 3), (28, .iload_n 2, 1), (29, .aload_n 0, 1), (30, .invokevirtual 422, 3), (33, .aload_n 0, 1), (34, .invokevirtual 409, 3), (37, .isub, 1), (38, .invokestatic 543, 3), (41, .iadd, 1), (42, .istore_n 2, 1), (43, .aload_n 0, 1), (44, .invokevirtual 427, 3), (47, .iinc 3 1, 3), (50, .goto (-42), 3), (53, .iload_n 2, 1), (54, .ireturn, 1)]
theorem t_M_apartSo : DT cX11_apartSo b_M_apartSo := DT.of (by decide +kernel)
def L_M_apartSo_8 : Nat → Int → Int → Int → Mm → Option (Int × Mm)
  | 0, _, _, _, _ => none
  | n + 1, x1, x2, x3, σ =>
    if x1 ≤ x3 then
      some ((x2, σ))
    else
      if 0 ≤ x3 ∧ x3 < 6 then
        if 0 ≤ σ 234 x3.toNat ∧ σ 234 x3.toNat < 5 then
          b0M (F_M_laysRow (σ 239 ((σ 234 x3.toNat).toNat)) σ) fun s2 =>
          b1M (F_M_outNow  s2) fun v3 s3 =>
          b1 (F_M_trueNow  s3) fun v4 =>
          if r32 (v3 - v4) then
            b1 (F_M_size (v3 - v4)) fun v5 =>
            b0M (F_M_usesDigits  s3) fun s7 =>
            if r32 (x2 + v5) then
              if r32 (x3 + 1) then
                L_M_apartSo_8 n x1 (x2 + v5) (x3 + 1) s7
              else none
            else none
          else none
        else none
      else none
set_option maxRecDepth 100000 in
set_option maxHeartbeats 4000000 in
theorem l_M_apartSo_8 {X : Cx} (h : CX X 1 cX11_apartSo 4 6 (some .int) RX11) (x1 : Int) (hx1 : r32 x1) {res : Int × Mm} (hex : ∀ (x2 : Int) (σ : Mm) (hz : some ((x2, σ)) = some res) (hx2 : r32 x2) (ok : okM σ), SW X 1 4 53 [none, none, some (.int (i32 x2)), none] [] σ) : ∀ (n : Nat) (x2 : Int) (x3 : Int) (σ : Mm) (hx2 : r32 x2) (hx3 : r32 x3) (ok : okM σ) (hf : L_M_apartSo_8 n x1 x2 x3 σ = some res), SW X 1 4 8 [some (.ref (xad X 200)), some (.int (i32 x1)), some (.int (i32 x2)), some (.int (i32 x3))] [] σ := by
  intro n
  induction n with
  | zero => intro x2 x3 σ hx2 hx3 ok hf; exact absurd hf (by simp [L_M_apartSo_8])
  | succ n ih =>
    intro x2 x3 σ hx2 hx3 ok hf
    rw [L_M_apartSo_8] at hf
    refine SW_iload_n h rfl (dt t_M_apartSo 6 rfl) ?_
    refine SW_iload_n h rfl (dt t_M_apartSo 7 rfl) ?_
    refine SW_icmp_ge (tgt := 53) h (fun _ => hx3) (fun _ => hx1) (dt t_M_apartSo 8 rfl) rfl hf (fun hf => ?_) (fun hf => ?_)
    · exact SW_fgt [false, false, true, false] rfl (hex x2 σ hf hx2 ok)
    · refine SW_aload_n h rfl (dt t_M_apartSo 9 rfl) ?_
      refine SW_aload_n h rfl (dt t_M_apartSo 10 rfl) ?_
      refine gR h cf11 o200 f11_60 j200_60 lX11_134 (dt t_M_apartSo 11 rfl) ?_
      refine SW_aload_n h rfl (dt t_M_apartSo 12 rfl) ?_
      refine gR h cf11 o200 f11_55 j200_55 lX11_119 (dt t_M_apartSo 13 rfl) ?_
      refine SW_iload_n h rfl (dt t_M_apartSo 14 rfl) ?_
      refine aI h a234 (dt t_M_apartSo 15 rfl) hf (fun hf => ?_)
      refine aI h a239 (dt t_M_apartSo 16 rfl) hf (fun hf => ?_)
      obtain ⟨s2, e2, hf⟩ := b0M_of hf
      refine cVv h [.int (i32 (σ 239 ((σ 234 x3.toNat).toNat)))] [] v_X11_laysRow kX11_419 o200 (c_M_laysRow (σ 239 ((σ 234 x3.toNat).toNat)) (okI ok 239 ((σ 234 x3.toNat).toNat) (IsA.n3 a239 (by decide))) e2) rfl rfl (by decide) (by decide) rfl (Nat.le_of_ble_eq_true rfl) (dt t_M_apartSo 17 rfl) (fun h2 => ?_)
      refine SW_ok (fun ok2 => ?_)
      refine SW_iload_n h rfl (dt t_M_apartSo 18 rfl) ?_
      refine SW_aload_n h rfl (dt t_M_apartSo 19 rfl) ?_
      obtain ⟨v3, s3, e3, hf⟩ := b1M_of hf
      refine cV h [] [.int (i32 x2)] v_X11_outNow kX11_422 o200 (c_M_outNow  e3) rfl rfl (by decide) (by decide) rfl (Nat.le_of_ble_eq_true rfl) (dt t_M_apartSo 20 rfl) (fun h3 => ?_)
      refine SW_ok (fun ok3 => ?_)
      refine SW_aload_n h rfl (dt t_M_apartSo 21 rfl) ?_
      obtain ⟨v4, e4, hf⟩ := b1_of hf
      refine cV h [] [.int (i32 v3), .int (i32 x2)] v_X11_trueNow kX11_409 o200 (c_M_trueNow  e4) rfl rfl (by decide) (by decide) rfl (Nat.le_of_ble_eq_true rfl) (dt t_M_apartSo 22 rfl) (fun h4 => ?_)
      refine SW_isub h (dt t_M_apartSo 23 rfl) ?_
      refine SW_chk hf (fun h6 hf => ?_)
      obtain ⟨v5, e5, hf⟩ := b1_of hf
      refine cS h [.int (i32 (v3 - v4))] [.int (i32 x2)] v_X11_size kX11_543 (c_M_size (v3 - v4) h6 e5) rfl rfl (by decide) (by decide) rfl (Nat.le_of_ble_eq_true rfl) (dt t_M_apartSo 24 rfl) (fun h5 => ?_)
      refine SW_iadd h (dt t_M_apartSo 25 rfl) ?_
      refine SW_istore_n (lv2 := [some (.ref (xad X 200)), some (.int (i32 x1)), some (.int (i32 (x2 + v5))), some (.int (i32 x3))]) h (dt t_M_apartSo 26 rfl) (by decide) rfl ?_
      refine SW_aload_n h rfl (dt t_M_apartSo 27 rfl) ?_
      obtain ⟨s7, e7, hf⟩ := b0M_of hf
      refine cVv h [] [] v_X11_usesDigits kX11_427 o200 (c_M_usesDigits  e7) rfl rfl (by decide) (by decide) rfl (Nat.le_of_ble_eq_true rfl) (dt t_M_apartSo 28 rfl) (fun h7 => ?_)
      refine SW_ok (fun ok7 => ?_)
      refine SW_iinc (lv2 := [some (.ref (xad X 200)), some (.int (i32 x1)), some (.int (i32 (x2 + v5))), some (.int (i32 (x3 + 1)))]) h (dt t_M_apartSo 29 rfl) rfl (by decide) rfl ?_
      refine SW_goto (tgt := 8) h (dt t_M_apartSo 30 rfl) rfl ?_
      refine SW_chk hf (fun h8 hf => ?_)
      refine SW_chk hf (fun h9 hf => ?_)
      exact SW_fgt [true, true, true, true] rfl (ih (x2 + v5) (x3 + 1) s7 h8 h9 ok7 hf)
def F_M_apartSo (x1 : Int) (σ : Mm) : Option (Int × Mm) :=
  b0M (F_M_laysNow  σ) fun s1 =>
  b1M (L_M_apartSo_8 LF x1 0 0 s1) fun x2_10 s10 =>
  some (x2_10, s10)
set_option maxRecDepth 100000 in
set_option maxHeartbeats 4000000 in
theorem c_M_apartSo (x1 : Int) (hx1 : r32 x1) {σ : Mm} {a : Int} {σ2 : Mm} (hf : F_M_apartSo x1 σ = some (a, σ2)) : CT yX11_apartSo cX11_apartSo 4 (some .int) 6 1 (fun ad => [.ref (ad 200), .int (i32 x1)]) σ (r32 a) (some (.int (i32 a))) σ2 := by
  refine MetJ 2 (by decide +kernel) rfl (fun _ => Nat.le_of_ble_eq_true rfl) ?_
  intro X h hR ok
  obtain ⟨res, er⟩ : ∃ z, z = (a, σ2) := ⟨_, rfl⟩
  have hret : ∀ y : Int × Mm, some y = some res → RX X 1 (r32 (y.1)) (some (.int (i32 (y.1)))) y.2 := fun y e => by cases e; cases er; exact hR
  rw [← er] at hf
  clear er hR
  unfold F_M_apartSo at hf
  show SW X 1 4 0 [some (.ref (xad X 200)), some (.int (i32 x1)), none, none] [] σ
  refine SW_aload_n h rfl (dt t_M_apartSo 0 rfl) ?_
  obtain ⟨s1, e1, hf⟩ := b0M_of hf
  refine cVv h [] [] v_X11_laysNow kX11_446 o200 (c_M_laysNow  e1) rfl rfl (by decide) (by decide) rfl (Nat.le_of_ble_eq_true rfl) (dt t_M_apartSo 1 rfl) (fun h1 => ?_)
  refine SW_ok (fun ok1 => ?_)
  refine SW_iconst h (dt t_M_apartSo 2 rfl) ?_
  refine SW_istore_n (lv2 := [some (.ref (xad X 200)), some (.int (i32 x1)), some (.int (i32 0)), none]) h (dt t_M_apartSo 3 rfl) (by decide) rfl ?_
  refine SW_iconst h (dt t_M_apartSo 4 rfl) ?_
  refine SW_istore_n (lv2 := [some (.ref (xad X 200)), some (.int (i32 x1)), some (.int (i32 0)), some (.int (i32 0))]) h (dt t_M_apartSo 5 rfl) (by decide) rfl ?_
  obtain ⟨z10, e10, hk10⟩ := b1M_ex hf
  refine SW_fgt [true, true, true, true] rfl (l_M_apartSo_8 h x1 hx1 (fun x2_10 s10 hz10 hx2_10 ok10 => ?_) LF 0 0 s1 (by decide) (by decide) ok1 e10)
  have hf := hk10 x2_10 s10 hz10
  refine SW_iload_n h rfl (dt t_M_apartSo 31 rfl) ?_
  exact SW_iret h (hret _ hf) (fun _ => hx2_10) rfl (dt t_M_apartSo 32 rfl)
def b_M_top : List (Nat × Instr × Nat) := [(0, .aload_n 0, 1), (1, .getfield 51, 3), (4, .aload_n 0, 1), (5, .getfield 260, 3), (8, .iconst 1, 1), (9, .isub, 1), (10, .iaload, 1), (11, .ireturn, 1)]
theorem t_M_top : DT cX11_top b_M_top := DT.of (by decide +kernel)
def F_M_top  (σ : Mm) : Option (Int) :=
  if 0 ≤ (σ 200 22) - 1 ∧ (σ 200 22) - 1 < 40 then
    some (σ 212 (((σ 200 22) - 1).toNat))
  else none
set_option maxRecDepth 100000 in
set_option maxHeartbeats 4000000 in
theorem c_M_top  {σ : Mm} {a : Int} (hf : F_M_top  σ = some a) : CT yX11_top cX11_top 1 (some .int) 0 1 (fun ad => [.ref (ad 200)]) σ (r32 a) (some (.int (i32 a))) σ := by
  refine MetJ 0 (by decide +kernel) rfl (fun _ => Nat.le_of_ble_eq_true rfl) ?_
  intro X h hR ok
  obtain ⟨res, er⟩ : ∃ z, z = a := ⟨_, rfl⟩
  have hret : ∀ y : Int, some y = some res → RX X 1 (r32 (y)) (some (.int (i32 (y)))) σ := fun y e => by cases e; cases er; exact hR
  rw [← er] at hf
  clear er hR
  unfold F_M_top at hf
  show SW X 1 1 0 [some (.ref (xad X 200))] [] σ
  refine SW_aload_n h rfl (dt t_M_top 0 rfl) ?_
  refine gR h cf11 o200 f11_23 j200_23 lX11_51 (dt t_M_top 1 rfl) ?_
  refine SW_aload_n h rfl (dt t_M_top 2 rfl) ?_
  refine gI h cf11 o200 f11_22 lX11_260 (dt t_M_top 3 rfl) ?_
  refine SW_iconst h (dt t_M_top 4 rfl) ?_
  refine SW_isub h (dt t_M_top 5 rfl) ?_
  refine aI h a212 (dt t_M_top 6 rfl) hf (fun hf => ?_)
  exact SW_iret h (hret _ hf) (fun _ => (okI ok 212 (((σ 200 22) - 1).toNat) (IsA.n3 a212 (by decide)))) rfl (dt t_M_top 7 rfl)
def b_M_emits : List (Nat × Instr × Nat) := [(0, .aload_n 0, 1), (1, .getfield 78, 3), (4, .aload_n 0, 1), (5, .getfield 257, 3), (8, .iload_n 1, 1), (9, .iastore, 1), (10, .aload_n 0, 1), (11, .getfield 81, 3), (14, .aload_n 0, 1), (15, .getfield 257, 3), (18, .iload_n 2, 1), (19, .iastore, 1), (20, .aload_n 0, 1), (21, .dup, 1), (22, .getfield 257, 3), (25, .iconst 1, 1), (26, .iadd, 1), (27, .putfield 257, 3), (30, .return_, 1)]
theorem t_M_emits : DT cX11_emits b_M_emits := DT.of (by decide +kernel)
def F_M_emits (x1 : Int) (x2 : Int) (σ : Mm) : Option (Mm) :=
  if 0 ≤ σ 200 36 ∧ σ 200 36 < 400 then
    bindM (st2 σ 221 ((σ 200 36).toNat) x1) fun s1 =>
    if 0 ≤ s1 200 36 ∧ s1 200 36 < 400 then
      bindM (st2 s1 222 ((s1 200 36).toNat) x2) fun s2 =>
      if r32 ((s2 200 36) + 1) then
        bindM (st2 s2 200 36 ((s2 200 36) + 1)) fun s5 =>
        some s5
      else none
    else none
  else none
set_option maxRecDepth 100000 in
set_option maxHeartbeats 4000000 in
theorem c_M_emits (x1 : Int) (hx1 : r32 x1) (x2 : Int) (hx2 : r32 x2) {σ : Mm} {σ2 : Mm} (hf : F_M_emits x1 x2 σ = some σ2) : CT yX11_emits cX11_emits 3 none 0 1 (fun ad => [.ref (ad 200), .int (i32 x1), .int (i32 x2)]) σ True none σ2 := by
  refine MetJ 0 (by decide +kernel) rfl (fun _ => Nat.le_of_ble_eq_true rfl) ?_
  intro X h hR ok
  obtain ⟨res, er⟩ : ∃ z, z = σ2 := ⟨_, rfl⟩
  have hret : ∀ y : Mm, some y = some res → RX X 1 True none y := fun y e => by cases e; cases er; exact hR
  rw [← er] at hf
  clear er hR
  unfold F_M_emits at hf
  show SW X 1 3 0 [some (.ref (xad X 200)), some (.int (i32 x1)), some (.int (i32 x2))] [] σ
  refine SW_aload_n h rfl (dt t_M_emits 0 rfl) ?_
  refine gR h cf11 o200 f11_37 j200_37 lX11_78 (dt t_M_emits 1 rfl) ?_
  refine SW_aload_n h rfl (dt t_M_emits 2 rfl) ?_
  refine gI h cf11 o200 f11_36 lX11_257 (dt t_M_emits 3 rfl) ?_
  refine SW_iload_n h rfl (dt t_M_emits 4 rfl) ?_
  refine sI h a221 hx1 (dt t_M_emits 5 rfl) hf (fun hf => SW_bm hf (fun s1 ok1 hf => ?_))
  refine SW_aload_n h rfl (dt t_M_emits 6 rfl) ?_
  refine gR h cf11 o200 f11_38 j200_38 lX11_81 (dt t_M_emits 7 rfl) ?_
  refine SW_aload_n h rfl (dt t_M_emits 8 rfl) ?_
  refine gI h cf11 o200 f11_36 lX11_257 (dt t_M_emits 9 rfl) ?_
  refine SW_iload_n h rfl (dt t_M_emits 10 rfl) ?_
  refine sI h a222 hx2 (dt t_M_emits 11 rfl) hf (fun hf => SW_bm hf (fun s2 ok2 hf => ?_))
  refine SW_aload_n h rfl (dt t_M_emits 12 rfl) ?_
  refine SW_dup h rfl (dt t_M_emits 13 rfl) ?_
  refine gI h cf11 o200 f11_36 lX11_257 (dt t_M_emits 14 rfl) ?_
  refine SW_iconst h (dt t_M_emits 15 rfl) ?_
  refine SW_iadd h (dt t_M_emits 16 rfl) ?_
  refine SW_chk hf (fun h4 hf => ?_)
  refine pI h cf11 o200 f11_36 h4 lX11_257 (dt t_M_emits 17 rfl) (SW_bm hf (fun s5 ok5 hf => ?_))
  exact SW_vret h (hret _ hf) rfl (dt t_M_emits 18 rfl)
def b_M_askIsOver : List (Nat × Instr × Nat) := [(0, .aload_n 0, 1), (1, .invokevirtual 317, 3), (4, .iconst 3, 1), (5, .if_icmp .ne 34, 3), (8, .aload_n 0, 1), (9, .dup, 1), (10, .getfield 260, 3), (13, .iconst 1, 1), (14, .isub, 1), (15, .putfield 260, 3), (18, .aload_n 0, 1), (19, .dup, 1), (20, .getfield 263, 3), (23, .iconst 1, 1), (24, .isub, 1), (25, .putfield 263, 3), (28, .aload_n 0, 1), (29, .sipush 405, 3), (32, .iconst 0, 1), (33, .invokevirtual 282, 3), (36, .goto (-36), 3), (39, .aload_n 0, 1), (40, .iconst 3, 1), (41, .putfield 295, 3), (44, .return_, 1)]
theorem t_M_askIsOver : DT cX11_askIsOver b_M_askIsOver := DT.of (by decide +kernel)
def L_M_askIsOver_0 : Nat → Mm → Option (Mm)
  | 0, _ => none
  | n + 1, σ =>
    b1 (F_M_top  σ) fun v1 =>
    if v1 = 3 then
      if r32 ((σ 200 22) - 1) then
        bindM (st2 σ 200 22 ((σ 200 22) - 1)) fun s4 =>
        if r32 ((s4 200 21) - 1) then
          bindM (st2 s4 200 21 ((s4 200 21) - 1)) fun s7 =>
          b0M (F_M_emits 405 0 s7) fun s8 =>
          L_M_askIsOver_0 n s8
        else none
      else none
    else
      some σ
set_option maxRecDepth 100000 in
set_option maxHeartbeats 4000000 in
theorem l_M_askIsOver_0 {X : Cx} (h : CX X 1 cX11_askIsOver 1 1 none RX11)   {res : Mm} (hex : ∀  (σ : Mm) (hz : some σ = some res)  (ok : okM σ), SW X 1 1 39 [some (.ref (xad X 200))] [] σ) : ∀ (n : Nat)  (σ : Mm)  (ok : okM σ) (hf : L_M_askIsOver_0 n σ = some res), SW X 1 1 0 [some (.ref (xad X 200))] [] σ := by
  intro n
  induction n with
  | zero => intro σ ok hf; exact absurd hf (by simp [L_M_askIsOver_0])
  | succ n ih =>
    intro σ ok hf
    rw [L_M_askIsOver_0] at hf
    refine SW_aload_n h rfl (dt t_M_askIsOver 0 rfl) ?_
    obtain ⟨v1, e1, hf⟩ := b1_of hf
    refine cV h [] [] v_X11_top kX11_317 o200 (c_M_top  e1) rfl rfl (by decide) (by decide) rfl (Nat.le_of_ble_eq_true rfl) (dt t_M_askIsOver 1 rfl) (fun h1 => ?_)
    refine SW_iconst h (dt t_M_askIsOver 2 rfl) ?_
    refine SW_icmp_ne (tgt := 39) h (fun _ => h1) (fun _ => (by decide)) (dt t_M_askIsOver 3 rfl) rfl hf (fun hf => ?_) (fun hf => ?_)
    · refine SW_aload_n h rfl (dt t_M_askIsOver 4 rfl) ?_
      refine SW_dup h rfl (dt t_M_askIsOver 5 rfl) ?_
      refine gI h cf11 o200 f11_22 lX11_260 (dt t_M_askIsOver 6 rfl) ?_
      refine SW_iconst h (dt t_M_askIsOver 7 rfl) ?_
      refine SW_isub h (dt t_M_askIsOver 8 rfl) ?_
      refine SW_chk hf (fun h3 hf => ?_)
      refine pI h cf11 o200 f11_22 h3 lX11_260 (dt t_M_askIsOver 9 rfl) (SW_bm hf (fun s4 ok4 hf => ?_))
      refine SW_aload_n h rfl (dt t_M_askIsOver 10 rfl) ?_
      refine SW_dup h rfl (dt t_M_askIsOver 11 rfl) ?_
      refine gI h cf11 o200 f11_21 lX11_263 (dt t_M_askIsOver 12 rfl) ?_
      refine SW_iconst h (dt t_M_askIsOver 13 rfl) ?_
      refine SW_isub h (dt t_M_askIsOver 14 rfl) ?_
      refine SW_chk hf (fun h6 hf => ?_)
      refine pI h cf11 o200 f11_21 h6 lX11_263 (dt t_M_askIsOver 15 rfl) (SW_bm hf (fun s7 ok7 hf => ?_))
      refine SW_aload_n h rfl (dt t_M_askIsOver 16 rfl) ?_
      refine SW_sipush h (dt t_M_askIsOver 17 rfl) (by decide) ?_
      refine SW_iconst h (dt t_M_askIsOver 18 rfl) ?_
      obtain ⟨s8, e8, hf⟩ := b0M_of hf
      refine cVv h [.int (i32 405), .int (i32 0)] [] v_X11_emits kX11_282 o200 (c_M_emits 405 (by decide) 0 (by decide) e8) rfl rfl (by decide) (by decide) rfl (Nat.le_of_ble_eq_true rfl) (dt t_M_askIsOver 19 rfl) (fun h8 => ?_)
      refine SW_ok (fun ok8 => ?_)
      refine SW_goto (tgt := 0) h (dt t_M_askIsOver 20 rfl) rfl ?_
      exact SW_fgt [true] rfl (ih s8 ok8 hf)
    · exact SW_fgt [true] rfl (hex σ hf ok)
def F_M_askIsOver  (σ : Mm) : Option (Mm) :=
  b0M (L_M_askIsOver_0 LF σ) fun s9 =>
  bindM (st2 s9 200 28 3) fun s11 =>
  some s11
set_option maxRecDepth 100000 in
set_option maxHeartbeats 4000000 in
theorem c_M_askIsOver  {σ : Mm} {σ2 : Mm} (hf : F_M_askIsOver  σ = some σ2) : CT yX11_askIsOver cX11_askIsOver 1 none 1 1 (fun ad => [.ref (ad 200)]) σ True none σ2 := by
  refine MetJ 0 (by decide +kernel) rfl (fun _ => Nat.le_of_ble_eq_true rfl) ?_
  intro X h hR ok
  obtain ⟨res, er⟩ : ∃ z, z = σ2 := ⟨_, rfl⟩
  have hret : ∀ y : Mm, some y = some res → RX X 1 True none y := fun y e => by cases e; cases er; exact hR
  rw [← er] at hf
  clear er hR
  unfold F_M_askIsOver at hf
  show SW X 1 1 0 [some (.ref (xad X 200))] [] σ
  obtain ⟨z9, e9, hk9⟩ := b0M_ex hf
  refine SW_fgt [true] rfl (l_M_askIsOver_0 h (fun s9 hz9 ok9 => ?_) LF σ ok e9)
  have hf := hk9 s9 hz9
  refine SW_aload_n h rfl (dt t_M_askIsOver 21 rfl) ?_
  refine SW_iconst h (dt t_M_askIsOver 22 rfl) ?_
  refine pI h cf11 o200 f11_28 (by decide) lX11_295 (dt t_M_askIsOver 23 rfl) (SW_bm hf (fun s11 ok11 hf => ?_))
  exact SW_vret h (hret _ hf) rfl (dt t_M_askIsOver 24 rfl)
def b_M_isWord : List (Nat × Instr × Nat) := [(0, .aload_n 0, 1), (1, .getfield 234, 3), (4, .iconst 1, 1), (5, .if_icmp .ne 15, 3), (8, .aload_n 0, 1), (9, .getfield 247, 3), (12, .iload_n 1, 1), (13, .if_icmp .ne 7, 3), (16, .iconst 1, 1), (17, .goto 4, 3), (20, .iconst 0, 1), (21, .ireturn, 1)]
theorem t_M_isWord : DT cX11_isWord b_M_isWord := DT.of (by decide +kernel)
def F_M_isWord (x1 : Int) (σ : Mm) : Option (Int) :=
  if σ 200 17 = 1 then
    if σ 200 18 = x1 then
      some 1
    else
      some 0
  else
    some 0
set_option maxRecDepth 100000 in
set_option maxHeartbeats 4000000 in
theorem c_M_isWord (x1 : Int) (hx1 : r32 x1) {σ : Mm} {a : Int} (hf : F_M_isWord x1 σ = some a) : CT yX11_isWord cX11_isWord 2 (some .boolean) 0 1 (fun ad => [.ref (ad 200), .int (i32 x1)]) σ (a = 0 ∨ a = 1) (some (.int (i32 a))) σ := by
  refine MetJ 0 (by decide +kernel) rfl (fun _ => Nat.le_of_ble_eq_true rfl) ?_
  intro X h hR ok
  obtain ⟨res, er⟩ : ∃ z, z = a := ⟨_, rfl⟩
  have hret : ∀ y : Int, some y = some res → RX X 1 (y = 0 ∨ y = 1) (some (.int (i32 (y)))) σ := fun y e => by cases e; cases er; exact hR
  rw [← er] at hf
  clear er hR
  unfold F_M_isWord at hf
  show SW X 1 2 0 [some (.ref (xad X 200)), some (.int (i32 x1))] [] σ
  refine SW_aload_n h rfl (dt t_M_isWord 0 rfl) ?_
  refine gI h cf11 o200 f11_17 lX11_234 (dt t_M_isWord 1 rfl) ?_
  refine SW_iconst h (dt t_M_isWord 2 rfl) ?_
  refine SW_icmp_ne (tgt := 20) h (fun _ => (okI ok 200 17 (IsO.n3 o200))) (fun _ => (by decide)) (dt t_M_isWord 3 rfl) rfl hf (fun hf => ?_) (fun hf => ?_)
  · refine SW_aload_n h rfl (dt t_M_isWord 4 rfl) ?_
    refine gI h cf11 o200 f11_18 lX11_247 (dt t_M_isWord 5 rfl) ?_
    refine SW_iload_n h rfl (dt t_M_isWord 6 rfl) ?_
    refine SW_icmp_ne (tgt := 20) h (fun _ => (okI ok 200 18 (IsO.n3 o200))) (fun _ => hx1) (dt t_M_isWord 7 rfl) rfl hf (fun hf => ?_) (fun hf => ?_)
    · refine SW_iconst h (dt t_M_isWord 8 rfl) ?_
      refine SW_goto (tgt := 21) h (dt t_M_isWord 9 rfl) rfl ?_
      exact SW_zret h (hret _ hf) (by decide) rfl (dt t_M_isWord 11 rfl)
    · refine SW_iconst h (dt t_M_isWord 10 rfl) ?_
      exact SW_zret h (hret _ hf) (by decide) rfl (dt t_M_isWord 11 rfl)
  · refine SW_iconst h (dt t_M_isWord 10 rfl) ?_
    exact SW_zret h (hret _ hf) (by decide) rfl (dt t_M_isWord 11 rfl)
