def b_M_laysFigures : List (Nat × Instr × Nat) := [(0, .iload_n 1, 1), (1, .iconst 1, 1), (2, .sipush 1023, 3), (5, .invokestatic 150, 3), (8, .ifCond .eq 11, 3), (11, .iload_n 1, 1), (12, .invokestatic 456, 3), (15, .iconst 3, 1), (16, .if_icmp .le 5, 3), (19, .iconst (-1), 1), (20, .ireturn, 1), (21, .iconst 0, 1), (22, .istore_n 2, 1), (23, .iconst 0, 1), (24, .istore_n 3, 1), (25, .iload_n 3, 1), (26, .bipush 10, 2), (28, .if_icmp .ge 27, 3), (31, .iload_n 1, 1), (32, .iload_n 3, 1), (33, .invokestatic 388, 3), (36, .ifCond .eq 13, 3), (39, .aload_n 0, 1), (40, .getfield 125, 3), (43, .iload_n 2, 1), (44, .iload_n 3, 1), (45, .iastore, 1), (46, .iinc 2 1, 3), (49, .iinc 3 1, 3), (52, .goto (-27), 3), (55, .iload_n 2, 1), (56, .ireturn, 1)]
theorem t_M_laysFigures : DT cX11_laysFigures b_M_laysFigures := DT.of (by decide +kernel)
def L_M_laysFigures_25 : Nat → Int → Int → Int → Mm → Option (Int × Mm)
  | 0, _, _, _, _ => none
  | n + 1, x1, x2, x3, σ =>
    if 10 ≤ x3 then
      some ((x2, σ))
    else
      b1 (F_M_has x1 x3) fun v3 =>
      bindM (fun (x2_4 : Int) (t4 : Mm) =>
        if r32 (x3 + 1) then
          L_M_laysFigures_25 n x1 x2_4 (x3 + 1) t4
        else none) fun J4 =>
      if v3 = 0 then
        J4 x2 σ
      else
        if 0 ≤ x2 ∧ x2 < 3 then
          bindM (st2 σ 236 x2.toNat x3) fun s6 =>
          if r32 (x2 + 1) then
            J4 (x2 + 1) s6
          else none
        else none
set_option maxRecDepth 100000 in
set_option maxHeartbeats 4000000 in
theorem l_M_laysFigures_25 {X : Cx} (h : CX X 1 cX11_laysFigures 4 1 (some .int) RX11) (x1 : Int) (hx1 : r32 x1) {res : Int × Mm} (hex : ∀ (x2 : Int) (σ : Mm) (hz : some ((x2, σ)) = some res) (hx2 : r32 x2) (ok : okM σ), SW X 1 4 55 [none, none, some (.int (i32 x2)), none] [] σ) : ∀ (n : Nat) (x2 : Int) (x3 : Int) (σ : Mm) (hx2 : r32 x2) (hx3 : r32 x3) (ok : okM σ) (hf : L_M_laysFigures_25 n x1 x2 x3 σ = some res), SW X 1 4 25 [some (.ref (xad X 200)), some (.int (i32 x1)), some (.int (i32 x2)), some (.int (i32 x3))] [] σ := by
  intro n
  induction n with
  | zero => intro x2 x3 σ hx2 hx3 ok hf; exact absurd hf (by simp [L_M_laysFigures_25])
  | succ n ih =>
    intro x2 x3 σ hx2 hx3 ok hf
    rw [L_M_laysFigures_25] at hf
    refine SW_iload_n h rfl (dt t_M_laysFigures 15 rfl) ?_
    refine SW_bipush h (dt t_M_laysFigures 16 rfl) (by decide) ?_
    refine SW_icmp_ge (tgt := 55) h (fun _ => hx3) (fun _ => (by decide)) (dt t_M_laysFigures 17 rfl) rfl hf (fun hf => ?_) (fun hf => ?_)
    · exact SW_fgt [false, false, true, false] rfl (hex x2 σ hf hx2 ok)
    · refine SW_iload_n h rfl (dt t_M_laysFigures 18 rfl) ?_
      refine SW_iload_n h rfl (dt t_M_laysFigures 19 rfl) ?_
      obtain ⟨v3, e3, hf⟩ := b1_of hf
      refine cS h [.int (i32 x1), .int (i32 x3)] [] v_X11_has kX11_388 (c_M_has x1 hx1 x3 hx3 e3) rfl rfl (by decide) (by decide) rfl (Nat.le_of_ble_eq_true rfl) (dt t_M_laysFigures 20 rfl) (fun h3 => ?_)
      refine bJ hf (fun J4 e4 hf => ?_)
      have k4 : ∀ (x2_4 : Int) (t4 : Mm) (hx2_4 : r32 x2_4) (ot4 : okM t4) (hf : J4 x2_4 t4 = some res), SW X 1 4 49 [some (.ref (xad X 200)), some (.int (i32 x1)), some (.int (i32 x2_4)), some (.int (i32 x3))] [] t4 := by
        intro x2_4 t4 hx2_4 ot4 hf
        rw [e4] at hf
        refine SW_iinc (lv2 := [some (.ref (xad X 200)), some (.int (i32 x1)), some (.int (i32 x2_4)), some (.int (i32 (x3 + 1)))]) h (dt t_M_laysFigures 28 rfl) rfl (by decide) rfl ?_
        refine SW_goto (tgt := 25) h (dt t_M_laysFigures 29 rfl) rfl ?_
        refine SW_chk hf (fun h5 hf => ?_)
        exact SW_fgt [true, true, true, true] rfl (ih x2_4 (x3 + 1) t4 hx2_4 h5 ot4 hf)
      refine SW_if_eq (tgt := 49) h (fun _ => (r_zo h3)) (dt t_M_laysFigures 21 rfl) rfl hf (fun hf => ?_) (fun hf => ?_)
      · exact SW_fgt [true, true, true, true] rfl (k4 x2 σ hx2 ok hf)
      · refine SW_aload_n h rfl (dt t_M_laysFigures 22 rfl) ?_
        refine gR h cf11 o200 f11_57 j200_57 lX11_125 (dt t_M_laysFigures 23 rfl) ?_
        refine SW_iload_n h rfl (dt t_M_laysFigures 24 rfl) ?_
        refine SW_iload_n h rfl (dt t_M_laysFigures 25 rfl) ?_
        refine sI h a236 hx3 (dt t_M_laysFigures 26 rfl) hf (fun hf => SW_bm hf (fun s6 ok6 hf => ?_))
        refine SW_iinc (lv2 := [some (.ref (xad X 200)), some (.int (i32 x1)), some (.int (i32 (x2 + 1))), some (.int (i32 x3))]) h (dt t_M_laysFigures 27 rfl) rfl (by decide) rfl ?_
        refine SW_chk hf (fun h7 hf => ?_)
        exact SW_fgt [true, true, true, true] rfl (k4 (x2 + 1) s6 h7 ok6 hf)
def F_M_laysFigures (x1 : Int) (σ : Mm) : Option (Int × Mm) :=
  b1 (F_M_in x1 1 1023) fun v1 =>
  if v1 = 0 then
    some ((-1), σ)
  else
    b1 (F_M_many x1) fun v2 =>
    if v2 ≤ 3 then
      b1M (L_M_laysFigures_25 LF x1 0 0 σ) fun x2_8 s8 =>
      some (x2_8, s8)
    else
      some ((-1), σ)
set_option maxRecDepth 100000 in
set_option maxHeartbeats 4000000 in
theorem c_M_laysFigures (x1 : Int) (hx1 : r32 x1) {σ : Mm} {a : Int} {σ2 : Mm} (hf : F_M_laysFigures x1 σ = some (a, σ2)) : CT yX11_laysFigures cX11_laysFigures 4 (some .int) 1 1 (fun ad => [.ref (ad 200), .int (i32 x1)]) σ (r32 a) (some (.int (i32 a))) σ2 := by
  refine MetJ 2 (by decide +kernel) rfl (fun _ => Nat.le_of_ble_eq_true rfl) ?_
  intro X h hR ok
  obtain ⟨res, er⟩ : ∃ z, z = (a, σ2) := ⟨_, rfl⟩
  have hret : ∀ y : Int × Mm, some y = some res → RX X 1 (r32 (y.1)) (some (.int (i32 (y.1)))) y.2 := fun y e => by cases e; cases er; exact hR
  rw [← er] at hf
  clear er hR
  unfold F_M_laysFigures at hf
  show SW X 1 4 0 [some (.ref (xad X 200)), some (.int (i32 x1)), none, none] [] σ
  refine SW_iload_n h rfl (dt t_M_laysFigures 0 rfl) ?_
  refine SW_iconst h (dt t_M_laysFigures 1 rfl) ?_
  refine SW_sipush h (dt t_M_laysFigures 2 rfl) (by decide) ?_
  obtain ⟨v1, e1, hf⟩ := b1_of hf
  refine cS h [.int (i32 x1), .int (i32 1), .int (i32 1023)] [] v_X11_in kX11_150 (c_M_in x1 hx1 1 (by decide) 1023 (by decide) e1) rfl rfl (by decide) (by decide) rfl (Nat.le_of_ble_eq_true rfl) (dt t_M_laysFigures 3 rfl) (fun h1 => ?_)
  refine SW_if_eq (tgt := 19) h (fun _ => (r_zo h1)) (dt t_M_laysFigures 4 rfl) rfl hf (fun hf => ?_) (fun hf => ?_)
  · refine SW_iconst h (dt t_M_laysFigures 9 rfl) ?_
    exact SW_iret h (hret _ hf) (fun _ => (by decide)) rfl (dt t_M_laysFigures 10 rfl)
  · refine SW_iload_n h rfl (dt t_M_laysFigures 5 rfl) ?_
    obtain ⟨v2, e2, hf⟩ := b1_of hf
    refine cS h [.int (i32 x1)] [] v_X11_many kX11_456 (c_M_many x1 hx1 e2) rfl rfl (by decide) (by decide) rfl (Nat.le_of_ble_eq_true rfl) (dt t_M_laysFigures 6 rfl) (fun h2 => ?_)
    refine SW_iconst h (dt t_M_laysFigures 7 rfl) ?_
    refine SW_icmp_le (tgt := 21) h (fun _ => h2) (fun _ => (by decide)) (dt t_M_laysFigures 8 rfl) rfl hf (fun hf => ?_) (fun hf => ?_)
    · refine SW_iconst h (dt t_M_laysFigures 11 rfl) ?_
      refine SW_istore_n (lv2 := [some (.ref (xad X 200)), some (.int (i32 x1)), some (.int (i32 0)), none]) h (dt t_M_laysFigures 12 rfl) (by decide) rfl ?_
      refine SW_iconst h (dt t_M_laysFigures 13 rfl) ?_
      refine SW_istore_n (lv2 := [some (.ref (xad X 200)), some (.int (i32 x1)), some (.int (i32 0)), some (.int (i32 0))]) h (dt t_M_laysFigures 14 rfl) (by decide) rfl ?_
      obtain ⟨z8, e8, hk8⟩ := b1M_ex hf
      refine SW_fgt [true, true, true, true] rfl (l_M_laysFigures_25 h x1 hx1 (fun x2_8 s8 hz8 hx2_8 ok8 => ?_) LF 0 0 σ (by decide) (by decide) ok e8)
      have hf := hk8 x2_8 s8 hz8
      refine SW_iload_n h rfl (dt t_M_laysFigures 30 rfl) ?_
      exact SW_iret h (hret _ hf) (fun _ => hx2_8) rfl (dt t_M_laysFigures 31 rfl)
    · refine SW_iconst h (dt t_M_laysFigures 9 rfl) ?_
      exact SW_iret h (hret _ hf) (fun _ => (by decide)) rfl (dt t_M_laysFigures 10 rfl)
def b_M_isFigure : List (Nat × Instr × Nat) := [(0, .iload_n 0, 1), (1, .iconst 0, 1), (2, .bipush 9, 2), (4, .invokestatic 150, 3), (7, .ireturn, 1)]
theorem t_M_isFigure : DT cX11_isFigure b_M_isFigure := DT.of (by decide +kernel)
def F_M_isFigure (x0 : Int) : Option (Int) :=
  b1 (F_M_in x0 0 9) fun v1 =>
  some v1
set_option maxRecDepth 100000 in
set_option maxHeartbeats 4000000 in
theorem c_M_isFigure (x0 : Int) (hx0 : r32 x0) {σ : Mm} {a : Int} (hf : F_M_isFigure x0 = some a) : CT yX11_isFigure cX11_isFigure 1 (some .boolean) 1 1 (fun ad => [.int (i32 x0)]) σ (a = 0 ∨ a = 1) (some (.int (i32 a))) σ := by
  refine MetJ 0 (by decide +kernel) rfl (fun _ => Nat.le_of_ble_eq_true rfl) ?_
  intro X h hR ok
  obtain ⟨res, er⟩ : ∃ z, z = a := ⟨_, rfl⟩
  have hret : ∀ y : Int, some y = some res → RX X 1 (y = 0 ∨ y = 1) (some (.int (i32 (y)))) σ := fun y e => by cases e; cases er; exact hR
  rw [← er] at hf
  clear er hR
  unfold F_M_isFigure at hf
  show SW X 1 1 0 [some (.int (i32 x0))] [] σ
  refine SW_iload_n h rfl (dt t_M_isFigure 0 rfl) ?_
  refine SW_iconst h (dt t_M_isFigure 1 rfl) ?_
  refine SW_bipush h (dt t_M_isFigure 2 rfl) (by decide) ?_
  obtain ⟨v1, e1, hf⟩ := b1_of hf
  refine cS h [.int (i32 x0), .int (i32 0), .int (i32 9)] [] v_X11_in kX11_150 (c_M_in x0 hx0 0 (by decide) 9 (by decide) e1) rfl rfl (by decide) (by decide) rfl (Nat.le_of_ble_eq_true rfl) (dt t_M_isFigure 3 rfl) (fun h1 => ?_)
  exact SW_zret h (hret _ hf) h1 rfl (dt t_M_isFigure 4 rfl)
def b_M_tens : List (Nat × Instr × Nat) := [(0, .iload_n 0, 1), (1, .ifCond .ne 7, 3), (4, .iconst 1, 1), (5, .goto 26, 3), (8, .iload_n 0, 1), (9, .iconst 1, 1), (10, .if_icmp .ne 8, 3), (13, .bipush 10, 2), (15, .goto 16, 3), (18, .iload_n 0, 1), (19, .iconst 2, 1), (20, .if_icmp .ne 8, 3), (23, .bipush 100, 2), (25, .goto 6, 3), (28, .sipush 1000, 3), (31, .ireturn, 1)]
theorem t_M_tens : DT cX11_tens b_M_tens := DT.of (by decide +kernel)
def F_M_tens (x0 : Int) : Option (Int) :=
  if x0 = 0 then
    some 1
  else
    if x0 = 1 then
      some 10
    else
      if x0 = 2 then
        some 100
      else
        some 1000
set_option maxRecDepth 100000 in
set_option maxHeartbeats 4000000 in
theorem c_M_tens (x0 : Int) (hx0 : r32 x0) {σ : Mm} {a : Int} (hf : F_M_tens x0 = some a) : CT yX11_tens cX11_tens 1 (some .int) 0 1 (fun ad => [.int (i32 x0)]) σ (r32 a) (some (.int (i32 a))) σ := by
  refine MetJ 0 (by decide +kernel) rfl (fun _ => Nat.le_of_ble_eq_true rfl) ?_
  intro X h hR ok
  obtain ⟨res, er⟩ : ∃ z, z = a := ⟨_, rfl⟩
  have hret : ∀ y : Int, some y = some res → RX X 1 (r32 (y)) (some (.int (i32 (y)))) σ := fun y e => by cases e; cases er; exact hR
  rw [← er] at hf
  clear er hR
  unfold F_M_tens at hf
  show SW X 1 1 0 [some (.int (i32 x0))] [] σ
  refine SW_iload_n h rfl (dt t_M_tens 0 rfl) ?_
  refine SW_if_ne (tgt := 8) h (fun _ => hx0) (dt t_M_tens 1 rfl) rfl hf (fun hf => ?_) (fun hf => ?_)
  · refine SW_iconst h (dt t_M_tens 2 rfl) ?_
    refine SW_goto (tgt := 31) h (dt t_M_tens 3 rfl) rfl ?_
    exact SW_iret h (hret _ hf) (fun _ => (by decide)) rfl (dt t_M_tens 15 rfl)
  · refine SW_iload_n h rfl (dt t_M_tens 4 rfl) ?_
    refine SW_iconst h (dt t_M_tens 5 rfl) ?_
    refine SW_icmp_ne (tgt := 18) h (fun _ => hx0) (fun _ => (by decide)) (dt t_M_tens 6 rfl) rfl hf (fun hf => ?_) (fun hf => ?_)
    · refine SW_bipush h (dt t_M_tens 7 rfl) (by decide) ?_
      refine SW_goto (tgt := 31) h (dt t_M_tens 8 rfl) rfl ?_
      exact SW_iret h (hret _ hf) (fun _ => (by decide)) rfl (dt t_M_tens 15 rfl)
    · refine SW_iload_n h rfl (dt t_M_tens 9 rfl) ?_
      refine SW_iconst h (dt t_M_tens 10 rfl) ?_
      refine SW_icmp_ne (tgt := 28) h (fun _ => hx0) (fun _ => (by decide)) (dt t_M_tens 11 rfl) rfl hf (fun hf => ?_) (fun hf => ?_)
      · refine SW_bipush h (dt t_M_tens 12 rfl) (by decide) ?_
        refine SW_goto (tgt := 31) h (dt t_M_tens 13 rfl) rfl ?_
        exact SW_iret h (hret _ hf) (fun _ => (by decide)) rfl (dt t_M_tens 15 rfl)
      · refine SW_sipush h (dt t_M_tens 14 rfl) (by decide) ?_
        exact SW_iret h (hret _ hf) (fun _ => (by decide)) rfl (dt t_M_tens 15 rfl)
def b_M_laysTempers : List (Nat × Instr × Nat) := [(0, .iconst 0, 1), (1, .istore_n 3, 1), (2, .iload_n 3, 1), (3, .iload_n 2, 1), (4, .if_icmp .ge 33, 3), (7, .aload_n 0, 1), (8, .getfield 91, 3), (11, .aload_n 0, 1), (12, .getfield 125, 3), (15, .iload_n 3, 1), (16, .iaload, 1), (17, .iload_n 1, 1), (18, .iload_n 2, 1), (19, .iconst 1, 1), (20, .isub, 1), (21, .iload_n 3, 1), (22, .isub, 1), (23, .invokestatic 527, 3), (26, .idiv, 1), (27, .bipush 10, 2), (29, .irem, 1), (30, .iastore, 1), (31, .iinc 3 1, 3), (34, .goto (-32), 3), (37, .return_, 1)]
theorem t_M_laysTempers : DT cX11_laysTempers b_M_laysTempers := DT.of (by decide +kernel)
def L_M_laysTempers_2 : Nat → Int → Int → Int → Mm → Option (Mm)
  | 0, _, _, _, _ => none
  | n + 1, x1, x2, x3, σ =>
    if x2 ≤ x3 then
      some σ
    else
      if 0 ≤ x3 ∧ x3 < 3 then
        if r32 ((x2 - 1) - x3) then
          b1 (F_M_tens ((x2 - 1) - x3)) fun v1 =>
          if ¬ v1 = 0 then
            if r32 (x1.tdiv v1) then
              if 0 ≤ σ 236 x3.toNat ∧ σ 236 x3.toNat < 10 then
                bindM (st2 σ 225 ((σ 236 x3.toNat).toNat) ((x1.tdiv v1).tmod 10)) fun s5 =>
                if r32 (x3 + 1) then
                  L_M_laysTempers_2 n x1 x2 (x3 + 1) s5
                else none
              else none
            else none
          else none
        else none
      else none
set_option maxRecDepth 100000 in
set_option maxHeartbeats 4000000 in
theorem l_M_laysTempers_2 {X : Cx} (h : CX X 1 cX11_laysTempers 4 1 none RX11) (x1 : Int) (x2 : Int) (hx1 : r32 x1) (hx2 : r32 x2) {res : Mm} (hex : ∀  (σ : Mm) (hz : some σ = some res)  (ok : okM σ), SW X 1 4 37 [none, none, none, none] [] σ) : ∀ (n : Nat) (x3 : Int) (σ : Mm) (hx3 : r32 x3) (ok : okM σ) (hf : L_M_laysTempers_2 n x1 x2 x3 σ = some res), SW X 1 4 2 [some (.ref (xad X 200)), some (.int (i32 x1)), some (.int (i32 x2)), some (.int (i32 x3))] [] σ := by
  intro n
  induction n with
  | zero => intro x3 σ hx3 ok hf; exact absurd hf (by simp [L_M_laysTempers_2])
  | succ n ih =>
    intro x3 σ hx3 ok hf
    rw [L_M_laysTempers_2] at hf
    refine SW_iload_n h rfl (dt t_M_laysTempers 2 rfl) ?_
    refine SW_iload_n h rfl (dt t_M_laysTempers 3 rfl) ?_
    refine SW_icmp_ge (tgt := 37) h (fun _ => hx3) (fun _ => hx2) (dt t_M_laysTempers 4 rfl) rfl hf (fun hf => ?_) (fun hf => ?_)
    · exact SW_fgt [false, false, false, false] rfl (hex σ hf ok)
    · refine SW_aload_n h rfl (dt t_M_laysTempers 5 rfl) ?_
      refine gR h cf11 o200 f11_41 j200_41 lX11_91 (dt t_M_laysTempers 6 rfl) ?_
      refine SW_aload_n h rfl (dt t_M_laysTempers 7 rfl) ?_
      refine gR h cf11 o200 f11_57 j200_57 lX11_125 (dt t_M_laysTempers 8 rfl) ?_
      refine SW_iload_n h rfl (dt t_M_laysTempers 9 rfl) ?_
      refine aI h a236 (dt t_M_laysTempers 10 rfl) hf (fun hf => ?_)
      refine SW_iload_n h rfl (dt t_M_laysTempers 11 rfl) ?_
      refine SW_iload_n h rfl (dt t_M_laysTempers 12 rfl) ?_
      refine SW_iconst h (dt t_M_laysTempers 13 rfl) ?_
      refine SW_isub h (dt t_M_laysTempers 14 rfl) ?_
      refine SW_iload_n h rfl (dt t_M_laysTempers 15 rfl) ?_
      refine SW_isub h (dt t_M_laysTempers 16 rfl) ?_
      refine SW_chk hf (fun h2 hf => ?_)
      obtain ⟨v1, e1, hf⟩ := b1_of hf
      refine cS h [.int (i32 ((x2 - 1) - x3))] [.int (i32 x1), .int (i32 (σ 236 x3.toNat)), .ref (xad X 225)] v_X11_tens kX11_527 (c_M_tens ((x2 - 1) - x3) h2 e1) rfl rfl (by decide) (by decide) rfl (Nat.le_of_ble_eq_true rfl) (dt t_M_laysTempers 17 rfl) (fun h1 => ?_)
      refine SW_chk hf (fun h3 hf => ?_)
      refine SW_idiv h (fun _ => hx1) (fun _ => h1) h3 (dt t_M_laysTempers 18 rfl) ?_
      refine SW_bipush h (dt t_M_laysTempers 19 rfl) (by decide) ?_
      refine SW_chk hf (fun h4 hf => ?_)
      refine SW_irem h (fun _ => h4) (fun _ => (by decide)) (by decide) (dt t_M_laysTempers 20 rfl) ?_
      refine sI h a225 (r_tmod h4 (by decide)) (dt t_M_laysTempers 21 rfl) hf (fun hf => SW_bm hf (fun s5 ok5 hf => ?_))
      refine SW_iinc (lv2 := [some (.ref (xad X 200)), some (.int (i32 x1)), some (.int (i32 x2)), some (.int (i32 (x3 + 1)))]) h (dt t_M_laysTempers 22 rfl) rfl (by decide) rfl ?_
      refine SW_goto (tgt := 2) h (dt t_M_laysTempers 23 rfl) rfl ?_
      refine SW_chk hf (fun h6 hf => ?_)
      exact SW_fgt [true, true, true, true] rfl (ih (x3 + 1) s5 h6 ok5 hf)
def F_M_laysTempers (x1 : Int) (x2 : Int) (σ : Mm) : Option (Mm) :=
  b0M (L_M_laysTempers_2 LF x1 x2 0 σ) fun s7 =>
  some s7
set_option maxRecDepth 100000 in
set_option maxHeartbeats 4000000 in
theorem c_M_laysTempers (x1 : Int) (hx1 : r32 x1) (x2 : Int) (hx2 : r32 x2) {σ : Mm} {σ2 : Mm} (hf : F_M_laysTempers x1 x2 σ = some σ2) : CT yX11_laysTempers cX11_laysTempers 4 none 1 1 (fun ad => [.ref (ad 200), .int (i32 x1), .int (i32 x2)]) σ True none σ2 := by
  refine MetJ 1 (by decide +kernel) rfl (fun _ => Nat.le_of_ble_eq_true rfl) ?_
  intro X h hR ok
  obtain ⟨res, er⟩ : ∃ z, z = σ2 := ⟨_, rfl⟩
  have hret : ∀ y : Mm, some y = some res → RX X 1 True none y := fun y e => by cases e; cases er; exact hR
  rw [← er] at hf
  clear er hR
  unfold F_M_laysTempers at hf
  show SW X 1 4 0 [some (.ref (xad X 200)), some (.int (i32 x1)), some (.int (i32 x2)), none] [] σ
  refine SW_iconst h (dt t_M_laysTempers 0 rfl) ?_
  refine SW_istore_n (lv2 := [some (.ref (xad X 200)), some (.int (i32 x1)), some (.int (i32 x2)), some (.int (i32 0))]) h (dt t_M_laysTempers 1 rfl) (by decide) rfl ?_
  obtain ⟨z7, e7, hk7⟩ := b0M_ex hf
  refine SW_fgt [true, true, true, true] rfl (l_M_laysTempers_2 h x1 x2 hx1 hx2 (fun s7 hz7 ok7 => ?_) LF 0 σ (by decide) ok e7)
  have hf := hk7 s7 hz7
  exact SW_vret h (hret _ hf) rfl (dt t_M_laysTempers 24 rfl)
def b_M_isAsSeen : List (Nat × Instr × Nat) := [(0, .iconst 0, 1), (1, .istore_n 1, 1), (2, .iload_n 1, 1), (3, .aload_n 0, 1), (4, .getfield 7, 3), (7, .iconst 4, 1), (8, .iaload, 1), (9, .if_icmp .ge 46, 3), (12, .aload_n 0, 1), (13, .aload_n 0, 1), (14, .getfield 7, 3), (17, .bipush 82, 2), (19, .iconst 2, 1), (20, .iload_n 1, 1), (21, .imul, 1), (22, .iadd, 1), (23, .iaload, 1), (24, .invokevirtual 419, 3), (27, .aload_n 0, 1), (28, .invokevirtual 422, 3), (31, .aload_n 0, 1), (32, .getfield 7, 3), (35, .bipush 82, 2), (37, .iconst 2, 1), (38, .iload_n 1, 1), (39, .imul, 1), (40, .iadd, 1), (41, .iconst 1, 1), (42, .iadd, 1), (43, .iaload, 1), (44, .if_icmp .eq 5, 3), (47, .iconst 0, 1), (48, .ireturn, 1), (49, .iinc 1 1, 3), (52, .goto (-50), 3), (55, .iconst 1, 1), (56, .ireturn, 1)]
theorem t_M_isAsSeen : DT cX11_isAsSeen b_M_isAsSeen := DT.of (by decide +kernel)
def L_M_isAsSeen_2 : Nat → Int → Mm → Option ((Int × Mm) ⊕ (Mm))
  | 0, _, _ => none
  | n + 1, x1, σ =>
    if σ 201 4 ≤ x1 then
      some (.inr σ)
    else
      if 0 ≤ 82 + (2 * x1) ∧ 82 + (2 * x1) < 5240 then
        b0M (F_M_laysRow (σ 201 ((82 + (2 * x1)).toNat)) σ) fun s1 =>
        b1M (F_M_outNow  s1) fun v2 s2 =>
        if 0 ≤ (82 + (2 * x1)) + 1 ∧ (82 + (2 * x1)) + 1 < 5240 then
          if v2 = s2 201 (((82 + (2 * x1)) + 1).toNat) then
            if r32 (x1 + 1) then
              L_M_isAsSeen_2 n (x1 + 1) s2
            else none
          else
            some (.inl (0, s2))
        else none
      else none
set_option maxRecDepth 100000 in
set_option maxHeartbeats 4000000 in
theorem l_M_isAsSeen_2 {X : Cx} (h : CX X 1 cX11_isAsSeen 2 6 (some .boolean) RX11)   {res : (Int × Mm) ⊕ (Mm)} (hret : ∀ y : Int × Mm, some (.inl y) = some res → RX X 1 (y.1 = 0 ∨ y.1 = 1) (some (.int (i32 (y.1)))) y.2) (hex : ∀  (σ : Mm) (hz : some (.inr σ) = some res)  (ok : okM σ), SW X 1 2 55 [none, none] [] σ) : ∀ (n : Nat) (x1 : Int) (σ : Mm) (hx1 : r32 x1) (ok : okM σ) (hf : L_M_isAsSeen_2 n x1 σ = some res), SW X 1 2 2 [some (.ref (xad X 200)), some (.int (i32 x1))] [] σ := by
  intro n
  induction n with
  | zero => intro x1 σ hx1 ok hf; exact absurd hf (by simp [L_M_isAsSeen_2])
  | succ n ih =>
    intro x1 σ hx1 ok hf
    rw [L_M_isAsSeen_2] at hf
    refine SW_iload_n h rfl (dt t_M_isAsSeen 2 rfl) ?_
    refine SW_aload_n h rfl (dt t_M_isAsSeen 3 rfl) ?_
    refine gR h cf11 o200 f11_0 j200_0 lX11_7 (dt t_M_isAsSeen 4 rfl) ?_
    refine SW_iconst h (dt t_M_isAsSeen 5 rfl) ?_
    refine aIk h a201 (by decide) (dt t_M_isAsSeen 6 rfl) ?_
    refine SW_icmp_ge (tgt := 55) h (fun _ => hx1) (fun _ => (okI ok 201 4 (IsA.n3 a201 (by decide)))) (dt t_M_isAsSeen 7 rfl) rfl hf (fun hf => ?_) (fun hf => ?_)
    · exact SW_fgt [false, false] rfl (hex σ hf ok)
    · refine SW_aload_n h rfl (dt t_M_isAsSeen 8 rfl) ?_
      refine SW_aload_n h rfl (dt t_M_isAsSeen 9 rfl) ?_
      refine gR h cf11 o200 f11_0 j200_0 lX11_7 (dt t_M_isAsSeen 10 rfl) ?_
      refine SW_bipush h (dt t_M_isAsSeen 11 rfl) (by decide) ?_
      refine SW_iconst h (dt t_M_isAsSeen 12 rfl) ?_
      refine SW_iload_n h rfl (dt t_M_isAsSeen 13 rfl) ?_
      refine SW_imul h (dt t_M_isAsSeen 14 rfl) ?_
      refine SW_iadd h (dt t_M_isAsSeen 15 rfl) ?_
      refine aI h a201 (dt t_M_isAsSeen 16 rfl) hf (fun hf => ?_)
      obtain ⟨s1, e1, hf⟩ := b0M_of hf
      refine cVv h [.int (i32 (σ 201 ((82 + (2 * x1)).toNat)))] [] v_X11_laysRow kX11_419 o200 (c_M_laysRow (σ 201 ((82 + (2 * x1)).toNat)) (okI ok 201 ((82 + (2 * x1)).toNat) (IsA.n3 a201 (by decide))) e1) rfl rfl (by decide) (by decide) rfl (Nat.le_of_ble_eq_true rfl) (dt t_M_isAsSeen 17 rfl) (fun h1 => ?_)
      refine SW_ok (fun ok1 => ?_)
      refine SW_aload_n h rfl (dt t_M_isAsSeen 18 rfl) ?_
      obtain ⟨v2, s2, e2, hf⟩ := b1M_of hf
      refine cV h [] [] v_X11_outNow kX11_422 o200 (c_M_outNow  e2) rfl rfl (by decide) (by decide) rfl (Nat.le_of_ble_eq_true rfl) (dt t_M_isAsSeen 19 rfl) (fun h2 => ?_)
      refine SW_ok (fun ok2 => ?_)
      refine SW_aload_n h rfl (dt t_M_isAsSeen 20 rfl) ?_
      refine gR h cf11 o200 f11_0 j200_0 lX11_7 (dt t_M_isAsSeen 21 rfl) ?_
      refine SW_bipush h (dt t_M_isAsSeen 22 rfl) (by decide) ?_
      refine SW_iconst h (dt t_M_isAsSeen 23 rfl) ?_
      refine SW_iload_n h rfl (dt t_M_isAsSeen 24 rfl) ?_
      refine SW_imul h (dt t_M_isAsSeen 25 rfl) ?_
      refine SW_iadd h (dt t_M_isAsSeen 26 rfl) ?_
      refine SW_iconst h (dt t_M_isAsSeen 27 rfl) ?_
      refine SW_iadd h (dt t_M_isAsSeen 28 rfl) ?_
      refine aI h a201 (dt t_M_isAsSeen 29 rfl) hf (fun hf => ?_)
      refine SW_icmp_eq (tgt := 49) h (fun _ => h2) (fun _ => (okI ok2 201 (((82 + (2 * x1)) + 1).toNat) (IsA.n3 a201 (by decide)))) (dt t_M_isAsSeen 30 rfl) rfl hf (fun hf => ?_) (fun hf => ?_)
      · refine SW_iinc (lv2 := [some (.ref (xad X 200)), some (.int (i32 (x1 + 1)))]) h (dt t_M_isAsSeen 33 rfl) rfl (by decide) rfl ?_
        refine SW_goto (tgt := 2) h (dt t_M_isAsSeen 34 rfl) rfl ?_
        refine SW_chk hf (fun h3 hf => ?_)
        exact SW_fgt [true, true] rfl (ih (x1 + 1) s2 h3 ok2 hf)
      · refine SW_iconst h (dt t_M_isAsSeen 31 rfl) ?_
        exact SW_zret h (hret _ hf) (by decide) rfl (dt t_M_isAsSeen 32 rfl)
def F_M_isAsSeen  (σ : Mm) : Option (Int × Mm) :=
  b0MS (L_M_isAsSeen_2 LF 0 σ) (fun y => some y) fun s4 =>
  some (1, s4)
set_option maxRecDepth 100000 in
set_option maxHeartbeats 4000000 in
theorem c_M_isAsSeen  {σ : Mm} {a : Int} {σ2 : Mm} (hf : F_M_isAsSeen  σ = some (a, σ2)) : CT yX11_isAsSeen cX11_isAsSeen 2 (some .boolean) 6 1 (fun ad => [.ref (ad 200)]) σ (a = 0 ∨ a = 1) (some (.int (i32 a))) σ2 := by
  refine MetJ 1 (by decide +kernel) rfl (fun _ => Nat.le_of_ble_eq_true rfl) ?_
  intro X h hR ok
  obtain ⟨res, er⟩ : ∃ z, z = (a, σ2) := ⟨_, rfl⟩
  have hret : ∀ y : Int × Mm, some y = some res → RX X 1 (y.1 = 0 ∨ y.1 = 1) (some (.int (i32 (y.1)))) y.2 := fun y e => by cases e; cases er; exact hR
  rw [← er] at hf
  clear er hR
  unfold F_M_isAsSeen at hf
  show SW X 1 2 0 [some (.ref (xad X 200)), none] [] σ
  refine SW_iconst h (dt t_M_isAsSeen 0 rfl) ?_
  refine SW_istore_n (lv2 := [some (.ref (xad X 200)), some (.int (i32 0))]) h (dt t_M_isAsSeen 1 rfl) (by decide) rfl ?_
  obtain ⟨z4, e4, g4, hk4⟩ := b0MS_of hf
  refine SW_fgt [true, true] rfl (l_M_isAsSeen_2 h (fun y e => hret y (g4 y (Option.some.inj e).symm)) (fun s4 hz4 ok4 => ?_) LF 0 σ (by decide) ok e4)
  have hf := hk4 s4 (Option.some.inj hz4).symm
  refine SW_iconst h (dt t_M_isAsSeen 35 rfl) ?_
  exact SW_zret h (hret _ hf) (by decide) rfl (dt t_M_isAsSeen 36 rfl)
def b_M_fits : List (Nat × Instr × Nat) := [(0, .aload_n 0, 1), (1, .iload_n 1, 1), (2, .invokevirtual 530, 3), (5, .istore 4, 2), (7, .iload 4, 2), (9, .iconst (-1), 1), (10, .if_icmp .eq 28, 3), (13, .iload_n 2, 1), (14, .iconst (-1), 1), (15, .if_icmp .lt 23, 3), (18, .iload_n 2, 1), (19, .iconst (-1), 1), (20, .if_icmp .eq 20, 3), (23, .iload_n 3, 1), (24, .invokestatic 463, 3), (27, .ifCond .eq 11, 3), (30, .iload_n 1, 1), (31, .iload_n 3, 1), (32, .invokestatic 388, 3), (35, .ifCond .ne 5, 3), (38, .iconst (-1), 1), (39, .ireturn, 1), (40, .aload_n 0, 1), (41, .invokevirtual 446, 3), (44, .iconst 0, 1), (45, .istore 5, 2), (47, .iconst 0, 1), (48, .istore 6, 2), (50, .iload 6, 2), (52, .iload 4, 2), (54, .invokestatic 527, 3), (57, .if_icmp .ge 40, 3), (60, .aload_n 0, 1), (61, .iload 6, 2), (63, .iload 4, 2), (65, .invokevirtual 533, 3), (68, .aload_n 0, 1), (69, .invokevirtual 536, 3), (72, .ifCond .eq 19, 3), (75, .iload 5, 2), (77, .iload_n 2, 1), (78, .if_icmp .ne 10, 3), (81, .aload_n 0, 1), (82, .getfield 91, 3), (85, .iload_n 3, 1), (86, .iaload, 1), (87, .ireturn, 1), (88, .iinc 5 1, 3), (91, .iinc 6 1, 3), (94, .goto (-44), 3), (97, .iload_n 2, 1), (98, .iconst (-1), 1), (99, .if_icmp .ne 8, 3), (102, .iload 5, 2), (104, .goto 4, 3), (107, .iconst (-1), 1), (108, .ireturn, 1)]
theorem t_M_fits : DT cX11_fits b_M_fits := DT.of (by decide +kernel)
def L_M_fits_50 : Nat → Int → Int → Int → Int → Int → Mm → Option ((Int × Mm) ⊕ (Int × Mm))
  | 0, _, _, _, _, _, _ => none
  | n + 1, x2, x3, x4, x5, x6, σ =>
    b1 (F_M_tens x4) fun v4 =>
    if v4 ≤ x6 then
      some (.inr ((x5, σ)))
    else
      b0M (F_M_laysTempers x6 x4 σ) fun s5 =>
      b1M (F_M_isAsSeen  s5) fun v6 s6 =>
      bindM (fun (x5_7 : Int) =>
        if r32 (x6 + 1) then
          L_M_fits_50 n x2 x3 x4 x5_7 (x6 + 1) s6
        else none) fun J7 =>
      if v6 = 0 then
        J7 x5
      else
        if x5 = x2 then
          if 0 ≤ x3 ∧ x3 < 10 then
            some (.inl (s6 225 x3.toNat, s6))
          else none
        else
          if r32 (x5 + 1) then
            J7 (x5 + 1)
          else none
set_option maxRecDepth 100000 in
set_option maxHeartbeats 4000000 in
theorem l_M_fits_50 {X : Cx} (h : CX X 1 cX11_fits 7 7 (some .int) RX11) (x2 : Int) (x3 : Int) (x4 : Int) (hx2 : r32 x2) (hx3 : r32 x3) (hx4 : r32 x4) {res : (Int × Mm) ⊕ (Int × Mm)} (hret : ∀ y : Int × Mm, some (.inl y) = some res → RX X 1 (r32 (y.1)) (some (.int (i32 (y.1)))) y.2) (hex : ∀ (x5 : Int) (σ : Mm) (hz : some (.inr ((x5, σ))) = some res) (hx5 : r32 x5) (ok : okM σ), SW X 1 7 97 [none, none, some (.int (i32 x2)), none, none, some (.int (i32 x5)), none] [] σ) : ∀ (n : Nat) (x5 : Int) (x6 : Int) (σ : Mm) (hx5 : r32 x5) (hx6 : r32 x6) (ok : okM σ) (hf : L_M_fits_50 n x2 x3 x4 x5 x6 σ = some res), SW X 1 7 50 [some (.ref (xad X 200)), none, some (.int (i32 x2)), some (.int (i32 x3)), some (.int (i32 x4)), some (.int (i32 x5)), some (.int (i32 x6))] [] σ := by
  intro n
  induction n with
  | zero => intro x5 x6 σ hx5 hx6 ok hf; exact absurd hf (by simp [L_M_fits_50])
  | succ n ih =>
    intro x5 x6 σ hx5 hx6 ok hf
    rw [L_M_fits_50] at hf
    refine SW_iload h rfl (dt t_M_fits 28 rfl) ?_
    refine SW_iload h rfl (dt t_M_fits 29 rfl) ?_
    obtain ⟨v4, e4, hf⟩ := b1_of hf
    refine cS h [.int (i32 x4)] [.int (i32 x6)] v_X11_tens kX11_527 (c_M_tens x4 hx4 e4) rfl rfl (by decide) (by decide) rfl (Nat.le_of_ble_eq_true rfl) (dt t_M_fits 30 rfl) (fun h4 => ?_)
    refine SW_icmp_ge (tgt := 97) h (fun _ => hx6) (fun _ => h4) (dt t_M_fits 31 rfl) rfl hf (fun hf => ?_) (fun hf => ?_)
    · exact SW_fgt [false, false, true, false, false, true, false] rfl (hex x5 σ hf hx5 ok)
    · refine SW_aload_n h rfl (dt t_M_fits 32 rfl) ?_
      refine SW_iload h rfl (dt t_M_fits 33 rfl) ?_
      refine SW_iload h rfl (dt t_M_fits 34 rfl) ?_
      obtain ⟨s5, e5, hf⟩ := b0M_of hf
      refine cVv h [.int (i32 x6), .int (i32 x4)] [] v_X11_laysTempers kX11_533 o200 (c_M_laysTempers x6 hx6 x4 hx4 e5) rfl rfl (by decide) (by decide) rfl (Nat.le_of_ble_eq_true rfl) (dt t_M_fits 35 rfl) (fun h5 => ?_)
      refine SW_ok (fun ok5 => ?_)
      refine SW_aload_n h rfl (dt t_M_fits 36 rfl) ?_
      obtain ⟨v6, s6, e6, hf⟩ := b1M_of hf
      refine cV h [] [] v_X11_isAsSeen kX11_536 o200 (c_M_isAsSeen  e6) rfl rfl (by decide) (by decide) rfl (Nat.le_of_ble_eq_true rfl) (dt t_M_fits 37 rfl) (fun h6 => ?_)
      refine SW_ok (fun ok6 => ?_)
      refine bJ hf (fun J7 e7 hf => ?_)
      have k7 : ∀ (x5_7 : Int) (hx5_7 : r32 x5_7) (hf : J7 x5_7 = some res), SW X 1 7 91 [some (.ref (xad X 200)), none, some (.int (i32 x2)), some (.int (i32 x3)), some (.int (i32 x4)), some (.int (i32 x5_7)), some (.int (i32 x6))] [] s6 := by
        intro x5_7 hx5_7 hf
        rw [e7] at hf
        refine SW_iinc (lv2 := [some (.ref (xad X 200)), none, some (.int (i32 x2)), some (.int (i32 x3)), some (.int (i32 x4)), some (.int (i32 x5_7)), some (.int (i32 (x6 + 1)))]) h (dt t_M_fits 48 rfl) rfl (by decide) rfl ?_
        refine SW_goto (tgt := 50) h (dt t_M_fits 49 rfl) rfl ?_
        refine SW_chk hf (fun h8 hf => ?_)
        exact SW_fgt [true, false, true, true, true, true, true] rfl (ih x5_7 (x6 + 1) s6 hx5_7 h8 ok6 hf)
      refine SW_if_eq (tgt := 91) h (fun _ => (r_zo h6)) (dt t_M_fits 38 rfl) rfl hf (fun hf => ?_) (fun hf => ?_)
      · exact SW_fgt [true, false, true, true, true, true, true] rfl (k7 x5 hx5 hf)
      · refine SW_iload h rfl (dt t_M_fits 39 rfl) ?_
        refine SW_iload_n h rfl (dt t_M_fits 40 rfl) ?_
        refine SW_icmp_ne (tgt := 88) h (fun _ => hx5) (fun _ => hx2) (dt t_M_fits 41 rfl) rfl hf (fun hf => ?_) (fun hf => ?_)
        · refine SW_aload_n h rfl (dt t_M_fits 42 rfl) ?_
          refine gR h cf11 o200 f11_41 j200_41 lX11_91 (dt t_M_fits 43 rfl) ?_
          refine SW_iload_n h rfl (dt t_M_fits 44 rfl) ?_
          refine aI h a225 (dt t_M_fits 45 rfl) hf (fun hf => ?_)
          exact SW_iret h (hret _ hf) (fun _ => (okI ok6 225 x3.toNat (IsA.n3 a225 (by decide)))) rfl (dt t_M_fits 46 rfl)
        · refine SW_iinc (lv2 := [some (.ref (xad X 200)), none, some (.int (i32 x2)), some (.int (i32 x3)), some (.int (i32 x4)), some (.int (i32 (x5 + 1))), some (.int (i32 x6))]) h (dt t_M_fits 47 rfl) rfl (by decide) rfl ?_
          refine SW_chk hf (fun h9 hf => ?_)
          exact SW_fgt [true, false, true, true, true, true, true] rfl (k7 (x5 + 1) h9 hf)
def F_M_fits (x1 : Int) (x2 : Int) (x3 : Int) (σ : Mm) : Option (Int × Mm) :=
  b1M (F_M_laysFigures x1 σ) fun v1 s1 =>
  if v1 = (-1) then
    some ((-1), s1)
  else
    if x2 < (-1) then
      some ((-1), s1)
    else
      bindM (
        b0M (F_M_laysNow  s1) fun s3 =>
        b1MS (L_M_fits_50 LF x2 x3 v1 0 0 s3) (fun y => some y) fun x5_10 s10 =>
        if x2 = (-1) then
          some (x5_10, s10)
        else
          some ((-1), s10)) fun J2 =>
      if x2 = (-1) then
        J2
      else
        b1 (F_M_isFigure x3) fun v11 =>
        if v11 = 0 then
          some ((-1), s1)
        else
          b1 (F_M_has x1 x3) fun v12 =>
          if v12 = 0 then
            some ((-1), s1)
          else
            J2
set_option maxRecDepth 100000 in
set_option maxHeartbeats 4000000 in
theorem c_M_fits (x1 : Int) (hx1 : r32 x1) (x2 : Int) (hx2 : r32 x2) (x3 : Int) (hx3 : r32 x3) {σ : Mm} {a : Int} {σ2 : Mm} (hf : F_M_fits x1 x2 x3 σ = some (a, σ2)) : CT yX11_fits cX11_fits 7 (some .int) 7 1 (fun ad => [.ref (ad 200), .int (i32 x1), .int (i32 x2), .int (i32 x3)]) σ (r32 a) (some (.int (i32 a))) σ2 := by
  refine MetJ 3 (by decide +kernel) rfl (fun _ => Nat.le_of_ble_eq_true rfl) ?_
  intro X h hR ok
  obtain ⟨res, er⟩ : ∃ z, z = (a, σ2) := ⟨_, rfl⟩
  have hret : ∀ y : Int × Mm, some y = some res → RX X 1 (r32 (y.1)) (some (.int (i32 (y.1)))) y.2 := fun y e => by cases e; cases er; exact hR
  rw [← er] at hf
  clear er hR
  unfold F_M_fits at hf
  show SW X 1 7 0 [some (.ref (xad X 200)), some (.int (i32 x1)), some (.int (i32 x2)), some (.int (i32 x3)), none, none, none] [] σ
  refine SW_aload_n h rfl (dt t_M_fits 0 rfl) ?_
  refine SW_iload_n h rfl (dt t_M_fits 1 rfl) ?_
  obtain ⟨v1, s1, e1, hf⟩ := b1M_of hf
  refine cV h [.int (i32 x1)] [] v_X11_laysFigures kX11_530 o200 (c_M_laysFigures x1 hx1 e1) rfl rfl (by decide) (by decide) rfl (Nat.le_of_ble_eq_true rfl) (dt t_M_fits 2 rfl) (fun h1 => ?_)
  refine SW_ok (fun ok1 => ?_)
  refine SW_istore (lv2 := [some (.ref (xad X 200)), some (.int (i32 x1)), some (.int (i32 x2)), some (.int (i32 x3)), some (.int (i32 v1)), none, none]) h (dt t_M_fits 3 rfl) (by decide) rfl ?_
  refine SW_iload h rfl (dt t_M_fits 4 rfl) ?_
  refine SW_iconst h (dt t_M_fits 5 rfl) ?_
  refine SW_icmp_eq (tgt := 38) h (fun _ => h1) (fun _ => (by decide)) (dt t_M_fits 6 rfl) rfl hf (fun hf => ?_) (fun hf => ?_)
  · refine SW_iconst h (dt t_M_fits 20 rfl) ?_
    exact SW_iret h (hret _ hf) (fun _ => (by decide)) rfl (dt t_M_fits 21 rfl)
  · refine SW_iload_n h rfl (dt t_M_fits 7 rfl) ?_
    refine SW_iconst h (dt t_M_fits 8 rfl) ?_
    refine SW_icmp_lt (tgt := 38) h (fun _ => hx2) (fun _ => (by decide)) (dt t_M_fits 9 rfl) rfl hf (fun hf => ?_) (fun hf => ?_)
    · refine SW_iconst h (dt t_M_fits 20 rfl) ?_
      exact SW_iret h (hret _ hf) (fun _ => (by decide)) rfl (dt t_M_fits 21 rfl)
    · refine SW_iload_n h rfl (dt t_M_fits 10 rfl) ?_
      refine SW_iconst h (dt t_M_fits 11 rfl) ?_
      refine bJ hf (fun J2 e2 hf => ?_)
      have k2 : ∀ (hf : J2 = some res), SW X 1 7 40 [some (.ref (xad X 200)), none, some (.int (i32 x2)), some (.int (i32 x3)), some (.int (i32 v1)), none, none] [] s1 := by
        intro hf
        rw [e2] at hf
        refine SW_aload_n h rfl (dt t_M_fits 22 rfl) ?_
        obtain ⟨s3, e3, hf⟩ := b0M_of hf
        refine cVv h [] [] v_X11_laysNow kX11_446 o200 (c_M_laysNow  e3) rfl rfl (by decide) (by decide) rfl (Nat.le_of_ble_eq_true rfl) (dt t_M_fits 23 rfl) (fun h3 => ?_)
        refine SW_ok (fun ok3 => ?_)
        refine SW_iconst h (dt t_M_fits 24 rfl) ?_
        refine SW_istore (lv2 := [some (.ref (xad X 200)), none, some (.int (i32 x2)), some (.int (i32 x3)), some (.int (i32 v1)), some (.int (i32 0)), none]) h (dt t_M_fits 25 rfl) (by decide) rfl ?_
        refine SW_iconst h (dt t_M_fits 26 rfl) ?_
        refine SW_istore (lv2 := [some (.ref (xad X 200)), none, some (.int (i32 x2)), some (.int (i32 x3)), some (.int (i32 v1)), some (.int (i32 0)), some (.int (i32 0))]) h (dt t_M_fits 27 rfl) (by decide) rfl ?_
        obtain ⟨z10, e10, g10, hk10⟩ := b1MS_of hf
        refine SW_fgt [true, false, true, true, true, true, true] rfl (l_M_fits_50 h x2 x3 v1 hx2 hx3 h1 (fun y e => hret y (g10 y (Option.some.inj e).symm)) (fun x5_10 s10 hz10 hx5_10 ok10 => ?_) LF 0 0 s3 (by decide) (by decide) ok3 e10)
        have hf := hk10 x5_10 s10 (Option.some.inj hz10).symm
        refine SW_iload_n h rfl (dt t_M_fits 50 rfl) ?_
        refine SW_iconst h (dt t_M_fits 51 rfl) ?_
        refine SW_icmp_ne (tgt := 107) h (fun _ => hx2) (fun _ => (by decide)) (dt t_M_fits 52 rfl) rfl hf (fun hf => ?_) (fun hf => ?_)
        · refine SW_iload h rfl (dt t_M_fits 53 rfl) ?_
          refine SW_goto (tgt := 108) h (dt t_M_fits 54 rfl) rfl ?_
          exact SW_iret h (hret _ hf) (fun _ => hx5_10) rfl (dt t_M_fits 56 rfl)
        · refine SW_iconst h (dt t_M_fits 55 rfl) ?_
          exact SW_iret h (hret _ hf) (fun _ => (by decide)) rfl (dt t_M_fits 56 rfl)
      refine SW_icmp_eq (tgt := 40) h (fun _ => hx2) (fun _ => (by decide)) (dt t_M_fits 12 rfl) rfl hf (fun hf => ?_) (fun hf => ?_)
      · exact SW_fgt [true, false, true, true, true, false, false] rfl (k2 hf)
      · refine SW_iload_n h rfl (dt t_M_fits 13 rfl) ?_
        obtain ⟨v11, e11, hf⟩ := b1_of hf
        refine cS h [.int (i32 x3)] [] v_X11_isFigure kX11_463 (c_M_isFigure x3 hx3 e11) rfl rfl (by decide) (by decide) rfl (Nat.le_of_ble_eq_true rfl) (dt t_M_fits 14 rfl) (fun h11 => ?_)
        refine SW_if_eq (tgt := 38) h (fun _ => (r_zo h11)) (dt t_M_fits 15 rfl) rfl hf (fun hf => ?_) (fun hf => ?_)
        · refine SW_iconst h (dt t_M_fits 20 rfl) ?_
          exact SW_iret h (hret _ hf) (fun _ => (by decide)) rfl (dt t_M_fits 21 rfl)
        · refine SW_iload_n h rfl (dt t_M_fits 16 rfl) ?_
          refine SW_iload_n h rfl (dt t_M_fits 17 rfl) ?_
          obtain ⟨v12, e12, hf⟩ := b1_of hf
          refine cS h [.int (i32 x1), .int (i32 x3)] [] v_X11_has kX11_388 (c_M_has x1 hx1 x3 hx3 e12) rfl rfl (by decide) (by decide) rfl (Nat.le_of_ble_eq_true rfl) (dt t_M_fits 18 rfl) (fun h12 => ?_)
          refine SW_if_ne (tgt := 40) h (fun _ => (r_zo h12)) (dt t_M_fits 19 rfl) rfl hf (fun hf => ?_) (fun hf => ?_)
          · refine SW_iconst h (dt t_M_fits 20 rfl) ?_
            exact SW_iret h (hret _ hf) (fun _ => (by decide)) rfl (dt t_M_fits 21 rfl)
          · exact SW_fgt [true, false, true, true, true, false, false] rfl (k2 hf)
def b_M_foretold : List (Nat × Instr × Nat) := [(0, .iload_n 1, 1), (1, .iconst 1, 1), (2, .bipush 30, 2), (4, .invokestatic 150, 3), (7, .ifCond .eq 15, 3), (10, .iload_n 2, 1), (11, .iconst (-1), 1), (12, .if_icmp .eq 14, 3), (15, .iload_n 2, 1), (16, .invokestatic 463, 3), (19, .ifCond .ne 7, 3), (22, .ldc_w 459, 3), (25, .ireturn, 1), (26, .aload_n 0, 1), (27, .invokevirtual 446, 3), (30, .iconst 0, 1), (31, .istore_n 3, 1), (32, .iload_n 3, 1), (33, .iload_n 1, 1), (34, .if_icmp .ge 16, 3), (37, .aload_n 0, 1), (38, .iconst 0, 1), (39, .invokevirtual 452, 3), (42, .istore 4, 2), (44, .iinc 3 1, 3), (47, .goto (-15), 3), (50, .iload_n 2, 1), (51, .iconst (-1), 1), (52, .if_icmp .ne 10, 3), (55, .aload_n 0, 1), (56, .getfield 382, 3), (59, .goto 9, 3), (62, .aload_n 0, 1), (63, .getfield 91, 3), (66, .iload_n 2, 1), (67, .iaload, 1), (68, .ireturn, 1)]
theorem t_M_foretold : DT cX11_foretold b_M_foretold := DT.of (by decide +kernel)
def L_M_foretold_32 : Nat → Int → Int → Mm → Option (Mm)
  | 0, _, _, _ => none
  | n + 1, x1, x3, σ =>
    if x1 ≤ x3 then
      some σ
    else
      b1M (F_M_dayGoes 0 σ) fun v4 s4 =>
      if r32 (x3 + 1) then
        L_M_foretold_32 n x1 (x3 + 1) s4
      else none
set_option maxRecDepth 100000 in
set_option maxHeartbeats 4000000 in
theorem l_M_foretold_32 {X : Cx} (h : CX X 1 cX11_foretold 5 8 (some .int) RX11) (x1 : Int) (x2 : Int) (hx1 : r32 x1) (hx2 : r32 x2) {res : Mm} (hex : ∀  (σ : Mm) (hz : some σ = some res)  (ok : okM σ), SW X 1 5 50 [some (.ref (xad X 200)), none, some (.int (i32 x2)), none, none] [] σ) : ∀ (n : Nat) (x3 : Int) (σ : Mm) (hx3 : r32 x3) (ok : okM σ) (hf : L_M_foretold_32 n x1 x3 σ = some res), SW X 1 5 32 [some (.ref (xad X 200)), some (.int (i32 x1)), some (.int (i32 x2)), some (.int (i32 x3)), none] [] σ := by
  intro n
  induction n with
  | zero => intro x3 σ hx3 ok hf; exact absurd hf (by simp [L_M_foretold_32])
  | succ n ih =>
    intro x3 σ hx3 ok hf
    rw [L_M_foretold_32] at hf
    refine SW_iload_n h rfl (dt t_M_foretold 17 rfl) ?_
    refine SW_iload_n h rfl (dt t_M_foretold 18 rfl) ?_
    refine SW_icmp_ge (tgt := 50) h (fun _ => hx3) (fun _ => hx1) (dt t_M_foretold 19 rfl) rfl hf (fun hf => ?_) (fun hf => ?_)
    · exact SW_fgt [true, false, true, false, false] rfl (hex σ hf ok)
    · refine SW_aload_n h rfl (dt t_M_foretold 20 rfl) ?_
      refine SW_iconst h (dt t_M_foretold 21 rfl) ?_
      obtain ⟨v4, s4, e4, hf⟩ := b1M_of hf
      refine cV h [.int (i32 0)] [] v_X11_dayGoes kX11_452 o200 (c_M_dayGoes 0 (by decide) e4) rfl rfl (by decide) (by decide) rfl (Nat.le_of_ble_eq_true rfl) (dt t_M_foretold 22 rfl) (fun h4 => ?_)
      refine SW_ok (fun ok4 => ?_)
      refine SW_istore (lv2 := [some (.ref (xad X 200)), some (.int (i32 x1)), some (.int (i32 x2)), some (.int (i32 x3)), some (.int (i32 v4))]) h (dt t_M_foretold 23 rfl) (by decide) rfl ?_
      refine SW_iinc (lv2 := [some (.ref (xad X 200)), some (.int (i32 x1)), some (.int (i32 x2)), some (.int (i32 (x3 + 1))), some (.int (i32 v4))]) h (dt t_M_foretold 24 rfl) rfl (by decide) rfl ?_
      refine SW_goto (tgt := 32) h (dt t_M_foretold 25 rfl) rfl ?_
      refine SW_chk hf (fun h5 hf => ?_)
      exact SW_fgt [true, true, true, true, false] rfl (ih (x3 + 1) s4 h5 ok4 hf)
def F_M_foretold (x1 : Int) (x2 : Int) (σ : Mm) : Option (Int × Mm) :=
  b1 (F_M_in x1 1 30) fun v1 =>
  if v1 = 0 then
    some ((-10000000), σ)
  else
    bindM (
      b0M (F_M_laysNow  σ) fun s3 =>
      b0M (L_M_foretold_32 LF x1 0 s3) fun s6 =>
      if x2 = (-1) then
        some (s6 200 46, s6)
      else
        if 0 ≤ x2 ∧ x2 < 10 then
          some (s6 225 x2.toNat, s6)
        else none) fun J2 =>
    if x2 = (-1) then
      J2
    else
      b1 (F_M_isFigure x2) fun v7 =>
      if v7 = 0 then
        some ((-10000000), σ)
      else
        J2
set_option maxRecDepth 100000 in
set_option maxHeartbeats 4000000 in
theorem c_M_foretold (x1 : Int) (hx1 : r32 x1) (x2 : Int) (hx2 : r32 x2) {σ : Mm} {a : Int} {σ2 : Mm} (hf : F_M_foretold x1 x2 σ = some (a, σ2)) : CT yX11_foretold cX11_foretold 5 (some .int) 8 1 (fun ad => [.ref (ad 200), .int (i32 x1), .int (i32 x2)]) σ (r32 a) (some (.int (i32 a))) σ2 := by
  refine MetJ 2 (by decide +kernel) rfl (fun _ => Nat.le_of_ble_eq_true rfl) ?_
  intro X h hR ok
  obtain ⟨res, er⟩ : ∃ z, z = (a, σ2) := ⟨_, rfl⟩
  have hret : ∀ y : Int × Mm, some y = some res → RX X 1 (r32 (y.1)) (some (.int (i32 (y.1)))) y.2 := fun y e => by cases e; cases er; exact hR
  rw [← er] at hf
  clear er hR
  unfold F_M_foretold at hf
  show SW X 1 5 0 [some (.ref (xad X 200)), some (.int (i32 x1)), some (.int (i32 x2)), none, none] [] σ
  refine SW_iload_n h rfl (dt t_M_foretold 0 rfl) ?_
  refine SW_iconst h (dt t_M_foretold 1 rfl) ?_
  refine SW_bipush h (dt t_M_foretold 2 rfl) (by decide) ?_
  obtain ⟨v1, e1, hf⟩ := b1_of hf
  refine cS h [.int (i32 x1), .int (i32 1), .int (i32 30)] [] v_X11_in kX11_150 (c_M_in x1 hx1 1 (by decide) 30 (by decide) e1) rfl rfl (by decide) (by decide) rfl (Nat.le_of_ble_eq_true rfl) (dt t_M_foretold 3 rfl) (fun h1 => ?_)
  refine SW_if_eq (tgt := 22) h (fun _ => (r_zo h1)) (dt t_M_foretold 4 rfl) rfl hf (fun hf => ?_) (fun hf => ?_)
  · refine SW_ldcw (n := -10000000) h nX11_459 (by decide) (dt t_M_foretold 11 rfl) ?_
    exact SW_iret h (hret _ hf) (fun _ => (by decide)) rfl (dt t_M_foretold 12 rfl)
  · refine SW_iload_n h rfl (dt t_M_foretold 5 rfl) ?_
    refine SW_iconst h (dt t_M_foretold 6 rfl) ?_
    refine bJ hf (fun J2 e2 hf => ?_)
    have k2 : ∀ (hf : J2 = some res), SW X 1 5 26 [some (.ref (xad X 200)), some (.int (i32 x1)), some (.int (i32 x2)), none, none] [] σ := by
      intro hf
      rw [e2] at hf
      refine SW_aload_n h rfl (dt t_M_foretold 13 rfl) ?_
      obtain ⟨s3, e3, hf⟩ := b0M_of hf
      refine cVv h [] [] v_X11_laysNow kX11_446 o200 (c_M_laysNow  e3) rfl rfl (by decide) (by decide) rfl (Nat.le_of_ble_eq_true rfl) (dt t_M_foretold 14 rfl) (fun h3 => ?_)
      refine SW_ok (fun ok3 => ?_)
      refine SW_iconst h (dt t_M_foretold 15 rfl) ?_
      refine SW_istore_n (lv2 := [some (.ref (xad X 200)), some (.int (i32 x1)), some (.int (i32 x2)), some (.int (i32 0)), none]) h (dt t_M_foretold 16 rfl) (by decide) rfl ?_
      obtain ⟨z6, e6, hk6⟩ := b0M_ex hf
      refine SW_fgt [true, true, true, true, false] rfl (l_M_foretold_32 h x1 x2 hx1 hx2 (fun s6 hz6 ok6 => ?_) LF 0 s3 (by decide) ok3 e6)
      have hf := hk6 s6 hz6
      refine SW_iload_n h rfl (dt t_M_foretold 26 rfl) ?_
      refine SW_iconst h (dt t_M_foretold 27 rfl) ?_
      refine SW_icmp_ne (tgt := 62) h (fun _ => hx2) (fun _ => (by decide)) (dt t_M_foretold 28 rfl) rfl hf (fun hf => ?_) (fun hf => ?_)
      · refine SW_aload_n h rfl (dt t_M_foretold 29 rfl) ?_
        refine gI h cf11 o200 f11_46 lX11_382 (dt t_M_foretold 30 rfl) ?_
        refine SW_goto (tgt := 68) h (dt t_M_foretold 31 rfl) rfl ?_
        exact SW_iret h (hret _ hf) (fun _ => (okI ok6 200 46 (IsO.n3 o200))) rfl (dt t_M_foretold 36 rfl)
      · refine SW_aload_n h rfl (dt t_M_foretold 32 rfl) ?_
        refine gR h cf11 o200 f11_41 j200_41 lX11_91 (dt t_M_foretold 33 rfl) ?_
        refine SW_iload_n h rfl (dt t_M_foretold 34 rfl) ?_
        refine aI h a225 (dt t_M_foretold 35 rfl) hf (fun hf => ?_)
        exact SW_iret h (hret _ hf) (fun _ => (okI ok6 225 x2.toNat (IsA.n3 a225 (by decide)))) rfl (dt t_M_foretold 36 rfl)
    refine SW_icmp_eq (tgt := 26) h (fun _ => hx2) (fun _ => (by decide)) (dt t_M_foretold 7 rfl) rfl hf (fun hf => ?_) (fun hf => ?_)
    · exact SW_fgt [true, true, true, false, false] rfl (k2 hf)
    · refine SW_iload_n h rfl (dt t_M_foretold 8 rfl) ?_
      obtain ⟨v7, e7, hf⟩ := b1_of hf
      refine cS h [.int (i32 x2)] [] v_X11_isFigure kX11_463 (c_M_isFigure x2 hx2 e7) rfl rfl (by decide) (by decide) rfl (Nat.le_of_ble_eq_true rfl) (dt t_M_foretold 9 rfl) (fun h7 => ?_)
      refine SW_if_ne (tgt := 26) h (fun _ => (r_zo h7)) (dt t_M_foretold 10 rfl) rfl hf (fun hf => ?_) (fun hf => ?_)
      · refine SW_ldcw (n := -10000000) h nX11_459 (by decide) (dt t_M_foretold 11 rfl) ?_
        exact SW_iret h (hret _ hf) (fun _ => (by decide)) rfl (dt t_M_foretold 12 rfl)
      · exact SW_fgt [true, true, true, false, false] rfl (k2 hf)
def b_M_isGood : List (Nat × Instr × Nat) := [(0, .iload_n 1, 1), (1, .iload_n 3, 1), (2, .invokestatic 388, 3), (5, .ifCond .ne 32, 3), (8, .iload_n 2, 1), (9, .aload_n 0, 1), (10, .getfield 552, 3), (13, .if_icmp .ge 26, 3), (16, .aload_n 0, 1), (17, .aload_n 0, 1), (18, .getfield 137, 3), (21, .iload_n 2, 1), (22, .iaload, 1), (23, .aload_n 0, 1), (24, .getfield 137, 3), (27, .iload_n 3, 1), (28, .iaload, 1), (29, .iconst 0, 1), (30, .iconst 1, 1), (31, .invokevirtual 402, 3), (34, .ifCond .eq 5, 3), (37, .iconst 0, 1), (38, .ireturn, 1), (39, .aload_n 0, 1), (40, .getfield 140, 3), (43, .bipush 7, 2), (45, .iload_n 1, 1), (46, .iconst 1, 1), (47, .iload_n 3, 1), (48, .ishl, 1), (49, .ior, 1), (50, .imul, 1), (51, .iload_n 3, 1), (52, .iadd, 1), (53, .baload, 1), (54, .ifCond .ne 7, 3), (57, .iconst 1, 1), (58, .goto 4, 3), (61, .iconst 0, 1), (62, .ireturn, 1)]
theorem t_M_isGood : DT cX11_isGood b_M_isGood := DT.of (by decide +kernel)
def F_M_isGood (x1 : Int) (x2 : Int) (x3 : Int) (σ : Mm) : Option (Int × Mm) :=
  b1 (F_M_has x1 x3) fun v1 =>
  if v1 = 0 then
    bindM (fun  (t2 : Mm) =>
      if 0 ≤ (7 * (ior x1 (ishl 1 x3))) + x3 ∧ (7 * (ior x1 (ishl 1 x3))) + x3 < 448 then
        if t2 241 (((7 * (ior x1 (ishl 1 x3))) + x3).toNat) = 0 then
          some (1, t2)
        else
          some (0, t2)
      else none) fun J2 =>
    if σ 200 62 ≤ x2 then
      J2 σ
    else
      if 0 ≤ x2 ∧ x2 < 6 then
        if 0 ≤ x3 ∧ x3 < 6 then
          b1M (F_M_doQuarrel (σ 240 x2.toNat) (σ 240 x3.toNat) 0 1 σ) fun v3 s3 =>
          if v3 = 0 then
            J2 s3
          else
            some (0, s3)
        else none
      else none
  else
    some (0, σ)
set_option maxRecDepth 100000 in
set_option maxHeartbeats 4000000 in
theorem c_M_isGood (x1 : Int) (hx1 : r32 x1) (x2 : Int) (hx2 : r32 x2) (x3 : Int) (hx3 : r32 x3) {σ : Mm} {a : Int} {σ2 : Mm} (hf : F_M_isGood x1 x2 x3 σ = some (a, σ2)) : CT yX11_isGood cX11_isGood 4 (some .boolean) 4 1 (fun ad => [.ref (ad 200), .int (i32 x1), .int (i32 x2), .int (i32 x3)]) σ (a = 0 ∨ a = 1) (some (.int (i32 a))) σ2 := by
  refine MetJ 0 (by decide +kernel) rfl (fun _ => Nat.le_of_ble_eq_true rfl) ?_
  intro X h hR ok
  obtain ⟨res, er⟩ : ∃ z, z = (a, σ2) := ⟨_, rfl⟩
  have hret : ∀ y : Int × Mm, some y = some res → RX X 1 (y.1 = 0 ∨ y.1 = 1) (some (.int (i32 (y.1)))) y.2 := fun y e => by cases e; cases er; exact hR
  rw [← er] at hf
  clear er hR
  unfold F_M_isGood at hf
  show SW X 1 4 0 [some (.ref (xad X 200)), some (.int (i32 x1)), some (.int (i32 x2)), some (.int (i32 x3))] [] σ
  refine SW_iload_n h rfl (dt t_M_isGood 0 rfl) ?_
  refine SW_iload_n h rfl (dt t_M_isGood 1 rfl) ?_
  obtain ⟨v1, e1, hf⟩ := b1_of hf
  refine cS h [.int (i32 x1), .int (i32 x3)] [] v_X11_has kX11_388 (c_M_has x1 hx1 x3 hx3 e1) rfl rfl (by decide) (by decide) rfl (Nat.le_of_ble_eq_true rfl) (dt t_M_isGood 2 rfl) (fun h1 => ?_)
  refine SW_if_ne (tgt := 37) h (fun _ => (r_zo h1)) (dt t_M_isGood 3 rfl) rfl hf (fun hf => ?_) (fun hf => ?_)
  · refine SW_iload_n h rfl (dt t_M_isGood 4 rfl) ?_
    refine SW_aload_n h rfl (dt t_M_isGood 5 rfl) ?_
    refine gI h cf11 o200 f11_62 lX11_552 (dt t_M_isGood 6 rfl) ?_
    refine bJ hf (fun J2 e2 hf => ?_)
    have k2 : ∀  (t2 : Mm)  (ot2 : okM t2) (hf : J2 t2 = some res), SW X 1 4 39 [some (.ref (xad X 200)), some (.int (i32 x1)), none, some (.int (i32 x3))] [] t2 := by
      intro t2 ot2 hf
      rw [e2] at hf
      refine SW_aload_n h rfl (dt t_M_isGood 23 rfl) ?_
      refine gR h cf11 o200 f11_63 j200_63 lX11_140 (dt t_M_isGood 24 rfl) ?_
      refine SW_bipush h (dt t_M_isGood 25 rfl) (by decide) ?_
      refine SW_iload_n h rfl (dt t_M_isGood 26 rfl) ?_
      refine SW_iconst h (dt t_M_isGood 27 rfl) ?_
      refine SW_iload_n h rfl (dt t_M_isGood 28 rfl) ?_
      refine SW_ishl h (dt t_M_isGood 29 rfl) ?_
      refine SW_ior h (dt t_M_isGood 30 rfl) ?_
      refine SW_imul h (dt t_M_isGood 31 rfl) ?_
      refine SW_iload_n h rfl (dt t_M_isGood 32 rfl) ?_
      refine SW_iadd h (dt t_M_isGood 33 rfl) ?_
      refine aZ h a241 (dt t_M_isGood 34 rfl) hf (fun hf => ?_)
      refine SW_if_ne (tgt := 61) h (fun _ => (okI ot2 241 (((7 * (ior x1 (ishl 1 x3))) + x3).toNat) (IsA.n3 a241 (by decide)))) (dt t_M_isGood 35 rfl) rfl hf (fun hf => ?_) (fun hf => ?_)
      · refine SW_iconst h (dt t_M_isGood 36 rfl) ?_
        refine SW_goto (tgt := 62) h (dt t_M_isGood 37 rfl) rfl ?_
        exact SW_zret h (hret _ hf) (by decide) rfl (dt t_M_isGood 39 rfl)
      · refine SW_iconst h (dt t_M_isGood 38 rfl) ?_
        exact SW_zret h (hret _ hf) (by decide) rfl (dt t_M_isGood 39 rfl)
    refine SW_icmp_ge (tgt := 39) h (fun _ => hx2) (fun _ => (okI ok 200 62 (IsO.n3 o200))) (dt t_M_isGood 7 rfl) rfl hf (fun hf => ?_) (fun hf => ?_)
    · exact SW_fgt [true, true, false, true] rfl (k2 σ ok hf)
    · refine SW_aload_n h rfl (dt t_M_isGood 8 rfl) ?_
      refine SW_aload_n h rfl (dt t_M_isGood 9 rfl) ?_
      refine gR h cf11 o200 f11_61 j200_61 lX11_137 (dt t_M_isGood 10 rfl) ?_
      refine SW_iload_n h rfl (dt t_M_isGood 11 rfl) ?_
      refine aI h a240 (dt t_M_isGood 12 rfl) hf (fun hf => ?_)
      refine SW_aload_n h rfl (dt t_M_isGood 13 rfl) ?_
      refine gR h cf11 o200 f11_61 j200_61 lX11_137 (dt t_M_isGood 14 rfl) ?_
      refine SW_iload_n h rfl (dt t_M_isGood 15 rfl) ?_
      refine aI h a240 (dt t_M_isGood 16 rfl) hf (fun hf => ?_)
      refine SW_iconst h (dt t_M_isGood 17 rfl) ?_
      refine SW_iconst h (dt t_M_isGood 18 rfl) ?_
      obtain ⟨v3, s3, e3, hf⟩ := b1M_of hf
      refine cV h [.int (i32 (σ 240 x2.toNat)), .int (i32 (σ 240 x3.toNat)), .int (i32 0), .int (i32 1)] [] v_X11_doQuarrel kX11_402 o200 (c_M_doQuarrel (σ 240 x2.toNat) (okI ok 240 x2.toNat (IsA.n3 a240 (by decide))) (σ 240 x3.toNat) (okI ok 240 x3.toNat (IsA.n3 a240 (by decide))) 0 (by decide) 1 (by decide) e3) rfl rfl (by decide) (by decide) rfl (Nat.le_of_ble_eq_true rfl) (dt t_M_isGood 19 rfl) (fun h3 => ?_)
      refine SW_ok (fun ok3 => ?_)
      refine SW_if_eq (tgt := 39) h (fun _ => (r_zo h3)) (dt t_M_isGood 20 rfl) rfl hf (fun hf => ?_) (fun hf => ?_)
      · exact SW_fgt [true, true, false, true] rfl (k2 s3 ok3 hf)
      · refine SW_iconst h (dt t_M_isGood 21 rfl) ?_
        exact SW_zret h (hret _ hf) (by decide) rfl (dt t_M_isGood 22 rfl)
  · refine SW_iconst h (dt t_M_isGood 21 rfl) ?_
    exact SW_zret h (hret _ hf) (by decide) rfl (dt t_M_isGood 22 rfl)
def b_M_goodOf : List (Nat × Instr × Nat) := [(0, .iconst 0, 1), (1, .istore_n 3, 1), (2, .iload_n 3, 1), (3, .aload_n 0, 1), (4, .getfield 552, 3), (7, .if_icmp .ge 21, 3), (10, .aload_n 0, 1), (11, .iload_n 1, 1), (12, .iload_n 2, 1), (13, .iload_n 3, 1), (14, .invokevirtual 555, 3), (17, .ifCond .eq 5, 3), (20, .iload_n 3, 1), (21, .ireturn, 1), (22, .iinc 3 1, 3), (25, .goto (-23), 3), (28, .iconst (-1), 1), (29, .ireturn, 1)]
theorem t_M_goodOf : DT cX11_goodOf b_M_goodOf := DT.of (by decide +kernel)
def L_M_goodOf_2 : Nat → Int → Int → Int → Mm → Option ((Int × Mm) ⊕ (Mm))
  | 0, _, _, _, _ => none
  | n + 1, x1, x2, x3, σ =>
    if σ 200 62 ≤ x3 then
      some (.inr σ)
    else
      b1M (F_M_isGood x1 x2 x3 σ) fun v1 s1 =>
      if v1 = 0 then
        if r32 (x3 + 1) then
          L_M_goodOf_2 n x1 x2 (x3 + 1) s1
        else none
      else
        some (.inl (x3, s1))
set_option maxRecDepth 100000 in
set_option maxHeartbeats 4000000 in
theorem l_M_goodOf_2 {X : Cx} (h : CX X 1 cX11_goodOf 4 5 (some .int) RX11) (x1 : Int) (x2 : Int) (hx1 : r32 x1) (hx2 : r32 x2) {res : (Int × Mm) ⊕ (Mm)} (hret : ∀ y : Int × Mm, some (.inl y) = some res → RX X 1 (r32 (y.1)) (some (.int (i32 (y.1)))) y.2) (hex : ∀  (σ : Mm) (hz : some (.inr σ) = some res)  (ok : okM σ), SW X 1 4 28 [none, none, none, none] [] σ) : ∀ (n : Nat) (x3 : Int) (σ : Mm) (hx3 : r32 x3) (ok : okM σ) (hf : L_M_goodOf_2 n x1 x2 x3 σ = some res), SW X 1 4 2 [some (.ref (xad X 200)), some (.int (i32 x1)), some (.int (i32 x2)), some (.int (i32 x3))] [] σ := by
  intro n
  induction n with
  | zero => intro x3 σ hx3 ok hf; exact absurd hf (by simp [L_M_goodOf_2])
  | succ n ih =>
    intro x3 σ hx3 ok hf
    rw [L_M_goodOf_2] at hf
    refine SW_iload_n h rfl (dt t_M_goodOf 2 rfl) ?_
    refine SW_aload_n h rfl (dt t_M_goodOf 3 rfl) ?_
    refine gI h cf11 o200 f11_62 lX11_552 (dt t_M_goodOf 4 rfl) ?_
    refine SW_icmp_ge (tgt := 28) h (fun _ => hx3) (fun _ => (okI ok 200 62 (IsO.n3 o200))) (dt t_M_goodOf 5 rfl) rfl hf (fun hf => ?_) (fun hf => ?_)
    · exact SW_fgt [false, false, false, false] rfl (hex σ hf ok)
    · refine SW_aload_n h rfl (dt t_M_goodOf 6 rfl) ?_
      refine SW_iload_n h rfl (dt t_M_goodOf 7 rfl) ?_
      refine SW_iload_n h rfl (dt t_M_goodOf 8 rfl) ?_
      refine SW_iload_n h rfl (dt t_M_goodOf 9 rfl) ?_
      obtain ⟨v1, s1, e1, hf⟩ := b1M_of hf
      refine cV h [.int (i32 x1), .int (i32 x2), .int (i32 x3)] [] v_X11_isGood kX11_555 o200 (c_M_isGood x1 hx1 x2 hx2 x3 hx3 e1) rfl rfl (by decide) (by decide) rfl (Nat.le_of_ble_eq_true rfl) (dt t_M_goodOf 10 rfl) (fun h1 => ?_)
      refine SW_ok (fun ok1 => ?_)
      refine SW_if_eq (tgt := 22) h (fun _ => (r_zo h1)) (dt t_M_goodOf 11 rfl) rfl hf (fun hf => ?_) (fun hf => ?_)
      · refine SW_iinc (lv2 := [some (.ref (xad X 200)), some (.int (i32 x1)), some (.int (i32 x2)), some (.int (i32 (x3 + 1)))]) h (dt t_M_goodOf 14 rfl) rfl (by decide) rfl ?_
        refine SW_goto (tgt := 2) h (dt t_M_goodOf 15 rfl) rfl ?_
        refine SW_chk hf (fun h2 hf => ?_)
        exact SW_fgt [true, true, true, true] rfl (ih (x3 + 1) s1 h2 ok1 hf)
      · refine SW_iload_n h rfl (dt t_M_goodOf 12 rfl) ?_
        exact SW_iret h (hret _ hf) (fun _ => hx3) rfl (dt t_M_goodOf 13 rfl)
def F_M_goodOf (x1 : Int) (x2 : Int) (σ : Mm) : Option (Int × Mm) :=
  b0MS (L_M_goodOf_2 LF x1 x2 0 σ) (fun y => some y) fun s3 =>
  some ((-1), s3)
set_option maxRecDepth 100000 in
set_option maxHeartbeats 4000000 in
theorem c_M_goodOf (x1 : Int) (hx1 : r32 x1) (x2 : Int) (hx2 : r32 x2) {σ : Mm} {a : Int} {σ2 : Mm} (hf : F_M_goodOf x1 x2 σ = some (a, σ2)) : CT yX11_goodOf cX11_goodOf 4 (some .int) 5 1 (fun ad => [.ref (ad 200), .int (i32 x1), .int (i32 x2)]) σ (r32 a) (some (.int (i32 a))) σ2 := by
  refine MetJ 1 (by decide +kernel) rfl (fun _ => Nat.le_of_ble_eq_true rfl) ?_
  intro X h hR ok
  obtain ⟨res, er⟩ : ∃ z, z = (a, σ2) := ⟨_, rfl⟩
  have hret : ∀ y : Int × Mm, some y = some res → RX X 1 (r32 (y.1)) (some (.int (i32 (y.1)))) y.2 := fun y e => by cases e; cases er; exact hR
  rw [← er] at hf
  clear er hR
  unfold F_M_goodOf at hf
  show SW X 1 4 0 [some (.ref (xad X 200)), some (.int (i32 x1)), some (.int (i32 x2)), none] [] σ
  refine SW_iconst h (dt t_M_goodOf 0 rfl) ?_
  refine SW_istore_n (lv2 := [some (.ref (xad X 200)), some (.int (i32 x1)), some (.int (i32 x2)), some (.int (i32 0))]) h (dt t_M_goodOf 1 rfl) (by decide) rfl ?_
  obtain ⟨z3, e3, g3, hk3⟩ := b0MS_of hf
  refine SW_fgt [true, true, true, true] rfl (l_M_goodOf_2 h x1 x2 hx1 hx2 (fun y e => hret y (g3 y (Option.some.inj e).symm)) (fun s3 hz3 ok3 => ?_) LF 0 σ (by decide) ok e3)
  have hf := hk3 s3 (Option.some.inj hz3).symm
  refine SW_iconst h (dt t_M_goodOf 16 rfl) ?_
  exact SW_iret h (hret _ hf) (fun _ => (by decide)) rfl (dt t_M_goodOf 17 rfl)
def b_M_game : List (Nat × Instr × Nat) := [(0, .iload_n 1, 1), (1, .iconst 1, 1), (2, .sipush 1023, 3), (5, .invokestatic 150, 3), (8, .ifCond .eq 12, 3), (11, .iload_n 1, 1), (12, .invokestatic 456, 3), (15, .bipush 6, 2), (17, .if_icmp .le 6, 3), (20, .bipush (-2), 2), (22, .ireturn, 1), (23, .aload_n 0, 1), (24, .invokevirtual 446, 3), (27, .aload_n 0, 1), (28, .iconst 0, 1), (29, .putfield 552, 3), (32, .iconst 0, 1), (33, .istore_n 3, 1), (34, .iload_n 3, 1), (35, .bipush 10, 2), (37, .if_icmp .ge 37, 3), (40, .iload_n 1, 1), (41, .iload_n 3, 1), (42, .invokestatic 388, 3), (45, .ifCond .eq 23, 3), (48, .aload_n 0, 1), (49, .getfield 137, 3), (52, .aload_n 0, 1), (53, .getfield 552, 3), (56, .iload_n 3, 1), (57, .iastore, 1), (58, .aload_n 0, 1), (59, .dup, 1), (60, .getfield 552, 3), (63, .iconst 1, 1), (64, .iadd, 1), (65, .putfield 552, 3), (68, .iinc 3 1, 3), (71, .goto (-37), 3), (74, .iconst 1, 1), (75, .aload_n 0, 1), (76, .getfield 552, 3), (79, .ishl, 1), (80, .iconst 1, 1), (81, .isub, 1), (82, .istore_n 3, 1), (83, .iload_n 3, 1), (84, .ifCond .le 67, 3), (87, .iconst 0, 1), (88, .istore 4, 2), (90, .iload 4, 2), (92, .aload_n 0, 1), (93, .getfield 552, 3), (96, .if_icmp .ge 49, 3), (99, .aload_n 0, 1), (100, .getfield 140, 3), (103, .bipush 7, 2), (105, .iload_n 3, 1), (106, .imul, 1), (107, .iload 4, 2), (109, .iadd, 1), (110, .iload_n 3, 1), (111, .iconst 1, 1), (112, .aload_n 0, 1), (113, .getfield 552, 3), (116, .ishl, 1), (117, .iconst 1, 1), (118, .isub, 1), (119, .if_icmp .eq 14, 3), (122, .aload_n 0, 1), (123, .iload_n 3, 1), (124, .iload 4, 2), (126, .invokevirtual 558, 3), (129, .iconst (-1), 1), (130, .if_icmp .eq 7, 3), (133, .iconst 1, 1), (134, .goto 4, 3), (137, .iconst 0, 1), (138, .bastore, 1), (139, .iinc 4 1, 3), (142, .goto (-52), 3), (145, .iinc 3 (-1), 3), (148, .goto (-65), 3), (151, .aload_n 0, 1), (152, .iconst 0, 1), (153, .aload_n 0, 1), (154, .getfield 552, 3), (157, .invokevirtual 558, 3), (160, .istore_n 3, 1), (161, .iload_n 2, 1), (162, .ifCond .ne 16, 3), (165, .iload_n 3, 1), (166, .iconst (-1), 1), (167, .if_icmp .ne 7, 3), (170, .iconst 0, 1), (171, .goto 22, 3), (174, .iconst 1, 1), (175, .goto 18, 3), (178, .iload_n 3, 1), (179, .iconst (-1), 1), (180, .if_icmp .ne 7, 3), (183, .iconst (-1), 1), (184, .goto 9, 3), (187, .aload_n 0, 1), (188, .getfield 137, 3), (191, .iload_n 3, 1), (192, .iaload, 1), (193, .ireturn, 1)]
theorem t_M_game : DT cX11_game b_M_game := DT.of (by decide +kernel)
def L_M_game_34 : Nat → Int → Int → Mm → Option (Mm)
  | 0, _, _, _ => none
  | n + 1, x1, x3, σ =>
    if 10 ≤ x3 then
      some σ
    else
      b1 (F_M_has x1 x3) fun v6 =>
      bindM (fun  (t7 : Mm) =>
        if r32 (x3 + 1) then
          L_M_game_34 n x1 (x3 + 1) t7
        else none) fun J7 =>
      if v6 = 0 then
        J7 σ
      else
        if 0 ≤ σ 200 62 ∧ σ 200 62 < 6 then
          bindM (st2 σ 240 ((σ 200 62).toNat) x3) fun s9 =>
          if r32 ((s9 200 62) + 1) then
            bindM (st2 s9 200 62 ((s9 200 62) + 1)) fun s12 =>
            J7 s12
          else none
        else none
set_option maxRecDepth 100000 in
set_option maxHeartbeats 4000000 in
theorem l_M_game_34 {X : Cx} (h : CX X 1 cX11_game 5 6 (some .int) RX11) (x1 : Int) (x2 : Int) (hx1 : r32 x1) (hx2 : r32 x2) {res : Mm} (hex : ∀  (σ : Mm) (hz : some σ = some res)  (ok : okM σ), SW X 1 5 74 [some (.ref (xad X 200)), none, some (.int (i32 x2)), none, none] [] σ) : ∀ (n : Nat) (x3 : Int) (σ : Mm) (hx3 : r32 x3) (ok : okM σ) (hf : L_M_game_34 n x1 x3 σ = some res), SW X 1 5 34 [some (.ref (xad X 200)), some (.int (i32 x1)), some (.int (i32 x2)), some (.int (i32 x3)), none] [] σ := by
  intro n
  induction n with
  | zero => intro x3 σ hx3 ok hf; exact absurd hf (by simp [L_M_game_34])
  | succ n ih =>
    intro x3 σ hx3 ok hf
    rw [L_M_game_34] at hf
    refine SW_iload_n h rfl (dt t_M_game 18 rfl) ?_
    refine SW_bipush h (dt t_M_game 19 rfl) (by decide) ?_
    refine SW_icmp_ge (tgt := 74) h (fun _ => hx3) (fun _ => (by decide)) (dt t_M_game 20 rfl) rfl hf (fun hf => ?_) (fun hf => ?_)
    · exact SW_fgt [true, false, true, false, false] rfl (hex σ hf ok)
    · refine SW_iload_n h rfl (dt t_M_game 21 rfl) ?_
      refine SW_iload_n h rfl (dt t_M_game 22 rfl) ?_
      obtain ⟨v6, e6, hf⟩ := b1_of hf
      refine cS h [.int (i32 x1), .int (i32 x3)] [] v_X11_has kX11_388 (c_M_has x1 hx1 x3 hx3 e6) rfl rfl (by decide) (by decide) rfl (Nat.le_of_ble_eq_true rfl) (dt t_M_game 23 rfl) (fun h6 => ?_)
      refine bJ hf (fun J7 e7 hf => ?_)
      have k7 : ∀  (t7 : Mm)  (ot7 : okM t7) (hf : J7 t7 = some res), SW X 1 5 68 [some (.ref (xad X 200)), some (.int (i32 x1)), some (.int (i32 x2)), some (.int (i32 x3)), none] [] t7 := by
        intro t7 ot7 hf
        rw [e7] at hf
        refine SW_iinc (lv2 := [some (.ref (xad X 200)), some (.int (i32 x1)), some (.int (i32 x2)), some (.int (i32 (x3 + 1))), none]) h (dt t_M_game 37 rfl) rfl (by decide) rfl ?_
        refine SW_goto (tgt := 34) h (dt t_M_game 38 rfl) rfl ?_
        refine SW_chk hf (fun h8 hf => ?_)
        exact SW_fgt [true, true, true, true, false] rfl (ih (x3 + 1) t7 h8 ot7 hf)
      refine SW_if_eq (tgt := 68) h (fun _ => (r_zo h6)) (dt t_M_game 24 rfl) rfl hf (fun hf => ?_) (fun hf => ?_)
      · exact SW_fgt [true, true, true, true, false] rfl (k7 σ ok hf)
      · refine SW_aload_n h rfl (dt t_M_game 25 rfl) ?_
        refine gR h cf11 o200 f11_61 j200_61 lX11_137 (dt t_M_game 26 rfl) ?_
        refine SW_aload_n h rfl (dt t_M_game 27 rfl) ?_
        refine gI h cf11 o200 f11_62 lX11_552 (dt t_M_game 28 rfl) ?_
        refine SW_iload_n h rfl (dt t_M_game 29 rfl) ?_
        refine sI h a240 hx3 (dt t_M_game 30 rfl) hf (fun hf => SW_bm hf (fun s9 ok9 hf => ?_))
        refine SW_aload_n h rfl (dt t_M_game 31 rfl) ?_
        refine SW_dup h rfl (dt t_M_game 32 rfl) ?_
        refine gI h cf11 o200 f11_62 lX11_552 (dt t_M_game 33 rfl) ?_
        refine SW_iconst h (dt t_M_game 34 rfl) ?_
        refine SW_iadd h (dt t_M_game 35 rfl) ?_
        refine SW_chk hf (fun h11 hf => ?_)
        refine pI h cf11 o200 f11_62 h11 lX11_552 (dt t_M_game 36 rfl) (SW_bm hf (fun s12 ok12 hf => ?_))
        exact SW_fgt [true, true, true, true, false] rfl (k7 s12 ok12 hf)
def L_M_game_90 : Nat → Int → Int → Mm → Option (Mm)
  | 0, _, _, _ => none
  | n + 1, x3, x4, σ =>
    if σ 200 62 ≤ x4 then
      some σ
    else
      if r32 ((ishl 1 (σ 200 62)) - 1) then
        bindM (fun (y16 : Int) (t16 : Mm) =>
          if 0 ≤ (7 * x3) + x4 ∧ (7 * x3) + x4 < 448 then
            bindM (st2 t16 241 (((7 * x3) + x4).toNat) (nzI y16)) fun s17 =>
            if r32 (x4 + 1) then
              L_M_game_90 n x3 (x4 + 1) s17
            else none
          else none) fun J16 =>
        bindM (fun  (t19 : Mm) =>
          J16 1 t19) fun J19 =>
        if x3 = (ishl 1 (σ 200 62)) - 1 then
          J19 σ
        else
          b1M (F_M_goodOf x3 x4 σ) fun v20 s20 =>
          if v20 = (-1) then
            J16 0 s20
          else
            J19 s20
      else none
set_option maxRecDepth 100000 in
set_option maxHeartbeats 4000000 in
theorem l_M_game_90 {X : Cx} (h : CX X 1 cX11_game 5 6 (some .int) RX11) (x2 : Int) (x3 : Int) (hx2 : r32 x2) (hx3 : r32 x3) {res : Mm} (hex : ∀  (σ : Mm) (hz : some σ = some res)  (ok : okM σ), SW X 1 5 145 [some (.ref (xad X 200)), none, some (.int (i32 x2)), some (.int (i32 x3)), none] [] σ) : ∀ (n : Nat) (x4 : Int) (σ : Mm) (hx4 : r32 x4) (ok : okM σ) (hf : L_M_game_90 n x3 x4 σ = some res), SW X 1 5 90 [some (.ref (xad X 200)), none, some (.int (i32 x2)), some (.int (i32 x3)), some (.int (i32 x4))] [] σ := by
  intro n
  induction n with
  | zero => intro x4 σ hx4 ok hf; exact absurd hf (by simp [L_M_game_90])
  | succ n ih =>
    intro x4 σ hx4 ok hf
    rw [L_M_game_90] at hf
    refine SW_iload h rfl (dt t_M_game 50 rfl) ?_
    refine SW_aload_n h rfl (dt t_M_game 51 rfl) ?_
    refine gI h cf11 o200 f11_62 lX11_552 (dt t_M_game 52 rfl) ?_
    refine SW_icmp_ge (tgt := 145) h (fun _ => hx4) (fun _ => (okI ok 200 62 (IsO.n3 o200))) (dt t_M_game 53 rfl) rfl hf (fun hf => ?_) (fun hf => ?_)
    · exact SW_fgt [true, false, true, true, false] rfl (hex σ hf ok)
    · refine SW_aload_n h rfl (dt t_M_game 54 rfl) ?_
      refine gR h cf11 o200 f11_63 j200_63 lX11_140 (dt t_M_game 55 rfl) ?_
      refine SW_bipush h (dt t_M_game 56 rfl) (by decide) ?_
      refine SW_iload_n h rfl (dt t_M_game 57 rfl) ?_
      refine SW_imul h (dt t_M_game 58 rfl) ?_
      refine SW_iload h rfl (dt t_M_game 59 rfl) ?_
      refine SW_iadd h (dt t_M_game 60 rfl) ?_
      refine SW_iload_n h rfl (dt t_M_game 61 rfl) ?_
      refine SW_iconst h (dt t_M_game 62 rfl) ?_
      refine SW_aload_n h rfl (dt t_M_game 63 rfl) ?_
      refine gI h cf11 o200 f11_62 lX11_552 (dt t_M_game 64 rfl) ?_
      refine SW_ishl h (dt t_M_game 65 rfl) ?_
      refine SW_iconst h (dt t_M_game 66 rfl) ?_
      refine SW_isub h (dt t_M_game 67 rfl) ?_
      refine SW_chk hf (fun h15 hf => ?_)
      refine bJ hf (fun J16 e16 hf => ?_)
      have k16 : ∀ (y16 : Int) (t16 : Mm) (hy16 : r32 y16) (ot16 : okM t16) (hf : J16 y16 t16 = some res), SW X 1 5 138 [some (.ref (xad X 200)), none, some (.int (i32 x2)), some (.int (i32 x3)), some (.int (i32 x4))] [.int (i32 y16), .int (i32 ((7 * x3) + x4)), .ref (xad X 241)] t16 := by
        intro y16 t16 hy16 ot16 hf
        rw [e16] at hf
        refine sZ h a241 (dt t_M_game 78 rfl) hf (fun hf => SW_bm hf (fun s17 ok17 hf => ?_))
        refine SW_iinc (lv2 := [some (.ref (xad X 200)), none, some (.int (i32 x2)), some (.int (i32 x3)), some (.int (i32 (x4 + 1)))]) h (dt t_M_game 79 rfl) rfl (by decide) rfl ?_
        refine SW_goto (tgt := 90) h (dt t_M_game 80 rfl) rfl ?_
        refine SW_chk hf (fun h18 hf => ?_)
        exact SW_fgt [true, false, true, true, true] rfl (ih (x4 + 1) s17 h18 ok17 hf)
      refine bJ hf (fun J19 e19 hf => ?_)
      have k19 : ∀  (t19 : Mm)  (ot19 : okM t19) (hf : J19 t19 = some res), SW X 1 5 133 [some (.ref (xad X 200)), none, some (.int (i32 x2)), some (.int (i32 x3)), some (.int (i32 x4))] [.int (i32 ((7 * x3) + x4)), .ref (xad X 241)] t19 := by
        intro t19 ot19 hf
        rw [e19] at hf
        refine SW_iconst h (dt t_M_game 75 rfl) ?_
        refine SW_goto (tgt := 138) h (dt t_M_game 76 rfl) rfl ?_
        exact SW_fgt [true, false, true, true, true] rfl (k16 1 t19 (by decide) ot19 hf)
      refine SW_icmp_eq (tgt := 133) h (fun _ => hx3) (fun _ => h15) (dt t_M_game 68 rfl) rfl hf (fun hf => ?_) (fun hf => ?_)
      · exact SW_fgt [true, false, true, true, true] rfl (k19 σ ok hf)
      · refine SW_aload_n h rfl (dt t_M_game 69 rfl) ?_
        refine SW_iload_n h rfl (dt t_M_game 70 rfl) ?_
        refine SW_iload h rfl (dt t_M_game 71 rfl) ?_
        obtain ⟨v20, s20, e20, hf⟩ := b1M_of hf
        refine cV h [.int (i32 x3), .int (i32 x4)] [.int (i32 ((7 * x3) + x4)), .ref (xad X 241)] v_X11_goodOf kX11_558 o200 (c_M_goodOf x3 hx3 x4 hx4 e20) rfl rfl (by decide) (by decide) rfl (Nat.le_of_ble_eq_true rfl) (dt t_M_game 72 rfl) (fun h20 => ?_)
        refine SW_ok (fun ok20 => ?_)
        refine SW_iconst h (dt t_M_game 73 rfl) ?_
        refine SW_icmp_eq (tgt := 137) h (fun _ => h20) (fun _ => (by decide)) (dt t_M_game 74 rfl) rfl hf (fun hf => ?_) (fun hf => ?_)
        · refine SW_iconst h (dt t_M_game 77 rfl) ?_
          exact SW_fgt [true, false, true, true, true] rfl (k16 0 s20 (by decide) ok20 hf)
        · exact SW_fgt [true, false, true, true, true] rfl (k19 s20 ok20 hf)
def L_M_game_83 : Nat → Int → Mm → Option (Mm)
  | 0, _, _ => none
  | n + 1, x3, σ =>
    if x3 ≤ 0 then
      some σ
    else
      b0M (L_M_game_90 LF x3 0 σ) fun s21 =>
      if r32 (x3 + (-1)) then
        L_M_game_83 n (x3 + (-1)) s21
      else none
set_option maxRecDepth 100000 in
set_option maxHeartbeats 4000000 in
theorem l_M_game_83 {X : Cx} (h : CX X 1 cX11_game 5 6 (some .int) RX11) (x2 : Int) (hx2 : r32 x2) {res : Mm} (hex : ∀  (σ : Mm) (hz : some σ = some res)  (ok : okM σ), SW X 1 5 151 [some (.ref (xad X 200)), none, some (.int (i32 x2)), none, none] [] σ) : ∀ (n : Nat) (x3 : Int) (σ : Mm) (hx3 : r32 x3) (ok : okM σ) (hf : L_M_game_83 n x3 σ = some res), SW X 1 5 83 [some (.ref (xad X 200)), none, some (.int (i32 x2)), some (.int (i32 x3)), none] [] σ := by
  intro n
  induction n with
  | zero => intro x3 σ hx3 ok hf; exact absurd hf (by simp [L_M_game_83])
  | succ n ih =>
    intro x3 σ hx3 ok hf
    rw [L_M_game_83] at hf
    refine SW_iload_n h rfl (dt t_M_game 46 rfl) ?_
    refine SW_if_le (tgt := 151) h (fun _ => hx3) (dt t_M_game 47 rfl) rfl hf (fun hf => ?_) (fun hf => ?_)
    · exact SW_fgt [true, false, true, false, false] rfl (hex σ hf ok)
    · refine SW_iconst h (dt t_M_game 48 rfl) ?_
      refine SW_istore (lv2 := [some (.ref (xad X 200)), none, some (.int (i32 x2)), some (.int (i32 x3)), some (.int (i32 0))]) h (dt t_M_game 49 rfl) (by decide) rfl ?_
      obtain ⟨z21, e21, hk21⟩ := b0M_ex hf
      refine SW_fgt [true, false, true, true, true] rfl (l_M_game_90 h x2 x3 hx2 hx3 (fun s21 hz21 ok21 => ?_) LF 0 σ (by decide) ok e21)
      have hf := hk21 s21 hz21
      refine SW_iinc (lv2 := [some (.ref (xad X 200)), none, some (.int (i32 x2)), some (.int (i32 (x3 + (-1)))), none]) h (dt t_M_game 81 rfl) rfl (by decide) rfl ?_
      refine SW_goto (tgt := 83) h (dt t_M_game 82 rfl) rfl ?_
      refine SW_chk hf (fun h22 hf => ?_)
      exact SW_fgt [true, false, true, true, false] rfl (ih (x3 + (-1)) s21 h22 ok21 hf)
def F_M_game (x1 : Int) (x2 : Int) (σ : Mm) : Option (Int × Mm) :=
  b1 (F_M_in x1 1 1023) fun v1 =>
  if v1 = 0 then
    some ((-2), σ)
  else
    b1 (F_M_many x1) fun v2 =>
    if v2 ≤ 6 then
      b0M (F_M_laysNow  σ) fun s3 =>
      bindM (st2 s3 200 62 0) fun s5 =>
      b0M (L_M_game_34 LF x1 0 s5) fun s13 =>
      bindM ((ishl 1 (s13 200 62)) - 1) fun v14 =>
      if r32 v14 then
        b0M (L_M_game_83 LF v14 s13) fun s23 =>
        b1M (F_M_goodOf 0 (s23 200 62) s23) fun v25 s25 =>
        if x2 = 0 then
          if v25 = (-1) then
            some (0, s25)
          else
            some (1, s25)
        else
          if v25 = (-1) then
            some ((-1), s25)
          else
            if 0 ≤ v25 ∧ v25 < 6 then
              some (s25 240 v25.toNat, s25)
            else none
      else none
    else
      some ((-2), σ)
set_option maxRecDepth 100000 in
set_option maxHeartbeats 4000000 in
theorem c_M_game (x1 : Int) (hx1 : r32 x1) (x2 : Int) (hx2 : r32 x2) {σ : Mm} {a : Int} {σ2 : Mm} (hf : F_M_game x1 x2 σ = some (a, σ2)) : CT yX11_game cX11_game 5 (some .int) 6 1 (fun ad => [.ref (ad 200), .int (i32 x1), .int (i32 x2)]) σ (r32 a) (some (.int (i32 a))) σ2 := by
  refine MetJ 2 (by decide +kernel) rfl (fun _ => Nat.le_of_ble_eq_true rfl) ?_
  intro X h hR ok
  obtain ⟨res, er⟩ : ∃ z, z = (a, σ2) := ⟨_, rfl⟩
  have hret : ∀ y : Int × Mm, some y = some res → RX X 1 (r32 (y.1)) (some (.int (i32 (y.1)))) y.2 := fun y e => by cases e; cases er; exact hR
  rw [← er] at hf
  clear er hR
  unfold F_M_game at hf
  show SW X 1 5 0 [some (.ref (xad X 200)), some (.int (i32 x1)), some (.int (i32 x2)), none, none] [] σ
  refine SW_iload_n h rfl (dt t_M_game 0 rfl) ?_
  refine SW_iconst h (dt t_M_game 1 rfl) ?_
  refine SW_sipush h (dt t_M_game 2 rfl) (by decide) ?_
  obtain ⟨v1, e1, hf⟩ := b1_of hf
  refine cS h [.int (i32 x1), .int (i32 1), .int (i32 1023)] [] v_X11_in kX11_150 (c_M_in x1 hx1 1 (by decide) 1023 (by decide) e1) rfl rfl (by decide) (by decide) rfl (Nat.le_of_ble_eq_true rfl) (dt t_M_game 3 rfl) (fun h1 => ?_)
  refine SW_if_eq (tgt := 20) h (fun _ => (r_zo h1)) (dt t_M_game 4 rfl) rfl hf (fun hf => ?_) (fun hf => ?_)
  · refine SW_bipush h (dt t_M_game 9 rfl) (by decide) ?_
    exact SW_iret h (hret _ hf) (fun _ => (by decide)) rfl (dt t_M_game 10 rfl)
  · refine SW_iload_n h rfl (dt t_M_game 5 rfl) ?_
    obtain ⟨v2, e2, hf⟩ := b1_of hf
    refine cS h [.int (i32 x1)] [] v_X11_many kX11_456 (c_M_many x1 hx1 e2) rfl rfl (by decide) (by decide) rfl (Nat.le_of_ble_eq_true rfl) (dt t_M_game 6 rfl) (fun h2 => ?_)
    refine SW_bipush h (dt t_M_game 7 rfl) (by decide) ?_
    refine SW_icmp_le (tgt := 23) h (fun _ => h2) (fun _ => (by decide)) (dt t_M_game 8 rfl) rfl hf (fun hf => ?_) (fun hf => ?_)
    · refine SW_aload_n h rfl (dt t_M_game 11 rfl) ?_
      obtain ⟨s3, e3, hf⟩ := b0M_of hf
      refine cVv h [] [] v_X11_laysNow kX11_446 o200 (c_M_laysNow  e3) rfl rfl (by decide) (by decide) rfl (Nat.le_of_ble_eq_true rfl) (dt t_M_game 12 rfl) (fun h3 => ?_)
      refine SW_ok (fun ok3 => ?_)
      refine SW_aload_n h rfl (dt t_M_game 13 rfl) ?_
      refine SW_iconst h (dt t_M_game 14 rfl) ?_
      refine pI h cf11 o200 f11_62 (by decide) lX11_552 (dt t_M_game 15 rfl) (SW_bm hf (fun s5 ok5 hf => ?_))
      refine SW_iconst h (dt t_M_game 16 rfl) ?_
      refine SW_istore_n (lv2 := [some (.ref (xad X 200)), some (.int (i32 x1)), some (.int (i32 x2)), some (.int (i32 0)), none]) h (dt t_M_game 17 rfl) (by decide) rfl ?_
      obtain ⟨z13, e13, hk13⟩ := b0M_ex hf
      refine SW_fgt [true, true, true, true, false] rfl (l_M_game_34 h x1 x2 hx1 hx2 (fun s13 hz13 ok13 => ?_) LF 0 s5 (by decide) ok5 e13)
      have hf := hk13 s13 hz13
      refine SW_iconst h (dt t_M_game 39 rfl) ?_
      refine SW_aload_n h rfl (dt t_M_game 40 rfl) ?_
      refine gI h cf11 o200 f11_62 lX11_552 (dt t_M_game 41 rfl) ?_
      refine SW_ishl h (dt t_M_game 42 rfl) ?_
      refine SW_iconst h (dt t_M_game 43 rfl) ?_
      refine SW_isub h (dt t_M_game 44 rfl) ?_
      refine SW_vu hf (fun v14 hf => ?_)
      refine SW_istore_n (lv2 := [some (.ref (xad X 200)), none, some (.int (i32 x2)), some (.int (i32 v14)), none]) h (dt t_M_game 45 rfl) (by decide) rfl ?_
      refine SW_chk hf (fun h24 hf => ?_)
      obtain ⟨z23, e23, hk23⟩ := b0M_ex hf
      refine SW_fgt [true, false, true, true, false] rfl (l_M_game_83 h x2 hx2 (fun s23 hz23 ok23 => ?_) LF v14 s13 h24 ok13 e23)
      have hf := hk23 s23 hz23
      refine SW_aload_n h rfl (dt t_M_game 83 rfl) ?_
      refine SW_iconst h (dt t_M_game 84 rfl) ?_
      refine SW_aload_n h rfl (dt t_M_game 85 rfl) ?_
      refine gI h cf11 o200 f11_62 lX11_552 (dt t_M_game 86 rfl) ?_
      obtain ⟨v25, s25, e25, hf⟩ := b1M_of hf
      refine cV h [.int (i32 0), .int (i32 (s23 200 62))] [] v_X11_goodOf kX11_558 o200 (c_M_goodOf 0 (by decide) (s23 200 62) (okI ok23 200 62 (IsO.n3 o200)) e25) rfl rfl (by decide) (by decide) rfl (Nat.le_of_ble_eq_true rfl) (dt t_M_game 87 rfl) (fun h25 => ?_)
      refine SW_ok (fun ok25 => ?_)
      refine SW_istore_n (lv2 := [some (.ref (xad X 200)), none, some (.int (i32 x2)), some (.int (i32 v25)), none]) h (dt t_M_game 88 rfl) (by decide) rfl ?_
      refine SW_iload_n h rfl (dt t_M_game 89 rfl) ?_
      refine SW_if_ne (tgt := 178) h (fun _ => hx2) (dt t_M_game 90 rfl) rfl hf (fun hf => ?_) (fun hf => ?_)
      · refine SW_iload_n h rfl (dt t_M_game 91 rfl) ?_
        refine SW_iconst h (dt t_M_game 92 rfl) ?_
        refine SW_icmp_ne (tgt := 174) h (fun _ => h25) (fun _ => (by decide)) (dt t_M_game 93 rfl) rfl hf (fun hf => ?_) (fun hf => ?_)
        · refine SW_iconst h (dt t_M_game 94 rfl) ?_
          refine SW_goto (tgt := 193) h (dt t_M_game 95 rfl) rfl ?_
          exact SW_iret h (hret _ hf) (fun _ => (by decide)) rfl (dt t_M_game 107 rfl)
        · refine SW_iconst h (dt t_M_game 96 rfl) ?_
          refine SW_goto (tgt := 193) h (dt t_M_game 97 rfl) rfl ?_
          exact SW_iret h (hret _ hf) (fun _ => (by decide)) rfl (dt t_M_game 107 rfl)
      · refine SW_iload_n h rfl (dt t_M_game 98 rfl) ?_
        refine SW_iconst h (dt t_M_game 99 rfl) ?_
        refine SW_icmp_ne (tgt := 187) h (fun _ => h25) (fun _ => (by decide)) (dt t_M_game 100 rfl) rfl hf (fun hf => ?_) (fun hf => ?_)
        · refine SW_iconst h (dt t_M_game 101 rfl) ?_
          refine SW_goto (tgt := 193) h (dt t_M_game 102 rfl) rfl ?_
          exact SW_iret h (hret _ hf) (fun _ => (by decide)) rfl (dt t_M_game 107 rfl)
        · refine SW_aload_n h rfl (dt t_M_game 103 rfl) ?_
          refine gR h cf11 o200 f11_61 j200_61 lX11_137 (dt t_M_game 104 rfl) ?_
          refine SW_iload_n h rfl (dt t_M_game 105 rfl) ?_
          refine aI h a240 (dt t_M_game 106 rfl) hf (fun hf => ?_)
          exact SW_iret h (hret _ hf) (fun _ => (okI ok25 240 v25.toNat (IsA.n3 a240 (by decide)))) rfl (dt t_M_game 107 rfl)
    · refine SW_bipush h (dt t_M_game 9 rfl) (by decide) ?_
      exact SW_iret h (hret _ hf) (fun _ => (by decide)) rfl (dt t_M_game 10 rfl)
def b_M_isAsking : List (Nat × Instr × Nat) := [(0, .iload_n 0, 1), (1, .bipush 60, 2), (3, .if_icmp .eq 35, 3), (6, .iload_n 0, 1), (7, .bipush 62, 2), (9, .if_icmp .eq 29, 3), (12, .iload_n 0, 1), (13, .bipush 61, 2), (15, .if_icmp .eq 23, 3), (18, .iload_n 0, 1), (19, .bipush 35, 2), (21, .if_icmp .eq 17, 3), (24, .iload_n 0, 1), (25, .sipush 300, 3), (28, .if_icmp .eq 10, 3), (31, .iload_n 0, 1), (32, .sipush 301, 3), (35, .if_icmp .ne 7, 3), (38, .iconst 1, 1), (39, .goto 4, 3), (42, .iconst 0, 1), (43, .ireturn, 1)]
theorem t_M_isAsking : DT cX11_isAsking b_M_isAsking := DT.of (by decide +kernel)
def F_M_isAsking (x0 : Int) : Option (Int) :=
  if x0 = 60 then
    some 1
  else
    if x0 = 62 then
      some 1
    else
      if x0 = 61 then
        some 1
      else
        if x0 = 35 then
          some 1
        else
          if x0 = 300 then
            some 1
          else
            if x0 = 301 then
              some 1
            else
              some 0
set_option maxRecDepth 100000 in
set_option maxHeartbeats 4000000 in
theorem c_M_isAsking (x0 : Int) (hx0 : r32 x0) {σ : Mm} {a : Int} (hf : F_M_isAsking x0 = some a) : CT yX11_isAsking cX11_isAsking 1 (some .boolean) 0 1 (fun ad => [.int (i32 x0)]) σ (a = 0 ∨ a = 1) (some (.int (i32 a))) σ := by
  refine MetJ 0 (by decide +kernel) rfl (fun _ => Nat.le_of_ble_eq_true rfl) ?_
  intro X h hR ok
  obtain ⟨res, er⟩ : ∃ z, z = a := ⟨_, rfl⟩
  have hret : ∀ y : Int, some y = some res → RX X 1 (y = 0 ∨ y = 1) (some (.int (i32 (y)))) σ := fun y e => by cases e; cases er; exact hR
  rw [← er] at hf
  clear er hR
  unfold F_M_isAsking at hf
  show SW X 1 1 0 [some (.int (i32 x0))] [] σ
  refine SW_iload_n h rfl (dt t_M_isAsking 0 rfl) ?_
  refine SW_bipush h (dt t_M_isAsking 1 rfl) (by decide) ?_
  refine SW_icmp_eq (tgt := 38) h (fun _ => hx0) (fun _ => (by decide)) (dt t_M_isAsking 2 rfl) rfl hf (fun hf => ?_) (fun hf => ?_)
  · refine SW_iconst h (dt t_M_isAsking 18 rfl) ?_
    refine SW_goto (tgt := 43) h (dt t_M_isAsking 19 rfl) rfl ?_
    exact SW_zret h (hret _ hf) (by decide) rfl (dt t_M_isAsking 21 rfl)
  · refine SW_iload_n h rfl (dt t_M_isAsking 3 rfl) ?_
    refine SW_bipush h (dt t_M_isAsking 4 rfl) (by decide) ?_
    refine SW_icmp_eq (tgt := 38) h (fun _ => hx0) (fun _ => (by decide)) (dt t_M_isAsking 5 rfl) rfl hf (fun hf => ?_) (fun hf => ?_)
    · refine SW_iconst h (dt t_M_isAsking 18 rfl) ?_
      refine SW_goto (tgt := 43) h (dt t_M_isAsking 19 rfl) rfl ?_
      exact SW_zret h (hret _ hf) (by decide) rfl (dt t_M_isAsking 21 rfl)
    · refine SW_iload_n h rfl (dt t_M_isAsking 6 rfl) ?_
      refine SW_bipush h (dt t_M_isAsking 7 rfl) (by decide) ?_
      refine SW_icmp_eq (tgt := 38) h (fun _ => hx0) (fun _ => (by decide)) (dt t_M_isAsking 8 rfl) rfl hf (fun hf => ?_) (fun hf => ?_)
      · refine SW_iconst h (dt t_M_isAsking 18 rfl) ?_
        refine SW_goto (tgt := 43) h (dt t_M_isAsking 19 rfl) rfl ?_
        exact SW_zret h (hret _ hf) (by decide) rfl (dt t_M_isAsking 21 rfl)
      · refine SW_iload_n h rfl (dt t_M_isAsking 9 rfl) ?_
        refine SW_bipush h (dt t_M_isAsking 10 rfl) (by decide) ?_
        refine SW_icmp_eq (tgt := 38) h (fun _ => hx0) (fun _ => (by decide)) (dt t_M_isAsking 11 rfl) rfl hf (fun hf => ?_) (fun hf => ?_)
        · refine SW_iconst h (dt t_M_isAsking 18 rfl) ?_
          refine SW_goto (tgt := 43) h (dt t_M_isAsking 19 rfl) rfl ?_
          exact SW_zret h (hret _ hf) (by decide) rfl (dt t_M_isAsking 21 rfl)
        · refine SW_iload_n h rfl (dt t_M_isAsking 12 rfl) ?_
          refine SW_sipush h (dt t_M_isAsking 13 rfl) (by decide) ?_
          refine SW_icmp_eq (tgt := 38) h (fun _ => hx0) (fun _ => (by decide)) (dt t_M_isAsking 14 rfl) rfl hf (fun hf => ?_) (fun hf => ?_)
          · refine SW_iconst h (dt t_M_isAsking 18 rfl) ?_
            refine SW_goto (tgt := 43) h (dt t_M_isAsking 19 rfl) rfl ?_
            exact SW_zret h (hret _ hf) (by decide) rfl (dt t_M_isAsking 21 rfl)
          · refine SW_iload_n h rfl (dt t_M_isAsking 15 rfl) ?_
            refine SW_sipush h (dt t_M_isAsking 16 rfl) (by decide) ?_
            refine SW_icmp_ne (tgt := 42) h (fun _ => hx0) (fun _ => (by decide)) (dt t_M_isAsking 17 rfl) rfl hf (fun hf => ?_) (fun hf => ?_)
            · refine SW_iconst h (dt t_M_isAsking 18 rfl) ?_
              refine SW_goto (tgt := 43) h (dt t_M_isAsking 19 rfl) rfl ?_
              exact SW_zret h (hret _ hf) (by decide) rfl (dt t_M_isAsking 21 rfl)
            · refine SW_iconst h (dt t_M_isAsking 20 rfl) ?_
              exact SW_zret h (hret _ hf) (by decide) rfl (dt t_M_isAsking 21 rfl)
def b_M_goesOn : List (Nat × Instr × Nat) := [(0, .aload_n 0, 1), (1, .invokevirtual 317, 3), (4, .istore_n 1, 1), (5, .aload_n 0, 1), (6, .getfield 234, 3), (9, .iconst 3, 1), (10, .if_icmp .ne 64, 3), (13, .aload_n 0, 1), (14, .getfield 247, 3), (17, .bipush 43, 2), (19, .if_icmp .eq 39, 3), (22, .aload_n 0, 1), (23, .getfield 247, 3), (26, .bipush 45, 2), (28, .if_icmp .eq 30, 3), (31, .aload_n 0, 1), (32, .getfield 247, 3), (35, .bipush 42, 2), (37, .if_icmp .eq 21, 3), (40, .aload_n 0, 1), (41, .getfield 247, 3), (44, .bipush 47, 2), (46, .if_icmp .eq 12, 3), (49, .aload_n 0, 1), (50, .getfield 247, 3), (53, .bipush 37, 2), (55, .if_icmp .ne 19, 3), (58, .aload_n 0, 1), (59, .aload_n 0, 1), (60, .getfield 247, 3), (63, .invokevirtual 320, 3), (66, .aload_n 0, 1), (67, .iconst 1, 1), (68, .putfield 295, 3), (71, .goto 327, 3), (74, .iload_n 1, 1), (75, .bipush 6, 2), (77, .if_icmp .ne 48, 3), (80, .aload_n 0, 1), (81, .bipush 41, 2), (83, .invokevirtual 298, 3), (86, .ifCond .eq 39, 3), (89, .aload_n 0, 1), (90, .iconst 3, 1), (91, .invokevirtual 286, 3), (94, .aload_n 0, 1), (95, .dup, 1), (96, .getfield 260, 3), (99, .iconst 1, 1), (100, .isub, 1), (101, .putfield 260, 3), (104, .aload_n 0, 1), (105, .dup, 1), (106, .getfield 263, 3), (109, .iconst 1, 1), (110, .isub, 1), (111, .putfield 263, 3), (114, .aload_n 0, 1), (115, .invokevirtual 272, 3), (118, .aload_n 0, 1), (119, .invokevirtual 304, 3), (122, .goto 276, 3), (125, .iload_n 1, 1), (126, .bipush 8, 2), (128, .if_icmp .eq 9, 3), (131, .iload_n 1, 1), (132, .bipush 9, 2), (134, .if_icmp .ne 53, 3), (137, .aload_n 0, 1), (138, .bipush 44, 2), (140, .invokevirtual 298, 3), (143, .ifCond .eq 44, 3), (146, .aload_n 0, 1), (147, .iconst 3, 1), (148, .invokevirtual 286, 3), (151, .aload_n 0, 1), (152, .getfield 51, 3), (155, .aload_n 0, 1), (156, .getfield 260, 3), (159, .iconst 1, 1), (160, .isub, 1), (161, .iload_n 1, 1), (162, .bipush 8, 2), (164, .if_icmp .ne 8, 3), (167, .bipush 10, 2), (169, .goto 5, 3), (172, .bipush 11, 2), (174, .iastore, 1), (175, .aload_n 0, 1), (176, .invokevirtual 272, 3), (179, .aload_n 0, 1), (180, .iconst 1, 1), (181, .putfield 295, 3), (184, .goto 214, 3), (187, .iload_n 1, 1), (188, .bipush 10, 2), (190, .if_icmp .eq 9, 3), (193, .iload_n 1, 1), (194, .bipush 11, 2), (196, .if_icmp .ne 68, 3), (199, .aload_n 0, 1), (200, .bipush 41, 2), (202, .invokevirtual 298, 3), (205, .ifCond .eq 59, 3), (208, .aload_n 0, 1), (209, .iconst 3, 1), (210, .invokevirtual 286, 3), (213, .aload_n 0, 1), (214, .dup, 1), (215, .getfield 260, 3), (218, .iconst 1, 1), (219, .isub, 1), (220, .putfield 260, 3), (223, .aload_n 0, 1), (224, .dup, 1), (225, .getfield 263, 3), (228, .iconst 1, 1), (229, .isub, 1), (230, .putfield 263, 3), (233, .aload_n 0, 1), (234, .iload_n 1, 1), (235, .bipush 10, 2), (237, .if_icmp .ne 9, 3), (240, .sipush 404, 3), (243, .goto 6, 3), (246, .sipush 403, 3), (249, .iconst 0, 1), (250, .invokevirtual 282, 3), (253, .aload_n 0, 1), (254, .invokevirtual 272, 3), (257, .aload_n 0, 1), (258, .invokevirtual 304, 3), (261, .goto 137, 3), (264, .iload_n 1, 1), (265, .iconst 4, 1), (266, .if_icmp .ne 63, 3), (269, .aload_n 0, 1), (270, .getfield 234, 3), (273, .iconst 3, 1), (274, .if_icmp .ne 55, 3), (277, .aload_n 0, 1), (278, .getfield 247, 3), (281, .invokestatic 323, 3), (284, .ifCond .eq 45, 3), (287, .aload_n 0, 1), (288, .iconst 3, 1), (289, .invokevirtual 286, 3), (292, .aload_n 0, 1), (293, .getfield 54, 3), (296, .aload_n 0, 1), (297, .getfield 260, 3), (300, .aload_n 0, 1), (301, .getfield 247, 3), (304, .iastore, 1), (305, .aload_n 0, 1), (306, .getfield 51, 3), (309, .aload_n 0, 1), (310, .getfield 260, 3), (313, .iconst 1, 1), (314, .isub, 1), (315, .iconst 5, 1), (316, .iastore, 1), (317, .aload_n 0, 1), (318, .invokevirtual 272, 3), (321, .aload_n 0, 1), (322, .iconst 1, 1), (323, .putfield 295, 3), (326, .goto 72, 3), (329, .iload_n 1, 1), (330, .iconst 5, 1), (331, .if_icmp .ne 41, 3), (334, .aload_n 0, 1), (335, .iconst 3, 1), (336, .invokevirtual 286, 3), (339, .aload_n 0, 1), (340, .getfield 54, 3), (343, .aload_n 0, 1), (344, .getfield 260, 3), (347, .iaload, 1), (348, .istore_n 2, 1), (349, .aload_n 0, 1), (350, .dup, 1), (351, .getfield 260, 3), (354, .iconst 1, 1), (355, .isub, 1), (356, .putfield 260, 3), (359, .aload_n 0, 1), (360, .iload_n 2, 1), (361, .iconst 0, 1), (362, .invokevirtual 282, 3), (365, .aload_n 0, 1), (366, .invokevirtual 326, 3), (369, .goto 29, 3), (372, .iload_n 1, 1), (373, .iconst 1, 1), (374, .if_icmp .ne 19, 3), (377, .aload_n 0, 1), (378, .bipush 59, 2), (380, .invokevirtual 298, 3), (383, .ifCond .eq 10, 3), (386, .aload_n 0, 1), (387, .invokevirtual 329, 3), (390, .goto 8, 3), (393, .aload_n 0, 1), (394, .iconst 1, 1), (395, .invokevirtual 266, 3), (398, .return_, 1)]
theorem t_M_goesOn : DT cX11_goesOn b_M_goesOn := DT.of (by decide +kernel)
def F_M_goesOn  (σ : Mm) : Option (Mm) :=
  b1 (F_M_top  σ) fun v1 =>
  bindM (
    bindM (
      bindM (
        bindM (
          bindM (
            if v1 = 5 then
              b0M (F_M_works 3 σ) fun s7 =>
              if 0 ≤ s7 200 22 ∧ s7 200 22 < 41 then
                bindM (s7 213 ((s7 200 22).toNat)) fun v8 =>
                if r32 ((s7 200 22) - 1) then
                  bindM (st2 s7 200 22 ((s7 200 22) - 1)) fun s11 =>
                  b0M (F_M_emits v8 0 s11) fun s12 =>
                  b0M (F_M_askIsOver  s12) fun s13 =>
                  some s13
                else none
              else none
            else
              bindM (
                b0M (F_M_errs 1 σ) fun s15 =>
                some s15) fun J14 =>
              if v1 = 1 then
                b1 (F_M_isSign 59 σ) fun v16 =>
                if v16 = 0 then
                  J14
                else
                  b0M (F_M_clauseIsOver  σ) fun s17 =>
                  some s17
              else
                J14) fun J6 =>
          if v1 = 4 then
            if σ 200 17 = 3 then
              b1 (F_M_isAsking (σ 200 18)) fun v18 =>
              if v18 = 0 then
                J6
              else
                b0M (F_M_works 3 σ) fun s19 =>
                if 0 ≤ s19 200 22 ∧ s19 200 22 < 41 then
                  bindM (st2 s19 213 ((s19 200 22).toNat) (s19 200 18)) fun s20 =>
                  if 0 ≤ (s20 200 22) - 1 ∧ (s20 200 22) - 1 < 40 then
                    bindM (st2 s20 212 (((s20 200 22) - 1).toNat) 5) fun s21 =>
                    b0M (F_M_next  s21) fun s22 =>
                    bindM (st2 s22 200 28 1) fun s24 =>
                    some s24
                  else none
                else none
            else
              J6
          else
            J6) fun J5 =>
        bindM (
          b1 (F_M_isSign 41 σ) fun v26 =>
          if v26 = 0 then
            J5
          else
            b0M (F_M_works 3 σ) fun s27 =>
            if r32 ((s27 200 22) - 1) then
              bindM (st2 s27 200 22 ((s27 200 22) - 1)) fun s30 =>
              if r32 ((s30 200 21) - 1) then
                bindM (st2 s30 200 21 ((s30 200 21) - 1)) fun s33 =>
                bindM ((if v1 = 10 then 404 else 403 : Int)) fun v34 =>
                b0M (F_M_emits v34 0 s33) fun s35 =>
                b0M (F_M_next  s35) fun s36 =>
                b0M (F_M_oneIsOver  s36) fun s37 =>
                some s37
              else none
            else none) fun J25 =>
        if v1 = 10 then
          J25
        else
          if v1 = 11 then
            J25
          else
            J5) fun J4 =>
      bindM (
        b1 (F_M_isSign 44 σ) fun v39 =>
        if v39 = 0 then
          J4
        else
          b0M (F_M_works 3 σ) fun s40 =>
          bindM ((if v1 = 8 then 10 else 11 : Int)) fun v41 =>
          if 0 ≤ (s40 200 22) - 1 ∧ (s40 200 22) - 1 < 40 then
            bindM (st2 s40 212 (((s40 200 22) - 1).toNat) v41) fun s42 =>
            b0M (F_M_next  s42) fun s43 =>
            bindM (st2 s43 200 28 1) fun s45 =>
            some s45
          else none) fun J38 =>
      if v1 = 8 then
        J38
      else
        if v1 = 9 then
          J38
        else
          J4) fun J3 =>
    if v1 = 6 then
      b1 (F_M_isSign 41 σ) fun v46 =>
      if v46 = 0 then
        J3
      else
        b0M (F_M_works 3 σ) fun s47 =>
        if r32 ((s47 200 22) - 1) then
          bindM (st2 s47 200 22 ((s47 200 22) - 1)) fun s50 =>
          if r32 ((s50 200 21) - 1) then
            bindM (st2 s50 200 21 ((s50 200 21) - 1)) fun s53 =>
            b0M (F_M_next  s53) fun s54 =>
            b0M (F_M_oneIsOver  s54) fun s55 =>
            some s55
          else none
        else none
    else
      J3) fun J2 =>
  if σ 200 17 = 3 then
    bindM (
      b0M (F_M_waitsFor (σ 200 18) σ) fun s57 =>
      bindM (st2 s57 200 28 1) fun s59 =>
      some s59) fun J56 =>
    if σ 200 18 = 43 then
      J56
    else
      if σ 200 18 = 45 then
        J56
      else
        if σ 200 18 = 42 then
          J56
        else
          if σ 200 18 = 47 then
            J56
          else
            if σ 200 18 = 37 then
              J56
            else
              J2
  else
    J2
set_option maxRecDepth 100000 in
set_option maxHeartbeats 4000000 in
theorem c_M_goesOn  {σ : Mm} {σ2 : Mm} (hf : F_M_goesOn  σ = some σ2) : CT yX11_goesOn cX11_goesOn 3 none 4 1 (fun ad => [.ref (ad 200)]) σ True none σ2 := by
  refine MetJ 2 (by decide +kernel) rfl (fun _ => Nat.le_of_ble_eq_true rfl) ?_
  intro X h hR ok
  obtain ⟨res, er⟩ : ∃ z, z = σ2 := ⟨_, rfl⟩
  have hret : ∀ y : Mm, some y = some res → RX X 1 True none y := fun y e => by cases e; cases er; exact hR
  rw [← er] at hf
  clear er hR
  unfold F_M_goesOn at hf
  show SW X 1 3 0 [some (.ref (xad X 200)), none, none] [] σ
  refine SW_aload_n h rfl (dt t_M_goesOn 0 rfl) ?_
  obtain ⟨v1, e1, hf⟩ := b1_of hf
  refine cV h [] [] v_X11_top kX11_317 o200 (c_M_top  e1) rfl rfl (by decide) (by decide) rfl (Nat.le_of_ble_eq_true rfl) (dt t_M_goesOn 1 rfl) (fun h1 => ?_)
  refine SW_istore_n (lv2 := [some (.ref (xad X 200)), some (.int (i32 v1)), none]) h (dt t_M_goesOn 2 rfl) (by decide) rfl ?_
  refine SW_aload_n h rfl (dt t_M_goesOn 3 rfl) ?_
  refine gI h cf11 o200 f11_17 lX11_234 (dt t_M_goesOn 4 rfl) ?_
  refine SW_iconst h (dt t_M_goesOn 5 rfl) ?_
  refine bJ hf (fun J2 e2 hf => ?_)
  have k2 : ∀ (hf : J2 = some res), SW X 1 3 74 [some (.ref (xad X 200)), some (.int (i32 v1)), none] [] σ := by
    intro hf
    rw [e2] at hf
    refine SW_iload_n h rfl (dt t_M_goesOn 35 rfl) ?_
    refine SW_bipush h (dt t_M_goesOn 36 rfl) (by decide) ?_
    refine bJ hf (fun J3 e3 hf => ?_)
    have k3 : ∀ (hf : J3 = some res), SW X 1 3 125 [some (.ref (xad X 200)), some (.int (i32 v1)), none] [] σ := by
      intro hf
      rw [e3] at hf
      refine SW_iload_n h rfl (dt t_M_goesOn 62 rfl) ?_
      refine SW_bipush h (dt t_M_goesOn 63 rfl) (by decide) ?_
      refine bJ hf (fun J4 e4 hf => ?_)
      have k4 : ∀ (hf : J4 = some res), SW X 1 3 187 [some (.ref (xad X 200)), some (.int (i32 v1)), none] [] σ := by
        intro hf
        rw [e4] at hf
        refine SW_iload_n h rfl (dt t_M_goesOn 94 rfl) ?_
        refine SW_bipush h (dt t_M_goesOn 95 rfl) (by decide) ?_
        refine bJ hf (fun J5 e5 hf => ?_)
        have k5 : ∀ (hf : J5 = some res), SW X 1 3 264 [some (.ref (xad X 200)), some (.int (i32 v1)), none] [] σ := by
          intro hf
          rw [e5] at hf
          refine SW_iload_n h rfl (dt t_M_goesOn 133 rfl) ?_
          refine SW_iconst h (dt t_M_goesOn 134 rfl) ?_
          refine bJ hf (fun J6 e6 hf => ?_)
          have k6 : ∀ (hf : J6 = some res), SW X 1 3 329 [some (.ref (xad X 200)), some (.int (i32 v1)), none] [] σ := by
            intro hf
            rw [e6] at hf
            refine SW_iload_n h rfl (dt t_M_goesOn 168 rfl) ?_
            refine SW_iconst h (dt t_M_goesOn 169 rfl) ?_
            refine SW_icmp_ne (tgt := 372) h (fun _ => h1) (fun _ => (by decide)) (dt t_M_goesOn 170 rfl) rfl hf (fun hf => ?_) (fun hf => ?_)
            · refine SW_aload_n h rfl (dt t_M_goesOn 171 rfl) ?_
              refine SW_iconst h (dt t_M_goesOn 172 rfl) ?_
              obtain ⟨s7, e7, hf⟩ := b0M_of hf
              refine cVv h [.int (i32 3)] [] v_X11_works kX11_286 o200 (c_M_works 3 (by decide) e7) rfl rfl (by decide) (by decide) rfl (Nat.le_of_ble_eq_true rfl) (dt t_M_goesOn 173 rfl) (fun h7 => ?_)
              refine SW_ok (fun ok7 => ?_)
              refine SW_aload_n h rfl (dt t_M_goesOn 174 rfl) ?_
              refine gR h cf11 o200 f11_24 j200_24 lX11_54 (dt t_M_goesOn 175 rfl) ?_
              refine SW_aload_n h rfl (dt t_M_goesOn 176 rfl) ?_
              refine gI h cf11 o200 f11_22 lX11_260 (dt t_M_goesOn 177 rfl) ?_
              refine aI h a213 (dt t_M_goesOn 178 rfl) hf (fun hf => ?_)
              refine SW_vi hf (okI ok7 213 ((s7 200 22).toNat) (IsA.n3 a213 (by decide))) (fun v8 h8 hf => ?_)
              refine SW_istore_n (lv2 := [some (.ref (xad X 200)), some (.int (i32 v1)), some (.int (i32 v8))]) h (dt t_M_goesOn 179 rfl) (by decide) rfl ?_
              refine SW_aload_n h rfl (dt t_M_goesOn 180 rfl) ?_
              refine SW_dup h rfl (dt t_M_goesOn 181 rfl) ?_
              refine gI h cf11 o200 f11_22 lX11_260 (dt t_M_goesOn 182 rfl) ?_
              refine SW_iconst h (dt t_M_goesOn 183 rfl) ?_
              refine SW_isub h (dt t_M_goesOn 184 rfl) ?_
              refine SW_chk hf (fun h10 hf => ?_)
              refine pI h cf11 o200 f11_22 h10 lX11_260 (dt t_M_goesOn 185 rfl) (SW_bm hf (fun s11 ok11 hf => ?_))
              refine SW_aload_n h rfl (dt t_M_goesOn 186 rfl) ?_
              refine SW_iload_n h rfl (dt t_M_goesOn 187 rfl) ?_
              refine SW_iconst h (dt t_M_goesOn 188 rfl) ?_
              obtain ⟨s12, e12, hf⟩ := b0M_of hf
              refine cVv h [.int (i32 v8), .int (i32 0)] [] v_X11_emits kX11_282 o200 (c_M_emits v8 h8 0 (by decide) e12) rfl rfl (by decide) (by decide) rfl (Nat.le_of_ble_eq_true rfl) (dt t_M_goesOn 189 rfl) (fun h12 => ?_)
              refine SW_ok (fun ok12 => ?_)
              refine SW_aload_n h rfl (dt t_M_goesOn 190 rfl) ?_
              obtain ⟨s13, e13, hf⟩ := b0M_of hf
              refine cVv h [] [] v_X11_askIsOver kX11_326 o200 (c_M_askIsOver  e13) rfl rfl (by decide) (by decide) rfl (Nat.le_of_ble_eq_true rfl) (dt t_M_goesOn 191 rfl) (fun h13 => ?_)
              refine SW_ok (fun ok13 => ?_)
              refine SW_goto (tgt := 398) h (dt t_M_goesOn 192 rfl) rfl ?_
              exact SW_vret h (hret _ hf) rfl (dt t_M_goesOn 206 rfl)
            · refine SW_iload_n h rfl (dt t_M_goesOn 193 rfl) ?_
              refine SW_iconst h (dt t_M_goesOn 194 rfl) ?_
              refine bJ hf (fun J14 e14 hf => ?_)
              have k14 : ∀ (hf : J14 = some res), SW X 1 3 393 [some (.ref (xad X 200)), none, none] [] σ := by
                intro hf
                rw [e14] at hf
                refine SW_aload_n h rfl (dt t_M_goesOn 203 rfl) ?_
                refine SW_iconst h (dt t_M_goesOn 204 rfl) ?_
                obtain ⟨s15, e15, hf⟩ := b0M_of hf
                refine cVv h [.int (i32 1)] [] v_X11_errs kX11_266 o200 (c_M_errs 1 (by decide) e15) rfl rfl (by decide) (by decide) rfl (Nat.le_of_ble_eq_true rfl) (dt t_M_goesOn 205 rfl) (fun h15 => ?_)
                refine SW_ok (fun ok15 => ?_)
                exact SW_vret h (hret _ hf) rfl (dt t_M_goesOn 206 rfl)
              refine SW_icmp_ne (tgt := 393) h (fun _ => h1) (fun _ => (by decide)) (dt t_M_goesOn 195 rfl) rfl hf (fun hf => ?_) (fun hf => ?_)
              · refine SW_aload_n h rfl (dt t_M_goesOn 196 rfl) ?_
                refine SW_bipush h (dt t_M_goesOn 197 rfl) (by decide) ?_
                obtain ⟨v16, e16, hf⟩ := b1_of hf
                refine cV h [.int (i32 59)] [] v_X11_isSign kX11_298 o200 (c_M_isSign 59 (by decide) e16) rfl rfl (by decide) (by decide) rfl (Nat.le_of_ble_eq_true rfl) (dt t_M_goesOn 198 rfl) (fun h16 => ?_)
                refine SW_if_eq (tgt := 393) h (fun _ => (r_zo h16)) (dt t_M_goesOn 199 rfl) rfl hf (fun hf => ?_) (fun hf => ?_)
                · exact SW_fgt [true, false, false] rfl (k14 hf)
                · refine SW_aload_n h rfl (dt t_M_goesOn 200 rfl) ?_
                  obtain ⟨s17, e17, hf⟩ := b0M_of hf
                  refine cVv h [] [] v_X11_clauseIsOver kX11_329 o200 (c_M_clauseIsOver  e17) rfl rfl (by decide) (by decide) rfl (Nat.le_of_ble_eq_true rfl) (dt t_M_goesOn 201 rfl) (fun h17 => ?_)
                  refine SW_ok (fun ok17 => ?_)
                  refine SW_goto (tgt := 398) h (dt t_M_goesOn 202 rfl) rfl ?_
                  exact SW_vret h (hret _ hf) rfl (dt t_M_goesOn 206 rfl)
              · exact SW_fgt [true, false, false] rfl (k14 hf)
          refine SW_icmp_ne (tgt := 329) h (fun _ => h1) (fun _ => (by decide)) (dt t_M_goesOn 135 rfl) rfl hf (fun hf => ?_) (fun hf => ?_)
          · refine SW_aload_n h rfl (dt t_M_goesOn 136 rfl) ?_
            refine gI h cf11 o200 f11_17 lX11_234 (dt t_M_goesOn 137 rfl) ?_
            refine SW_iconst h (dt t_M_goesOn 138 rfl) ?_
            refine SW_icmp_ne (tgt := 329) h (fun _ => (okI ok 200 17 (IsO.n3 o200))) (fun _ => (by decide)) (dt t_M_goesOn 139 rfl) rfl hf (fun hf => ?_) (fun hf => ?_)
            · refine SW_aload_n h rfl (dt t_M_goesOn 140 rfl) ?_
              refine gI h cf11 o200 f11_18 lX11_247 (dt t_M_goesOn 141 rfl) ?_
              obtain ⟨v18, e18, hf⟩ := b1_of hf
              refine cS h [.int (i32 (σ 200 18))] [] v_X11_isAsking kX11_323 (c_M_isAsking (σ 200 18) (okI ok 200 18 (IsO.n3 o200)) e18) rfl rfl (by decide) (by decide) rfl (Nat.le_of_ble_eq_true rfl) (dt t_M_goesOn 142 rfl) (fun h18 => ?_)
              refine SW_if_eq (tgt := 329) h (fun _ => (r_zo h18)) (dt t_M_goesOn 143 rfl) rfl hf (fun hf => ?_) (fun hf => ?_)
              · exact SW_fgt [true, true, false] rfl (k6 hf)
              · refine SW_aload_n h rfl (dt t_M_goesOn 144 rfl) ?_
                refine SW_iconst h (dt t_M_goesOn 145 rfl) ?_
                obtain ⟨s19, e19, hf⟩ := b0M_of hf
                refine cVv h [.int (i32 3)] [] v_X11_works kX11_286 o200 (c_M_works 3 (by decide) e19) rfl rfl (by decide) (by decide) rfl (Nat.le_of_ble_eq_true rfl) (dt t_M_goesOn 146 rfl) (fun h19 => ?_)
                refine SW_ok (fun ok19 => ?_)
                refine SW_aload_n h rfl (dt t_M_goesOn 147 rfl) ?_
                refine gR h cf11 o200 f11_24 j200_24 lX11_54 (dt t_M_goesOn 148 rfl) ?_
                refine SW_aload_n h rfl (dt t_M_goesOn 149 rfl) ?_
                refine gI h cf11 o200 f11_22 lX11_260 (dt t_M_goesOn 150 rfl) ?_
                refine SW_aload_n h rfl (dt t_M_goesOn 151 rfl) ?_
                refine gI h cf11 o200 f11_18 lX11_247 (dt t_M_goesOn 152 rfl) ?_
                refine sI h a213 (okI ok19 200 18 (IsO.n3 o200)) (dt t_M_goesOn 153 rfl) hf (fun hf => SW_bm hf (fun s20 ok20 hf => ?_))
                refine SW_aload_n h rfl (dt t_M_goesOn 154 rfl) ?_
                refine gR h cf11 o200 f11_23 j200_23 lX11_51 (dt t_M_goesOn 155 rfl) ?_
                refine SW_aload_n h rfl (dt t_M_goesOn 156 rfl) ?_
                refine gI h cf11 o200 f11_22 lX11_260 (dt t_M_goesOn 157 rfl) ?_
                refine SW_iconst h (dt t_M_goesOn 158 rfl) ?_
                refine SW_isub h (dt t_M_goesOn 159 rfl) ?_
                refine SW_iconst h (dt t_M_goesOn 160 rfl) ?_
                refine sI h a212 (by decide) (dt t_M_goesOn 161 rfl) hf (fun hf => SW_bm hf (fun s21 ok21 hf => ?_))
                refine SW_aload_n h rfl (dt t_M_goesOn 162 rfl) ?_
                obtain ⟨s22, e22, hf⟩ := b0M_of hf
                refine cVv h [] [] v_X11_next kX11_272 o200 (c_M_next  e22) rfl rfl (by decide) (by decide) rfl (Nat.le_of_ble_eq_true rfl) (dt t_M_goesOn 163 rfl) (fun h22 => ?_)
                refine SW_ok (fun ok22 => ?_)
                refine SW_aload_n h rfl (dt t_M_goesOn 164 rfl) ?_
                refine SW_iconst h (dt t_M_goesOn 165 rfl) ?_
                refine pI h cf11 o200 f11_28 (by decide) lX11_295 (dt t_M_goesOn 166 rfl) (SW_bm hf (fun s24 ok24 hf => ?_))
                refine SW_goto (tgt := 398) h (dt t_M_goesOn 167 rfl) rfl ?_
                exact SW_vret h (hret _ hf) rfl (dt t_M_goesOn 206 rfl)
            · exact SW_fgt [true, true, false] rfl (k6 hf)
          · exact SW_fgt [true, true, false] rfl (k6 hf)
        refine bJ hf (fun J25 e25 hf => ?_)
        have k25 : ∀ (hf : J25 = some res), SW X 1 3 199 [some (.ref (xad X 200)), some (.int (i32 v1)), none] [] σ := by
          intro hf
          rw [e25] at hf
          refine SW_aload_n h rfl (dt t_M_goesOn 100 rfl) ?_
          refine SW_bipush h (dt t_M_goesOn 101 rfl) (by decide) ?_
          obtain ⟨v26, e26, hf⟩ := b1_of hf
          refine cV h [.int (i32 41)] [] v_X11_isSign kX11_298 o200 (c_M_isSign 41 (by decide) e26) rfl rfl (by decide) (by decide) rfl (Nat.le_of_ble_eq_true rfl) (dt t_M_goesOn 102 rfl) (fun h26 => ?_)
          refine SW_if_eq (tgt := 264) h (fun _ => (r_zo h26)) (dt t_M_goesOn 103 rfl) rfl hf (fun hf => ?_) (fun hf => ?_)
          · exact SW_fgt [true, true, false] rfl (k5 hf)
          · refine SW_aload_n h rfl (dt t_M_goesOn 104 rfl) ?_
            refine SW_iconst h (dt t_M_goesOn 105 rfl) ?_
            obtain ⟨s27, e27, hf⟩ := b0M_of hf
            refine cVv h [.int (i32 3)] [] v_X11_works kX11_286 o200 (c_M_works 3 (by decide) e27) rfl rfl (by decide) (by decide) rfl (Nat.le_of_ble_eq_true rfl) (dt t_M_goesOn 106 rfl) (fun h27 => ?_)
            refine SW_ok (fun ok27 => ?_)
            refine SW_aload_n h rfl (dt t_M_goesOn 107 rfl) ?_
            refine SW_dup h rfl (dt t_M_goesOn 108 rfl) ?_
            refine gI h cf11 o200 f11_22 lX11_260 (dt t_M_goesOn 109 rfl) ?_
            refine SW_iconst h (dt t_M_goesOn 110 rfl) ?_
            refine SW_isub h (dt t_M_goesOn 111 rfl) ?_
            refine SW_chk hf (fun h29 hf => ?_)
            refine pI h cf11 o200 f11_22 h29 lX11_260 (dt t_M_goesOn 112 rfl) (SW_bm hf (fun s30 ok30 hf => ?_))
            refine SW_aload_n h rfl (dt t_M_goesOn 113 rfl) ?_
            refine SW_dup h rfl (dt t_M_goesOn 114 rfl) ?_
            refine gI h cf11 o200 f11_21 lX11_263 (dt t_M_goesOn 115 rfl) ?_
            refine SW_iconst h (dt t_M_goesOn 116 rfl) ?_
            refine SW_isub h (dt t_M_goesOn 117 rfl) ?_
            refine SW_chk hf (fun h32 hf => ?_)
            refine pI h cf11 o200 f11_21 h32 lX11_263 (dt t_M_goesOn 118 rfl) (SW_bm hf (fun s33 ok33 hf => ?_))
            refine SW_aload_n h rfl (dt t_M_goesOn 119 rfl) ?_
            refine SW_iload_n h rfl (dt t_M_goesOn 120 rfl) ?_
            refine SW_bipush h (dt t_M_goesOn 121 rfl) (by decide) ?_
            refine bT hf (fun g34 e34 hf => ?_)
            have k34 : ∀ (v34 : Int) (h34 : r32 v34) (hf : g34 v34 = some res), SW X 1 3 249 [some (.ref (xad X 200)), some (.int (i32 v1)), none] [.int (i32 v34), .ref (xad X 200)] s33 := by
              intro v34 h34 hf
              rw [e34] at hf
              refine SW_iconst h (dt t_M_goesOn 126 rfl) ?_
              obtain ⟨s35, e35, hf⟩ := b0M_of hf
              refine cVv h [.int (i32 v34), .int (i32 0)] [] v_X11_emits kX11_282 o200 (c_M_emits v34 h34 0 (by decide) e35) rfl rfl (by decide) (by decide) rfl (Nat.le_of_ble_eq_true rfl) (dt t_M_goesOn 127 rfl) (fun h35 => ?_)
              refine SW_ok (fun ok35 => ?_)
              refine SW_aload_n h rfl (dt t_M_goesOn 128 rfl) ?_
              obtain ⟨s36, e36, hf⟩ := b0M_of hf
              refine cVv h [] [] v_X11_next kX11_272 o200 (c_M_next  e36) rfl rfl (by decide) (by decide) rfl (Nat.le_of_ble_eq_true rfl) (dt t_M_goesOn 129 rfl) (fun h36 => ?_)
              refine SW_ok (fun ok36 => ?_)
              refine SW_aload_n h rfl (dt t_M_goesOn 130 rfl) ?_
              obtain ⟨s37, e37, hf⟩ := b0M_of hf
              refine cVv h [] [] v_X11_oneIsOver kX11_304 o200 (c_M_oneIsOver  e37) rfl rfl (by decide) (by decide) rfl (Nat.le_of_ble_eq_true rfl) (dt t_M_goesOn 131 rfl) (fun h37 => ?_)
              refine SW_ok (fun ok37 => ?_)
              refine SW_goto (tgt := 398) h (dt t_M_goesOn 132 rfl) rfl ?_
              exact SW_vret h (hret _ hf) rfl (dt t_M_goesOn 206 rfl)
            have hf := bIte hf
            refine SW_icmp_ne (tgt := 246) h (fun _ => h1) (fun _ => (by decide)) (dt t_M_goesOn 122 rfl) rfl hf (fun hf => ?_) (fun hf => ?_)
            · refine SW_sipush h (dt t_M_goesOn 123 rfl) (by decide) ?_
              refine SW_goto (tgt := 249) h (dt t_M_goesOn 124 rfl) rfl ?_
              exact k34 404 (by decide) hf
            · refine SW_sipush h (dt t_M_goesOn 125 rfl) (by decide) ?_
              exact k34 403 (by decide) hf
        refine SW_icmp_eq (tgt := 199) h (fun _ => h1) (fun _ => (by decide)) (dt t_M_goesOn 96 rfl) rfl hf (fun hf => ?_) (fun hf => ?_)
        · exact SW_fgt [true, true, false] rfl (k25 hf)
        · refine SW_iload_n h rfl (dt t_M_goesOn 97 rfl) ?_
          refine SW_bipush h (dt t_M_goesOn 98 rfl) (by decide) ?_
          refine SW_icmp_ne (tgt := 264) h (fun _ => h1) (fun _ => (by decide)) (dt t_M_goesOn 99 rfl) rfl hf (fun hf => ?_) (fun hf => ?_)
          · exact SW_fgt [true, true, false] rfl (k25 hf)
          · exact SW_fgt [true, true, false] rfl (k5 hf)
      refine bJ hf (fun J38 e38 hf => ?_)
      have k38 : ∀ (hf : J38 = some res), SW X 1 3 137 [some (.ref (xad X 200)), some (.int (i32 v1)), none] [] σ := by
        intro hf
        rw [e38] at hf
        refine SW_aload_n h rfl (dt t_M_goesOn 68 rfl) ?_
        refine SW_bipush h (dt t_M_goesOn 69 rfl) (by decide) ?_
        obtain ⟨v39, e39, hf⟩ := b1_of hf
        refine cV h [.int (i32 44)] [] v_X11_isSign kX11_298 o200 (c_M_isSign 44 (by decide) e39) rfl rfl (by decide) (by decide) rfl (Nat.le_of_ble_eq_true rfl) (dt t_M_goesOn 70 rfl) (fun h39 => ?_)
        refine SW_if_eq (tgt := 187) h (fun _ => (r_zo h39)) (dt t_M_goesOn 71 rfl) rfl hf (fun hf => ?_) (fun hf => ?_)
        · exact SW_fgt [true, true, false] rfl (k4 hf)
        · refine SW_aload_n h rfl (dt t_M_goesOn 72 rfl) ?_
          refine SW_iconst h (dt t_M_goesOn 73 rfl) ?_
          obtain ⟨s40, e40, hf⟩ := b0M_of hf
          refine cVv h [.int (i32 3)] [] v_X11_works kX11_286 o200 (c_M_works 3 (by decide) e40) rfl rfl (by decide) (by decide) rfl (Nat.le_of_ble_eq_true rfl) (dt t_M_goesOn 74 rfl) (fun h40 => ?_)
          refine SW_ok (fun ok40 => ?_)
          refine SW_aload_n h rfl (dt t_M_goesOn 75 rfl) ?_
          refine gR h cf11 o200 f11_23 j200_23 lX11_51 (dt t_M_goesOn 76 rfl) ?_
          refine SW_aload_n h rfl (dt t_M_goesOn 77 rfl) ?_
          refine gI h cf11 o200 f11_22 lX11_260 (dt t_M_goesOn 78 rfl) ?_
          refine SW_iconst h (dt t_M_goesOn 79 rfl) ?_
          refine SW_isub h (dt t_M_goesOn 80 rfl) ?_
          refine SW_iload_n h rfl (dt t_M_goesOn 81 rfl) ?_
          refine SW_bipush h (dt t_M_goesOn 82 rfl) (by decide) ?_
          refine bT hf (fun g41 e41 hf => ?_)
          have k41 : ∀ (v41 : Int) (h41 : r32 v41) (hf : g41 v41 = some res), SW X 1 3 174 [some (.ref (xad X 200)), some (.int (i32 v1)), none] [.int (i32 v41), .int (i32 ((s40 200 22) - 1)), .ref (xad X 212)] s40 := by
            intro v41 h41 hf
            rw [e41] at hf
            refine sI h a212 h41 (dt t_M_goesOn 87 rfl) hf (fun hf => SW_bm hf (fun s42 ok42 hf => ?_))
            refine SW_aload_n h rfl (dt t_M_goesOn 88 rfl) ?_
            obtain ⟨s43, e43, hf⟩ := b0M_of hf
            refine cVv h [] [] v_X11_next kX11_272 o200 (c_M_next  e43) rfl rfl (by decide) (by decide) rfl (Nat.le_of_ble_eq_true rfl) (dt t_M_goesOn 89 rfl) (fun h43 => ?_)
            refine SW_ok (fun ok43 => ?_)
            refine SW_aload_n h rfl (dt t_M_goesOn 90 rfl) ?_
            refine SW_iconst h (dt t_M_goesOn 91 rfl) ?_
            refine pI h cf11 o200 f11_28 (by decide) lX11_295 (dt t_M_goesOn 92 rfl) (SW_bm hf (fun s45 ok45 hf => ?_))
            refine SW_goto (tgt := 398) h (dt t_M_goesOn 93 rfl) rfl ?_
            exact SW_vret h (hret _ hf) rfl (dt t_M_goesOn 206 rfl)
          have hf := bIte hf
          refine SW_icmp_ne (tgt := 172) h (fun _ => h1) (fun _ => (by decide)) (dt t_M_goesOn 83 rfl) rfl hf (fun hf => ?_) (fun hf => ?_)
          · refine SW_bipush h (dt t_M_goesOn 84 rfl) (by decide) ?_
            refine SW_goto (tgt := 174) h (dt t_M_goesOn 85 rfl) rfl ?_
            exact k41 10 (by decide) hf
          · refine SW_bipush h (dt t_M_goesOn 86 rfl) (by decide) ?_
            exact k41 11 (by decide) hf
      refine SW_icmp_eq (tgt := 137) h (fun _ => h1) (fun _ => (by decide)) (dt t_M_goesOn 64 rfl) rfl hf (fun hf => ?_) (fun hf => ?_)
      · exact SW_fgt [true, true, false] rfl (k38 hf)
      · refine SW_iload_n h rfl (dt t_M_goesOn 65 rfl) ?_
        refine SW_bipush h (dt t_M_goesOn 66 rfl) (by decide) ?_
        refine SW_icmp_ne (tgt := 187) h (fun _ => h1) (fun _ => (by decide)) (dt t_M_goesOn 67 rfl) rfl hf (fun hf => ?_) (fun hf => ?_)
        · exact SW_fgt [true, true, false] rfl (k38 hf)
        · exact SW_fgt [true, true, false] rfl (k4 hf)
    refine SW_icmp_ne (tgt := 125) h (fun _ => h1) (fun _ => (by decide)) (dt t_M_goesOn 37 rfl) rfl hf (fun hf => ?_) (fun hf => ?_)
    · refine SW_aload_n h rfl (dt t_M_goesOn 38 rfl) ?_
      refine SW_bipush h (dt t_M_goesOn 39 rfl) (by decide) ?_
      obtain ⟨v46, e46, hf⟩ := b1_of hf
      refine cV h [.int (i32 41)] [] v_X11_isSign kX11_298 o200 (c_M_isSign 41 (by decide) e46) rfl rfl (by decide) (by decide) rfl (Nat.le_of_ble_eq_true rfl) (dt t_M_goesOn 40 rfl) (fun h46 => ?_)
      refine SW_if_eq (tgt := 125) h (fun _ => (r_zo h46)) (dt t_M_goesOn 41 rfl) rfl hf (fun hf => ?_) (fun hf => ?_)
      · exact SW_fgt [true, true, false] rfl (k3 hf)
      · refine SW_aload_n h rfl (dt t_M_goesOn 42 rfl) ?_
        refine SW_iconst h (dt t_M_goesOn 43 rfl) ?_
        obtain ⟨s47, e47, hf⟩ := b0M_of hf
        refine cVv h [.int (i32 3)] [] v_X11_works kX11_286 o200 (c_M_works 3 (by decide) e47) rfl rfl (by decide) (by decide) rfl (Nat.le_of_ble_eq_true rfl) (dt t_M_goesOn 44 rfl) (fun h47 => ?_)
        refine SW_ok (fun ok47 => ?_)
        refine SW_aload_n h rfl (dt t_M_goesOn 45 rfl) ?_
        refine SW_dup h rfl (dt t_M_goesOn 46 rfl) ?_
        refine gI h cf11 o200 f11_22 lX11_260 (dt t_M_goesOn 47 rfl) ?_
        refine SW_iconst h (dt t_M_goesOn 48 rfl) ?_
        refine SW_isub h (dt t_M_goesOn 49 rfl) ?_
        refine SW_chk hf (fun h49 hf => ?_)
        refine pI h cf11 o200 f11_22 h49 lX11_260 (dt t_M_goesOn 50 rfl) (SW_bm hf (fun s50 ok50 hf => ?_))
        refine SW_aload_n h rfl (dt t_M_goesOn 51 rfl) ?_
        refine SW_dup h rfl (dt t_M_goesOn 52 rfl) ?_
        refine gI h cf11 o200 f11_21 lX11_263 (dt t_M_goesOn 53 rfl) ?_
        refine SW_iconst h (dt t_M_goesOn 54 rfl) ?_
        refine SW_isub h (dt t_M_goesOn 55 rfl) ?_
        refine SW_chk hf (fun h52 hf => ?_)
        refine pI h cf11 o200 f11_21 h52 lX11_263 (dt t_M_goesOn 56 rfl) (SW_bm hf (fun s53 ok53 hf => ?_))
        refine SW_aload_n h rfl (dt t_M_goesOn 57 rfl) ?_
        obtain ⟨s54, e54, hf⟩ := b0M_of hf
        refine cVv h [] [] v_X11_next kX11_272 o200 (c_M_next  e54) rfl rfl (by decide) (by decide) rfl (Nat.le_of_ble_eq_true rfl) (dt t_M_goesOn 58 rfl) (fun h54 => ?_)
        refine SW_ok (fun ok54 => ?_)
        refine SW_aload_n h rfl (dt t_M_goesOn 59 rfl) ?_
        obtain ⟨s55, e55, hf⟩ := b0M_of hf
        refine cVv h [] [] v_X11_oneIsOver kX11_304 o200 (c_M_oneIsOver  e55) rfl rfl (by decide) (by decide) rfl (Nat.le_of_ble_eq_true rfl) (dt t_M_goesOn 60 rfl) (fun h55 => ?_)
        refine SW_ok (fun ok55 => ?_)
        refine SW_goto (tgt := 398) h (dt t_M_goesOn 61 rfl) rfl ?_
        exact SW_vret h (hret _ hf) rfl (dt t_M_goesOn 206 rfl)
    · exact SW_fgt [true, true, false] rfl (k3 hf)
  refine SW_icmp_ne (tgt := 74) h (fun _ => (okI ok 200 17 (IsO.n3 o200))) (fun _ => (by decide)) (dt t_M_goesOn 6 rfl) rfl hf (fun hf => ?_) (fun hf => ?_)
  · refine SW_aload_n h rfl (dt t_M_goesOn 7 rfl) ?_
    refine gI h cf11 o200 f11_18 lX11_247 (dt t_M_goesOn 8 rfl) ?_
    refine SW_bipush h (dt t_M_goesOn 9 rfl) (by decide) ?_
    refine bJ hf (fun J56 e56 hf => ?_)
    have k56 : ∀ (hf : J56 = some res), SW X 1 3 58 [some (.ref (xad X 200)), none, none] [] σ := by
      intro hf
      rw [e56] at hf
      refine SW_aload_n h rfl (dt t_M_goesOn 27 rfl) ?_
      refine SW_aload_n h rfl (dt t_M_goesOn 28 rfl) ?_
      refine gI h cf11 o200 f11_18 lX11_247 (dt t_M_goesOn 29 rfl) ?_
      obtain ⟨s57, e57, hf⟩ := b0M_of hf
      refine cVv h [.int (i32 (σ 200 18))] [] v_X11_waitsFor kX11_320 o200 (c_M_waitsFor (σ 200 18) (okI ok 200 18 (IsO.n3 o200)) e57) rfl rfl (by decide) (by decide) rfl (Nat.le_of_ble_eq_true rfl) (dt t_M_goesOn 30 rfl) (fun h57 => ?_)
      refine SW_ok (fun ok57 => ?_)
      refine SW_aload_n h rfl (dt t_M_goesOn 31 rfl) ?_
      refine SW_iconst h (dt t_M_goesOn 32 rfl) ?_
      refine pI h cf11 o200 f11_28 (by decide) lX11_295 (dt t_M_goesOn 33 rfl) (SW_bm hf (fun s59 ok59 hf => ?_))
      refine SW_goto (tgt := 398) h (dt t_M_goesOn 34 rfl) rfl ?_
      exact SW_vret h (hret _ hf) rfl (dt t_M_goesOn 206 rfl)
    refine SW_icmp_eq (tgt := 58) h (fun _ => (okI ok 200 18 (IsO.n3 o200))) (fun _ => (by decide)) (dt t_M_goesOn 10 rfl) rfl hf (fun hf => ?_) (fun hf => ?_)
    · exact SW_fgt [true, false, false] rfl (k56 hf)
    · refine SW_aload_n h rfl (dt t_M_goesOn 11 rfl) ?_
      refine gI h cf11 o200 f11_18 lX11_247 (dt t_M_goesOn 12 rfl) ?_
      refine SW_bipush h (dt t_M_goesOn 13 rfl) (by decide) ?_
      refine SW_icmp_eq (tgt := 58) h (fun _ => (okI ok 200 18 (IsO.n3 o200))) (fun _ => (by decide)) (dt t_M_goesOn 14 rfl) rfl hf (fun hf => ?_) (fun hf => ?_)
      · exact SW_fgt [true, false, false] rfl (k56 hf)
      · refine SW_aload_n h rfl (dt t_M_goesOn 15 rfl) ?_
        refine gI h cf11 o200 f11_18 lX11_247 (dt t_M_goesOn 16 rfl) ?_
        refine SW_bipush h (dt t_M_goesOn 17 rfl) (by decide) ?_
        refine SW_icmp_eq (tgt := 58) h (fun _ => (okI ok 200 18 (IsO.n3 o200))) (fun _ => (by decide)) (dt t_M_goesOn 18 rfl) rfl hf (fun hf => ?_) (fun hf => ?_)
        · exact SW_fgt [true, false, false] rfl (k56 hf)
        · refine SW_aload_n h rfl (dt t_M_goesOn 19 rfl) ?_
          refine gI h cf11 o200 f11_18 lX11_247 (dt t_M_goesOn 20 rfl) ?_
          refine SW_bipush h (dt t_M_goesOn 21 rfl) (by decide) ?_
          refine SW_icmp_eq (tgt := 58) h (fun _ => (okI ok 200 18 (IsO.n3 o200))) (fun _ => (by decide)) (dt t_M_goesOn 22 rfl) rfl hf (fun hf => ?_) (fun hf => ?_)
          · exact SW_fgt [true, false, false] rfl (k56 hf)
          · refine SW_aload_n h rfl (dt t_M_goesOn 23 rfl) ?_
            refine gI h cf11 o200 f11_18 lX11_247 (dt t_M_goesOn 24 rfl) ?_
            refine SW_bipush h (dt t_M_goesOn 25 rfl) (by decide) ?_
            refine SW_icmp_ne (tgt := 74) h (fun _ => (okI ok 200 18 (IsO.n3 o200))) (fun _ => (by decide)) (dt t_M_goesOn 26 rfl) rfl hf (fun hf => ?_) (fun hf => ?_)
            · exact SW_fgt [true, false, false] rfl (k56 hf)
            · exact SW_fgt [true, true, false] rfl (k2 hf)
  · exact SW_fgt [true, true, false] rfl (k2 hf)
def b_M_outOfTwo : List (Nat × Instr × Nat) := [(0, .aload_n 0, 1), (1, .iconst 2, 1), (2, .putfield 154, 3), (5, .aload_n 0, 1), (6, .iload_n 1, 1), (7, .ifCond .ge 7, 3), (10, .iconst 1, 1), (11, .goto 4, 3), (14, .iconst 0, 1), (15, .iload_n 2, 1), (16, .ifCond .ge 7, 3), (19, .iconst 2, 1), (20, .goto 4, 3), (23, .iconst 0, 1), (24, .ior, 1), (25, .putfield 157, 3), (28, .aload_n 0, 1), (29, .getfield 103, 3), (32, .iconst 0, 1), (33, .iload_n 1, 1), (34, .invokestatic 543, 3), (37, .iastore, 1), (38, .aload_n 0, 1), (39, .getfield 103, 3), (42, .iconst 1, 1), (43, .iload_n 2, 1), (44, .invokestatic 543, 3), (47, .iastore, 1), (48, .aload_n 0, 1), (49, .invokevirtual 422, 3), (52, .ireturn, 1)]
theorem t_M_outOfTwo : DT cX11_outOfTwo b_M_outOfTwo := DT.of (by decide +kernel)
def F_M_outOfTwo (x1 : Int) (x2 : Int) (σ : Mm) : Option (Int × Mm) :=
  bindM (st2 σ 200 48 2) fun s2 =>
  bindM ((if 0 ≤ x1 then 0 else 1 : Int)) fun v3 =>
  bindM ((if 0 ≤ x2 then 0 else 2 : Int)) fun v4 =>
  bindM (st2 s2 200 49 (ior v3 v4)) fun s6 =>
  b1 (F_M_size x1) fun v7 =>
  bindM (st2 s6 229 0 v7) fun s8 =>
  b1 (F_M_size x2) fun v9 =>
  bindM (st2 s8 229 1 v9) fun s10 =>
  b1M (F_M_outNow  s10) fun v11 s11 =>
  some (v11, s11)
set_option maxRecDepth 100000 in
set_option maxHeartbeats 4000000 in
theorem c_M_outOfTwo (x1 : Int) (hx1 : r32 x1) (x2 : Int) (hx2 : r32 x2) {σ : Mm} {a : Int} {σ2 : Mm} (hf : F_M_outOfTwo x1 x2 σ = some (a, σ2)) : CT yX11_outOfTwo cX11_outOfTwo 3 (some .int) 6 1 (fun ad => [.ref (ad 200), .int (i32 x1), .int (i32 x2)]) σ (r32 a) (some (.int (i32 a))) σ2 := by
  refine MetJ 0 (by decide +kernel) rfl (fun _ => Nat.le_of_ble_eq_true rfl) ?_
  intro X h hR ok
  obtain ⟨res, er⟩ : ∃ z, z = (a, σ2) := ⟨_, rfl⟩
  have hret : ∀ y : Int × Mm, some y = some res → RX X 1 (r32 (y.1)) (some (.int (i32 (y.1)))) y.2 := fun y e => by cases e; cases er; exact hR
  rw [← er] at hf
  clear er hR
  unfold F_M_outOfTwo at hf
  show SW X 1 3 0 [some (.ref (xad X 200)), some (.int (i32 x1)), some (.int (i32 x2))] [] σ
  refine SW_aload_n h rfl (dt t_M_outOfTwo 0 rfl) ?_
  refine SW_iconst h (dt t_M_outOfTwo 1 rfl) ?_
  refine pI h cf11 o200 f11_48 (by decide) lX11_154 (dt t_M_outOfTwo 2 rfl) (SW_bm hf (fun s2 ok2 hf => ?_))
  refine SW_aload_n h rfl (dt t_M_outOfTwo 3 rfl) ?_
  refine SW_iload_n h rfl (dt t_M_outOfTwo 4 rfl) ?_
  refine bT hf (fun g3 e3 hf => ?_)
  have k3 : ∀ (v3 : Int) (h3 : r32 v3) (hf : g3 v3 = some res), SW X 1 3 15 [some (.ref (xad X 200)), some (.int (i32 x1)), some (.int (i32 x2))] [.int (i32 v3), .ref (xad X 200)] s2 := by
    intro v3 h3 hf
    rw [e3] at hf
    refine SW_iload_n h rfl (dt t_M_outOfTwo 9 rfl) ?_
    refine bT hf (fun g4 e4 hf => ?_)
    have k4 : ∀ (v4 : Int) (h4 : r32 v4) (hf : g4 v4 = some res), SW X 1 3 24 [some (.ref (xad X 200)), some (.int (i32 x1)), some (.int (i32 x2))] [.int (i32 v4), .int (i32 v3), .ref (xad X 200)] s2 := by
      intro v4 h4 hf
      rw [e4] at hf
      refine SW_ior h (dt t_M_outOfTwo 14 rfl) ?_
      refine pI h cf11 o200 f11_49 (r_ior _ _) lX11_157 (dt t_M_outOfTwo 15 rfl) (SW_bm hf (fun s6 ok6 hf => ?_))
      refine SW_aload_n h rfl (dt t_M_outOfTwo 16 rfl) ?_
      refine gR h cf11 o200 f11_47 j200_47 lX11_103 (dt t_M_outOfTwo 17 rfl) ?_
      refine SW_iconst h (dt t_M_outOfTwo 18 rfl) ?_
      refine SW_iload_n h rfl (dt t_M_outOfTwo 19 rfl) ?_
      obtain ⟨v7, e7, hf⟩ := b1_of hf
      refine cS h [.int (i32 x1)] [.int (i32 0), .ref (xad X 229)] v_X11_size kX11_543 (c_M_size x1 hx1 e7) rfl rfl (by decide) (by decide) rfl (Nat.le_of_ble_eq_true rfl) (dt t_M_outOfTwo 20 rfl) (fun h7 => ?_)
      refine sIk h a229 (by decide) h7 (dt t_M_outOfTwo 21 rfl) (SW_bm hf (fun s8 ok8 hf => ?_))
      refine SW_aload_n h rfl (dt t_M_outOfTwo 22 rfl) ?_
      refine gR h cf11 o200 f11_47 j200_47 lX11_103 (dt t_M_outOfTwo 23 rfl) ?_
      refine SW_iconst h (dt t_M_outOfTwo 24 rfl) ?_
      refine SW_iload_n h rfl (dt t_M_outOfTwo 25 rfl) ?_
      obtain ⟨v9, e9, hf⟩ := b1_of hf
      refine cS h [.int (i32 x2)] [.int (i32 1), .ref (xad X 229)] v_X11_size kX11_543 (c_M_size x2 hx2 e9) rfl rfl (by decide) (by decide) rfl (Nat.le_of_ble_eq_true rfl) (dt t_M_outOfTwo 26 rfl) (fun h9 => ?_)
      refine sIk h a229 (by decide) h9 (dt t_M_outOfTwo 27 rfl) (SW_bm hf (fun s10 ok10 hf => ?_))
      refine SW_aload_n h rfl (dt t_M_outOfTwo 28 rfl) ?_
      obtain ⟨v11, s11, e11, hf⟩ := b1M_of hf
      refine cV h [] [] v_X11_outNow kX11_422 o200 (c_M_outNow  e11) rfl rfl (by decide) (by decide) rfl (Nat.le_of_ble_eq_true rfl) (dt t_M_outOfTwo 29 rfl) (fun h11 => ?_)
      refine SW_ok (fun ok11 => ?_)
      exact SW_iret h (hret _ hf) (fun _ => h11) rfl (dt t_M_outOfTwo 30 rfl)
    have hf := bIte hf
    refine SW_if_ge (tgt := 23) h (fun _ => hx2) (dt t_M_outOfTwo 10 rfl) rfl hf (fun hf => ?_) (fun hf => ?_)
    · refine SW_iconst h (dt t_M_outOfTwo 13 rfl) ?_
      exact k4 0 (by decide) hf
    · refine SW_iconst h (dt t_M_outOfTwo 11 rfl) ?_
      refine SW_goto (tgt := 24) h (dt t_M_outOfTwo 12 rfl) rfl ?_
      exact k4 2 (by decide) hf
  have hf := bIte hf
  refine SW_if_ge (tgt := 14) h (fun _ => hx1) (dt t_M_outOfTwo 5 rfl) rfl hf (fun hf => ?_) (fun hf => ?_)
  · refine SW_iconst h (dt t_M_outOfTwo 8 rfl) ?_
    exact k3 0 (by decide) hf
  · refine SW_iconst h (dt t_M_outOfTwo 6 rfl) ?_
    refine SW_goto (tgt := 15) h (dt t_M_outOfTwo 7 rfl) rfl ?_
    exact k3 1 (by decide) hf
