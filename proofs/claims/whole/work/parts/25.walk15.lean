def b_M_grouping : List (Nat × Instr × Nat) := [(0, .iload_n 1, 1), (1, .iconst 1, 1), (2, .bipush 12, 2), (4, .invokestatic 150, 3), (7, .ifCond .ne 5, 3), (10, .iconst (-1), 1), (11, .ireturn, 1), (12, .aload_n 0, 1), (13, .invokevirtual 446, 3), (16, .iconst 0, 1), (17, .istore_n 2, 1), (18, .iload_n 2, 1), (19, .iload_n 1, 1), (20, .if_icmp .ge 78, 3), (23, .iconst 0, 1), (24, .istore_n 3, 1), (25, .iload_n 3, 1), (26, .iload_n 1, 1), (27, .if_icmp .ge 65, 3), (30, .iconst 0, 1), (31, .istore 4, 2), (33, .iload 4, 2), (35, .iload_n 1, 1), (36, .if_icmp .ge 50, 3), (39, .aload_n 0, 1), (40, .aload_n 0, 1), (41, .iload_n 2, 1), (42, .iload_n 3, 1), (43, .invokevirtual 549, 3), (46, .iload 4, 2), (48, .invokevirtual 549, 3), (51, .aload_n 0, 1), (52, .iload_n 2, 1), (53, .aload_n 0, 1), (54, .iload_n 3, 1), (55, .iload 4, 2), (57, .invokevirtual 549, 3), (60, .invokevirtual 549, 3), (63, .if_icmp .eq 17, 3), (66, .sipush 10000, 3), (69, .iload_n 2, 1), (70, .imul, 1), (71, .bipush 100, 2), (73, .iload_n 3, 1), (74, .imul, 1), (75, .iadd, 1), (76, .iload 4, 2), (78, .iadd, 1), (79, .ireturn, 1), (80, .iinc 4 1, 3), (83, .goto (-50), 3), (86, .iinc 3 1, 3), (89, .goto (-64), 3), (92, .iinc 2 1, 3), (95, .goto (-77), 3), (98, .iconst (-1), 1), (99, .ireturn, 1)]
theorem t_M_grouping : DT cX11_grouping b_M_grouping := DT.of (by decide +kernel)
def L_M_grouping_33 : Nat → Int → Int → Int → Int → Mm → Option ((Int × Mm) ⊕ (Mm))
  | 0, _, _, _, _, _ => none
  | n + 1, x1, x2, x3, x4, σ =>
    if x1 ≤ x4 then
      some (.inr σ)
    else
      b1M (F_M_outOfTwo x2 x3 σ) fun v3 s3 =>
      b1M (F_M_outOfTwo v3 x4 s3) fun v4 s4 =>
      b1M (F_M_outOfTwo x3 x4 s4) fun v5 s5 =>
      b1M (F_M_outOfTwo x2 v5 s5) fun v6 s6 =>
      if v4 = v6 then
        if r32 (x4 + 1) then
          L_M_grouping_33 n x1 x2 x3 (x4 + 1) s6
        else none
      else
        if r32 (((10000 * x2) + (100 * x3)) + x4) then
          some (.inl (((10000 * x2) + (100 * x3)) + x4, s6))
        else none
set_option maxRecDepth 100000 in
set_option maxHeartbeats 4000000 in
theorem l_M_grouping_33 {X : Cx} (h : CX X 1 cX11_grouping 5 7 (some .int) RX11) (x1 : Int) (x2 : Int) (x3 : Int) (hx1 : r32 x1) (hx2 : r32 x2) (hx3 : r32 x3) {res : (Int × Mm) ⊕ (Mm)} (hret : ∀ y : Int × Mm, some (.inl y) = some res → RX X 1 (r32 (y.1)) (some (.int (i32 (y.1)))) y.2) (hex : ∀  (σ : Mm) (hz : some (.inr σ) = some res)  (ok : okM σ), SW X 1 5 86 [some (.ref (xad X 200)), some (.int (i32 x1)), some (.int (i32 x2)), some (.int (i32 x3)), none] [] σ) : ∀ (n : Nat) (x4 : Int) (σ : Mm) (hx4 : r32 x4) (ok : okM σ) (hf : L_M_grouping_33 n x1 x2 x3 x4 σ = some res), SW X 1 5 33 [some (.ref (xad X 200)), some (.int (i32 x1)), some (.int (i32 x2)), some (.int (i32 x3)), some (.int (i32 x4))] [] σ := by
  intro n
  induction n with
  | zero => intro x4 σ hx4 ok hf; exact absurd hf (by simp [L_M_grouping_33])
  | succ n ih =>
    intro x4 σ hx4 ok hf
    rw [L_M_grouping_33] at hf
    refine SW_iload h rfl (dt t_M_grouping 21 rfl) ?_
    refine SW_iload_n h rfl (dt t_M_grouping 22 rfl) ?_
    refine SW_icmp_ge (tgt := 86) h (fun _ => hx4) (fun _ => hx1) (dt t_M_grouping 23 rfl) rfl hf (fun hf => ?_) (fun hf => ?_)
    · exact SW_fgt [true, true, true, true, false] rfl (hex σ hf ok)
    · refine SW_aload_n h rfl (dt t_M_grouping 24 rfl) ?_
      refine SW_aload_n h rfl (dt t_M_grouping 25 rfl) ?_
      refine SW_iload_n h rfl (dt t_M_grouping 26 rfl) ?_
      refine SW_iload_n h rfl (dt t_M_grouping 27 rfl) ?_
      obtain ⟨v3, s3, e3, hf⟩ := b1M_of hf
      refine cV h [.int (i32 x2), .int (i32 x3)] [.ref (xad X 200)] v_X11_outOfTwo kX11_549 o200 (c_M_outOfTwo x2 hx2 x3 hx3 e3) rfl rfl (by decide) (by decide) rfl (Nat.le_of_ble_eq_true rfl) (dt t_M_grouping 28 rfl) (fun h3 => ?_)
      refine SW_ok (fun ok3 => ?_)
      refine SW_iload h rfl (dt t_M_grouping 29 rfl) ?_
      obtain ⟨v4, s4, e4, hf⟩ := b1M_of hf
      refine cV h [.int (i32 v3), .int (i32 x4)] [] v_X11_outOfTwo kX11_549 o200 (c_M_outOfTwo v3 h3 x4 hx4 e4) rfl rfl (by decide) (by decide) rfl (Nat.le_of_ble_eq_true rfl) (dt t_M_grouping 30 rfl) (fun h4 => ?_)
      refine SW_ok (fun ok4 => ?_)
      refine SW_aload_n h rfl (dt t_M_grouping 31 rfl) ?_
      refine SW_iload_n h rfl (dt t_M_grouping 32 rfl) ?_
      refine SW_aload_n h rfl (dt t_M_grouping 33 rfl) ?_
      refine SW_iload_n h rfl (dt t_M_grouping 34 rfl) ?_
      refine SW_iload h rfl (dt t_M_grouping 35 rfl) ?_
      obtain ⟨v5, s5, e5, hf⟩ := b1M_of hf
      refine cV h [.int (i32 x3), .int (i32 x4)] [.int (i32 x2), .ref (xad X 200), .int (i32 v4)] v_X11_outOfTwo kX11_549 o200 (c_M_outOfTwo x3 hx3 x4 hx4 e5) rfl rfl (by decide) (by decide) rfl (Nat.le_of_ble_eq_true rfl) (dt t_M_grouping 36 rfl) (fun h5 => ?_)
      refine SW_ok (fun ok5 => ?_)
      obtain ⟨v6, s6, e6, hf⟩ := b1M_of hf
      refine cV h [.int (i32 x2), .int (i32 v5)] [.int (i32 v4)] v_X11_outOfTwo kX11_549 o200 (c_M_outOfTwo x2 hx2 v5 h5 e6) rfl rfl (by decide) (by decide) rfl (Nat.le_of_ble_eq_true rfl) (dt t_M_grouping 37 rfl) (fun h6 => ?_)
      refine SW_ok (fun ok6 => ?_)
      refine SW_icmp_eq (tgt := 80) h (fun _ => h4) (fun _ => h6) (dt t_M_grouping 38 rfl) rfl hf (fun hf => ?_) (fun hf => ?_)
      · refine SW_iinc (lv2 := [some (.ref (xad X 200)), some (.int (i32 x1)), some (.int (i32 x2)), some (.int (i32 x3)), some (.int (i32 (x4 + 1)))]) h (dt t_M_grouping 49 rfl) rfl (by decide) rfl ?_
        refine SW_goto (tgt := 33) h (dt t_M_grouping 50 rfl) rfl ?_
        refine SW_chk hf (fun h7 hf => ?_)
        exact SW_fgt [true, true, true, true, true] rfl (ih (x4 + 1) s6 h7 ok6 hf)
      · refine SW_sipush h (dt t_M_grouping 39 rfl) (by decide) ?_
        refine SW_iload_n h rfl (dt t_M_grouping 40 rfl) ?_
        refine SW_imul h (dt t_M_grouping 41 rfl) ?_
        refine SW_bipush h (dt t_M_grouping 42 rfl) (by decide) ?_
        refine SW_iload_n h rfl (dt t_M_grouping 43 rfl) ?_
        refine SW_imul h (dt t_M_grouping 44 rfl) ?_
        refine SW_iadd h (dt t_M_grouping 45 rfl) ?_
        refine SW_iload h rfl (dt t_M_grouping 46 rfl) ?_
        refine SW_iadd h (dt t_M_grouping 47 rfl) ?_
        refine SW_chk hf (fun h8 hf => ?_)
        exact SW_iret h (hret _ hf) (fun _ => h8) rfl (dt t_M_grouping 48 rfl)
def L_M_grouping_25 : Nat → Int → Int → Int → Mm → Option ((Int × Mm) ⊕ (Mm))
  | 0, _, _, _, _ => none
  | n + 1, x1, x2, x3, σ =>
    if x1 ≤ x3 then
      some (.inr σ)
    else
      b0MS (L_M_grouping_33 LF x1 x2 x3 0 σ) (fun y => some (.inl y)) fun s9 =>
      if r32 (x3 + 1) then
        L_M_grouping_25 n x1 x2 (x3 + 1) s9
      else none
set_option maxRecDepth 100000 in
set_option maxHeartbeats 4000000 in
theorem l_M_grouping_25 {X : Cx} (h : CX X 1 cX11_grouping 5 7 (some .int) RX11) (x1 : Int) (x2 : Int) (hx1 : r32 x1) (hx2 : r32 x2) {res : (Int × Mm) ⊕ (Mm)} (hret : ∀ y : Int × Mm, some (.inl y) = some res → RX X 1 (r32 (y.1)) (some (.int (i32 (y.1)))) y.2) (hex : ∀  (σ : Mm) (hz : some (.inr σ) = some res)  (ok : okM σ), SW X 1 5 92 [some (.ref (xad X 200)), some (.int (i32 x1)), some (.int (i32 x2)), none, none] [] σ) : ∀ (n : Nat) (x3 : Int) (σ : Mm) (hx3 : r32 x3) (ok : okM σ) (hf : L_M_grouping_25 n x1 x2 x3 σ = some res), SW X 1 5 25 [some (.ref (xad X 200)), some (.int (i32 x1)), some (.int (i32 x2)), some (.int (i32 x3)), none] [] σ := by
  intro n
  induction n with
  | zero => intro x3 σ hx3 ok hf; exact absurd hf (by simp [L_M_grouping_25])
  | succ n ih =>
    intro x3 σ hx3 ok hf
    rw [L_M_grouping_25] at hf
    refine SW_iload_n h rfl (dt t_M_grouping 16 rfl) ?_
    refine SW_iload_n h rfl (dt t_M_grouping 17 rfl) ?_
    refine SW_icmp_ge (tgt := 92) h (fun _ => hx3) (fun _ => hx1) (dt t_M_grouping 18 rfl) rfl hf (fun hf => ?_) (fun hf => ?_)
    · exact SW_fgt [true, true, true, false, false] rfl (hex σ hf ok)
    · refine SW_iconst h (dt t_M_grouping 19 rfl) ?_
      refine SW_istore (lv2 := [some (.ref (xad X 200)), some (.int (i32 x1)), some (.int (i32 x2)), some (.int (i32 x3)), some (.int (i32 0))]) h (dt t_M_grouping 20 rfl) (by decide) rfl ?_
      obtain ⟨z9, e9, g9, hk9⟩ := b0MS_of hf
      refine SW_fgt [true, true, true, true, true] rfl (l_M_grouping_33 h x1 x2 x3 hx1 hx2 hx3 (fun y e => hret y (g9 y (Option.some.inj e).symm)) (fun s9 hz9 ok9 => ?_) LF 0 σ (by decide) ok e9)
      have hf := hk9 s9 (Option.some.inj hz9).symm
      refine SW_iinc (lv2 := [some (.ref (xad X 200)), some (.int (i32 x1)), some (.int (i32 x2)), some (.int (i32 (x3 + 1))), none]) h (dt t_M_grouping 51 rfl) rfl (by decide) rfl ?_
      refine SW_goto (tgt := 25) h (dt t_M_grouping 52 rfl) rfl ?_
      refine SW_chk hf (fun h10 hf => ?_)
      exact SW_fgt [true, true, true, true, false] rfl (ih (x3 + 1) s9 h10 ok9 hf)
def L_M_grouping_18 : Nat → Int → Int → Mm → Option ((Int × Mm) ⊕ (Mm))
  | 0, _, _, _ => none
  | n + 1, x1, x2, σ =>
    if x1 ≤ x2 then
      some (.inr σ)
    else
      b0MS (L_M_grouping_25 LF x1 x2 0 σ) (fun y => some (.inl y)) fun s11 =>
      if r32 (x2 + 1) then
        L_M_grouping_18 n x1 (x2 + 1) s11
      else none
set_option maxRecDepth 100000 in
set_option maxHeartbeats 4000000 in
theorem l_M_grouping_18 {X : Cx} (h : CX X 1 cX11_grouping 5 7 (some .int) RX11) (x1 : Int) (hx1 : r32 x1) {res : (Int × Mm) ⊕ (Mm)} (hret : ∀ y : Int × Mm, some (.inl y) = some res → RX X 1 (r32 (y.1)) (some (.int (i32 (y.1)))) y.2) (hex : ∀  (σ : Mm) (hz : some (.inr σ) = some res)  (ok : okM σ), SW X 1 5 98 [none, none, none, none, none] [] σ) : ∀ (n : Nat) (x2 : Int) (σ : Mm) (hx2 : r32 x2) (ok : okM σ) (hf : L_M_grouping_18 n x1 x2 σ = some res), SW X 1 5 18 [some (.ref (xad X 200)), some (.int (i32 x1)), some (.int (i32 x2)), none, none] [] σ := by
  intro n
  induction n with
  | zero => intro x2 σ hx2 ok hf; exact absurd hf (by simp [L_M_grouping_18])
  | succ n ih =>
    intro x2 σ hx2 ok hf
    rw [L_M_grouping_18] at hf
    refine SW_iload_n h rfl (dt t_M_grouping 11 rfl) ?_
    refine SW_iload_n h rfl (dt t_M_grouping 12 rfl) ?_
    refine SW_icmp_ge (tgt := 98) h (fun _ => hx2) (fun _ => hx1) (dt t_M_grouping 13 rfl) rfl hf (fun hf => ?_) (fun hf => ?_)
    · exact SW_fgt [false, false, false, false, false] rfl (hex σ hf ok)
    · refine SW_iconst h (dt t_M_grouping 14 rfl) ?_
      refine SW_istore_n (lv2 := [some (.ref (xad X 200)), some (.int (i32 x1)), some (.int (i32 x2)), some (.int (i32 0)), none]) h (dt t_M_grouping 15 rfl) (by decide) rfl ?_
      obtain ⟨z11, e11, g11, hk11⟩ := b0MS_of hf
      refine SW_fgt [true, true, true, true, false] rfl (l_M_grouping_25 h x1 x2 hx1 hx2 (fun y e => hret y (g11 y (Option.some.inj e).symm)) (fun s11 hz11 ok11 => ?_) LF 0 σ (by decide) ok e11)
      have hf := hk11 s11 (Option.some.inj hz11).symm
      refine SW_iinc (lv2 := [some (.ref (xad X 200)), some (.int (i32 x1)), some (.int (i32 (x2 + 1))), none, none]) h (dt t_M_grouping 53 rfl) rfl (by decide) rfl ?_
      refine SW_goto (tgt := 18) h (dt t_M_grouping 54 rfl) rfl ?_
      refine SW_chk hf (fun h12 hf => ?_)
      exact SW_fgt [true, true, true, false, false] rfl (ih (x2 + 1) s11 h12 ok11 hf)
def F_M_grouping (x1 : Int) (σ : Mm) : Option (Int × Mm) :=
  b1 (F_M_in x1 1 12) fun v1 =>
  if v1 = 0 then
    some ((-1), σ)
  else
    b0M (F_M_laysNow  σ) fun s2 =>
    b0MS (L_M_grouping_18 LF x1 0 s2) (fun y => some y) fun s13 =>
    some ((-1), s13)
set_option maxRecDepth 100000 in
set_option maxHeartbeats 4000000 in
theorem c_M_grouping (x1 : Int) (hx1 : r32 x1) {σ : Mm} {a : Int} {σ2 : Mm} (hf : F_M_grouping x1 σ = some (a, σ2)) : CT yX11_grouping cX11_grouping 5 (some .int) 7 1 (fun ad => [.ref (ad 200), .int (i32 x1)]) σ (r32 a) (some (.int (i32 a))) σ2 := by
  refine MetJ 3 (by decide +kernel) rfl (fun _ => Nat.le_of_ble_eq_true rfl) ?_
  intro X h hR ok
  obtain ⟨res, er⟩ : ∃ z, z = (a, σ2) := ⟨_, rfl⟩
  have hret : ∀ y : Int × Mm, some y = some res → RX X 1 (r32 (y.1)) (some (.int (i32 (y.1)))) y.2 := fun y e => by cases e; cases er; exact hR
  rw [← er] at hf
  clear er hR
  unfold F_M_grouping at hf
  show SW X 1 5 0 [some (.ref (xad X 200)), some (.int (i32 x1)), none, none, none] [] σ
  refine SW_iload_n h rfl (dt t_M_grouping 0 rfl) ?_
  refine SW_iconst h (dt t_M_grouping 1 rfl) ?_
  refine SW_bipush h (dt t_M_grouping 2 rfl) (by decide) ?_
  obtain ⟨v1, e1, hf⟩ := b1_of hf
  refine cS h [.int (i32 x1), .int (i32 1), .int (i32 12)] [] v_X11_in kX11_150 (c_M_in x1 hx1 1 (by decide) 12 (by decide) e1) rfl rfl (by decide) (by decide) rfl (Nat.le_of_ble_eq_true rfl) (dt t_M_grouping 3 rfl) (fun h1 => ?_)
  refine SW_if_ne (tgt := 12) h (fun _ => (r_zo h1)) (dt t_M_grouping 4 rfl) rfl hf (fun hf => ?_) (fun hf => ?_)
  · refine SW_iconst h (dt t_M_grouping 5 rfl) ?_
    exact SW_iret h (hret _ hf) (fun _ => (by decide)) rfl (dt t_M_grouping 6 rfl)
  · refine SW_aload_n h rfl (dt t_M_grouping 7 rfl) ?_
    obtain ⟨s2, e2, hf⟩ := b0M_of hf
    refine cVv h [] [] v_X11_laysNow kX11_446 o200 (c_M_laysNow  e2) rfl rfl (by decide) (by decide) rfl (Nat.le_of_ble_eq_true rfl) (dt t_M_grouping 8 rfl) (fun h2 => ?_)
    refine SW_ok (fun ok2 => ?_)
    refine SW_iconst h (dt t_M_grouping 9 rfl) ?_
    refine SW_istore_n (lv2 := [some (.ref (xad X 200)), some (.int (i32 x1)), some (.int (i32 0)), none, none]) h (dt t_M_grouping 10 rfl) (by decide) rfl ?_
    obtain ⟨z13, e13, g13, hk13⟩ := b0MS_of hf
    refine SW_fgt [true, true, true, false, false] rfl (l_M_grouping_18 h x1 hx1 (fun y e => hret y (g13 y (Option.some.inj e).symm)) (fun s13 hz13 ok13 => ?_) LF 0 s2 (by decide) ok2 e13)
    have hf := hk13 s13 (Option.some.inj hz13).symm
    refine SW_iconst h (dt t_M_grouping 55 rfl) ?_
    exact SW_iret h (hret _ hf) (fun _ => (by decide)) rfl (dt t_M_grouping 56 rfl)
def b_M_turns2 : List (Nat × Instr × Nat) := [(0, .aload_n 0, 1), (1, .getfield 7, 3), (4, .sipush 170, 3), (7, .iload_n 1, 1), (8, .iadd, 1), (9, .aload_n 0, 1), (10, .getfield 7, 3), (13, .sipush 170, 3), (16, .iload_n 1, 1), (17, .iadd, 1), (18, .iaload, 1), (19, .iconst 1, 1), (20, .iload_n 2, 1), (21, .ishl, 1), (22, .ixor, 1), (23, .iastore, 1), (24, .iload_n 1, 1), (25, .iload_n 2, 1), (26, .if_icmp .eq 27, 3), (29, .aload_n 0, 1), (30, .getfield 7, 3), (33, .sipush 170, 3), (36, .iload_n 2, 1), (37, .iadd, 1), (38, .aload_n 0, 1), (39, .getfield 7, 3), (42, .sipush 170, 3), (45, .iload_n 2, 1), (46, .iadd, 1), (47, .iaload, 1), (48, .iconst 1, 1), (49, .iload_n 1, 1), (50, .ishl, 1), (51, .ixor, 1), (52, .iastore, 1), (53, .return_, 1)]
theorem t_M_turns2 : DT cX11_turns2 b_M_turns2 := DT.of (by decide +kernel)
def F_M_turns2 (x1 : Int) (x2 : Int) (σ : Mm) : Option (Mm) :=
  if 0 ≤ 170 + x1 ∧ 170 + x1 < 5240 then
    if 0 ≤ 170 + x1 ∧ 170 + x1 < 5240 then
      bindM (st2 σ 201 ((170 + x1).toNat) (ixor (σ 201 ((170 + x1).toNat)) (ishl 1 x2))) fun s1 =>
      if x1 = x2 then
        some s1
      else
        if 0 ≤ 170 + x2 ∧ 170 + x2 < 5240 then
          if 0 ≤ 170 + x2 ∧ 170 + x2 < 5240 then
            bindM (st2 s1 201 ((170 + x2).toNat) (ixor (s1 201 ((170 + x2).toNat)) (ishl 1 x1))) fun s2 =>
            some s2
          else none
        else none
    else none
  else none
set_option maxRecDepth 100000 in
set_option maxHeartbeats 4000000 in
theorem c_M_turns2 (x1 : Int) (hx1 : r32 x1) (x2 : Int) (hx2 : r32 x2) {σ : Mm} {σ2 : Mm} (hf : F_M_turns2 x1 x2 σ = some σ2) : CT yX11_turns2 cX11_turns2 3 none 0 1 (fun ad => [.ref (ad 200), .int (i32 x1), .int (i32 x2)]) σ True none σ2 := by
  refine MetJ 0 (by decide +kernel) rfl (fun _ => Nat.le_of_ble_eq_true rfl) ?_
  intro X h hR ok
  obtain ⟨res, er⟩ : ∃ z, z = σ2 := ⟨_, rfl⟩
  have hret : ∀ y : Mm, some y = some res → RX X 1 True none y := fun y e => by cases e; cases er; exact hR
  rw [← er] at hf
  clear er hR
  unfold F_M_turns2 at hf
  show SW X 1 3 0 [some (.ref (xad X 200)), some (.int (i32 x1)), some (.int (i32 x2))] [] σ
  refine SW_aload_n h rfl (dt t_M_turns2 0 rfl) ?_
  refine gR h cf11 o200 f11_0 j200_0 lX11_7 (dt t_M_turns2 1 rfl) ?_
  refine SW_sipush h (dt t_M_turns2 2 rfl) (by decide) ?_
  refine SW_iload_n h rfl (dt t_M_turns2 3 rfl) ?_
  refine SW_iadd h (dt t_M_turns2 4 rfl) ?_
  refine SW_aload_n h rfl (dt t_M_turns2 5 rfl) ?_
  refine gR h cf11 o200 f11_0 j200_0 lX11_7 (dt t_M_turns2 6 rfl) ?_
  refine SW_sipush h (dt t_M_turns2 7 rfl) (by decide) ?_
  refine SW_iload_n h rfl (dt t_M_turns2 8 rfl) ?_
  refine SW_iadd h (dt t_M_turns2 9 rfl) ?_
  refine aI h a201 (dt t_M_turns2 10 rfl) hf (fun hf => ?_)
  refine SW_iconst h (dt t_M_turns2 11 rfl) ?_
  refine SW_iload_n h rfl (dt t_M_turns2 12 rfl) ?_
  refine SW_ishl h (dt t_M_turns2 13 rfl) ?_
  refine SW_ixor h (dt t_M_turns2 14 rfl) ?_
  refine sI h a201 (r_ixor _ _) (dt t_M_turns2 15 rfl) hf (fun hf => SW_bm hf (fun s1 ok1 hf => ?_))
  refine SW_iload_n h rfl (dt t_M_turns2 16 rfl) ?_
  refine SW_iload_n h rfl (dt t_M_turns2 17 rfl) ?_
  refine SW_icmp_eq (tgt := 53) h (fun _ => hx1) (fun _ => hx2) (dt t_M_turns2 18 rfl) rfl hf (fun hf => ?_) (fun hf => ?_)
  · exact SW_vret h (hret _ hf) rfl (dt t_M_turns2 35 rfl)
  · refine SW_aload_n h rfl (dt t_M_turns2 19 rfl) ?_
    refine gR h cf11 o200 f11_0 j200_0 lX11_7 (dt t_M_turns2 20 rfl) ?_
    refine SW_sipush h (dt t_M_turns2 21 rfl) (by decide) ?_
    refine SW_iload_n h rfl (dt t_M_turns2 22 rfl) ?_
    refine SW_iadd h (dt t_M_turns2 23 rfl) ?_
    refine SW_aload_n h rfl (dt t_M_turns2 24 rfl) ?_
    refine gR h cf11 o200 f11_0 j200_0 lX11_7 (dt t_M_turns2 25 rfl) ?_
    refine SW_sipush h (dt t_M_turns2 26 rfl) (by decide) ?_
    refine SW_iload_n h rfl (dt t_M_turns2 27 rfl) ?_
    refine SW_iadd h (dt t_M_turns2 28 rfl) ?_
    refine aI h a201 (dt t_M_turns2 29 rfl) hf (fun hf => ?_)
    refine SW_iconst h (dt t_M_turns2 30 rfl) ?_
    refine SW_iload_n h rfl (dt t_M_turns2 31 rfl) ?_
    refine SW_ishl h (dt t_M_turns2 32 rfl) ?_
    refine SW_ixor h (dt t_M_turns2 33 rfl) ?_
    refine sI h a201 (r_ixor _ _) (dt t_M_turns2 34 rfl) hf (fun hf => SW_bm hf (fun s2 ok2 hf => ?_))
    exact SW_vret h (hret _ hf) rfl (dt t_M_turns2 35 rfl)
def b_M_happens : List (Nat × Instr × Nat) := [(0, .aload_n 0, 1), (1, .bipush 6, 2), (3, .invokevirtual 469, 3), (6, .istore_n 1, 1), (7, .iload_n 1, 1), (8, .ifCond .ne 26, 3), (11, .aload_n 0, 1), (12, .bipush 10, 2), (14, .invokevirtual 469, 3), (17, .istore_n 2, 1), (18, .aload_n 0, 1), (19, .bipush 10, 2), (21, .invokevirtual 469, 3), (24, .istore_n 3, 1), (25, .aload_n 0, 1), (26, .iload_n 2, 1), (27, .iload_n 3, 1), (28, .invokevirtual 466, 3), (31, .goto 112, 3), (34, .iload_n 1, 1), (35, .iconst 1, 1), (36, .if_icmp .ne 29, 3), (39, .aload_n 0, 1), (40, .bipush 10, 2), (42, .invokevirtual 469, 3), (45, .istore_n 2, 1), (46, .aload_n 0, 1), (47, .getfield 7, 3), (50, .sipush 140, 3), (53, .iload_n 2, 1), (54, .iadd, 1), (55, .aload_n 0, 1), (56, .bipush 10, 2), (58, .invokevirtual 469, 3), (61, .iastore, 1), (62, .goto 81, 3), (65, .iload_n 1, 1), (66, .iconst 2, 1), (67, .if_icmp .ne 57, 3), (70, .aload_n 0, 1), (71, .getfield 7, 3), (74, .iconst 0, 1), (75, .iaload, 1), (76, .ifCond .le 67, 3), (79, .aload_n 0, 1), (80, .aload_n 0, 1), (81, .getfield 7, 3), (84, .iconst 0, 1), (85, .iaload, 1), (86, .invokevirtual 469, 3), (89, .istore_n 2, 1), (90, .aload_n 0, 1), (91, .invokevirtual 446, 3), (94, .aload_n 0, 1), (95, .iload_n 2, 1), (96, .invokevirtual 430, 3), (99, .istore_n 3, 1), (100, .aload_n 0, 1), (101, .iload_n 2, 1), (102, .iload_n 3, 1), (103, .invokevirtual 433, 3), (106, .aload_n 0, 1), (107, .invokevirtual 449, 3), (110, .iload_n 3, 1), (111, .aload_n 0, 1), (112, .invokevirtual 409, 3), (115, .if_icmp .ne 7, 3), (118, .iconst 0, 1), (119, .goto 4, 3), (122, .iconst 1, 1), (123, .ireturn, 1), (124, .aload_n 0, 1), (125, .getfield 7, 3), (128, .sipush 180, 3), (131, .iaload, 1), (132, .sipush 999, 3), (135, .if_icmp .ge 8, 3), (138, .aload_n 0, 1), (139, .invokevirtual 460, 3), (142, .ireturn, 1), (143, .iconst 0, 1), (144, .ireturn, 1)]
theorem t_M_happens : DT cX11_happens b_M_happens := DT.of (by decide +kernel)
def F_M_happens  (σ : Mm) : Option (Int × Mm) :=
  b1M (F_M_draw 6 σ) fun v1 s1 =>
  if v1 = 0 then
    b1M (F_M_draw 10 s1) fun v2 s2 =>
    b1M (F_M_draw 10 s2) fun v3 s3 =>
    b0M (F_M_turns2 v2 v3 s3) fun s4 =>
    some (0, s4)
  else
    if v1 = 1 then
      b1M (F_M_draw 10 s1) fun v5 s5 =>
      b1M (F_M_draw 10 s5) fun v6 s6 =>
      if 0 ≤ 140 + v5 ∧ 140 + v5 < 5240 then
        bindM (st2 s6 201 ((140 + v5).toNat) v6) fun s7 =>
        some (0, s7)
      else none
    else
      if v1 = 2 then
        if s1 201 0 ≤ 0 then
          some (0, s1)
        else
          b1M (F_M_draw (s1 201 0) s1) fun v8 s8 =>
          b0M (F_M_laysNow  s8) fun s9 =>
          b1M (F_M_reckons v8 s9) fun v10 s10 =>
          b0M (F_M_writes v8 v10 s10) fun s11 =>
          b0M (F_M_keepsNow  s11) fun s12 =>
          b1 (F_M_trueNow  s12) fun v13 =>
          if v10 = v13 then
            some (0, s12)
          else
            some (1, s12)
      else
        if 999 ≤ s1 201 180 then
          some (0, s1)
        else
          b1M (F_M_dayDone  s1) fun v14 s14 =>
          some (v14, s14)
set_option maxRecDepth 100000 in
set_option maxHeartbeats 4000000 in
theorem c_M_happens  {σ : Mm} {a : Int} {σ2 : Mm} (hf : F_M_happens  σ = some (a, σ2)) : CT yX11_happens cX11_happens 4 (some .int) 9 1 (fun ad => [.ref (ad 200)]) σ (r32 a) (some (.int (i32 a))) σ2 := by
  refine MetJ 3 (by decide +kernel) rfl (fun _ => Nat.le_of_ble_eq_true rfl) ?_
  intro X h hR ok
  obtain ⟨res, er⟩ : ∃ z, z = (a, σ2) := ⟨_, rfl⟩
  have hret : ∀ y : Int × Mm, some y = some res → RX X 1 (r32 (y.1)) (some (.int (i32 (y.1)))) y.2 := fun y e => by cases e; cases er; exact hR
  rw [← er] at hf
  clear er hR
  unfold F_M_happens at hf
  show SW X 1 4 0 [some (.ref (xad X 200)), none, none, none] [] σ
  refine SW_aload_n h rfl (dt t_M_happens 0 rfl) ?_
  refine SW_bipush h (dt t_M_happens 1 rfl) (by decide) ?_
  obtain ⟨v1, s1, e1, hf⟩ := b1M_of hf
  refine cV h [.int (i32 6)] [] v_X11_draw kX11_469 o200 (c_M_draw 6 (by decide) e1) rfl rfl (by decide) (by decide) rfl (Nat.le_of_ble_eq_true rfl) (dt t_M_happens 2 rfl) (fun h1 => ?_)
  refine SW_ok (fun ok1 => ?_)
  refine SW_istore_n (lv2 := [some (.ref (xad X 200)), some (.int (i32 v1)), none, none]) h (dt t_M_happens 3 rfl) (by decide) rfl ?_
  refine SW_iload_n h rfl (dt t_M_happens 4 rfl) ?_
  refine SW_if_ne (tgt := 34) h (fun _ => h1) (dt t_M_happens 5 rfl) rfl hf (fun hf => ?_) (fun hf => ?_)
  · refine SW_aload_n h rfl (dt t_M_happens 6 rfl) ?_
    refine SW_bipush h (dt t_M_happens 7 rfl) (by decide) ?_
    obtain ⟨v2, s2, e2, hf⟩ := b1M_of hf
    refine cV h [.int (i32 10)] [] v_X11_draw kX11_469 o200 (c_M_draw 10 (by decide) e2) rfl rfl (by decide) (by decide) rfl (Nat.le_of_ble_eq_true rfl) (dt t_M_happens 8 rfl) (fun h2 => ?_)
    refine SW_ok (fun ok2 => ?_)
    refine SW_istore_n (lv2 := [some (.ref (xad X 200)), some (.int (i32 v1)), some (.int (i32 v2)), none]) h (dt t_M_happens 9 rfl) (by decide) rfl ?_
    refine SW_aload_n h rfl (dt t_M_happens 10 rfl) ?_
    refine SW_bipush h (dt t_M_happens 11 rfl) (by decide) ?_
    obtain ⟨v3, s3, e3, hf⟩ := b1M_of hf
    refine cV h [.int (i32 10)] [] v_X11_draw kX11_469 o200 (c_M_draw 10 (by decide) e3) rfl rfl (by decide) (by decide) rfl (Nat.le_of_ble_eq_true rfl) (dt t_M_happens 12 rfl) (fun h3 => ?_)
    refine SW_ok (fun ok3 => ?_)
    refine SW_istore_n (lv2 := [some (.ref (xad X 200)), some (.int (i32 v1)), some (.int (i32 v2)), some (.int (i32 v3))]) h (dt t_M_happens 13 rfl) (by decide) rfl ?_
    refine SW_aload_n h rfl (dt t_M_happens 14 rfl) ?_
    refine SW_iload_n h rfl (dt t_M_happens 15 rfl) ?_
    refine SW_iload_n h rfl (dt t_M_happens 16 rfl) ?_
    obtain ⟨s4, e4, hf⟩ := b0M_of hf
    refine cVv h [.int (i32 v2), .int (i32 v3)] [] v_X11_turns2 kX11_466 o200 (c_M_turns2 v2 h2 v3 h3 e4) rfl rfl (by decide) (by decide) rfl (Nat.le_of_ble_eq_true rfl) (dt t_M_happens 17 rfl) (fun h4 => ?_)
    refine SW_ok (fun ok4 => ?_)
    refine SW_goto (tgt := 143) h (dt t_M_happens 18 rfl) rfl ?_
    refine SW_iconst h (dt t_M_happens 80 rfl) ?_
    exact SW_iret h (hret _ hf) (fun _ => (by decide)) rfl (dt t_M_happens 81 rfl)
  · refine SW_iload_n h rfl (dt t_M_happens 19 rfl) ?_
    refine SW_iconst h (dt t_M_happens 20 rfl) ?_
    refine SW_icmp_ne (tgt := 65) h (fun _ => h1) (fun _ => (by decide)) (dt t_M_happens 21 rfl) rfl hf (fun hf => ?_) (fun hf => ?_)
    · refine SW_aload_n h rfl (dt t_M_happens 22 rfl) ?_
      refine SW_bipush h (dt t_M_happens 23 rfl) (by decide) ?_
      obtain ⟨v5, s5, e5, hf⟩ := b1M_of hf
      refine cV h [.int (i32 10)] [] v_X11_draw kX11_469 o200 (c_M_draw 10 (by decide) e5) rfl rfl (by decide) (by decide) rfl (Nat.le_of_ble_eq_true rfl) (dt t_M_happens 24 rfl) (fun h5 => ?_)
      refine SW_ok (fun ok5 => ?_)
      refine SW_istore_n (lv2 := [some (.ref (xad X 200)), some (.int (i32 v1)), some (.int (i32 v5)), none]) h (dt t_M_happens 25 rfl) (by decide) rfl ?_
      refine SW_aload_n h rfl (dt t_M_happens 26 rfl) ?_
      refine gR h cf11 o200 f11_0 j200_0 lX11_7 (dt t_M_happens 27 rfl) ?_
      refine SW_sipush h (dt t_M_happens 28 rfl) (by decide) ?_
      refine SW_iload_n h rfl (dt t_M_happens 29 rfl) ?_
      refine SW_iadd h (dt t_M_happens 30 rfl) ?_
      refine SW_aload_n h rfl (dt t_M_happens 31 rfl) ?_
      refine SW_bipush h (dt t_M_happens 32 rfl) (by decide) ?_
      obtain ⟨v6, s6, e6, hf⟩ := b1M_of hf
      refine cV h [.int (i32 10)] [.int (i32 (140 + v5)), .ref (xad X 201)] v_X11_draw kX11_469 o200 (c_M_draw 10 (by decide) e6) rfl rfl (by decide) (by decide) rfl (Nat.le_of_ble_eq_true rfl) (dt t_M_happens 33 rfl) (fun h6 => ?_)
      refine SW_ok (fun ok6 => ?_)
      refine sI h a201 h6 (dt t_M_happens 34 rfl) hf (fun hf => SW_bm hf (fun s7 ok7 hf => ?_))
      refine SW_goto (tgt := 143) h (dt t_M_happens 35 rfl) rfl ?_
      refine SW_iconst h (dt t_M_happens 80 rfl) ?_
      exact SW_iret h (hret _ hf) (fun _ => (by decide)) rfl (dt t_M_happens 81 rfl)
    · refine SW_iload_n h rfl (dt t_M_happens 36 rfl) ?_
      refine SW_iconst h (dt t_M_happens 37 rfl) ?_
      refine SW_icmp_ne (tgt := 124) h (fun _ => h1) (fun _ => (by decide)) (dt t_M_happens 38 rfl) rfl hf (fun hf => ?_) (fun hf => ?_)
      · refine SW_aload_n h rfl (dt t_M_happens 39 rfl) ?_
        refine gR h cf11 o200 f11_0 j200_0 lX11_7 (dt t_M_happens 40 rfl) ?_
        refine SW_iconst h (dt t_M_happens 41 rfl) ?_
        refine aIk h a201 (by decide) (dt t_M_happens 42 rfl) ?_
        refine SW_if_le (tgt := 143) h (fun _ => (okI ok1 201 0 (IsA.n3 a201 (by decide)))) (dt t_M_happens 43 rfl) rfl hf (fun hf => ?_) (fun hf => ?_)
        · refine SW_iconst h (dt t_M_happens 80 rfl) ?_
          exact SW_iret h (hret _ hf) (fun _ => (by decide)) rfl (dt t_M_happens 81 rfl)
        · refine SW_aload_n h rfl (dt t_M_happens 44 rfl) ?_
          refine SW_aload_n h rfl (dt t_M_happens 45 rfl) ?_
          refine gR h cf11 o200 f11_0 j200_0 lX11_7 (dt t_M_happens 46 rfl) ?_
          refine SW_iconst h (dt t_M_happens 47 rfl) ?_
          refine aIk h a201 (by decide) (dt t_M_happens 48 rfl) ?_
          obtain ⟨v8, s8, e8, hf⟩ := b1M_of hf
          refine cV h [.int (i32 (s1 201 0))] [] v_X11_draw kX11_469 o200 (c_M_draw (s1 201 0) (okI ok1 201 0 (IsA.n3 a201 (by decide))) e8) rfl rfl (by decide) (by decide) rfl (Nat.le_of_ble_eq_true rfl) (dt t_M_happens 49 rfl) (fun h8 => ?_)
          refine SW_ok (fun ok8 => ?_)
          refine SW_istore_n (lv2 := [some (.ref (xad X 200)), some (.int (i32 v1)), some (.int (i32 v8)), none]) h (dt t_M_happens 50 rfl) (by decide) rfl ?_
          refine SW_aload_n h rfl (dt t_M_happens 51 rfl) ?_
          obtain ⟨s9, e9, hf⟩ := b0M_of hf
          refine cVv h [] [] v_X11_laysNow kX11_446 o200 (c_M_laysNow  e9) rfl rfl (by decide) (by decide) rfl (Nat.le_of_ble_eq_true rfl) (dt t_M_happens 52 rfl) (fun h9 => ?_)
          refine SW_ok (fun ok9 => ?_)
          refine SW_aload_n h rfl (dt t_M_happens 53 rfl) ?_
          refine SW_iload_n h rfl (dt t_M_happens 54 rfl) ?_
          obtain ⟨v10, s10, e10, hf⟩ := b1M_of hf
          refine cV h [.int (i32 v8)] [] v_X11_reckons kX11_430 o200 (c_M_reckons v8 h8 e10) rfl rfl (by decide) (by decide) rfl (Nat.le_of_ble_eq_true rfl) (dt t_M_happens 55 rfl) (fun h10 => ?_)
          refine SW_ok (fun ok10 => ?_)
          refine SW_istore_n (lv2 := [some (.ref (xad X 200)), some (.int (i32 v1)), some (.int (i32 v8)), some (.int (i32 v10))]) h (dt t_M_happens 56 rfl) (by decide) rfl ?_
          refine SW_aload_n h rfl (dt t_M_happens 57 rfl) ?_
          refine SW_iload_n h rfl (dt t_M_happens 58 rfl) ?_
          refine SW_iload_n h rfl (dt t_M_happens 59 rfl) ?_
          obtain ⟨s11, e11, hf⟩ := b0M_of hf
          refine cVv h [.int (i32 v8), .int (i32 v10)] [] v_X11_writes kX11_433 o200 (c_M_writes v8 h8 v10 h10 e11) rfl rfl (by decide) (by decide) rfl (Nat.le_of_ble_eq_true rfl) (dt t_M_happens 60 rfl) (fun h11 => ?_)
          refine SW_ok (fun ok11 => ?_)
          refine SW_aload_n h rfl (dt t_M_happens 61 rfl) ?_
          obtain ⟨s12, e12, hf⟩ := b0M_of hf
          refine cVv h [] [] v_X11_keepsNow kX11_449 o200 (c_M_keepsNow  e12) rfl rfl (by decide) (by decide) rfl (Nat.le_of_ble_eq_true rfl) (dt t_M_happens 62 rfl) (fun h12 => ?_)
          refine SW_ok (fun ok12 => ?_)
          refine SW_iload_n h rfl (dt t_M_happens 63 rfl) ?_
          refine SW_aload_n h rfl (dt t_M_happens 64 rfl) ?_
          obtain ⟨v13, e13, hf⟩ := b1_of hf
          refine cV h [] [.int (i32 v10)] v_X11_trueNow kX11_409 o200 (c_M_trueNow  e13) rfl rfl (by decide) (by decide) rfl (Nat.le_of_ble_eq_true rfl) (dt t_M_happens 65 rfl) (fun h13 => ?_)
          refine SW_icmp_ne (tgt := 122) h (fun _ => h10) (fun _ => h13) (dt t_M_happens 66 rfl) rfl hf (fun hf => ?_) (fun hf => ?_)
          · refine SW_iconst h (dt t_M_happens 67 rfl) ?_
            refine SW_goto (tgt := 123) h (dt t_M_happens 68 rfl) rfl ?_
            exact SW_iret h (hret _ hf) (fun _ => (by decide)) rfl (dt t_M_happens 70 rfl)
          · refine SW_iconst h (dt t_M_happens 69 rfl) ?_
            exact SW_iret h (hret _ hf) (fun _ => (by decide)) rfl (dt t_M_happens 70 rfl)
      · refine SW_aload_n h rfl (dt t_M_happens 71 rfl) ?_
        refine gR h cf11 o200 f11_0 j200_0 lX11_7 (dt t_M_happens 72 rfl) ?_
        refine SW_sipush h (dt t_M_happens 73 rfl) (by decide) ?_
        refine aIk h a201 (by decide) (dt t_M_happens 74 rfl) ?_
        refine SW_sipush h (dt t_M_happens 75 rfl) (by decide) ?_
        refine SW_icmp_ge (tgt := 143) h (fun _ => (okI ok1 201 180 (IsA.n3 a201 (by decide)))) (fun _ => (by decide)) (dt t_M_happens 76 rfl) rfl hf (fun hf => ?_) (fun hf => ?_)
        · refine SW_iconst h (dt t_M_happens 80 rfl) ?_
          exact SW_iret h (hret _ hf) (fun _ => (by decide)) rfl (dt t_M_happens 81 rfl)
        · refine SW_aload_n h rfl (dt t_M_happens 77 rfl) ?_
          obtain ⟨v14, s14, e14, hf⟩ := b1M_of hf
          refine cV h [] [] v_X11_dayDone kX11_460 o200 (c_M_dayDone  e14) rfl rfl (by decide) (by decide) rfl (Nat.le_of_ble_eq_true rfl) (dt t_M_happens 78 rfl) (fun h14 => ?_)
          refine SW_ok (fun ok14 => ?_)
          exact SW_iret h (hret _ hf) (fun _ => h14) rfl (dt t_M_happens 79 rfl)
def b_M_image : List (Nat × Instr × Nat) := [(0, .aload_n 0, 1), (1, .iconst 1, 1), (2, .invokevirtual 146, 3), (5, .aload_n 0, 1), (6, .getfield 7, 3), (9, .sipush 180, 3), (12, .iaload, 1), (13, .ireturn, 1)]
theorem t_M_image : DT cX11_image b_M_image := DT.of (by decide +kernel)
def F_M_image  (σ : Mm) : Option (Int × Mm) :=
  b0M (F_M_copies 1 σ) fun s1 =>
  some (s1 201 180, s1)
set_option maxRecDepth 100000 in
set_option maxHeartbeats 4000000 in
theorem c_M_image  {σ : Mm} {a : Int} {σ2 : Mm} (hf : F_M_image  σ = some (a, σ2)) : CT yX11_image cX11_image 1 (some .int) 1 1 (fun ad => [.ref (ad 200)]) σ (r32 a) (some (.int (i32 a))) σ2 := by
  refine MetJ 0 (by decide +kernel) rfl (fun _ => Nat.le_of_ble_eq_true rfl) ?_
  intro X h hR ok
  obtain ⟨res, er⟩ : ∃ z, z = (a, σ2) := ⟨_, rfl⟩
  have hret : ∀ y : Int × Mm, some y = some res → RX X 1 (r32 (y.1)) (some (.int (i32 (y.1)))) y.2 := fun y e => by cases e; cases er; exact hR
  rw [← er] at hf
  clear er hR
  unfold F_M_image at hf
  show SW X 1 1 0 [some (.ref (xad X 200))] [] σ
  refine SW_aload_n h rfl (dt t_M_image 0 rfl) ?_
  refine SW_iconst h (dt t_M_image 1 rfl) ?_
  obtain ⟨s1, e1, hf⟩ := b0M_of hf
  refine cVv h [.int (i32 1)] [] v_X11_copies kX11_146 o200 (c_M_copies 1 (by decide) e1) rfl rfl (by decide) (by decide) rfl (Nat.le_of_ble_eq_true rfl) (dt t_M_image 2 rfl) (fun h1 => ?_)
  refine SW_ok (fun ok1 => ?_)
  refine SW_aload_n h rfl (dt t_M_image 3 rfl) ?_
  refine gR h cf11 o200 f11_0 j200_0 lX11_7 (dt t_M_image 4 rfl) ?_
  refine SW_sipush h (dt t_M_image 5 rfl) (by decide) ?_
  refine aIk h a201 (by decide) (dt t_M_image 6 rfl) ?_
  exact SW_iret h (hret _ hf) (fun _ => (okI ok1 201 180 (IsA.n3 a201 (by decide)))) rfl (dt t_M_image 7 rfl)
def b_M_isInRound : List (Nat × Instr × Nat) := [(0, .iconst 0, 1), (1, .istore_n 3, 1), (2, .iload_n 3, 1), (3, .iload_n 2, 1), (4, .if_icmp .ge 21, 3), (7, .aload_n 0, 1), (8, .getfield 143, 3), (11, .iload_n 3, 1), (12, .iaload, 1), (13, .iload_n 1, 1), (14, .if_icmp .ne 5, 3), (17, .iconst 1, 1), (18, .ireturn, 1), (19, .iinc 3 1, 3), (22, .goto (-20), 3), (25, .iconst 0, 1), (26, .ireturn, 1)]
theorem t_M_isInRound : DT cX11_isInRound b_M_isInRound := DT.of (by decide +kernel)
def L_M_isInRound_2 : Nat → Int → Int → Int → Mm → Option ((Int) ⊕ (Unit))
  | 0, _, _, _, _ => none
  | n + 1, x1, x2, x3, σ =>
    if x2 ≤ x3 then
      some (.inr (()))
    else
      if 0 ≤ x3 ∧ x3 < 6 then
        if σ 242 x3.toNat = x1 then
          some (.inl 1)
        else
          if r32 (x3 + 1) then
            L_M_isInRound_2 n x1 x2 (x3 + 1) σ
          else none
      else none
set_option maxRecDepth 100000 in
set_option maxHeartbeats 4000000 in
theorem l_M_isInRound_2 {X : Cx} (h : CX X 1 cX11_isInRound 4 0 (some .boolean) RX11) (x1 : Int) (x2 : Int) (σ : Mm) (hx1 : r32 x1) (hx2 : r32 x2) (ok : okM σ) {res : (Int) ⊕ (Unit)} (hret : ∀ y : Int, some (.inl y) = some res → RX X 1 (y = 0 ∨ y = 1) (some (.int (i32 (y)))) σ) (hex : ∀ (hz : some (.inr (())) = some res), SW X 1 4 25 [none, none, none, none] [] σ) : ∀ (n : Nat) (x3 : Int) (hx3 : r32 x3) (hf : L_M_isInRound_2 n x1 x2 x3 σ = some res), SW X 1 4 2 [some (.ref (xad X 200)), some (.int (i32 x1)), some (.int (i32 x2)), some (.int (i32 x3))] [] σ := by
  intro n
  induction n with
  | zero => intro x3 hx3 hf; exact absurd hf (by simp [L_M_isInRound_2])
  | succ n ih =>
    intro x3 hx3 hf
    rw [L_M_isInRound_2] at hf
    refine SW_iload_n h rfl (dt t_M_isInRound 2 rfl) ?_
    refine SW_iload_n h rfl (dt t_M_isInRound 3 rfl) ?_
    refine SW_icmp_ge (tgt := 25) h (fun _ => hx3) (fun _ => hx2) (dt t_M_isInRound 4 rfl) rfl hf (fun hf => ?_) (fun hf => ?_)
    · exact SW_fgt [false, false, false, false] rfl (hex hf)
    · refine SW_aload_n h rfl (dt t_M_isInRound 5 rfl) ?_
      refine gR h cf11 o200 f11_64 j200_64 lX11_143 (dt t_M_isInRound 6 rfl) ?_
      refine SW_iload_n h rfl (dt t_M_isInRound 7 rfl) ?_
      refine aI h a242 (dt t_M_isInRound 8 rfl) hf (fun hf => ?_)
      refine SW_iload_n h rfl (dt t_M_isInRound 9 rfl) ?_
      refine SW_icmp_ne (tgt := 19) h (fun _ => (okI ok 242 x3.toNat (IsA.n3 a242 (by decide)))) (fun _ => hx1) (dt t_M_isInRound 10 rfl) rfl hf (fun hf => ?_) (fun hf => ?_)
      · refine SW_iconst h (dt t_M_isInRound 11 rfl) ?_
        exact SW_zret h (hret _ hf) (by decide) rfl (dt t_M_isInRound 12 rfl)
      · refine SW_iinc (lv2 := [some (.ref (xad X 200)), some (.int (i32 x1)), some (.int (i32 x2)), some (.int (i32 (x3 + 1)))]) h (dt t_M_isInRound 13 rfl) rfl (by decide) rfl ?_
        refine SW_goto (tgt := 2) h (dt t_M_isInRound 14 rfl) rfl ?_
        refine SW_chk hf (fun h1 hf => ?_)
        exact SW_fgt [true, true, true, true] rfl (ih (x3 + 1) h1 hf)
def F_M_isInRound (x1 : Int) (x2 : Int) (σ : Mm) : Option (Int) :=
  b0S (L_M_isInRound_2 LF x1 x2 0 σ) (fun y => some y) <|
  some 0
set_option maxRecDepth 100000 in
set_option maxHeartbeats 4000000 in
theorem c_M_isInRound (x1 : Int) (hx1 : r32 x1) (x2 : Int) (hx2 : r32 x2) {σ : Mm} {a : Int} (hf : F_M_isInRound x1 x2 σ = some a) : CT yX11_isInRound cX11_isInRound 4 (some .boolean) 0 1 (fun ad => [.ref (ad 200), .int (i32 x1), .int (i32 x2)]) σ (a = 0 ∨ a = 1) (some (.int (i32 a))) σ := by
  refine MetJ 1 (by decide +kernel) rfl (fun _ => Nat.le_of_ble_eq_true rfl) ?_
  intro X h hR ok
  obtain ⟨res, er⟩ : ∃ z, z = a := ⟨_, rfl⟩
  have hret : ∀ y : Int, some y = some res → RX X 1 (y = 0 ∨ y = 1) (some (.int (i32 (y)))) σ := fun y e => by cases e; cases er; exact hR
  rw [← er] at hf
  clear er hR
  unfold F_M_isInRound at hf
  show SW X 1 4 0 [some (.ref (xad X 200)), some (.int (i32 x1)), some (.int (i32 x2)), none] [] σ
  refine SW_iconst h (dt t_M_isInRound 0 rfl) ?_
  refine SW_istore_n (lv2 := [some (.ref (xad X 200)), some (.int (i32 x1)), some (.int (i32 x2)), some (.int (i32 0))]) h (dt t_M_isInRound 1 rfl) (by decide) rfl ?_
  obtain ⟨z2, e2, g2, hk2⟩ := b0S_of hf
  refine SW_fgt [true, true, true, true] rfl (l_M_isInRound_2 h x1 x2 σ hx1 hx2 ok (fun y e => hret y (g2 y (Option.some.inj e).symm)) (fun hz2 => ?_) LF 0 (by decide) e2)
  have hf := hk2 (Option.some.inj hz2).symm
  refine SW_iconst h (dt t_M_isInRound 15 rfl) ?_
  exact SW_zret h (hret _ hf) (by decide) rfl (dt t_M_isInRound 16 rfl)
def b_M_laysParts : List (Nat × Instr × Nat) := [(0, .aload_n 0, 1), (1, .iload_n 1, 1), (2, .putfield 154, 3), (5, .aload_n 0, 1), (6, .iconst 0, 1), (7, .putfield 157, 3), (10, .aload_n 0, 1), (11, .getfield 103, 3), (14, .iconst 0, 1), (15, .iload_n 2, 1), (16, .iastore, 1), (17, .aload_n 0, 1), (18, .getfield 103, 3), (21, .iconst 1, 1), (22, .iload_n 3, 1), (23, .iastore, 1), (24, .aload_n 0, 1), (25, .getfield 103, 3), (28, .iconst 2, 1), (29, .iload 4, 2), (31, .iastore, 1), (32, .return_, 1)]
theorem t_M_laysParts : DT cX11_laysParts b_M_laysParts := DT.of (by decide +kernel)
def F_M_laysParts (x1 : Int) (x2 : Int) (x3 : Int) (x4 : Int) (σ : Mm) : Option (Mm) :=
  bindM (st2 σ 200 48 x1) fun s2 =>
  bindM (st2 s2 200 49 0) fun s4 =>
  bindM (st2 s4 229 0 x2) fun s5 =>
  bindM (st2 s5 229 1 x3) fun s6 =>
  bindM (st2 s6 229 2 x4) fun s7 =>
  some s7
set_option maxRecDepth 100000 in
set_option maxHeartbeats 4000000 in
theorem c_M_laysParts (x1 : Int) (hx1 : r32 x1) (x2 : Int) (hx2 : r32 x2) (x3 : Int) (hx3 : r32 x3) (x4 : Int) (hx4 : r32 x4) {σ : Mm} {σ2 : Mm} (hf : F_M_laysParts x1 x2 x3 x4 σ = some σ2) : CT yX11_laysParts cX11_laysParts 5 none 0 1 (fun ad => [.ref (ad 200), .int (i32 x1), .int (i32 x2), .int (i32 x3), .int (i32 x4)]) σ True none σ2 := by
  refine MetJ 0 (by decide +kernel) rfl (fun _ => Nat.le_of_ble_eq_true rfl) ?_
  intro X h hR ok
  obtain ⟨res, er⟩ : ∃ z, z = σ2 := ⟨_, rfl⟩
  have hret : ∀ y : Mm, some y = some res → RX X 1 True none y := fun y e => by cases e; cases er; exact hR
  rw [← er] at hf
  clear er hR
  unfold F_M_laysParts at hf
  show SW X 1 5 0 [some (.ref (xad X 200)), some (.int (i32 x1)), some (.int (i32 x2)), some (.int (i32 x3)), some (.int (i32 x4))] [] σ
  refine SW_aload_n h rfl (dt t_M_laysParts 0 rfl) ?_
  refine SW_iload_n h rfl (dt t_M_laysParts 1 rfl) ?_
  refine pI h cf11 o200 f11_48 hx1 lX11_154 (dt t_M_laysParts 2 rfl) (SW_bm hf (fun s2 ok2 hf => ?_))
  refine SW_aload_n h rfl (dt t_M_laysParts 3 rfl) ?_
  refine SW_iconst h (dt t_M_laysParts 4 rfl) ?_
  refine pI h cf11 o200 f11_49 (by decide) lX11_157 (dt t_M_laysParts 5 rfl) (SW_bm hf (fun s4 ok4 hf => ?_))
  refine SW_aload_n h rfl (dt t_M_laysParts 6 rfl) ?_
  refine gR h cf11 o200 f11_47 j200_47 lX11_103 (dt t_M_laysParts 7 rfl) ?_
  refine SW_iconst h (dt t_M_laysParts 8 rfl) ?_
  refine SW_iload_n h rfl (dt t_M_laysParts 9 rfl) ?_
  refine sIk h a229 (by decide) hx2 (dt t_M_laysParts 10 rfl) (SW_bm hf (fun s5 ok5 hf => ?_))
  refine SW_aload_n h rfl (dt t_M_laysParts 11 rfl) ?_
  refine gR h cf11 o200 f11_47 j200_47 lX11_103 (dt t_M_laysParts 12 rfl) ?_
  refine SW_iconst h (dt t_M_laysParts 13 rfl) ?_
  refine SW_iload_n h rfl (dt t_M_laysParts 14 rfl) ?_
  refine sIk h a229 (by decide) hx3 (dt t_M_laysParts 15 rfl) (SW_bm hf (fun s6 ok6 hf => ?_))
  refine SW_aload_n h rfl (dt t_M_laysParts 16 rfl) ?_
  refine gR h cf11 o200 f11_47 j200_47 lX11_103 (dt t_M_laysParts 17 rfl) ?_
  refine SW_iconst h (dt t_M_laysParts 18 rfl) ?_
  refine SW_iload h rfl (dt t_M_laysParts 19 rfl) ?_
  refine sIk h a229 (by decide) hx4 (dt t_M_laysParts 20 rfl) (SW_bm hf (fun s7 ok7 hf => ?_))
  exact SW_vret h (hret _ hf) rfl (dt t_M_laysParts 21 rfl)
def b_M_quarrelsNow : List (Nat × Instr × Nat) := [(0, .aload_n 0, 1), (1, .invokevirtual 406, 3), (4, .iconst 0, 1), (5, .istore_n 1, 1), (6, .iconst 0, 1), (7, .istore_n 2, 1), (8, .iload_n 2, 1), (9, .iconst 1, 1), (10, .iadd, 1), (11, .aload_n 0, 1), (12, .getfield 385, 3), (15, .if_icmp .ge 25, 3), (18, .iload_n 1, 1), (19, .aload_n 0, 1), (20, .iload_n 2, 1), (21, .invokevirtual 412, 3), (24, .ifCond .eq 7, 3), (27, .iconst 1, 1), (28, .goto 4, 3), (31, .iconst 0, 1), (32, .iadd, 1), (33, .istore_n 1, 1), (34, .iinc 2 1, 3), (37, .goto (-29), 3), (40, .iload_n 1, 1), (41, .ireturn, 1)]
theorem t_M_quarrelsNow : DT cX11_quarrelsNow b_M_quarrelsNow := DT.of (by decide +kernel)
def L_M_quarrelsNow_8 : Nat → Int → Int → Mm → Option (Int × Mm)
  | 0, _, _, _ => none
  | n + 1, x1, x2, σ =>
    if r32 (x2 + 1) then
      if σ 200 53 ≤ x2 + 1 then
        some ((x1, σ))
      else
        b1M (F_M_quarrelAt x2 σ) fun v3 s3 =>
        bindM ((if v3 = 0 then 0 else 1 : Int)) fun v4 =>
        if r32 (x1 + v4) then
          if r32 (x2 + 1) then
            L_M_quarrelsNow_8 n (x1 + v4) (x2 + 1) s3
          else none
        else none
    else none
set_option maxRecDepth 100000 in
set_option maxHeartbeats 4000000 in
theorem l_M_quarrelsNow_8 {X : Cx} (h : CX X 1 cX11_quarrelsNow 3 5 (some .int) RX11)   {res : Int × Mm} (hex : ∀ (x1 : Int) (σ : Mm) (hz : some ((x1, σ)) = some res) (hx1 : r32 x1) (ok : okM σ), SW X 1 3 40 [none, some (.int (i32 x1)), none] [] σ) : ∀ (n : Nat) (x1 : Int) (x2 : Int) (σ : Mm) (hx1 : r32 x1) (hx2 : r32 x2) (ok : okM σ) (hf : L_M_quarrelsNow_8 n x1 x2 σ = some res), SW X 1 3 8 [some (.ref (xad X 200)), some (.int (i32 x1)), some (.int (i32 x2))] [] σ := by
  intro n
  induction n with
  | zero => intro x1 x2 σ hx1 hx2 ok hf; exact absurd hf (by simp [L_M_quarrelsNow_8])
  | succ n ih =>
    intro x1 x2 σ hx1 hx2 ok hf
    rw [L_M_quarrelsNow_8] at hf
    refine SW_iload_n h rfl (dt t_M_quarrelsNow 6 rfl) ?_
    refine SW_iconst h (dt t_M_quarrelsNow 7 rfl) ?_
    refine SW_iadd h (dt t_M_quarrelsNow 8 rfl) ?_
    refine SW_aload_n h rfl (dt t_M_quarrelsNow 9 rfl) ?_
    refine gI h cf11 o200 f11_53 lX11_385 (dt t_M_quarrelsNow 10 rfl) ?_
    refine SW_chk hf (fun h2 hf => ?_)
    refine SW_icmp_ge (tgt := 40) h (fun _ => h2) (fun _ => (okI ok 200 53 (IsO.n3 o200))) (dt t_M_quarrelsNow 11 rfl) rfl hf (fun hf => ?_) (fun hf => ?_)
    · exact SW_fgt [false, true, false] rfl (hex x1 σ hf hx1 ok)
    · refine SW_iload_n h rfl (dt t_M_quarrelsNow 12 rfl) ?_
      refine SW_aload_n h rfl (dt t_M_quarrelsNow 13 rfl) ?_
      refine SW_iload_n h rfl (dt t_M_quarrelsNow 14 rfl) ?_
      obtain ⟨v3, s3, e3, hf⟩ := b1M_of hf
      refine cV h [.int (i32 x2)] [.int (i32 x1)] v_X11_quarrelAt kX11_412 o200 (c_M_quarrelAt x2 hx2 e3) rfl rfl (by decide) (by decide) rfl (Nat.le_of_ble_eq_true rfl) (dt t_M_quarrelsNow 15 rfl) (fun h3 => ?_)
      refine SW_ok (fun ok3 => ?_)
      refine bT hf (fun g4 e4 hf => ?_)
      have k4 : ∀ (v4 : Int) (h4 : r32 v4) (hf : g4 v4 = some res), SW X 1 3 32 [some (.ref (xad X 200)), some (.int (i32 x1)), some (.int (i32 x2))] [.int (i32 v4), .int (i32 x1)] s3 := by
        intro v4 h4 hf
        rw [e4] at hf
        refine SW_iadd h (dt t_M_quarrelsNow 20 rfl) ?_
        refine SW_istore_n (lv2 := [some (.ref (xad X 200)), some (.int (i32 (x1 + v4))), some (.int (i32 x2))]) h (dt t_M_quarrelsNow 21 rfl) (by decide) rfl ?_
        refine SW_iinc (lv2 := [some (.ref (xad X 200)), some (.int (i32 (x1 + v4))), some (.int (i32 (x2 + 1)))]) h (dt t_M_quarrelsNow 22 rfl) rfl (by decide) rfl ?_
        refine SW_goto (tgt := 8) h (dt t_M_quarrelsNow 23 rfl) rfl ?_
        refine SW_chk hf (fun h5 hf => ?_)
        refine SW_chk hf (fun h6 hf => ?_)
        exact SW_fgt [true, true, true] rfl (ih (x1 + v4) (x2 + 1) s3 h5 h6 ok3 hf)
      have hf := bIte hf
      refine SW_if_eq (tgt := 31) h (fun _ => (r_zo h3)) (dt t_M_quarrelsNow 16 rfl) rfl hf (fun hf => ?_) (fun hf => ?_)
      · refine SW_iconst h (dt t_M_quarrelsNow 19 rfl) ?_
        exact k4 0 (by decide) hf
      · refine SW_iconst h (dt t_M_quarrelsNow 17 rfl) ?_
        refine SW_goto (tgt := 32) h (dt t_M_quarrelsNow 18 rfl) rfl ?_
        exact k4 1 (by decide) hf
def F_M_quarrelsNow  (σ : Mm) : Option (Int × Mm) :=
  b0M (F_M_laysDigits  σ) fun s1 =>
  b1M (L_M_quarrelsNow_8 LF 0 0 s1) fun x1_7 s7 =>
  some (x1_7, s7)
set_option maxRecDepth 100000 in
set_option maxHeartbeats 4000000 in
theorem c_M_quarrelsNow  {σ : Mm} {a : Int} {σ2 : Mm} (hf : F_M_quarrelsNow  σ = some (a, σ2)) : CT yX11_quarrelsNow cX11_quarrelsNow 3 (some .int) 5 1 (fun ad => [.ref (ad 200)]) σ (r32 a) (some (.int (i32 a))) σ2 := by
  refine MetJ 2 (by decide +kernel) rfl (fun _ => Nat.le_of_ble_eq_true rfl) ?_
  intro X h hR ok
  obtain ⟨res, er⟩ : ∃ z, z = (a, σ2) := ⟨_, rfl⟩
  have hret : ∀ y : Int × Mm, some y = some res → RX X 1 (r32 (y.1)) (some (.int (i32 (y.1)))) y.2 := fun y e => by cases e; cases er; exact hR
  rw [← er] at hf
  clear er hR
  unfold F_M_quarrelsNow at hf
  show SW X 1 3 0 [some (.ref (xad X 200)), none, none] [] σ
  refine SW_aload_n h rfl (dt t_M_quarrelsNow 0 rfl) ?_
  obtain ⟨s1, e1, hf⟩ := b0M_of hf
  refine cVv h [] [] v_X11_laysDigits kX11_406 o200 (c_M_laysDigits  e1) rfl rfl (by decide) (by decide) rfl (Nat.le_of_ble_eq_true rfl) (dt t_M_quarrelsNow 1 rfl) (fun h1 => ?_)
  refine SW_ok (fun ok1 => ?_)
  refine SW_iconst h (dt t_M_quarrelsNow 2 rfl) ?_
  refine SW_istore_n (lv2 := [some (.ref (xad X 200)), some (.int (i32 0)), none]) h (dt t_M_quarrelsNow 3 rfl) (by decide) rfl ?_
  refine SW_iconst h (dt t_M_quarrelsNow 4 rfl) ?_
  refine SW_istore_n (lv2 := [some (.ref (xad X 200)), some (.int (i32 0)), some (.int (i32 0))]) h (dt t_M_quarrelsNow 5 rfl) (by decide) rfl ?_
  obtain ⟨z7, e7, hk7⟩ := b1M_ex hf
  refine SW_fgt [true, true, true] rfl (l_M_quarrelsNow_8 h (fun x1_7 s7 hz7 hx1_7 ok7 => ?_) LF 0 0 s1 (by decide) (by decide) ok1 e7)
  have hf := hk7 x1_7 s7 hz7
  refine SW_iload_n h rfl (dt t_M_quarrelsNow 24 rfl) ?_
  exact SW_iret h (hret _ hf) (fun _ => hx1_7) rfl (dt t_M_quarrelsNow 25 rfl)
def b_M_isQuiet : List (Nat × Instr × Nat) := [(0, .aload_n 0, 1), (1, .iconst 1, 1), (2, .iload_n 1, 1), (3, .iconst 0, 1), (4, .iconst 0, 1), (5, .invokevirtual 514, 3), (8, .aload_n 0, 1), (9, .invokevirtual 496, 3), (12, .ifCond .ne 7, 3), (15, .iconst 1, 1), (16, .goto 4, 3), (19, .iconst 0, 1), (20, .ireturn, 1)]
theorem t_M_isQuiet : DT cX11_isQuiet b_M_isQuiet := DT.of (by decide +kernel)
def F_M_isQuiet (x1 : Int) (σ : Mm) : Option (Int × Mm) :=
  b0M (F_M_laysParts 1 x1 0 0 σ) fun s1 =>
  b1M (F_M_quarrelsNow  s1) fun v2 s2 =>
  if v2 = 0 then
    some (1, s2)
  else
    some (0, s2)
set_option maxRecDepth 100000 in
set_option maxHeartbeats 4000000 in
theorem c_M_isQuiet (x1 : Int) (hx1 : r32 x1) {σ : Mm} {a : Int} {σ2 : Mm} (hf : F_M_isQuiet x1 σ = some (a, σ2)) : CT yX11_isQuiet cX11_isQuiet 2 (some .boolean) 6 1 (fun ad => [.ref (ad 200), .int (i32 x1)]) σ (a = 0 ∨ a = 1) (some (.int (i32 a))) σ2 := by
  refine MetJ 0 (by decide +kernel) rfl (fun _ => Nat.le_of_ble_eq_true rfl) ?_
  intro X h hR ok
  obtain ⟨res, er⟩ : ∃ z, z = (a, σ2) := ⟨_, rfl⟩
  have hret : ∀ y : Int × Mm, some y = some res → RX X 1 (y.1 = 0 ∨ y.1 = 1) (some (.int (i32 (y.1)))) y.2 := fun y e => by cases e; cases er; exact hR
  rw [← er] at hf
  clear er hR
  unfold F_M_isQuiet at hf
  show SW X 1 2 0 [some (.ref (xad X 200)), some (.int (i32 x1))] [] σ
  refine SW_aload_n h rfl (dt t_M_isQuiet 0 rfl) ?_
  refine SW_iconst h (dt t_M_isQuiet 1 rfl) ?_
  refine SW_iload_n h rfl (dt t_M_isQuiet 2 rfl) ?_
  refine SW_iconst h (dt t_M_isQuiet 3 rfl) ?_
  refine SW_iconst h (dt t_M_isQuiet 4 rfl) ?_
  obtain ⟨s1, e1, hf⟩ := b0M_of hf
  refine cVv h [.int (i32 1), .int (i32 x1), .int (i32 0), .int (i32 0)] [] v_X11_laysParts kX11_514 o200 (c_M_laysParts 1 (by decide) x1 hx1 0 (by decide) 0 (by decide) e1) rfl rfl (by decide) (by decide) rfl (Nat.le_of_ble_eq_true rfl) (dt t_M_isQuiet 5 rfl) (fun h1 => ?_)
  refine SW_ok (fun ok1 => ?_)
  refine SW_aload_n h rfl (dt t_M_isQuiet 6 rfl) ?_
  obtain ⟨v2, s2, e2, hf⟩ := b1M_of hf
  refine cV h [] [] v_X11_quarrelsNow kX11_496 o200 (c_M_quarrelsNow  e2) rfl rfl (by decide) (by decide) rfl (Nat.le_of_ble_eq_true rfl) (dt t_M_isQuiet 7 rfl) (fun h2 => ?_)
  refine SW_ok (fun ok2 => ?_)
  refine SW_if_ne (tgt := 19) h (fun _ => h2) (dt t_M_isQuiet 8 rfl) rfl hf (fun hf => ?_) (fun hf => ?_)
  · refine SW_iconst h (dt t_M_isQuiet 9 rfl) ?_
    refine SW_goto (tgt := 20) h (dt t_M_isQuiet 10 rfl) rfl ?_
    exact SW_zret h (hret _ hf) (by decide) rfl (dt t_M_isQuiet 12 rfl)
  · refine SW_iconst h (dt t_M_isQuiet 11 rfl) ?_
    exact SW_zret h (hret _ hf) (by decide) rfl (dt t_M_isQuiet 12 rfl)
def b_M_owedBy : List (Nat × Instr × Nat) := [(0, .aload_n 0, 1), (1, .iconst 1, 1), (2, .aload_n 0, 1), (3, .getfield 7, 3), (6, .bipush 94, 2), (8, .bipush 6, 2), (10, .iload_n 1, 1), (11, .imul, 1), (12, .iadd, 1), (13, .iload_n 2, 1), (14, .iadd, 1), (15, .iaload, 1), (16, .iconst 0, 1), (17, .iconst 0, 1), (18, .invokevirtual 514, 3), (21, .aload_n 0, 1), (22, .invokevirtual 422, 3), (25, .istore_n 3, 1), (26, .iload_n 3, 1), (27, .ifCond .ge 7, 3), (30, .iconst 0, 1), (31, .goto 4, 3), (34, .iload_n 3, 1), (35, .ireturn, 1)]
theorem t_M_owedBy : DT cX11_owedBy b_M_owedBy := DT.of (by decide +kernel)
def F_M_owedBy (x1 : Int) (x2 : Int) (σ : Mm) : Option (Int × Mm) :=
  if 0 ≤ (94 + (6 * x1)) + x2 ∧ (94 + (6 * x1)) + x2 < 5240 then
    b0M (F_M_laysParts 1 (σ 201 (((94 + (6 * x1)) + x2).toNat)) 0 0 σ) fun s1 =>
    b1M (F_M_outNow  s1) fun v2 s2 =>
    if 0 ≤ v2 then
      some (v2, s2)
    else
      some (0, s2)
  else none
set_option maxRecDepth 100000 in
set_option maxHeartbeats 4000000 in
theorem c_M_owedBy (x1 : Int) (hx1 : r32 x1) (x2 : Int) (hx2 : r32 x2) {σ : Mm} {a : Int} {σ2 : Mm} (hf : F_M_owedBy x1 x2 σ = some (a, σ2)) : CT yX11_owedBy cX11_owedBy 4 (some .int) 6 1 (fun ad => [.ref (ad 200), .int (i32 x1), .int (i32 x2)]) σ (r32 a) (some (.int (i32 a))) σ2 := by
  refine MetJ 1 (by decide +kernel) rfl (fun _ => Nat.le_of_ble_eq_true rfl) ?_
  intro X h hR ok
  obtain ⟨res, er⟩ : ∃ z, z = (a, σ2) := ⟨_, rfl⟩
  have hret : ∀ y : Int × Mm, some y = some res → RX X 1 (r32 (y.1)) (some (.int (i32 (y.1)))) y.2 := fun y e => by cases e; cases er; exact hR
  rw [← er] at hf
  clear er hR
  unfold F_M_owedBy at hf
  show SW X 1 4 0 [some (.ref (xad X 200)), some (.int (i32 x1)), some (.int (i32 x2)), none] [] σ
  refine SW_aload_n h rfl (dt t_M_owedBy 0 rfl) ?_
  refine SW_iconst h (dt t_M_owedBy 1 rfl) ?_
  refine SW_aload_n h rfl (dt t_M_owedBy 2 rfl) ?_
  refine gR h cf11 o200 f11_0 j200_0 lX11_7 (dt t_M_owedBy 3 rfl) ?_
  refine SW_bipush h (dt t_M_owedBy 4 rfl) (by decide) ?_
  refine SW_bipush h (dt t_M_owedBy 5 rfl) (by decide) ?_
  refine SW_iload_n h rfl (dt t_M_owedBy 6 rfl) ?_
  refine SW_imul h (dt t_M_owedBy 7 rfl) ?_
  refine SW_iadd h (dt t_M_owedBy 8 rfl) ?_
  refine SW_iload_n h rfl (dt t_M_owedBy 9 rfl) ?_
  refine SW_iadd h (dt t_M_owedBy 10 rfl) ?_
  refine aI h a201 (dt t_M_owedBy 11 rfl) hf (fun hf => ?_)
  refine SW_iconst h (dt t_M_owedBy 12 rfl) ?_
  refine SW_iconst h (dt t_M_owedBy 13 rfl) ?_
  obtain ⟨s1, e1, hf⟩ := b0M_of hf
  refine cVv h [.int (i32 1), .int (i32 (σ 201 (((94 + (6 * x1)) + x2).toNat))), .int (i32 0), .int (i32 0)] [] v_X11_laysParts kX11_514 o200 (c_M_laysParts 1 (by decide) (σ 201 (((94 + (6 * x1)) + x2).toNat)) (okI ok 201 (((94 + (6 * x1)) + x2).toNat) (IsA.n3 a201 (by decide))) 0 (by decide) 0 (by decide) e1) rfl rfl (by decide) (by decide) rfl (Nat.le_of_ble_eq_true rfl) (dt t_M_owedBy 14 rfl) (fun h1 => ?_)
  refine SW_ok (fun ok1 => ?_)
  refine SW_aload_n h rfl (dt t_M_owedBy 15 rfl) ?_
  obtain ⟨v2, s2, e2, hf⟩ := b1M_of hf
  refine cV h [] [] v_X11_outNow kX11_422 o200 (c_M_outNow  e2) rfl rfl (by decide) (by decide) rfl (Nat.le_of_ble_eq_true rfl) (dt t_M_owedBy 16 rfl) (fun h2 => ?_)
  refine SW_ok (fun ok2 => ?_)
  refine SW_istore_n (lv2 := [some (.ref (xad X 200)), some (.int (i32 x1)), some (.int (i32 x2)), some (.int (i32 v2))]) h (dt t_M_owedBy 17 rfl) (by decide) rfl ?_
  refine SW_iload_n h rfl (dt t_M_owedBy 18 rfl) ?_
  refine SW_if_ge (tgt := 34) h (fun _ => h2) (dt t_M_owedBy 19 rfl) rfl hf (fun hf => ?_) (fun hf => ?_)
  · refine SW_iload_n h rfl (dt t_M_owedBy 22 rfl) ?_
    exact SW_iret h (hret _ hf) (fun _ => h2) rfl (dt t_M_owedBy 23 rfl)
  · refine SW_iconst h (dt t_M_owedBy 20 rfl) ?_
    refine SW_goto (tgt := 35) h (dt t_M_owedBy 21 rfl) rfl ?_
    exact SW_iret h (hret _ hf) (fun _ => (by decide)) rfl (dt t_M_owedBy 23 rfl)
def b_M_isRing : List (Nat × Instr × Nat) := [(0, .iconst 1, 1), (1, .istore_n 3, 1), (2, .aload_n 0, 1), (3, .getfield 143, 3), (6, .iconst 0, 1), (7, .iload_n 1, 1), (8, .iastore, 1), (9, .aload_n 0, 1), (10, .getfield 143, 3), (13, .iconst 1, 1), (14, .iload_n 1, 1), (15, .iastore, 1), (16, .iload_n 3, 1), (17, .ifCond .le 100, 3), (20, .aload_n 0, 1), (21, .getfield 143, 3), (24, .iload_n 3, 1), (25, .dup2, 1), (26, .iaload, 1), (27, .iconst 1, 1), (28, .iadd, 1), (29, .iastore, 1), (30, .aload_n 0, 1), (31, .getfield 143, 3), (34, .iload_n 3, 1), (35, .iaload, 1), (36, .iconst 5, 1), (37, .if_icmp .le 9, 3), (40, .iinc 3 (-1), 3), (43, .goto (-27), 3), (46, .aload_n 0, 1), (47, .aload_n 0, 1), (48, .getfield 143, 3), (51, .iload_n 3, 1), (52, .iaload, 1), (53, .iload_n 3, 1), (54, .invokevirtual 567, 3), (57, .ifCond .ne (-41), 3), (60, .aload_n 0, 1), (61, .aload_n 0, 1), (62, .getfield 143, 3), (65, .iload_n 3, 1), (66, .iconst 1, 1), (67, .isub, 1), (68, .iaload, 1), (69, .aload_n 0, 1), (70, .getfield 143, 3), (73, .iload_n 3, 1), (74, .iaload, 1), (75, .invokevirtual 564, 3), (78, .ifCond .le (-62), 3), (81, .iload_n 3, 1), (82, .iload_n 2, 1), (83, .iconst 1, 1), (84, .isub, 1), (85, .if_icmp .ne 19, 3), (88, .aload_n 0, 1), (89, .aload_n 0, 1), (90, .getfield 143, 3), (93, .iload_n 3, 1), (94, .iaload, 1), (95, .iload_n 1, 1), (96, .invokevirtual 564, 3), (99, .ifCond .le (-83), 3), (102, .iconst 1, 1), (103, .ireturn, 1), (104, .iinc 3 1, 3), (107, .aload_n 0, 1), (108, .getfield 143, 3), (111, .iload_n 3, 1), (112, .iload_n 1, 1), (113, .iastore, 1), (114, .goto (-98), 3), (117, .iconst 0, 1), (118, .ireturn, 1)]
theorem t_M_isRing : DT cX11_isRing b_M_isRing := DT.of (by decide +kernel)
def L_M_isRing_16 : Nat → Int → Int → Int → Mm → Option ((Int × Mm) ⊕ (Mm))
  | 0, _, _, _, _ => none
  | n + 1, x1, x2, x3, σ =>
    if x3 ≤ 0 then
      some (.inr σ)
    else
      if 0 ≤ x3 ∧ x3 < 6 then
        if r32 ((σ 242 x3.toNat) + 1) then
          if 0 ≤ x3 ∧ x3 < 6 then
            bindM (st2 σ 242 x3.toNat ((σ 242 x3.toNat) + 1)) fun s4 =>
            if 0 ≤ x3 ∧ x3 < 6 then
              if s4 242 x3.toNat ≤ 5 then
                if 0 ≤ x3 ∧ x3 < 6 then
                  b1 (F_M_isInRound (s4 242 x3.toNat) x3 s4) fun v5 =>
                  if v5 = 0 then
                    if 0 ≤ x3 - 1 ∧ x3 - 1 < 6 then
                      if 0 ≤ x3 ∧ x3 < 6 then
                        b1M (F_M_owedBy (s4 242 ((x3 - 1).toNat)) (s4 242 x3.toNat) s4) fun v6 s6 =>
                        if v6 ≤ 0 then
                          L_M_isRing_16 n x1 x2 x3 s6
                        else
                          if r32 (x2 - 1) then
                            if x3 = x2 - 1 then
                              if 0 ≤ x3 ∧ x3 < 6 then
                                b1M (F_M_owedBy (s6 242 x3.toNat) x1 s6) fun v8 s8 =>
                                if v8 ≤ 0 then
                                  L_M_isRing_16 n x1 x2 x3 s8
                                else
                                  some (.inl (1, s8))
                              else none
                            else
                              if 0 ≤ x3 + 1 ∧ x3 + 1 < 6 then
                                bindM (st2 s6 242 ((x3 + 1).toNat) x1) fun s9 =>
                                if r32 (x3 + 1) then
                                  L_M_isRing_16 n x1 x2 (x3 + 1) s9
                                else none
                              else none
                          else none
                      else none
                    else none
                  else
                    L_M_isRing_16 n x1 x2 x3 s4
                else none
              else
                if r32 (x3 + (-1)) then
                  L_M_isRing_16 n x1 x2 (x3 + (-1)) s4
                else none
            else none
          else none
        else none
      else none
set_option maxRecDepth 100000 in
set_option maxHeartbeats 4000000 in
theorem l_M_isRing_16 {X : Cx} (h : CX X 1 cX11_isRing 4 7 (some .boolean) RX11) (x1 : Int) (x2 : Int) (hx1 : r32 x1) (hx2 : r32 x2) {res : (Int × Mm) ⊕ (Mm)} (hret : ∀ y : Int × Mm, some (.inl y) = some res → RX X 1 (y.1 = 0 ∨ y.1 = 1) (some (.int (i32 (y.1)))) y.2) (hex : ∀  (σ : Mm) (hz : some (.inr σ) = some res)  (ok : okM σ), SW X 1 4 117 [none, none, none, none] [] σ) : ∀ (n : Nat) (x3 : Int) (σ : Mm) (hx3 : r32 x3) (ok : okM σ) (hf : L_M_isRing_16 n x1 x2 x3 σ = some res), SW X 1 4 16 [some (.ref (xad X 200)), some (.int (i32 x1)), some (.int (i32 x2)), some (.int (i32 x3))] [] σ := by
  intro n
  induction n with
  | zero => intro x3 σ hx3 ok hf; exact absurd hf (by simp [L_M_isRing_16])
  | succ n ih =>
    intro x3 σ hx3 ok hf
    rw [L_M_isRing_16] at hf
    refine SW_iload_n h rfl (dt t_M_isRing 12 rfl) ?_
    refine SW_if_le (tgt := 117) h (fun _ => hx3) (dt t_M_isRing 13 rfl) rfl hf (fun hf => ?_) (fun hf => ?_)
    · exact SW_fgt [false, false, false, false] rfl (hex σ hf ok)
    · refine SW_aload_n h rfl (dt t_M_isRing 14 rfl) ?_
      refine gR h cf11 o200 f11_64 j200_64 lX11_143 (dt t_M_isRing 15 rfl) ?_
      refine SW_iload_n h rfl (dt t_M_isRing 16 rfl) ?_
      refine SW_dup2 h rfl rfl (dt t_M_isRing 17 rfl) ?_
      refine aI h a242 (dt t_M_isRing 18 rfl) hf (fun hf => ?_)
      refine SW_iconst h (dt t_M_isRing 19 rfl) ?_
      refine SW_iadd h (dt t_M_isRing 20 rfl) ?_
      refine SW_chk hf (fun h3 hf => ?_)
      refine sI h a242 h3 (dt t_M_isRing 21 rfl) hf (fun hf => SW_bm hf (fun s4 ok4 hf => ?_))
      refine SW_aload_n h rfl (dt t_M_isRing 22 rfl) ?_
      refine gR h cf11 o200 f11_64 j200_64 lX11_143 (dt t_M_isRing 23 rfl) ?_
      refine SW_iload_n h rfl (dt t_M_isRing 24 rfl) ?_
      refine aI h a242 (dt t_M_isRing 25 rfl) hf (fun hf => ?_)
      refine SW_iconst h (dt t_M_isRing 26 rfl) ?_
      refine SW_icmp_le (tgt := 46) h (fun _ => (okI ok4 242 x3.toNat (IsA.n3 a242 (by decide)))) (fun _ => (by decide)) (dt t_M_isRing 27 rfl) rfl hf (fun hf => ?_) (fun hf => ?_)
      · refine SW_aload_n h rfl (dt t_M_isRing 30 rfl) ?_
        refine SW_aload_n h rfl (dt t_M_isRing 31 rfl) ?_
        refine gR h cf11 o200 f11_64 j200_64 lX11_143 (dt t_M_isRing 32 rfl) ?_
        refine SW_iload_n h rfl (dt t_M_isRing 33 rfl) ?_
        refine aI h a242 (dt t_M_isRing 34 rfl) hf (fun hf => ?_)
        refine SW_iload_n h rfl (dt t_M_isRing 35 rfl) ?_
        obtain ⟨v5, e5, hf⟩ := b1_of hf
        refine cV h [.int (i32 (s4 242 x3.toNat)), .int (i32 x3)] [] v_X11_isInRound kX11_567 o200 (c_M_isInRound (s4 242 x3.toNat) (okI ok4 242 x3.toNat (IsA.n3 a242 (by decide))) x3 hx3 e5) rfl rfl (by decide) (by decide) rfl (Nat.le_of_ble_eq_true rfl) (dt t_M_isRing 36 rfl) (fun h5 => ?_)
        refine SW_if_ne (tgt := 16) h (fun _ => (r_zo h5)) (dt t_M_isRing 37 rfl) rfl hf (fun hf => ?_) (fun hf => ?_)
        · refine SW_aload_n h rfl (dt t_M_isRing 38 rfl) ?_
          refine SW_aload_n h rfl (dt t_M_isRing 39 rfl) ?_
          refine gR h cf11 o200 f11_64 j200_64 lX11_143 (dt t_M_isRing 40 rfl) ?_
          refine SW_iload_n h rfl (dt t_M_isRing 41 rfl) ?_
          refine SW_iconst h (dt t_M_isRing 42 rfl) ?_
          refine SW_isub h (dt t_M_isRing 43 rfl) ?_
          refine aI h a242 (dt t_M_isRing 44 rfl) hf (fun hf => ?_)
          refine SW_aload_n h rfl (dt t_M_isRing 45 rfl) ?_
          refine gR h cf11 o200 f11_64 j200_64 lX11_143 (dt t_M_isRing 46 rfl) ?_
          refine SW_iload_n h rfl (dt t_M_isRing 47 rfl) ?_
          refine aI h a242 (dt t_M_isRing 48 rfl) hf (fun hf => ?_)
          obtain ⟨v6, s6, e6, hf⟩ := b1M_of hf
          refine cV h [.int (i32 (s4 242 ((x3 - 1).toNat))), .int (i32 (s4 242 x3.toNat))] [] v_X11_owedBy kX11_564 o200 (c_M_owedBy (s4 242 ((x3 - 1).toNat)) (okI ok4 242 ((x3 - 1).toNat) (IsA.n3 a242 (by decide))) (s4 242 x3.toNat) (okI ok4 242 x3.toNat (IsA.n3 a242 (by decide))) e6) rfl rfl (by decide) (by decide) rfl (Nat.le_of_ble_eq_true rfl) (dt t_M_isRing 49 rfl) (fun h6 => ?_)
          refine SW_ok (fun ok6 => ?_)
          refine SW_if_le (tgt := 16) h (fun _ => h6) (dt t_M_isRing 50 rfl) rfl hf (fun hf => ?_) (fun hf => ?_)
          · exact SW_fgt [true, true, true, true] rfl (ih x3 s6 hx3 ok6 hf)
          · refine SW_iload_n h rfl (dt t_M_isRing 51 rfl) ?_
            refine SW_iload_n h rfl (dt t_M_isRing 52 rfl) ?_
            refine SW_iconst h (dt t_M_isRing 53 rfl) ?_
            refine SW_isub h (dt t_M_isRing 54 rfl) ?_
            refine SW_chk hf (fun h7 hf => ?_)
            refine SW_icmp_ne (tgt := 104) h (fun _ => hx3) (fun _ => h7) (dt t_M_isRing 55 rfl) rfl hf (fun hf => ?_) (fun hf => ?_)
            · refine SW_aload_n h rfl (dt t_M_isRing 56 rfl) ?_
              refine SW_aload_n h rfl (dt t_M_isRing 57 rfl) ?_
              refine gR h cf11 o200 f11_64 j200_64 lX11_143 (dt t_M_isRing 58 rfl) ?_
              refine SW_iload_n h rfl (dt t_M_isRing 59 rfl) ?_
              refine aI h a242 (dt t_M_isRing 60 rfl) hf (fun hf => ?_)
              refine SW_iload_n h rfl (dt t_M_isRing 61 rfl) ?_
              obtain ⟨v8, s8, e8, hf⟩ := b1M_of hf
              refine cV h [.int (i32 (s6 242 x3.toNat)), .int (i32 x1)] [] v_X11_owedBy kX11_564 o200 (c_M_owedBy (s6 242 x3.toNat) (okI ok6 242 x3.toNat (IsA.n3 a242 (by decide))) x1 hx1 e8) rfl rfl (by decide) (by decide) rfl (Nat.le_of_ble_eq_true rfl) (dt t_M_isRing 62 rfl) (fun h8 => ?_)
              refine SW_ok (fun ok8 => ?_)
              refine SW_if_le (tgt := 16) h (fun _ => h8) (dt t_M_isRing 63 rfl) rfl hf (fun hf => ?_) (fun hf => ?_)
              · exact SW_fgt [true, true, true, true] rfl (ih x3 s8 hx3 ok8 hf)
              · refine SW_iconst h (dt t_M_isRing 64 rfl) ?_
                exact SW_zret h (hret _ hf) (by decide) rfl (dt t_M_isRing 65 rfl)
            · refine SW_iinc (lv2 := [some (.ref (xad X 200)), some (.int (i32 x1)), some (.int (i32 x2)), some (.int (i32 (x3 + 1)))]) h (dt t_M_isRing 66 rfl) rfl (by decide) rfl ?_
              refine SW_aload_n h rfl (dt t_M_isRing 67 rfl) ?_
              refine gR h cf11 o200 f11_64 j200_64 lX11_143 (dt t_M_isRing 68 rfl) ?_
              refine SW_iload_n h rfl (dt t_M_isRing 69 rfl) ?_
              refine SW_iload_n h rfl (dt t_M_isRing 70 rfl) ?_
              refine sI h a242 hx1 (dt t_M_isRing 71 rfl) hf (fun hf => SW_bm hf (fun s9 ok9 hf => ?_))
              refine SW_goto (tgt := 16) h (dt t_M_isRing 72 rfl) rfl ?_
              refine SW_chk hf (fun h10 hf => ?_)
              exact SW_fgt [true, true, true, true] rfl (ih (x3 + 1) s9 h10 ok9 hf)
        · exact SW_fgt [true, true, true, true] rfl (ih x3 s4 hx3 ok4 hf)
      · refine SW_iinc (lv2 := [some (.ref (xad X 200)), some (.int (i32 x1)), some (.int (i32 x2)), some (.int (i32 (x3 + (-1))))]) h (dt t_M_isRing 28 rfl) rfl (by decide) rfl ?_
        refine SW_goto (tgt := 16) h (dt t_M_isRing 29 rfl) rfl ?_
        refine SW_chk hf (fun h11 hf => ?_)
        exact SW_fgt [true, true, true, true] rfl (ih (x3 + (-1)) s4 h11 ok4 hf)
def F_M_isRing (x1 : Int) (x2 : Int) (σ : Mm) : Option (Int × Mm) :=
  bindM (st2 σ 242 0 x1) fun s1 =>
  bindM (st2 s1 242 1 x1) fun s2 =>
  b0MS (L_M_isRing_16 LF x1 x2 1 s2) (fun y => some y) fun s12 =>
  some (0, s12)
set_option maxRecDepth 100000 in
set_option maxHeartbeats 4000000 in
theorem c_M_isRing (x1 : Int) (hx1 : r32 x1) (x2 : Int) (hx2 : r32 x2) {σ : Mm} {a : Int} {σ2 : Mm} (hf : F_M_isRing x1 x2 σ = some (a, σ2)) : CT yX11_isRing cX11_isRing 4 (some .boolean) 7 1 (fun ad => [.ref (ad 200), .int (i32 x1), .int (i32 x2)]) σ (a = 0 ∨ a = 1) (some (.int (i32 a))) σ2 := by
  refine MetJ 1 (by decide +kernel) rfl (fun _ => Nat.le_of_ble_eq_true rfl) ?_
  intro X h hR ok
  obtain ⟨res, er⟩ : ∃ z, z = (a, σ2) := ⟨_, rfl⟩
  have hret : ∀ y : Int × Mm, some y = some res → RX X 1 (y.1 = 0 ∨ y.1 = 1) (some (.int (i32 (y.1)))) y.2 := fun y e => by cases e; cases er; exact hR
  rw [← er] at hf
  clear er hR
  unfold F_M_isRing at hf
  show SW X 1 4 0 [some (.ref (xad X 200)), some (.int (i32 x1)), some (.int (i32 x2)), none] [] σ
  refine SW_iconst h (dt t_M_isRing 0 rfl) ?_
  refine SW_istore_n (lv2 := [some (.ref (xad X 200)), some (.int (i32 x1)), some (.int (i32 x2)), some (.int (i32 1))]) h (dt t_M_isRing 1 rfl) (by decide) rfl ?_
  refine SW_aload_n h rfl (dt t_M_isRing 2 rfl) ?_
  refine gR h cf11 o200 f11_64 j200_64 lX11_143 (dt t_M_isRing 3 rfl) ?_
  refine SW_iconst h (dt t_M_isRing 4 rfl) ?_
  refine SW_iload_n h rfl (dt t_M_isRing 5 rfl) ?_
  refine sIk h a242 (by decide) hx1 (dt t_M_isRing 6 rfl) (SW_bm hf (fun s1 ok1 hf => ?_))
  refine SW_aload_n h rfl (dt t_M_isRing 7 rfl) ?_
  refine gR h cf11 o200 f11_64 j200_64 lX11_143 (dt t_M_isRing 8 rfl) ?_
  refine SW_iconst h (dt t_M_isRing 9 rfl) ?_
  refine SW_iload_n h rfl (dt t_M_isRing 10 rfl) ?_
  refine sIk h a242 (by decide) hx1 (dt t_M_isRing 11 rfl) (SW_bm hf (fun s2 ok2 hf => ?_))
  obtain ⟨z12, e12, g12, hk12⟩ := b0MS_of hf
  refine SW_fgt [true, true, true, true] rfl (l_M_isRing_16 h x1 x2 hx1 hx2 (fun y e => hret y (g12 y (Option.some.inj e).symm)) (fun s12 hz12 ok12 => ?_) LF 1 s2 (by decide) ok2 e12)
  have hf := hk12 s12 (Option.some.inj hz12).symm
  refine SW_iconst h (dt t_M_isRing 73 rfl) ?_
  exact SW_zret h (hret _ hf) (by decide) rfl (dt t_M_isRing 74 rfl)
def b_M_keepsOrder : List (Nat × Instr × Nat) := [(0, .iconst 0, 1), (1, .istore_n 2, 1), (2, .iload_n 2, 1), (3, .iload_n 1, 1), (4, .if_icmp .ge 21, 3), (7, .aload_n 0, 1), (8, .getfield 122, 3), (11, .iload_n 2, 1), (12, .aload_n 0, 1), (13, .getfield 119, 3), (16, .iload_n 2, 1), (17, .iaload, 1), (18, .iastore, 1), (19, .iinc 2 1, 3), (22, .goto (-20), 3), (25, .return_, 1)]
theorem t_M_keepsOrder : DT cX11_keepsOrder b_M_keepsOrder := DT.of (by decide +kernel)
def L_M_keepsOrder_2 : Nat → Int → Int → Mm → Option (Mm)
  | 0, _, _, _ => none
  | n + 1, x1, x2, σ =>
    if x1 ≤ x2 then
      some σ
    else
      if 0 ≤ x2 ∧ x2 < 6 then
        if 0 ≤ x2 ∧ x2 < 6 then
          bindM (st2 σ 235 x2.toNat (σ 234 x2.toNat)) fun s1 =>
          if r32 (x2 + 1) then
            L_M_keepsOrder_2 n x1 (x2 + 1) s1
          else none
        else none
      else none
set_option maxRecDepth 100000 in
set_option maxHeartbeats 4000000 in
theorem l_M_keepsOrder_2 {X : Cx} (h : CX X 1 cX11_keepsOrder 3 0 none RX11) (x1 : Int) (hx1 : r32 x1) {res : Mm} (hex : ∀  (σ : Mm) (hz : some σ = some res)  (ok : okM σ), SW X 1 3 25 [none, none, none] [] σ) : ∀ (n : Nat) (x2 : Int) (σ : Mm) (hx2 : r32 x2) (ok : okM σ) (hf : L_M_keepsOrder_2 n x1 x2 σ = some res), SW X 1 3 2 [some (.ref (xad X 200)), some (.int (i32 x1)), some (.int (i32 x2))] [] σ := by
  intro n
  induction n with
  | zero => intro x2 σ hx2 ok hf; exact absurd hf (by simp [L_M_keepsOrder_2])
  | succ n ih =>
    intro x2 σ hx2 ok hf
    rw [L_M_keepsOrder_2] at hf
    refine SW_iload_n h rfl (dt t_M_keepsOrder 2 rfl) ?_
    refine SW_iload_n h rfl (dt t_M_keepsOrder 3 rfl) ?_
    refine SW_icmp_ge (tgt := 25) h (fun _ => hx2) (fun _ => hx1) (dt t_M_keepsOrder 4 rfl) rfl hf (fun hf => ?_) (fun hf => ?_)
    · exact SW_fgt [false, false, false] rfl (hex σ hf ok)
    · refine SW_aload_n h rfl (dt t_M_keepsOrder 5 rfl) ?_
      refine gR h cf11 o200 f11_56 j200_56 lX11_122 (dt t_M_keepsOrder 6 rfl) ?_
      refine SW_iload_n h rfl (dt t_M_keepsOrder 7 rfl) ?_
      refine SW_aload_n h rfl (dt t_M_keepsOrder 8 rfl) ?_
      refine gR h cf11 o200 f11_55 j200_55 lX11_119 (dt t_M_keepsOrder 9 rfl) ?_
      refine SW_iload_n h rfl (dt t_M_keepsOrder 10 rfl) ?_
      refine aI h a234 (dt t_M_keepsOrder 11 rfl) hf (fun hf => ?_)
      refine sI h a235 (okI ok 234 x2.toNat (IsA.n3 a234 (by decide))) (dt t_M_keepsOrder 12 rfl) hf (fun hf => SW_bm hf (fun s1 ok1 hf => ?_))
      refine SW_iinc (lv2 := [some (.ref (xad X 200)), some (.int (i32 x1)), some (.int (i32 (x2 + 1)))]) h (dt t_M_keepsOrder 13 rfl) rfl (by decide) rfl ?_
      refine SW_goto (tgt := 2) h (dt t_M_keepsOrder 14 rfl) rfl ?_
      refine SW_chk hf (fun h2 hf => ?_)
      exact SW_fgt [true, true, true] rfl (ih (x2 + 1) s1 h2 ok1 hf)
def F_M_keepsOrder (x1 : Int) (σ : Mm) : Option (Mm) :=
  b0M (L_M_keepsOrder_2 LF x1 0 σ) fun s3 =>
  some s3
set_option maxRecDepth 100000 in
set_option maxHeartbeats 4000000 in
theorem c_M_keepsOrder (x1 : Int) (hx1 : r32 x1) {σ : Mm} {σ2 : Mm} (hf : F_M_keepsOrder x1 σ = some σ2) : CT yX11_keepsOrder cX11_keepsOrder 3 none 0 1 (fun ad => [.ref (ad 200), .int (i32 x1)]) σ True none σ2 := by
  refine MetJ 1 (by decide +kernel) rfl (fun _ => Nat.le_of_ble_eq_true rfl) ?_
  intro X h hR ok
  obtain ⟨res, er⟩ : ∃ z, z = σ2 := ⟨_, rfl⟩
  have hret : ∀ y : Mm, some y = some res → RX X 1 True none y := fun y e => by cases e; cases er; exact hR
  rw [← er] at hf
  clear er hR
  unfold F_M_keepsOrder at hf
  show SW X 1 3 0 [some (.ref (xad X 200)), some (.int (i32 x1)), none] [] σ
  refine SW_iconst h (dt t_M_keepsOrder 0 rfl) ?_
  refine SW_istore_n (lv2 := [some (.ref (xad X 200)), some (.int (i32 x1)), some (.int (i32 0))]) h (dt t_M_keepsOrder 1 rfl) (by decide) rfl ?_
  obtain ⟨z3, e3, hk3⟩ := b0M_ex hf
  refine SW_fgt [true, true, true] rfl (l_M_keepsOrder_2 h x1 hx1 (fun s3 hz3 ok3 => ?_) LF 0 σ (by decide) ok e3)
  have hf := hk3 s3 hz3
  exact SW_vret h (hret _ hf) rfl (dt t_M_keepsOrder 15 rfl)
def b_M_waysOf : List (Nat × Instr × Nat) := [(0, .iconst 1, 1), (1, .istore_n 1, 1), (2, .iconst 2, 1), (3, .istore_n 2, 1), (4, .iload_n 2, 1), (5, .iload_n 0, 1), (6, .if_icmp .gt 13, 3), (9, .iload_n 1, 1), (10, .iload_n 2, 1), (11, .imul, 1), (12, .istore_n 1, 1), (13, .iinc 2 1, 3), (16, .goto (-12), 3), (19, .iload_n 1, 1), (20, .ireturn, 1)]
theorem t_M_waysOf : DT cX11_waysOf b_M_waysOf := DT.of (by decide +kernel)
def L_M_waysOf_4 : Nat → Int → Int → Int → Option (Int)
  | 0, _, _, _ => none
  | n + 1, x0, x1, x2 =>
    if x0 < x2 then
      some x1
    else
      if r32 (x1 * x2) then
        if r32 (x2 + 1) then
          L_M_waysOf_4 n x0 (x1 * x2) (x2 + 1)
        else none
      else none
set_option maxRecDepth 100000 in
set_option maxHeartbeats 4000000 in
theorem l_M_waysOf_4 {X : Cx} (h : CX X 1 cX11_waysOf 3 0 (some .int) RX11) (x0 : Int) (σ : Mm) (hx0 : r32 x0) (ok : okM σ) {res : Int} (hex : ∀ (x1 : Int) (hz : some x1 = some res) (hx1 : r32 x1), SW X 1 3 19 [none, some (.int (i32 x1)), none] [] σ) : ∀ (n : Nat) (x1 : Int) (x2 : Int) (hx1 : r32 x1) (hx2 : r32 x2) (hf : L_M_waysOf_4 n x0 x1 x2 = some res), SW X 1 3 4 [some (.int (i32 x0)), some (.int (i32 x1)), some (.int (i32 x2))] [] σ := by
  intro n
  induction n with
  | zero => intro x1 x2 hx1 hx2 hf; exact absurd hf (by simp [L_M_waysOf_4])
  | succ n ih =>
    intro x1 x2 hx1 hx2 hf
    rw [L_M_waysOf_4] at hf
    refine SW_iload_n h rfl (dt t_M_waysOf 4 rfl) ?_
    refine SW_iload_n h rfl (dt t_M_waysOf 5 rfl) ?_
    refine SW_icmp_gt (tgt := 19) h (fun _ => hx2) (fun _ => hx0) (dt t_M_waysOf 6 rfl) rfl hf (fun hf => ?_) (fun hf => ?_)
    · exact SW_fgt [false, true, false] rfl (hex x1 hf hx1)
    · refine SW_iload_n h rfl (dt t_M_waysOf 7 rfl) ?_
      refine SW_iload_n h rfl (dt t_M_waysOf 8 rfl) ?_
      refine SW_imul h (dt t_M_waysOf 9 rfl) ?_
      refine SW_istore_n (lv2 := [some (.int (i32 x0)), some (.int (i32 (x1 * x2))), some (.int (i32 x2))]) h (dt t_M_waysOf 10 rfl) (by decide) rfl ?_
      refine SW_iinc (lv2 := [some (.int (i32 x0)), some (.int (i32 (x1 * x2))), some (.int (i32 (x2 + 1)))]) h (dt t_M_waysOf 11 rfl) rfl (by decide) rfl ?_
      refine SW_goto (tgt := 4) h (dt t_M_waysOf 12 rfl) rfl ?_
      refine SW_chk hf (fun h1 hf => ?_)
      refine SW_chk hf (fun h2 hf => ?_)
      exact SW_fgt [true, true, true] rfl (ih (x1 * x2) (x2 + 1) h1 h2 hf)
def F_M_waysOf (x0 : Int) : Option (Int) :=
  b1 (L_M_waysOf_4 LF x0 1 2) fun x1_3 =>
  some x1_3
set_option maxRecDepth 100000 in
set_option maxHeartbeats 4000000 in
theorem c_M_waysOf (x0 : Int) (hx0 : r32 x0) {σ : Mm} {a : Int} (hf : F_M_waysOf x0 = some a) : CT yX11_waysOf cX11_waysOf 3 (some .int) 0 1 (fun ad => [.int (i32 x0)]) σ (r32 a) (some (.int (i32 a))) σ := by
  refine MetJ 2 (by decide +kernel) rfl (fun _ => Nat.le_of_ble_eq_true rfl) ?_
  intro X h hR ok
  obtain ⟨res, er⟩ : ∃ z, z = a := ⟨_, rfl⟩
  have hret : ∀ y : Int, some y = some res → RX X 1 (r32 (y)) (some (.int (i32 (y)))) σ := fun y e => by cases e; cases er; exact hR
  rw [← er] at hf
  clear er hR
  unfold F_M_waysOf at hf
  show SW X 1 3 0 [some (.int (i32 x0)), none, none] [] σ
  refine SW_iconst h (dt t_M_waysOf 0 rfl) ?_
  refine SW_istore_n (lv2 := [some (.int (i32 x0)), some (.int (i32 1)), none]) h (dt t_M_waysOf 1 rfl) (by decide) rfl ?_
  refine SW_iconst h (dt t_M_waysOf 2 rfl) ?_
  refine SW_istore_n (lv2 := [some (.int (i32 x0)), some (.int (i32 1)), some (.int (i32 2))]) h (dt t_M_waysOf 3 rfl) (by decide) rfl ?_
  obtain ⟨z3, e3, hk3⟩ := b1_ex hf
  refine SW_fgt [true, true, true] rfl (l_M_waysOf_4 h x0 σ hx0 ok (fun x1_3 hz3 hx1_3 => ?_) LF 1 2 (by decide) (by decide) e3)
  have hf := hk3 x1_3 hz3
  refine SW_iload_n h rfl (dt t_M_waysOf 13 rfl) ?_
  exact SW_iret h (hret _ hf) (fun _ => hx1_3) rfl (dt t_M_waysOf 14 rfl)
def b_M_laysOrder : List (Nat × Instr × Nat) := [(0, .iload_n 1, 1), (1, .istore_n 3, 1), (2, .iconst 0, 1), (3, .istore 4, 2), (5, .iconst 0, 1), (6, .istore 5, 2), (8, .iload 5, 2), (10, .iload_n 2, 1), (11, .if_icmp .ge 96, 3), (14, .iload_n 3, 1), (15, .iload_n 2, 1), (16, .iconst 1, 1), (17, .isub, 1), (18, .iload 5, 2), (20, .isub, 1), (21, .invokestatic 499, 3), (24, .idiv, 1), (25, .istore 6, 2), (27, .iload_n 3, 1), (28, .iload_n 2, 1), (29, .iconst 1, 1), (30, .isub, 1), (31, .iload 5, 2), (33, .isub, 1), (34, .invokestatic 499, 3), (37, .irem, 1), (38, .istore_n 3, 1), (39, .iconst 0, 1), (40, .istore 7, 2), (42, .iload 4, 2), (44, .iload 7, 2), (46, .invokestatic 388, 3), (49, .ifCond .ne 8, 3), (52, .iload 6, 2), (54, .ifCond .le 29, 3), (57, .iload 6, 2), (59, .iload 4, 2), (61, .iload 7, 2), (63, .invokestatic 388, 3), (66, .ifCond .eq 7, 3), (69, .iconst 0, 1), (70, .goto 4, 3), (73, .iconst 1, 1), (74, .isub, 1), (75, .istore 6, 2), (77, .iinc 7 1, 3), (80, .goto (-38), 3), (83, .iload 4, 2), (85, .iconst 1, 1), (86, .iload 7, 2), (88, .ishl, 1), (89, .ior, 1), (90, .istore 4, 2), (92, .aload_n 0, 1), (93, .getfield 119, 3), (96, .iload 5, 2), (98, .iload 7, 2), (100, .iastore, 1), (101, .iinc 5 1, 3), (104, .goto (-96), 3), (107, .return_, 1)]
theorem t_M_laysOrder : DT cX11_laysOrder b_M_laysOrder := DT.of (by decide +kernel)
def L_M_laysOrder_42 : Nat → Int → Int → Int → Option (Int)
  | 0, _, _, _ => none
  | n + 1, x4, x6, x7 =>
    b1 (F_M_has x4 x7) fun v7 =>
    bindM (
      b1 (F_M_has x4 x7) fun v9 =>
      bindM ((if v9 = 0 then 1 else 0 : Int)) fun v10 =>
      if r32 (x6 - v10) then
        if r32 (x7 + 1) then
          L_M_laysOrder_42 n x4 (x6 - v10) (x7 + 1)
        else none
      else none) fun J8 =>
    if v7 = 0 then
      if x6 ≤ 0 then
        some x7
      else
        J8
    else
      J8
set_option maxRecDepth 100000 in
set_option maxHeartbeats 4000000 in
theorem l_M_laysOrder_42 {X : Cx} (h : CX X 1 cX11_laysOrder 8 1 none RX11) (x2 : Int) (x3 : Int) (x4 : Int) (x5 : Int) (σ : Mm) (hx2 : r32 x2) (hx3 : r32 x3) (hx4 : r32 x4) (hx5 : r32 x5) (ok : okM σ) {res : Int} (hex : ∀ (x7 : Int) (hz : some x7 = some res) (hx7 : r32 x7), SW X 1 8 83 [some (.ref (xad X 200)), none, some (.int (i32 x2)), some (.int (i32 x3)), some (.int (i32 x4)), some (.int (i32 x5)), none, some (.int (i32 x7))] [] σ) : ∀ (n : Nat) (x6 : Int) (x7 : Int) (hx6 : r32 x6) (hx7 : r32 x7) (hf : L_M_laysOrder_42 n x4 x6 x7 = some res), SW X 1 8 42 [some (.ref (xad X 200)), none, some (.int (i32 x2)), some (.int (i32 x3)), some (.int (i32 x4)), some (.int (i32 x5)), some (.int (i32 x6)), some (.int (i32 x7))] [] σ := by
  intro n
  induction n with
  | zero => intro x6 x7 hx6 hx7 hf; exact absurd hf (by simp [L_M_laysOrder_42])
  | succ n ih =>
    intro x6 x7 hx6 hx7 hf
    rw [L_M_laysOrder_42] at hf
    refine SW_iload h rfl (dt t_M_laysOrder 29 rfl) ?_
    refine SW_iload h rfl (dt t_M_laysOrder 30 rfl) ?_
    obtain ⟨v7, e7, hf⟩ := b1_of hf
    refine cS h [.int (i32 x4), .int (i32 x7)] [] v_X11_has kX11_388 (c_M_has x4 hx4 x7 hx7 e7) rfl rfl (by decide) (by decide) rfl (Nat.le_of_ble_eq_true rfl) (dt t_M_laysOrder 31 rfl) (fun h7 => ?_)
    refine bJ hf (fun J8 e8 hf => ?_)
    have k8 : ∀ (hf : J8 = some res), SW X 1 8 57 [some (.ref (xad X 200)), none, some (.int (i32 x2)), some (.int (i32 x3)), some (.int (i32 x4)), some (.int (i32 x5)), some (.int (i32 x6)), some (.int (i32 x7))] [] σ := by
      intro hf
      rw [e8] at hf
      refine SW_iload h rfl (dt t_M_laysOrder 35 rfl) ?_
      refine SW_iload h rfl (dt t_M_laysOrder 36 rfl) ?_
      refine SW_iload h rfl (dt t_M_laysOrder 37 rfl) ?_
      obtain ⟨v9, e9, hf⟩ := b1_of hf
      refine cS h [.int (i32 x4), .int (i32 x7)] [.int (i32 x6)] v_X11_has kX11_388 (c_M_has x4 hx4 x7 hx7 e9) rfl rfl (by decide) (by decide) rfl (Nat.le_of_ble_eq_true rfl) (dt t_M_laysOrder 38 rfl) (fun h9 => ?_)
      refine bT hf (fun g10 e10 hf => ?_)
      have k10 : ∀ (v10 : Int) (h10 : r32 v10) (hf : g10 v10 = some res), SW X 1 8 74 [some (.ref (xad X 200)), none, some (.int (i32 x2)), some (.int (i32 x3)), some (.int (i32 x4)), some (.int (i32 x5)), some (.int (i32 x6)), some (.int (i32 x7))] [.int (i32 v10), .int (i32 x6)] σ := by
        intro v10 h10 hf
        rw [e10] at hf
        refine SW_isub h (dt t_M_laysOrder 43 rfl) ?_
        refine SW_istore (lv2 := [some (.ref (xad X 200)), none, some (.int (i32 x2)), some (.int (i32 x3)), some (.int (i32 x4)), some (.int (i32 x5)), some (.int (i32 (x6 - v10))), some (.int (i32 x7))]) h (dt t_M_laysOrder 44 rfl) (by decide) rfl ?_
        refine SW_iinc (lv2 := [some (.ref (xad X 200)), none, some (.int (i32 x2)), some (.int (i32 x3)), some (.int (i32 x4)), some (.int (i32 x5)), some (.int (i32 (x6 - v10))), some (.int (i32 (x7 + 1)))]) h (dt t_M_laysOrder 45 rfl) rfl (by decide) rfl ?_
        refine SW_goto (tgt := 42) h (dt t_M_laysOrder 46 rfl) rfl ?_
        refine SW_chk hf (fun h11 hf => ?_)
        refine SW_chk hf (fun h12 hf => ?_)
        exact SW_fgt [true, false, true, true, true, true, true, true] rfl (ih (x6 - v10) (x7 + 1) h11 h12 hf)
      have hf := bIte hf
      refine SW_if_eq (tgt := 73) h (fun _ => (r_zo h9)) (dt t_M_laysOrder 39 rfl) rfl hf (fun hf => ?_) (fun hf => ?_)
      · refine SW_iconst h (dt t_M_laysOrder 42 rfl) ?_
        exact k10 1 (by decide) hf
      · refine SW_iconst h (dt t_M_laysOrder 40 rfl) ?_
        refine SW_goto (tgt := 74) h (dt t_M_laysOrder 41 rfl) rfl ?_
        exact k10 0 (by decide) hf
    refine SW_if_ne (tgt := 57) h (fun _ => (r_zo h7)) (dt t_M_laysOrder 32 rfl) rfl hf (fun hf => ?_) (fun hf => ?_)
    · refine SW_iload h rfl (dt t_M_laysOrder 33 rfl) ?_
      refine SW_if_le (tgt := 83) h (fun _ => hx6) (dt t_M_laysOrder 34 rfl) rfl hf (fun hf => ?_) (fun hf => ?_)
      · exact SW_fgt [true, false, true, true, true, true, false, true] rfl (hex x7 hf hx7)
      · exact SW_fgt [true, false, true, true, true, true, true, true] rfl (k8 hf)
    · exact SW_fgt [true, false, true, true, true, true, true, true] rfl (k8 hf)
def L_M_laysOrder_8 : Nat → Int → Int → Int → Int → Mm → Option (Mm)
  | 0, _, _, _, _, _ => none
  | n + 1, x2, x3, x4, x5, σ =>
    if x2 ≤ x5 then
      some σ
    else
      if r32 ((x2 - 1) - x5) then
        b1 (F_M_waysOf ((x2 - 1) - x5)) fun v1 =>
        if ¬ v1 = 0 then
          if r32 ((x2 - 1) - x5) then
            b1 (F_M_waysOf ((x2 - 1) - x5)) fun v4 =>
            if ¬ v4 = 0 then
              if r32 (x3.tdiv v1) then
                if r32 (x3.tmod v4) then
                  b1 (L_M_laysOrder_42 LF x4 (x3.tdiv v1) 0) fun x7_13 =>
                  bindM (ior x4 (ishl 1 x7_13)) fun v16 =>
                  if 0 ≤ x5 ∧ x5 < 6 then
                    bindM (st2 σ 234 x5.toNat x7_13) fun s17 =>
                    if r32 (x5 + 1) then
                      L_M_laysOrder_8 n x2 (x3.tmod v4) v16 (x5 + 1) s17
                    else none
                  else none
                else none
              else none
            else none
          else none
        else none
      else none
set_option maxRecDepth 100000 in
set_option maxHeartbeats 4000000 in
theorem l_M_laysOrder_8 {X : Cx} (h : CX X 1 cX11_laysOrder 8 1 none RX11) (x2 : Int) (hx2 : r32 x2) {res : Mm} (hex : ∀  (σ : Mm) (hz : some σ = some res)  (ok : okM σ), SW X 1 8 107 [none, none, none, none, none, none, none, none] [] σ) : ∀ (n : Nat) (x3 : Int) (x4 : Int) (x5 : Int) (σ : Mm) (hx3 : r32 x3) (hx4 : r32 x4) (hx5 : r32 x5) (ok : okM σ) (hf : L_M_laysOrder_8 n x2 x3 x4 x5 σ = some res), SW X 1 8 8 [some (.ref (xad X 200)), none, some (.int (i32 x2)), some (.int (i32 x3)), some (.int (i32 x4)), some (.int (i32 x5)), none, none] [] σ := by
  intro n
  induction n with
  | zero => intro x3 x4 x5 σ hx3 hx4 hx5 ok hf; exact absurd hf (by simp [L_M_laysOrder_8])
  | succ n ih =>
    intro x3 x4 x5 σ hx3 hx4 hx5 ok hf
    rw [L_M_laysOrder_8] at hf
    refine SW_iload h rfl (dt t_M_laysOrder 6 rfl) ?_
    refine SW_iload_n h rfl (dt t_M_laysOrder 7 rfl) ?_
    refine SW_icmp_ge (tgt := 107) h (fun _ => hx5) (fun _ => hx2) (dt t_M_laysOrder 8 rfl) rfl hf (fun hf => ?_) (fun hf => ?_)
    · exact SW_fgt [false, false, false, false, false, false, false, false] rfl (hex σ hf ok)
    · refine SW_iload_n h rfl (dt t_M_laysOrder 9 rfl) ?_
      refine SW_iload_n h rfl (dt t_M_laysOrder 10 rfl) ?_
      refine SW_iconst h (dt t_M_laysOrder 11 rfl) ?_
      refine SW_isub h (dt t_M_laysOrder 12 rfl) ?_
      refine SW_iload h rfl (dt t_M_laysOrder 13 rfl) ?_
      refine SW_isub h (dt t_M_laysOrder 14 rfl) ?_
      refine SW_chk hf (fun h2 hf => ?_)
      obtain ⟨v1, e1, hf⟩ := b1_of hf
      refine cS h [.int (i32 ((x2 - 1) - x5))] [.int (i32 x3)] v_X11_waysOf kX11_499 (c_M_waysOf ((x2 - 1) - x5) h2 e1) rfl rfl (by decide) (by decide) rfl (Nat.le_of_ble_eq_true rfl) (dt t_M_laysOrder 15 rfl) (fun h1 => ?_)
      refine SW_chk hf (fun h3 hf => ?_)
      refine SW_idiv h (fun _ => hx3) (fun _ => h1) h3 (dt t_M_laysOrder 16 rfl) ?_
      refine SW_istore (lv2 := [some (.ref (xad X 200)), none, some (.int (i32 x2)), some (.int (i32 x3)), some (.int (i32 x4)), some (.int (i32 x5)), some (.int (i32 (x3.tdiv v1))), none]) h (dt t_M_laysOrder 17 rfl) (by decide) rfl ?_
      refine SW_iload_n h rfl (dt t_M_laysOrder 18 rfl) ?_
      refine SW_iload_n h rfl (dt t_M_laysOrder 19 rfl) ?_
      refine SW_iconst h (dt t_M_laysOrder 20 rfl) ?_
      refine SW_isub h (dt t_M_laysOrder 21 rfl) ?_
      refine SW_iload h rfl (dt t_M_laysOrder 22 rfl) ?_
      refine SW_isub h (dt t_M_laysOrder 23 rfl) ?_
      refine SW_chk hf (fun h5 hf => ?_)
      obtain ⟨v4, e4, hf⟩ := b1_of hf
      refine cS h [.int (i32 ((x2 - 1) - x5))] [.int (i32 x3)] v_X11_waysOf kX11_499 (c_M_waysOf ((x2 - 1) - x5) h5 e4) rfl rfl (by decide) (by decide) rfl (Nat.le_of_ble_eq_true rfl) (dt t_M_laysOrder 24 rfl) (fun h4 => ?_)
      refine SW_chk hf (fun h6 hf => ?_)
      refine SW_irem h (fun _ => hx3) (fun _ => h4) h6 (dt t_M_laysOrder 25 rfl) ?_
      refine SW_istore_n (lv2 := [some (.ref (xad X 200)), none, some (.int (i32 x2)), some (.int (i32 (x3.tmod v4))), some (.int (i32 x4)), some (.int (i32 x5)), some (.int (i32 (x3.tdiv v1))), none]) h (dt t_M_laysOrder 26 rfl) (by decide) rfl ?_
      refine SW_iconst h (dt t_M_laysOrder 27 rfl) ?_
      refine SW_istore (lv2 := [some (.ref (xad X 200)), none, some (.int (i32 x2)), some (.int (i32 (x3.tmod v4))), some (.int (i32 x4)), some (.int (i32 x5)), some (.int (i32 (x3.tdiv v1))), some (.int (i32 0))]) h (dt t_M_laysOrder 28 rfl) (by decide) rfl ?_
      refine SW_chk hf (fun h14 hf => ?_)
      refine SW_chk hf (fun h15 hf => ?_)
      obtain ⟨z13, e13, hk13⟩ := b1_ex hf
      refine SW_fgt [true, false, true, true, true, true, true, true] rfl (l_M_laysOrder_42 h x2 (x3.tmod v4) x4 x5 σ hx2 h15 hx4 hx5 ok (fun x7_13 hz13 hx7_13 => ?_) LF (x3.tdiv v1) 0 h14 (by decide) e13)
      have hf := hk13 x7_13 hz13
      refine SW_iload h rfl (dt t_M_laysOrder 47 rfl) ?_
      refine SW_iconst h (dt t_M_laysOrder 48 rfl) ?_
      refine SW_iload h rfl (dt t_M_laysOrder 49 rfl) ?_
      refine SW_ishl h (dt t_M_laysOrder 50 rfl) ?_
      refine SW_ior h (dt t_M_laysOrder 51 rfl) ?_
      refine SW_vi hf (r_ior _ _) (fun v16 h16 hf => ?_)
      refine SW_istore (lv2 := [some (.ref (xad X 200)), none, some (.int (i32 x2)), some (.int (i32 (x3.tmod v4))), some (.int (i32 v16)), some (.int (i32 x5)), none, some (.int (i32 x7_13))]) h (dt t_M_laysOrder 52 rfl) (by decide) rfl ?_
      refine SW_aload_n h rfl (dt t_M_laysOrder 53 rfl) ?_
      refine gR h cf11 o200 f11_55 j200_55 lX11_119 (dt t_M_laysOrder 54 rfl) ?_
      refine SW_iload h rfl (dt t_M_laysOrder 55 rfl) ?_
      refine SW_iload h rfl (dt t_M_laysOrder 56 rfl) ?_
      refine sI h a234 hx7_13 (dt t_M_laysOrder 57 rfl) hf (fun hf => SW_bm hf (fun s17 ok17 hf => ?_))
      refine SW_iinc (lv2 := [some (.ref (xad X 200)), none, some (.int (i32 x2)), some (.int (i32 (x3.tmod v4))), some (.int (i32 v16)), some (.int (i32 (x5 + 1))), none, some (.int (i32 x7_13))]) h (dt t_M_laysOrder 58 rfl) rfl (by decide) rfl ?_
      refine SW_goto (tgt := 8) h (dt t_M_laysOrder 59 rfl) rfl ?_
      refine SW_chk hf (fun h18 hf => ?_)
      exact SW_fgt [true, false, true, true, true, true, false, false] rfl (ih (x3.tmod v4) v16 (x5 + 1) s17 h15 h16 h18 ok17 hf)
def F_M_laysOrder (x1 : Int) (x2 : Int) (σ : Mm) : Option (Mm) :=
  b0M (L_M_laysOrder_8 LF x2 x1 0 0 σ) fun s19 =>
  some s19
set_option maxRecDepth 100000 in
set_option maxHeartbeats 4000000 in
theorem c_M_laysOrder (x1 : Int) (hx1 : r32 x1) (x2 : Int) (hx2 : r32 x2) {σ : Mm} {σ2 : Mm} (hf : F_M_laysOrder x1 x2 σ = some σ2) : CT yX11_laysOrder cX11_laysOrder 8 none 1 1 (fun ad => [.ref (ad 200), .int (i32 x1), .int (i32 x2)]) σ True none σ2 := by
  refine MetJ 5 (by decide +kernel) rfl (fun _ => Nat.le_of_ble_eq_true rfl) ?_
  intro X h hR ok
  obtain ⟨res, er⟩ : ∃ z, z = σ2 := ⟨_, rfl⟩
  have hret : ∀ y : Mm, some y = some res → RX X 1 True none y := fun y e => by cases e; cases er; exact hR
  rw [← er] at hf
  clear er hR
  unfold F_M_laysOrder at hf
  show SW X 1 8 0 [some (.ref (xad X 200)), some (.int (i32 x1)), some (.int (i32 x2)), none, none, none, none, none] [] σ
  refine SW_iload_n h rfl (dt t_M_laysOrder 0 rfl) ?_
  refine SW_istore_n (lv2 := [some (.ref (xad X 200)), some (.int (i32 x1)), some (.int (i32 x2)), some (.int (i32 x1)), none, none, none, none]) h (dt t_M_laysOrder 1 rfl) (by decide) rfl ?_
  refine SW_iconst h (dt t_M_laysOrder 2 rfl) ?_
  refine SW_istore (lv2 := [some (.ref (xad X 200)), some (.int (i32 x1)), some (.int (i32 x2)), some (.int (i32 x1)), some (.int (i32 0)), none, none, none]) h (dt t_M_laysOrder 3 rfl) (by decide) rfl ?_
  refine SW_iconst h (dt t_M_laysOrder 4 rfl) ?_
  refine SW_istore (lv2 := [some (.ref (xad X 200)), some (.int (i32 x1)), some (.int (i32 x2)), some (.int (i32 x1)), some (.int (i32 0)), some (.int (i32 0)), none, none]) h (dt t_M_laysOrder 5 rfl) (by decide) rfl ?_
  obtain ⟨z19, e19, hk19⟩ := b0M_ex hf
  refine SW_fgt [true, false, true, true, true, true, false, false] rfl (l_M_laysOrder_8 h x2 hx2 (fun s19 hz19 ok19 => ?_) LF x1 0 0 σ hx1 (by decide) (by decide) ok e19)
  have hf := hk19 s19 hz19
  exact SW_vret h (hret _ hf) rfl (dt t_M_laysOrder 60 rfl)
def b_M_laysRing : List (Nat × Instr × Nat) := [(0, .iconst 2, 1), (1, .istore_n 1, 1), (2, .iload_n 1, 1), (3, .bipush 7, 2), (5, .if_icmp .ge 34, 3), (8, .iconst 0, 1), (9, .istore_n 2, 1), (10, .iload_n 2, 1), (11, .bipush 6, 2), (13, .if_icmp .ge 20, 3), (16, .aload_n 0, 1), (17, .iload_n 2, 1), (18, .iload_n 1, 1), (19, .invokevirtual 570, 3), (22, .ifCond .eq 5, 3), (25, .iload_n 1, 1), (26, .ireturn, 1), (27, .iinc 2 1, 3), (30, .goto (-20), 3), (33, .iinc 1 1, 3), (36, .goto (-34), 3), (39, .iconst (-1), 1), (40, .ireturn, 1)]
theorem t_M_laysRing : DT cX11_laysRing b_M_laysRing := DT.of (by decide +kernel)
def L_M_laysRing_10 : Nat → Int → Int → Mm → Option ((Int × Mm) ⊕ (Mm))
  | 0, _, _, _ => none
  | n + 1, x1, x2, σ =>
    if 6 ≤ x2 then
      some (.inr σ)
    else
      b1M (F_M_isRing x2 x1 σ) fun v1 s1 =>
      if v1 = 0 then
        if r32 (x2 + 1) then
          L_M_laysRing_10 n x1 (x2 + 1) s1
        else none
      else
        some (.inl (x1, s1))
set_option maxRecDepth 100000 in
set_option maxHeartbeats 4000000 in
theorem l_M_laysRing_10 {X : Cx} (h : CX X 1 cX11_laysRing 3 8 (some .int) RX11) (x1 : Int) (hx1 : r32 x1) {res : (Int × Mm) ⊕ (Mm)} (hret : ∀ y : Int × Mm, some (.inl y) = some res → RX X 1 (r32 (y.1)) (some (.int (i32 (y.1)))) y.2) (hex : ∀  (σ : Mm) (hz : some (.inr σ) = some res)  (ok : okM σ), SW X 1 3 33 [some (.ref (xad X 200)), some (.int (i32 x1)), none] [] σ) : ∀ (n : Nat) (x2 : Int) (σ : Mm) (hx2 : r32 x2) (ok : okM σ) (hf : L_M_laysRing_10 n x1 x2 σ = some res), SW X 1 3 10 [some (.ref (xad X 200)), some (.int (i32 x1)), some (.int (i32 x2))] [] σ := by
  intro n
  induction n with
  | zero => intro x2 σ hx2 ok hf; exact absurd hf (by simp [L_M_laysRing_10])
  | succ n ih =>
    intro x2 σ hx2 ok hf
    rw [L_M_laysRing_10] at hf
    refine SW_iload_n h rfl (dt t_M_laysRing 7 rfl) ?_
    refine SW_bipush h (dt t_M_laysRing 8 rfl) (by decide) ?_
    refine SW_icmp_ge (tgt := 33) h (fun _ => hx2) (fun _ => (by decide)) (dt t_M_laysRing 9 rfl) rfl hf (fun hf => ?_) (fun hf => ?_)
    · exact SW_fgt [true, true, false] rfl (hex σ hf ok)
    · refine SW_aload_n h rfl (dt t_M_laysRing 10 rfl) ?_
      refine SW_iload_n h rfl (dt t_M_laysRing 11 rfl) ?_
      refine SW_iload_n h rfl (dt t_M_laysRing 12 rfl) ?_
      obtain ⟨v1, s1, e1, hf⟩ := b1M_of hf
      refine cV h [.int (i32 x2), .int (i32 x1)] [] v_X11_isRing kX11_570 o200 (c_M_isRing x2 hx2 x1 hx1 e1) rfl rfl (by decide) (by decide) rfl (Nat.le_of_ble_eq_true rfl) (dt t_M_laysRing 13 rfl) (fun h1 => ?_)
      refine SW_ok (fun ok1 => ?_)
      refine SW_if_eq (tgt := 27) h (fun _ => (r_zo h1)) (dt t_M_laysRing 14 rfl) rfl hf (fun hf => ?_) (fun hf => ?_)
      · refine SW_iinc (lv2 := [some (.ref (xad X 200)), some (.int (i32 x1)), some (.int (i32 (x2 + 1)))]) h (dt t_M_laysRing 17 rfl) rfl (by decide) rfl ?_
        refine SW_goto (tgt := 10) h (dt t_M_laysRing 18 rfl) rfl ?_
        refine SW_chk hf (fun h2 hf => ?_)
        exact SW_fgt [true, true, true] rfl (ih (x2 + 1) s1 h2 ok1 hf)
      · refine SW_iload_n h rfl (dt t_M_laysRing 15 rfl) ?_
        exact SW_iret h (hret _ hf) (fun _ => hx1) rfl (dt t_M_laysRing 16 rfl)
def L_M_laysRing_2 : Nat → Int → Mm → Option ((Int × Mm) ⊕ (Mm))
  | 0, _, _ => none
  | n + 1, x1, σ =>
    if 7 ≤ x1 then
      some (.inr σ)
    else
      b0MS (L_M_laysRing_10 LF x1 0 σ) (fun y => some (.inl y)) fun s3 =>
      if r32 (x1 + 1) then
        L_M_laysRing_2 n (x1 + 1) s3
      else none
set_option maxRecDepth 100000 in
set_option maxHeartbeats 4000000 in
theorem l_M_laysRing_2 {X : Cx} (h : CX X 1 cX11_laysRing 3 8 (some .int) RX11)   {res : (Int × Mm) ⊕ (Mm)} (hret : ∀ y : Int × Mm, some (.inl y) = some res → RX X 1 (r32 (y.1)) (some (.int (i32 (y.1)))) y.2) (hex : ∀  (σ : Mm) (hz : some (.inr σ) = some res)  (ok : okM σ), SW X 1 3 39 [none, none, none] [] σ) : ∀ (n : Nat) (x1 : Int) (σ : Mm) (hx1 : r32 x1) (ok : okM σ) (hf : L_M_laysRing_2 n x1 σ = some res), SW X 1 3 2 [some (.ref (xad X 200)), some (.int (i32 x1)), none] [] σ := by
  intro n
  induction n with
  | zero => intro x1 σ hx1 ok hf; exact absurd hf (by simp [L_M_laysRing_2])
  | succ n ih =>
    intro x1 σ hx1 ok hf
    rw [L_M_laysRing_2] at hf
    refine SW_iload_n h rfl (dt t_M_laysRing 2 rfl) ?_
    refine SW_bipush h (dt t_M_laysRing 3 rfl) (by decide) ?_
    refine SW_icmp_ge (tgt := 39) h (fun _ => hx1) (fun _ => (by decide)) (dt t_M_laysRing 4 rfl) rfl hf (fun hf => ?_) (fun hf => ?_)
    · exact SW_fgt [false, false, false] rfl (hex σ hf ok)
    · refine SW_iconst h (dt t_M_laysRing 5 rfl) ?_
      refine SW_istore_n (lv2 := [some (.ref (xad X 200)), some (.int (i32 x1)), some (.int (i32 0))]) h (dt t_M_laysRing 6 rfl) (by decide) rfl ?_
      obtain ⟨z3, e3, g3, hk3⟩ := b0MS_of hf
      refine SW_fgt [true, true, true] rfl (l_M_laysRing_10 h x1 hx1 (fun y e => hret y (g3 y (Option.some.inj e).symm)) (fun s3 hz3 ok3 => ?_) LF 0 σ (by decide) ok e3)
      have hf := hk3 s3 (Option.some.inj hz3).symm
      refine SW_iinc (lv2 := [some (.ref (xad X 200)), some (.int (i32 (x1 + 1))), none]) h (dt t_M_laysRing 19 rfl) rfl (by decide) rfl ?_
      refine SW_goto (tgt := 2) h (dt t_M_laysRing 20 rfl) rfl ?_
      refine SW_chk hf (fun h4 hf => ?_)
      exact SW_fgt [true, true, false] rfl (ih (x1 + 1) s3 h4 ok3 hf)
def F_M_laysRing  (σ : Mm) : Option (Int × Mm) :=
  b0MS (L_M_laysRing_2 LF 2 σ) (fun y => some y) fun s5 =>
  some ((-1), s5)
set_option maxRecDepth 100000 in
set_option maxHeartbeats 4000000 in
theorem c_M_laysRing  {σ : Mm} {a : Int} {σ2 : Mm} (hf : F_M_laysRing  σ = some (a, σ2)) : CT yX11_laysRing cX11_laysRing 3 (some .int) 8 1 (fun ad => [.ref (ad 200)]) σ (r32 a) (some (.int (i32 a))) σ2 := by
  refine MetJ 2 (by decide +kernel) rfl (fun _ => Nat.le_of_ble_eq_true rfl) ?_
  intro X h hR ok
  obtain ⟨res, er⟩ : ∃ z, z = (a, σ2) := ⟨_, rfl⟩
  have hret : ∀ y : Int × Mm, some y = some res → RX X 1 (r32 (y.1)) (some (.int (i32 (y.1)))) y.2 := fun y e => by cases e; cases er; exact hR
  rw [← er] at hf
  clear er hR
  unfold F_M_laysRing at hf
  show SW X 1 3 0 [some (.ref (xad X 200)), none, none] [] σ
  refine SW_iconst h (dt t_M_laysRing 0 rfl) ?_
  refine SW_istore_n (lv2 := [some (.ref (xad X 200)), some (.int (i32 2)), none]) h (dt t_M_laysRing 1 rfl) (by decide) rfl ?_
  obtain ⟨z5, e5, g5, hk5⟩ := b0MS_of hf
  refine SW_fgt [true, true, false] rfl (l_M_laysRing_2 h (fun y e => hret y (g5 y (Option.some.inj e).symm)) (fun s5 hz5 ok5 => ?_) LF 2 σ (by decide) ok e5)
  have hf := hk5 s5 (Option.some.inj hz5).symm
  refine SW_iconst h (dt t_M_laysRing 21 rfl) ?_
  exact SW_iret h (hret _ hf) (fun _ => (by decide)) rfl (dt t_M_laysRing 22 rfl)
def b_M_laysRowSo : List (Nat × Instr × Nat) := [(0, .aload_n 0, 1), (1, .aload_n 0, 1), (2, .getfield 7, 3), (5, .bipush 10, 2), (7, .iload_n 1, 1), (8, .iadd, 1), (9, .iaload, 1), (10, .putfield 154, 3), (13, .aload_n 0, 1), (14, .iconst 0, 1), (15, .putfield 157, 3), (18, .iconst 0, 1), (19, .istore_n 2, 1), (20, .iload_n 2, 1), (21, .aload_n 0, 1), (22, .getfield 154, 3), (25, .if_icmp .ge 62, 3), (28, .aload_n 0, 1), (29, .getfield 103, 3), (32, .iload_n 2, 1), (33, .aload_n 0, 1), (34, .getfield 7, 3), (37, .bipush 22, 2), (39, .iconst 4, 1), (40, .iload_n 1, 1), (41, .imul, 1), (42, .iadd, 1), (43, .aload_n 0, 1), (44, .getfield 119, 3), (47, .iload_n 2, 1), (48, .iaload, 1), (49, .iadd, 1), (50, .iaload, 1), (51, .iastore, 1), (52, .aload_n 0, 1), (53, .aload_n 0, 1), (54, .getfield 157, 3), (57, .aload_n 0, 1), (58, .getfield 7, 3), (61, .bipush 70, 2), (63, .iload_n 1, 1), (64, .iadd, 1), (65, .iaload, 1), (66, .aload_n 0, 1), (67, .getfield 119, 3), (70, .iload_n 2, 1), (71, .iaload, 1), (72, .ishr, 1), (73, .iconst 1, 1), (74, .iand, 1), (75, .iload_n 2, 1), (76, .ishl, 1), (77, .ior, 1), (78, .putfield 157, 3), (81, .iinc 2 1, 3), (84, .goto (-64), 3), (87, .return_, 1)]
theorem t_M_laysRowSo : DT cX11_laysRowSo b_M_laysRowSo := DT.of (by decide +kernel)
def L_M_laysRowSo_20 : Nat → Int → Int → Mm → Option (Mm)
  | 0, _, _, _ => none
  | n + 1, x1, x2, σ =>
    if σ 200 48 ≤ x2 then
      some σ
    else
      if 0 ≤ x2 ∧ x2 < 6 then
        if 0 ≤ (22 + (4 * x1)) + (σ 234 x2.toNat) ∧ (22 + (4 * x1)) + (σ 234 x2.toNat) < 5240 then
          if 0 ≤ x2 ∧ x2 < 4 then
            bindM (st2 σ 229 x2.toNat (σ 201 (((22 + (4 * x1)) + (σ 234 x2.toNat)).toNat))) fun s5 =>
            if 0 ≤ 70 + x1 ∧ 70 + x1 < 5240 then
              if 0 ≤ x2 ∧ x2 < 6 then
                bindM (st2 s5 200 49 (ior (s5 200 49) (ishl (iand (ishr (s5 201 ((70 + x1).toNat)) (s5 234 x2.toNat)) 1) x2))) fun s7 =>
                if r32 (x2 + 1) then
                  L_M_laysRowSo_20 n x1 (x2 + 1) s7
                else none
              else none
            else none
          else none
        else none
      else none
set_option maxRecDepth 100000 in
set_option maxHeartbeats 4000000 in
theorem l_M_laysRowSo_20 {X : Cx} (h : CX X 1 cX11_laysRowSo 3 0 none RX11) (x1 : Int) (hx1 : r32 x1) {res : Mm} (hex : ∀  (σ : Mm) (hz : some σ = some res)  (ok : okM σ), SW X 1 3 87 [none, none, none] [] σ) : ∀ (n : Nat) (x2 : Int) (σ : Mm) (hx2 : r32 x2) (ok : okM σ) (hf : L_M_laysRowSo_20 n x1 x2 σ = some res), SW X 1 3 20 [some (.ref (xad X 200)), some (.int (i32 x1)), some (.int (i32 x2))] [] σ := by
  intro n
  induction n with
  | zero => intro x2 σ hx2 ok hf; exact absurd hf (by simp [L_M_laysRowSo_20])
  | succ n ih =>
    intro x2 σ hx2 ok hf
    rw [L_M_laysRowSo_20] at hf
    refine SW_iload_n h rfl (dt t_M_laysRowSo 13 rfl) ?_
    refine SW_aload_n h rfl (dt t_M_laysRowSo 14 rfl) ?_
    refine gI h cf11 o200 f11_48 lX11_154 (dt t_M_laysRowSo 15 rfl) ?_
    refine SW_icmp_ge (tgt := 87) h (fun _ => hx2) (fun _ => (okI ok 200 48 (IsO.n3 o200))) (dt t_M_laysRowSo 16 rfl) rfl hf (fun hf => ?_) (fun hf => ?_)
    · exact SW_fgt [false, false, false] rfl (hex σ hf ok)
    · refine SW_aload_n h rfl (dt t_M_laysRowSo 17 rfl) ?_
      refine gR h cf11 o200 f11_47 j200_47 lX11_103 (dt t_M_laysRowSo 18 rfl) ?_
      refine SW_iload_n h rfl (dt t_M_laysRowSo 19 rfl) ?_
      refine SW_aload_n h rfl (dt t_M_laysRowSo 20 rfl) ?_
      refine gR h cf11 o200 f11_0 j200_0 lX11_7 (dt t_M_laysRowSo 21 rfl) ?_
      refine SW_bipush h (dt t_M_laysRowSo 22 rfl) (by decide) ?_
      refine SW_iconst h (dt t_M_laysRowSo 23 rfl) ?_
      refine SW_iload_n h rfl (dt t_M_laysRowSo 24 rfl) ?_
      refine SW_imul h (dt t_M_laysRowSo 25 rfl) ?_
      refine SW_iadd h (dt t_M_laysRowSo 26 rfl) ?_
      refine SW_aload_n h rfl (dt t_M_laysRowSo 27 rfl) ?_
      refine gR h cf11 o200 f11_55 j200_55 lX11_119 (dt t_M_laysRowSo 28 rfl) ?_
      refine SW_iload_n h rfl (dt t_M_laysRowSo 29 rfl) ?_
      refine aI h a234 (dt t_M_laysRowSo 30 rfl) hf (fun hf => ?_)
      refine SW_iadd h (dt t_M_laysRowSo 31 rfl) ?_
      refine aI h a201 (dt t_M_laysRowSo 32 rfl) hf (fun hf => ?_)
      refine sI h a229 (okI ok 201 (((22 + (4 * x1)) + (σ 234 x2.toNat)).toNat) (IsA.n3 a201 (by decide))) (dt t_M_laysRowSo 33 rfl) hf (fun hf => SW_bm hf (fun s5 ok5 hf => ?_))
      refine SW_aload_n h rfl (dt t_M_laysRowSo 34 rfl) ?_
      refine SW_aload_n h rfl (dt t_M_laysRowSo 35 rfl) ?_
      refine gI h cf11 o200 f11_49 lX11_157 (dt t_M_laysRowSo 36 rfl) ?_
      refine SW_aload_n h rfl (dt t_M_laysRowSo 37 rfl) ?_
      refine gR h cf11 o200 f11_0 j200_0 lX11_7 (dt t_M_laysRowSo 38 rfl) ?_
      refine SW_bipush h (dt t_M_laysRowSo 39 rfl) (by decide) ?_
      refine SW_iload_n h rfl (dt t_M_laysRowSo 40 rfl) ?_
      refine SW_iadd h (dt t_M_laysRowSo 41 rfl) ?_
      refine aI h a201 (dt t_M_laysRowSo 42 rfl) hf (fun hf => ?_)
      refine SW_aload_n h rfl (dt t_M_laysRowSo 43 rfl) ?_
      refine gR h cf11 o200 f11_55 j200_55 lX11_119 (dt t_M_laysRowSo 44 rfl) ?_
      refine SW_iload_n h rfl (dt t_M_laysRowSo 45 rfl) ?_
      refine aI h a234 (dt t_M_laysRowSo 46 rfl) hf (fun hf => ?_)
      refine SW_ishr h (dt t_M_laysRowSo 47 rfl) ?_
      refine SW_iconst h (dt t_M_laysRowSo 48 rfl) ?_
      refine SW_iand h (dt t_M_laysRowSo 49 rfl) ?_
      refine SW_iload_n h rfl (dt t_M_laysRowSo 50 rfl) ?_
      refine SW_ishl h (dt t_M_laysRowSo 51 rfl) ?_
      refine SW_ior h (dt t_M_laysRowSo 52 rfl) ?_
      refine pI h cf11 o200 f11_49 (r_ior _ _) lX11_157 (dt t_M_laysRowSo 53 rfl) (SW_bm hf (fun s7 ok7 hf => ?_))
      refine SW_iinc (lv2 := [some (.ref (xad X 200)), some (.int (i32 x1)), some (.int (i32 (x2 + 1)))]) h (dt t_M_laysRowSo 54 rfl) rfl (by decide) rfl ?_
      refine SW_goto (tgt := 20) h (dt t_M_laysRowSo 55 rfl) rfl ?_
      refine SW_chk hf (fun h8 hf => ?_)
      exact SW_fgt [true, true, true] rfl (ih (x2 + 1) s7 h8 ok7 hf)
def F_M_laysRowSo (x1 : Int) (σ : Mm) : Option (Mm) :=
  if 0 ≤ 10 + x1 ∧ 10 + x1 < 5240 then
    bindM (st2 σ 200 48 (σ 201 ((10 + x1).toNat))) fun s2 =>
    bindM (st2 s2 200 49 0) fun s4 =>
    b0M (L_M_laysRowSo_20 LF x1 0 s4) fun s9 =>
    some s9
  else none
set_option maxRecDepth 100000 in
set_option maxHeartbeats 4000000 in
theorem c_M_laysRowSo (x1 : Int) (hx1 : r32 x1) {σ : Mm} {σ2 : Mm} (hf : F_M_laysRowSo x1 σ = some σ2) : CT yX11_laysRowSo cX11_laysRowSo 3 none 0 1 (fun ad => [.ref (ad 200), .int (i32 x1)]) σ True none σ2 := by
  refine MetJ 1 (by decide +kernel) rfl (fun _ => Nat.le_of_ble_eq_true rfl) ?_
  intro X h hR ok
  obtain ⟨res, er⟩ : ∃ z, z = σ2 := ⟨_, rfl⟩
  have hret : ∀ y : Mm, some y = some res → RX X 1 True none y := fun y e => by cases e; cases er; exact hR
  rw [← er] at hf
  clear er hR
  unfold F_M_laysRowSo at hf
  show SW X 1 3 0 [some (.ref (xad X 200)), some (.int (i32 x1)), none] [] σ
  refine SW_aload_n h rfl (dt t_M_laysRowSo 0 rfl) ?_
  refine SW_aload_n h rfl (dt t_M_laysRowSo 1 rfl) ?_
  refine gR h cf11 o200 f11_0 j200_0 lX11_7 (dt t_M_laysRowSo 2 rfl) ?_
  refine SW_bipush h (dt t_M_laysRowSo 3 rfl) (by decide) ?_
  refine SW_iload_n h rfl (dt t_M_laysRowSo 4 rfl) ?_
  refine SW_iadd h (dt t_M_laysRowSo 5 rfl) ?_
  refine aI h a201 (dt t_M_laysRowSo 6 rfl) hf (fun hf => ?_)
  refine pI h cf11 o200 f11_48 (okI ok 201 ((10 + x1).toNat) (IsA.n3 a201 (by decide))) lX11_154 (dt t_M_laysRowSo 7 rfl) (SW_bm hf (fun s2 ok2 hf => ?_))
  refine SW_aload_n h rfl (dt t_M_laysRowSo 8 rfl) ?_
  refine SW_iconst h (dt t_M_laysRowSo 9 rfl) ?_
  refine pI h cf11 o200 f11_49 (by decide) lX11_157 (dt t_M_laysRowSo 10 rfl) (SW_bm hf (fun s4 ok4 hf => ?_))
  refine SW_iconst h (dt t_M_laysRowSo 11 rfl) ?_
  refine SW_istore_n (lv2 := [some (.ref (xad X 200)), some (.int (i32 x1)), some (.int (i32 0))]) h (dt t_M_laysRowSo 12 rfl) (by decide) rfl ?_
  obtain ⟨z9, e9, hk9⟩ := b0M_ex hf
  refine SW_fgt [true, true, true] rfl (l_M_laysRowSo_20 h x1 hx1 (fun s9 hz9 ok9 => ?_) LF 0 s4 (by decide) ok4 e9)
  have hf := hk9 s9 hz9
  exact SW_vret h (hret _ hf) rfl (dt t_M_laysRowSo 56 rfl)
def b_M_ledger : List (Nat × Instr × Nat) := [(0, .iload_n 1, 1), (1, .iconst 1, 1), (2, .iconst 1, 1), (3, .aload_n 0, 1), (4, .getfield 7, 3), (7, .iconst 0, 1), (8, .iaload, 1), (9, .ishl, 1), (10, .iconst 1, 1), (11, .isub, 1), (12, .invokestatic 150, 3), (15, .ifCond .eq 25, 3), (18, .iload_n 1, 1), (19, .invokestatic 456, 3), (22, .iconst 5, 1), (23, .if_icmp .gt 17, 3), (26, .iload_n 2, 1), (27, .iconst (-1), 1), (28, .iload_n 1, 1), (29, .invokestatic 456, 3), (32, .iconst 1, 1), (33, .isub, 1), (34, .invokestatic 150, 3), (37, .ifCond .ne 5, 3), (40, .iconst (-1), 1), (41, .ireturn, 1), (42, .iconst 0, 1), (43, .istore_n 3, 1), (44, .iconst 0, 1), (45, .istore 4, 2), (47, .iload 4, 2), (49, .aload_n 0, 1), (50, .getfield 7, 3), (53, .iconst 0, 1), (54, .iaload, 1), (55, .if_icmp .ge 29, 3), (58, .iload_n 1, 1), (59, .iload 4, 2), (61, .invokestatic 388, 3), (64, .ifCond .eq 14, 3), (67, .aload_n 0, 1), (68, .getfield 134, 3), (71, .iload_n 3, 1), (72, .iload 4, 2), (74, .iastore, 1), (75, .iinc 3 1, 3), (78, .iinc 4 1, 3), (81, .goto (-34), 3), (84, .iconst (-1), 1), (85, .istore 4, 2), (87, .iconst 0, 1), (88, .istore 5, 2), (90, .iload 5, 2), (92, .iload_n 3, 1), (93, .invokestatic 499, 3), (96, .if_icmp .ge 45, 3), (99, .aload_n 0, 1), (100, .iload 5, 2), (102, .iload_n 3, 1), (103, .invokevirtual 502, 3), (106, .aload_n 0, 1), (107, .iload_n 3, 1), (108, .invokevirtual 546, 3), (111, .istore 6, 2), (113, .iload 4, 2), (115, .iconst (-1), 1), (116, .if_icmp .eq 10, 3), (119, .iload 6, 2), (121, .iload 4, 2), (123, .if_icmp .ge 12, 3), (126, .iload 6, 2), (128, .istore 4, 2), (130, .aload_n 0, 1), (131, .iload_n 3, 1), (132, .invokevirtual 511, 3), (135, .iinc 5 1, 3), (138, .goto (-48), 3), (141, .iload_n 2, 1), (142, .iconst (-1), 1), (143, .if_icmp .ne 8, 3), (146, .iload 4, 2), (148, .goto 14, 3), (151, .aload_n 0, 1), (152, .getfield 134, 3), (155, .aload_n 0, 1), (156, .getfield 122, 3), (159, .iload_n 2, 1), (160, .iaload, 1), (161, .iaload, 1), (162, .ireturn, 1)]
theorem t_M_ledger : DT cX11_ledger b_M_ledger := DT.of (by decide +kernel)
def L_M_ledger_47 : Nat → Int → Int → Int → Mm → Option (Int × Mm)
  | 0, _, _, _, _ => none
  | n + 1, x1, x3, x4, σ =>
    if σ 201 0 ≤ x4 then
      some ((x3, σ))
    else
      b1 (F_M_has x1 x4) fun v7 =>
      bindM (fun (x3_8 : Int) (t8 : Mm) =>
        if r32 (x4 + 1) then
          L_M_ledger_47 n x1 x3_8 (x4 + 1) t8
        else none) fun J8 =>
      if v7 = 0 then
        J8 x3 σ
      else
        if 0 ≤ x3 ∧ x3 < 5 then
          bindM (st2 σ 239 x3.toNat x4) fun s10 =>
          if r32 (x3 + 1) then
            J8 (x3 + 1) s10
          else none
        else none
set_option maxRecDepth 100000 in
set_option maxHeartbeats 4000000 in
theorem l_M_ledger_47 {X : Cx} (h : CX X 1 cX11_ledger 7 7 (some .int) RX11) (x1 : Int) (x2 : Int) (hx1 : r32 x1) (hx2 : r32 x2) {res : Int × Mm} (hex : ∀ (x3 : Int) (σ : Mm) (hz : some ((x3, σ)) = some res) (hx3 : r32 x3) (ok : okM σ), SW X 1 7 84 [some (.ref (xad X 200)), none, some (.int (i32 x2)), some (.int (i32 x3)), none, none, none] [] σ) : ∀ (n : Nat) (x3 : Int) (x4 : Int) (σ : Mm) (hx3 : r32 x3) (hx4 : r32 x4) (ok : okM σ) (hf : L_M_ledger_47 n x1 x3 x4 σ = some res), SW X 1 7 47 [some (.ref (xad X 200)), some (.int (i32 x1)), some (.int (i32 x2)), some (.int (i32 x3)), some (.int (i32 x4)), none, none] [] σ := by
  intro n
  induction n with
  | zero => intro x3 x4 σ hx3 hx4 ok hf; exact absurd hf (by simp [L_M_ledger_47])
  | succ n ih =>
    intro x3 x4 σ hx3 hx4 ok hf
    rw [L_M_ledger_47] at hf
    refine SW_iload h rfl (dt t_M_ledger 30 rfl) ?_
    refine SW_aload_n h rfl (dt t_M_ledger 31 rfl) ?_
    refine gR h cf11 o200 f11_0 j200_0 lX11_7 (dt t_M_ledger 32 rfl) ?_
    refine SW_iconst h (dt t_M_ledger 33 rfl) ?_
    refine aIk h a201 (by decide) (dt t_M_ledger 34 rfl) ?_
    refine SW_icmp_ge (tgt := 84) h (fun _ => hx4) (fun _ => (okI ok 201 0 (IsA.n3 a201 (by decide)))) (dt t_M_ledger 35 rfl) rfl hf (fun hf => ?_) (fun hf => ?_)
    · exact SW_fgt [true, false, true, true, false, false, false] rfl (hex x3 σ hf hx3 ok)
    · refine SW_iload_n h rfl (dt t_M_ledger 36 rfl) ?_
      refine SW_iload h rfl (dt t_M_ledger 37 rfl) ?_
      obtain ⟨v7, e7, hf⟩ := b1_of hf
      refine cS h [.int (i32 x1), .int (i32 x4)] [] v_X11_has kX11_388 (c_M_has x1 hx1 x4 hx4 e7) rfl rfl (by decide) (by decide) rfl (Nat.le_of_ble_eq_true rfl) (dt t_M_ledger 38 rfl) (fun h7 => ?_)
      refine bJ hf (fun J8 e8 hf => ?_)
      have k8 : ∀ (x3_8 : Int) (t8 : Mm) (hx3_8 : r32 x3_8) (ot8 : okM t8) (hf : J8 x3_8 t8 = some res), SW X 1 7 78 [some (.ref (xad X 200)), some (.int (i32 x1)), some (.int (i32 x2)), some (.int (i32 x3_8)), some (.int (i32 x4)), none, none] [] t8 := by
        intro x3_8 t8 hx3_8 ot8 hf
        rw [e8] at hf
        refine SW_iinc (lv2 := [some (.ref (xad X 200)), some (.int (i32 x1)), some (.int (i32 x2)), some (.int (i32 x3_8)), some (.int (i32 (x4 + 1))), none, none]) h (dt t_M_ledger 46 rfl) rfl (by decide) rfl ?_
        refine SW_goto (tgt := 47) h (dt t_M_ledger 47 rfl) rfl ?_
        refine SW_chk hf (fun h9 hf => ?_)
        exact SW_fgt [true, true, true, true, true, false, false] rfl (ih x3_8 (x4 + 1) t8 hx3_8 h9 ot8 hf)
      refine SW_if_eq (tgt := 78) h (fun _ => (r_zo h7)) (dt t_M_ledger 39 rfl) rfl hf (fun hf => ?_) (fun hf => ?_)
      · exact SW_fgt [true, true, true, true, true, false, false] rfl (k8 x3 σ hx3 ok hf)
      · refine SW_aload_n h rfl (dt t_M_ledger 40 rfl) ?_
        refine gR h cf11 o200 f11_60 j200_60 lX11_134 (dt t_M_ledger 41 rfl) ?_
        refine SW_iload_n h rfl (dt t_M_ledger 42 rfl) ?_
        refine SW_iload h rfl (dt t_M_ledger 43 rfl) ?_
        refine sI h a239 hx4 (dt t_M_ledger 44 rfl) hf (fun hf => SW_bm hf (fun s10 ok10 hf => ?_))
        refine SW_iinc (lv2 := [some (.ref (xad X 200)), some (.int (i32 x1)), some (.int (i32 x2)), some (.int (i32 (x3 + 1))), some (.int (i32 x4)), none, none]) h (dt t_M_ledger 45 rfl) rfl (by decide) rfl ?_
        refine SW_chk hf (fun h11 hf => ?_)
        exact SW_fgt [true, true, true, true, true, false, false] rfl (k8 (x3 + 1) s10 h11 ok10 hf)
def L_M_ledger_90 : Nat → Int → Int → Int → Mm → Option (Int × Mm)
  | 0, _, _, _, _ => none
  | n + 1, x3, x4, x5, σ =>
    b1 (F_M_waysOf x3) fun v13 =>
    if v13 ≤ x5 then
      some ((x4, σ))
    else
      b0M (F_M_laysOrder x5 x3 σ) fun s14 =>
      b1M (F_M_apartSo x3 s14) fun v15 s15 =>
      bindM (fun (x4_16 : Int) (t16 : Mm) =>
        if r32 (x5 + 1) then
          L_M_ledger_90 n x3 x4_16 (x5 + 1) t16
        else none) fun J16 =>
      bindM (
        b0M (F_M_keepsOrder x3 s15) fun s19 =>
        J16 v15 s19) fun J18 =>
      if x4 = (-1) then
        J18
      else
        if x4 ≤ v15 then
          J16 x4 s15
        else
          J18
set_option maxRecDepth 100000 in
set_option maxHeartbeats 4000000 in
theorem l_M_ledger_90 {X : Cx} (h : CX X 1 cX11_ledger 7 7 (some .int) RX11) (x2 : Int) (x3 : Int) (hx2 : r32 x2) (hx3 : r32 x3) {res : Int × Mm} (hex : ∀ (x4 : Int) (σ : Mm) (hz : some ((x4, σ)) = some res) (hx4 : r32 x4) (ok : okM σ), SW X 1 7 141 [some (.ref (xad X 200)), none, some (.int (i32 x2)), none, some (.int (i32 x4)), none, none] [] σ) : ∀ (n : Nat) (x4 : Int) (x5 : Int) (σ : Mm) (hx4 : r32 x4) (hx5 : r32 x5) (ok : okM σ) (hf : L_M_ledger_90 n x3 x4 x5 σ = some res), SW X 1 7 90 [some (.ref (xad X 200)), none, some (.int (i32 x2)), some (.int (i32 x3)), some (.int (i32 x4)), some (.int (i32 x5)), none] [] σ := by
  intro n
  induction n with
  | zero => intro x4 x5 σ hx4 hx5 ok hf; exact absurd hf (by simp [L_M_ledger_90])
  | succ n ih =>
    intro x4 x5 σ hx4 hx5 ok hf
    rw [L_M_ledger_90] at hf
    refine SW_iload h rfl (dt t_M_ledger 52 rfl) ?_
    refine SW_iload_n h rfl (dt t_M_ledger 53 rfl) ?_
    obtain ⟨v13, e13, hf⟩ := b1_of hf
    refine cS h [.int (i32 x3)] [.int (i32 x5)] v_X11_waysOf kX11_499 (c_M_waysOf x3 hx3 e13) rfl rfl (by decide) (by decide) rfl (Nat.le_of_ble_eq_true rfl) (dt t_M_ledger 54 rfl) (fun h13 => ?_)
    refine SW_icmp_ge (tgt := 141) h (fun _ => hx5) (fun _ => h13) (dt t_M_ledger 55 rfl) rfl hf (fun hf => ?_) (fun hf => ?_)
    · exact SW_fgt [true, false, true, false, true, false, false] rfl (hex x4 σ hf hx4 ok)
    · refine SW_aload_n h rfl (dt t_M_ledger 56 rfl) ?_
      refine SW_iload h rfl (dt t_M_ledger 57 rfl) ?_
      refine SW_iload_n h rfl (dt t_M_ledger 58 rfl) ?_
      obtain ⟨s14, e14, hf⟩ := b0M_of hf
      refine cVv h [.int (i32 x5), .int (i32 x3)] [] v_X11_laysOrder kX11_502 o200 (c_M_laysOrder x5 hx5 x3 hx3 e14) rfl rfl (by decide) (by decide) rfl (Nat.le_of_ble_eq_true rfl) (dt t_M_ledger 59 rfl) (fun h14 => ?_)
      refine SW_ok (fun ok14 => ?_)
      refine SW_aload_n h rfl (dt t_M_ledger 60 rfl) ?_
      refine SW_iload_n h rfl (dt t_M_ledger 61 rfl) ?_
      obtain ⟨v15, s15, e15, hf⟩ := b1M_of hf
      refine cV h [.int (i32 x3)] [] v_X11_apartSo kX11_546 o200 (c_M_apartSo x3 hx3 e15) rfl rfl (by decide) (by decide) rfl (Nat.le_of_ble_eq_true rfl) (dt t_M_ledger 62 rfl) (fun h15 => ?_)
      refine SW_ok (fun ok15 => ?_)
      refine SW_istore (lv2 := [some (.ref (xad X 200)), none, some (.int (i32 x2)), some (.int (i32 x3)), some (.int (i32 x4)), some (.int (i32 x5)), some (.int (i32 v15))]) h (dt t_M_ledger 63 rfl) (by decide) rfl ?_
      refine SW_iload h rfl (dt t_M_ledger 64 rfl) ?_
      refine SW_iconst h (dt t_M_ledger 65 rfl) ?_
      refine bJ hf (fun J16 e16 hf => ?_)
      have k16 : ∀ (x4_16 : Int) (t16 : Mm) (hx4_16 : r32 x4_16) (ot16 : okM t16) (hf : J16 x4_16 t16 = some res), SW X 1 7 135 [some (.ref (xad X 200)), none, some (.int (i32 x2)), some (.int (i32 x3)), some (.int (i32 x4_16)), some (.int (i32 x5)), none] [] t16 := by
        intro x4_16 t16 hx4_16 ot16 hf
        rw [e16] at hf
        refine SW_iinc (lv2 := [some (.ref (xad X 200)), none, some (.int (i32 x2)), some (.int (i32 x3)), some (.int (i32 x4_16)), some (.int (i32 (x5 + 1))), none]) h (dt t_M_ledger 75 rfl) rfl (by decide) rfl ?_
        refine SW_goto (tgt := 90) h (dt t_M_ledger 76 rfl) rfl ?_
        refine SW_chk hf (fun h17 hf => ?_)
        exact SW_fgt [true, false, true, true, true, true, false] rfl (ih x4_16 (x5 + 1) t16 hx4_16 h17 ot16 hf)
      refine bJ hf (fun J18 e18 hf => ?_)
      have k18 : ∀ (hf : J18 = some res), SW X 1 7 126 [some (.ref (xad X 200)), none, some (.int (i32 x2)), some (.int (i32 x3)), none, some (.int (i32 x5)), some (.int (i32 v15))] [] s15 := by
        intro hf
        rw [e18] at hf
        refine SW_iload h rfl (dt t_M_ledger 70 rfl) ?_
        refine SW_istore (lv2 := [some (.ref (xad X 200)), none, some (.int (i32 x2)), some (.int (i32 x3)), some (.int (i32 v15)), some (.int (i32 x5)), some (.int (i32 v15))]) h (dt t_M_ledger 71 rfl) (by decide) rfl ?_
        refine SW_aload_n h rfl (dt t_M_ledger 72 rfl) ?_
        refine SW_iload_n h rfl (dt t_M_ledger 73 rfl) ?_
        obtain ⟨s19, e19, hf⟩ := b0M_of hf
        refine cVv h [.int (i32 x3)] [] v_X11_keepsOrder kX11_511 o200 (c_M_keepsOrder x3 hx3 e19) rfl rfl (by decide) (by decide) rfl (Nat.le_of_ble_eq_true rfl) (dt t_M_ledger 74 rfl) (fun h19 => ?_)
        refine SW_ok (fun ok19 => ?_)
        exact SW_fgt [true, false, true, true, true, true, false] rfl (k16 v15 s19 h15 ok19 hf)
      refine SW_icmp_eq (tgt := 126) h (fun _ => hx4) (fun _ => (by decide)) (dt t_M_ledger 66 rfl) rfl hf (fun hf => ?_) (fun hf => ?_)
      · exact SW_fgt [true, false, true, true, false, true, true] rfl (k18 hf)
      · refine SW_iload h rfl (dt t_M_ledger 67 rfl) ?_
        refine SW_iload h rfl (dt t_M_ledger 68 rfl) ?_
        refine SW_icmp_ge (tgt := 135) h (fun _ => h15) (fun _ => hx4) (dt t_M_ledger 69 rfl) rfl hf (fun hf => ?_) (fun hf => ?_)
        · exact SW_fgt [true, false, true, true, true, true, false] rfl (k16 x4 s15 hx4 ok15 hf)
        · exact SW_fgt [true, false, true, true, false, true, true] rfl (k18 hf)
def F_M_ledger (x1 : Int) (x2 : Int) (σ : Mm) : Option (Int × Mm) :=
  if r32 ((ishl 1 (σ 201 0)) - 1) then
    b1 (F_M_in x1 1 ((ishl 1 (σ 201 0)) - 1)) fun v1 =>
    if v1 = 0 then
      some ((-1), σ)
    else
      b1 (F_M_many x1) fun v3 =>
      if 5 < v3 then
        some ((-1), σ)
      else
        b1 (F_M_many x1) fun v4 =>
        if r32 (v4 - 1) then
          b1 (F_M_in x2 ((-1)) (v4 - 1)) fun v5 =>
          if v5 = 0 then
            some ((-1), σ)
          else
            b1M (L_M_ledger_47 LF x1 0 0 σ) fun x3_12 s12 =>
            b1M (L_M_ledger_90 LF x3_12 ((-1)) 0 s12) fun x4_20 s20 =>
            if x2 = (-1) then
              some (x4_20, s20)
            else
              if 0 ≤ x2 ∧ x2 < 6 then
                if 0 ≤ s20 235 x2.toNat ∧ s20 235 x2.toNat < 5 then
                  some (s20 239 ((s20 235 x2.toNat).toNat), s20)
                else none
              else none
        else none
  else none
set_option maxRecDepth 100000 in
set_option maxHeartbeats 4000000 in
theorem c_M_ledger (x1 : Int) (hx1 : r32 x1) (x2 : Int) (hx2 : r32 x2) {σ : Mm} {a : Int} {σ2 : Mm} (hf : F_M_ledger x1 x2 σ = some (a, σ2)) : CT yX11_ledger cX11_ledger 7 (some .int) 7 1 (fun ad => [.ref (ad 200), .int (i32 x1), .int (i32 x2)]) σ (r32 a) (some (.int (i32 a))) σ2 := by
  refine MetJ 4 (by decide +kernel) rfl (fun _ => Nat.le_of_ble_eq_true rfl) ?_
  intro X h hR ok
  obtain ⟨res, er⟩ : ∃ z, z = (a, σ2) := ⟨_, rfl⟩
  have hret : ∀ y : Int × Mm, some y = some res → RX X 1 (r32 (y.1)) (some (.int (i32 (y.1)))) y.2 := fun y e => by cases e; cases er; exact hR
  rw [← er] at hf
  clear er hR
  unfold F_M_ledger at hf
  show SW X 1 7 0 [some (.ref (xad X 200)), some (.int (i32 x1)), some (.int (i32 x2)), none, none, none, none] [] σ
  refine SW_iload_n h rfl (dt t_M_ledger 0 rfl) ?_
  refine SW_iconst h (dt t_M_ledger 1 rfl) ?_
  refine SW_iconst h (dt t_M_ledger 2 rfl) ?_
  refine SW_aload_n h rfl (dt t_M_ledger 3 rfl) ?_
  refine gR h cf11 o200 f11_0 j200_0 lX11_7 (dt t_M_ledger 4 rfl) ?_
  refine SW_iconst h (dt t_M_ledger 5 rfl) ?_
  refine aIk h a201 (by decide) (dt t_M_ledger 6 rfl) ?_
  refine SW_ishl h (dt t_M_ledger 7 rfl) ?_
  refine SW_iconst h (dt t_M_ledger 8 rfl) ?_
  refine SW_isub h (dt t_M_ledger 9 rfl) ?_
  refine SW_chk hf (fun h2 hf => ?_)
  obtain ⟨v1, e1, hf⟩ := b1_of hf
  refine cS h [.int (i32 x1), .int (i32 1), .int (i32 ((ishl 1 (σ 201 0)) - 1))] [] v_X11_in kX11_150 (c_M_in x1 hx1 1 (by decide) ((ishl 1 (σ 201 0)) - 1) h2 e1) rfl rfl (by decide) (by decide) rfl (Nat.le_of_ble_eq_true rfl) (dt t_M_ledger 10 rfl) (fun h1 => ?_)
  refine SW_if_eq (tgt := 40) h (fun _ => (r_zo h1)) (dt t_M_ledger 11 rfl) rfl hf (fun hf => ?_) (fun hf => ?_)
  · refine SW_iconst h (dt t_M_ledger 24 rfl) ?_
    exact SW_iret h (hret _ hf) (fun _ => (by decide)) rfl (dt t_M_ledger 25 rfl)
  · refine SW_iload_n h rfl (dt t_M_ledger 12 rfl) ?_
    obtain ⟨v3, e3, hf⟩ := b1_of hf
    refine cS h [.int (i32 x1)] [] v_X11_many kX11_456 (c_M_many x1 hx1 e3) rfl rfl (by decide) (by decide) rfl (Nat.le_of_ble_eq_true rfl) (dt t_M_ledger 13 rfl) (fun h3 => ?_)
    refine SW_iconst h (dt t_M_ledger 14 rfl) ?_
    refine SW_icmp_gt (tgt := 40) h (fun _ => h3) (fun _ => (by decide)) (dt t_M_ledger 15 rfl) rfl hf (fun hf => ?_) (fun hf => ?_)
    · refine SW_iconst h (dt t_M_ledger 24 rfl) ?_
      exact SW_iret h (hret _ hf) (fun _ => (by decide)) rfl (dt t_M_ledger 25 rfl)
    · refine SW_iload_n h rfl (dt t_M_ledger 16 rfl) ?_
      refine SW_iconst h (dt t_M_ledger 17 rfl) ?_
      refine SW_iload_n h rfl (dt t_M_ledger 18 rfl) ?_
      obtain ⟨v4, e4, hf⟩ := b1_of hf
      refine cS h [.int (i32 x1)] [.int (i32 ((-1))), .int (i32 x2)] v_X11_many kX11_456 (c_M_many x1 hx1 e4) rfl rfl (by decide) (by decide) rfl (Nat.le_of_ble_eq_true rfl) (dt t_M_ledger 19 rfl) (fun h4 => ?_)
      refine SW_iconst h (dt t_M_ledger 20 rfl) ?_
      refine SW_isub h (dt t_M_ledger 21 rfl) ?_
      refine SW_chk hf (fun h6 hf => ?_)
      obtain ⟨v5, e5, hf⟩ := b1_of hf
      refine cS h [.int (i32 x2), .int (i32 ((-1))), .int (i32 (v4 - 1))] [] v_X11_in kX11_150 (c_M_in x2 hx2 ((-1)) (by decide) (v4 - 1) h6 e5) rfl rfl (by decide) (by decide) rfl (Nat.le_of_ble_eq_true rfl) (dt t_M_ledger 22 rfl) (fun h5 => ?_)
      refine SW_if_ne (tgt := 42) h (fun _ => (r_zo h5)) (dt t_M_ledger 23 rfl) rfl hf (fun hf => ?_) (fun hf => ?_)
      · refine SW_iconst h (dt t_M_ledger 24 rfl) ?_
        exact SW_iret h (hret _ hf) (fun _ => (by decide)) rfl (dt t_M_ledger 25 rfl)
      · refine SW_iconst h (dt t_M_ledger 26 rfl) ?_
        refine SW_istore_n (lv2 := [some (.ref (xad X 200)), some (.int (i32 x1)), some (.int (i32 x2)), some (.int (i32 0)), none, none, none]) h (dt t_M_ledger 27 rfl) (by decide) rfl ?_
        refine SW_iconst h (dt t_M_ledger 28 rfl) ?_
        refine SW_istore (lv2 := [some (.ref (xad X 200)), some (.int (i32 x1)), some (.int (i32 x2)), some (.int (i32 0)), some (.int (i32 0)), none, none]) h (dt t_M_ledger 29 rfl) (by decide) rfl ?_
        obtain ⟨z12, e12, hk12⟩ := b1M_ex hf
        refine SW_fgt [true, true, true, true, true, false, false] rfl (l_M_ledger_47 h x1 x2 hx1 hx2 (fun x3_12 s12 hz12 hx3_12 ok12 => ?_) LF 0 0 σ (by decide) (by decide) ok e12)
        have hf := hk12 x3_12 s12 hz12
        refine SW_iconst h (dt t_M_ledger 48 rfl) ?_
        refine SW_istore (lv2 := [some (.ref (xad X 200)), none, some (.int (i32 x2)), some (.int (i32 x3_12)), some (.int (i32 ((-1)))), none, none]) h (dt t_M_ledger 49 rfl) (by decide) rfl ?_
        refine SW_iconst h (dt t_M_ledger 50 rfl) ?_
        refine SW_istore (lv2 := [some (.ref (xad X 200)), none, some (.int (i32 x2)), some (.int (i32 x3_12)), some (.int (i32 ((-1)))), some (.int (i32 0)), none]) h (dt t_M_ledger 51 rfl) (by decide) rfl ?_
        obtain ⟨z20, e20, hk20⟩ := b1M_ex hf
        refine SW_fgt [true, false, true, true, true, true, false] rfl (l_M_ledger_90 h x2 x3_12 hx2 hx3_12 (fun x4_20 s20 hz20 hx4_20 ok20 => ?_) LF ((-1)) 0 s12 (by decide) (by decide) ok12 e20)
        have hf := hk20 x4_20 s20 hz20
        refine SW_iload_n h rfl (dt t_M_ledger 77 rfl) ?_
        refine SW_iconst h (dt t_M_ledger 78 rfl) ?_
        refine SW_icmp_ne (tgt := 151) h (fun _ => hx2) (fun _ => (by decide)) (dt t_M_ledger 79 rfl) rfl hf (fun hf => ?_) (fun hf => ?_)
        · refine SW_iload h rfl (dt t_M_ledger 80 rfl) ?_
          refine SW_goto (tgt := 162) h (dt t_M_ledger 81 rfl) rfl ?_
          exact SW_iret h (hret _ hf) (fun _ => hx4_20) rfl (dt t_M_ledger 89 rfl)
        · refine SW_aload_n h rfl (dt t_M_ledger 82 rfl) ?_
          refine gR h cf11 o200 f11_60 j200_60 lX11_134 (dt t_M_ledger 83 rfl) ?_
          refine SW_aload_n h rfl (dt t_M_ledger 84 rfl) ?_
          refine gR h cf11 o200 f11_56 j200_56 lX11_122 (dt t_M_ledger 85 rfl) ?_
          refine SW_iload_n h rfl (dt t_M_ledger 86 rfl) ?_
          refine aI h a235 (dt t_M_ledger 87 rfl) hf (fun hf => ?_)
          refine aI h a239 (dt t_M_ledger 88 rfl) hf (fun hf => ?_)
          exact SW_iret h (hret _ hf) (fun _ => (okI ok20 239 ((s20 235 x2.toNat).toNat) (IsA.n3 a239 (by decide)))) rfl (dt t_M_ledger 89 rfl)
