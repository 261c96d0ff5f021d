def b_M_mostAlike : List (Nat × Instr × Nat) := [(0, .iconst 0, 1), (1, .istore 4, 2), (3, .iload 4, 2), (5, .iload_n 2, 1), (6, .if_icmp .ge 37, 3), (9, .aload_n 0, 1), (10, .aload_n 0, 1), (11, .getfield 128, 3), (14, .iload 4, 2), (16, .iaload, 1), (17, .iload_n 3, 1), (18, .invokevirtual 533, 3), (21, .aload_n 0, 1), (22, .iload_n 1, 1), (23, .invokevirtual 419, 3), (26, .aload_n 0, 1), (27, .getfield 131, 3), (30, .iload 4, 2), (32, .aload_n 0, 1), (33, .invokevirtual 422, 3), (36, .iastore, 1), (37, .iinc 4 1, 3), (40, .goto (-37), 3), (43, .iconst 0, 1), (44, .istore 4, 2), (46, .iconst 0, 1), (47, .istore 5, 2), (49, .iload 5, 2), (51, .iload_n 2, 1), (52, .if_icmp .ge 70, 3), (55, .iconst 0, 1), (56, .istore 6, 2), (58, .iconst 0, 1), (59, .istore 7, 2), (61, .iload 7, 2), (63, .iload_n 2, 1), (64, .if_icmp .ge 36, 3), (67, .iload 6, 2), (69, .aload_n 0, 1), (70, .getfield 131, 3), (73, .iload 7, 2), (75, .iaload, 1), (76, .aload_n 0, 1), (77, .getfield 131, 3), (80, .iload 5, 2), (82, .iaload, 1), (83, .if_icmp .ne 7, 3), (86, .iconst 1, 1), (87, .goto 4, 3), (90, .iconst 0, 1), (91, .iadd, 1), (92, .istore 6, 2), (94, .iinc 7 1, 3), (97, .goto (-36), 3), (100, .iload 6, 2), (102, .iload 4, 2), (104, .if_icmp .le 8, 3), (107, .iload 6, 2), (109, .goto 5, 3), (112, .iload 4, 2), (114, .istore 4, 2), (116, .iinc 5 1, 3), (119, .goto (-70), 3), (122, .iload 4, 2), (124, .ireturn, 1)]
theorem t_M_mostAlike : DT cX11_mostAlike b_M_mostAlike := DT.of (by decide +kernel)
def L_M_mostAlike_3 : Nat → Int → Int → Int → Int → Mm → Option (Mm)
  | 0, _, _, _, _, _ => none
  | n + 1, x1, x2, x3, x4, σ =>
    if x2 ≤ x4 then
      some σ
    else
      if 0 ≤ x4 ∧ x4 < 1000 then
        b0M (F_M_laysTempers (σ 237 x4.toNat) x3 σ) fun s1 =>
        b0M (F_M_laysRow x1 s1) fun s2 =>
        b1M (F_M_outNow  s2) fun v3 s3 =>
        if 0 ≤ x4 ∧ x4 < 1000 then
          bindM (st2 s3 238 x4.toNat v3) fun s4 =>
          if r32 (x4 + 1) then
            L_M_mostAlike_3 n x1 x2 x3 (x4 + 1) s4
          else none
        else none
      else none
set_option maxRecDepth 100000 in
set_option maxHeartbeats 4000000 in
theorem l_M_mostAlike_3 {X : Cx} (h : CX X 1 cX11_mostAlike 8 6 (some .int) RX11) (x1 : Int) (x2 : Int) (x3 : Int) (hx1 : r32 x1) (hx2 : r32 x2) (hx3 : r32 x3) {res : Mm} (hex : ∀  (σ : Mm) (hz : some σ = some res)  (ok : okM σ), SW X 1 8 43 [some (.ref (xad X 200)), none, some (.int (i32 x2)), none, none, none, none, none] [] σ) : ∀ (n : Nat) (x4 : Int) (σ : Mm) (hx4 : r32 x4) (ok : okM σ) (hf : L_M_mostAlike_3 n x1 x2 x3 x4 σ = some res), SW X 1 8 3 [some (.ref (xad X 200)), some (.int (i32 x1)), some (.int (i32 x2)), some (.int (i32 x3)), some (.int (i32 x4)), none, none, none] [] σ := by
  intro n
  induction n with
  | zero => intro x4 σ hx4 ok hf; exact absurd hf (by simp [L_M_mostAlike_3])
  | succ n ih =>
    intro x4 σ hx4 ok hf
    rw [L_M_mostAlike_3] at hf
    refine SW_iload h rfl (dt t_M_mostAlike 2 rfl) ?_
    refine SW_iload_n h rfl (dt t_M_mostAlike 3 rfl) ?_
    refine SW_icmp_ge (tgt := 43) h (fun _ => hx4) (fun _ => hx2) (dt t_M_mostAlike 4 rfl) rfl hf (fun hf => ?_) (fun hf => ?_)
    · exact SW_fgt [true, false, true, false, false, false, false, false] rfl (hex σ hf ok)
    · refine SW_aload_n h rfl (dt t_M_mostAlike 5 rfl) ?_
      refine SW_aload_n h rfl (dt t_M_mostAlike 6 rfl) ?_
      refine gR h cf11 o200 f11_58 j200_58 lX11_128 (dt t_M_mostAlike 7 rfl) ?_
      refine SW_iload h rfl (dt t_M_mostAlike 8 rfl) ?_
      refine aI h a237 (dt t_M_mostAlike 9 rfl) hf (fun hf => ?_)
      refine SW_iload_n h rfl (dt t_M_mostAlike 10 rfl) ?_
      obtain ⟨s1, e1, hf⟩ := b0M_of hf
      refine cVv h [.int (i32 (σ 237 x4.toNat)), .int (i32 x3)] [] v_X11_laysTempers kX11_533 o200 (c_M_laysTempers (σ 237 x4.toNat) (okI ok 237 x4.toNat (IsA.n3 a237 (by decide))) x3 hx3 e1) rfl rfl (by decide) (by decide) rfl (Nat.le_of_ble_eq_true rfl) (dt t_M_mostAlike 11 rfl) (fun h1 => ?_)
      refine SW_ok (fun ok1 => ?_)
      refine SW_aload_n h rfl (dt t_M_mostAlike 12 rfl) ?_
      refine SW_iload_n h rfl (dt t_M_mostAlike 13 rfl) ?_
      obtain ⟨s2, e2, hf⟩ := b0M_of hf
      refine cVv h [.int (i32 x1)] [] v_X11_laysRow kX11_419 o200 (c_M_laysRow x1 hx1 e2) rfl rfl (by decide) (by decide) rfl (Nat.le_of_ble_eq_true rfl) (dt t_M_mostAlike 14 rfl) (fun h2 => ?_)
      refine SW_ok (fun ok2 => ?_)
      refine SW_aload_n h rfl (dt t_M_mostAlike 15 rfl) ?_
      refine gR h cf11 o200 f11_59 j200_59 lX11_131 (dt t_M_mostAlike 16 rfl) ?_
      refine SW_iload h rfl (dt t_M_mostAlike 17 rfl) ?_
      refine SW_aload_n h rfl (dt t_M_mostAlike 18 rfl) ?_
      obtain ⟨v3, s3, e3, hf⟩ := b1M_of hf
      refine cV h [] [.int (i32 x4), .ref (xad X 238)] v_X11_outNow kX11_422 o200 (c_M_outNow  e3) rfl rfl (by decide) (by decide) rfl (Nat.le_of_ble_eq_true rfl) (dt t_M_mostAlike 19 rfl) (fun h3 => ?_)
      refine SW_ok (fun ok3 => ?_)
      refine sI h a238 h3 (dt t_M_mostAlike 20 rfl) hf (fun hf => SW_bm hf (fun s4 ok4 hf => ?_))
      refine SW_iinc (lv2 := [some (.ref (xad X 200)), some (.int (i32 x1)), some (.int (i32 x2)), some (.int (i32 x3)), some (.int (i32 (x4 + 1))), none, none, none]) h (dt t_M_mostAlike 21 rfl) rfl (by decide) rfl ?_
      refine SW_goto (tgt := 3) h (dt t_M_mostAlike 22 rfl) rfl ?_
      refine SW_chk hf (fun h5 hf => ?_)
      exact SW_fgt [true, true, true, true, true, false, false, false] rfl (ih (x4 + 1) s4 h5 ok4 hf)
def L_M_mostAlike_61 : Nat → Int → Int → Int → Int → Mm → Option (Int)
  | 0, _, _, _, _, _ => none
  | n + 1, x2, x5, x6, x7, σ =>
    if x2 ≤ x7 then
      some x6
    else
      if 0 ≤ x7 ∧ x7 < 1000 then
        if 0 ≤ x5 ∧ x5 < 1000 then
          bindM ((if σ 238 x7.toNat = σ 238 x5.toNat then 1 else 0 : Int)) fun v7 =>
          if r32 (x6 + v7) then
            if r32 (x7 + 1) then
              L_M_mostAlike_61 n x2 x5 (x6 + v7) (x7 + 1) σ
            else none
          else none
        else none
      else none
set_option maxRecDepth 100000 in
set_option maxHeartbeats 4000000 in
theorem l_M_mostAlike_61 {X : Cx} (h : CX X 1 cX11_mostAlike 8 6 (some .int) RX11) (x2 : Int) (x4 : Int) (x5 : Int) (σ : Mm) (hx2 : r32 x2) (hx4 : r32 x4) (hx5 : r32 x5) (ok : okM σ) {res : Int} (hex : ∀ (x6 : Int) (hz : some x6 = some res) (hx6 : r32 x6), SW X 1 8 100 [some (.ref (xad X 200)), none, some (.int (i32 x2)), none, some (.int (i32 x4)), some (.int (i32 x5)), some (.int (i32 x6)), none] [] σ) : ∀ (n : Nat) (x6 : Int) (x7 : Int) (hx6 : r32 x6) (hx7 : r32 x7) (hf : L_M_mostAlike_61 n x2 x5 x6 x7 σ = some res), SW X 1 8 61 [some (.ref (xad X 200)), none, some (.int (i32 x2)), none, some (.int (i32 x4)), some (.int (i32 x5)), some (.int (i32 x6)), some (.int (i32 x7))] [] σ := by
  intro n
  induction n with
  | zero => intro x6 x7 hx6 hx7 hf; exact absurd hf (by simp [L_M_mostAlike_61])
  | succ n ih =>
    intro x6 x7 hx6 hx7 hf
    rw [L_M_mostAlike_61] at hf
    refine SW_iload h rfl (dt t_M_mostAlike 34 rfl) ?_
    refine SW_iload_n h rfl (dt t_M_mostAlike 35 rfl) ?_
    refine SW_icmp_ge (tgt := 100) h (fun _ => hx7) (fun _ => hx2) (dt t_M_mostAlike 36 rfl) rfl hf (fun hf => ?_) (fun hf => ?_)
    · exact SW_fgt [true, false, true, false, true, true, true, false] rfl (hex x6 hf hx6)
    · refine SW_iload h rfl (dt t_M_mostAlike 37 rfl) ?_
      refine SW_aload_n h rfl (dt t_M_mostAlike 38 rfl) ?_
      refine gR h cf11 o200 f11_59 j200_59 lX11_131 (dt t_M_mostAlike 39 rfl) ?_
      refine SW_iload h rfl (dt t_M_mostAlike 40 rfl) ?_
      refine aI h a238 (dt t_M_mostAlike 41 rfl) hf (fun hf => ?_)
      refine SW_aload_n h rfl (dt t_M_mostAlike 42 rfl) ?_
      refine gR h cf11 o200 f11_59 j200_59 lX11_131 (dt t_M_mostAlike 43 rfl) ?_
      refine SW_iload h rfl (dt t_M_mostAlike 44 rfl) ?_
      refine aI h a238 (dt t_M_mostAlike 45 rfl) hf (fun hf => ?_)
      refine bT hf (fun g7 e7 hf => ?_)
      have k7 : ∀ (v7 : Int) (h7 : r32 v7) (hf : g7 v7 = some res), SW X 1 8 91 [some (.ref (xad X 200)), none, some (.int (i32 x2)), none, some (.int (i32 x4)), some (.int (i32 x5)), some (.int (i32 x6)), some (.int (i32 x7))] [.int (i32 v7), .int (i32 x6)] σ := by
        intro v7 h7 hf
        rw [e7] at hf
        refine SW_iadd h (dt t_M_mostAlike 50 rfl) ?_
        refine SW_istore (lv2 := [some (.ref (xad X 200)), none, some (.int (i32 x2)), none, some (.int (i32 x4)), some (.int (i32 x5)), some (.int (i32 (x6 + v7))), some (.int (i32 x7))]) h (dt t_M_mostAlike 51 rfl) (by decide) rfl ?_
        refine SW_iinc (lv2 := [some (.ref (xad X 200)), none, some (.int (i32 x2)), none, some (.int (i32 x4)), some (.int (i32 x5)), some (.int (i32 (x6 + v7))), some (.int (i32 (x7 + 1)))]) h (dt t_M_mostAlike 52 rfl) rfl (by decide) rfl ?_
        refine SW_goto (tgt := 61) h (dt t_M_mostAlike 53 rfl) rfl ?_
        refine SW_chk hf (fun h8 hf => ?_)
        refine SW_chk hf (fun h9 hf => ?_)
        exact SW_fgt [true, false, true, false, true, true, true, true] rfl (ih (x6 + v7) (x7 + 1) h8 h9 hf)
      have hf := bIte hf
      refine SW_icmp_ne (tgt := 90) h (fun _ => (okI ok 238 x7.toNat (IsA.n3 a238 (by decide)))) (fun _ => (okI ok 238 x5.toNat (IsA.n3 a238 (by decide)))) (dt t_M_mostAlike 46 rfl) rfl hf (fun hf => ?_) (fun hf => ?_)
      · refine SW_iconst h (dt t_M_mostAlike 47 rfl) ?_
        refine SW_goto (tgt := 91) h (dt t_M_mostAlike 48 rfl) rfl ?_
        exact k7 1 (by decide) hf
      · refine SW_iconst h (dt t_M_mostAlike 49 rfl) ?_
        exact k7 0 (by decide) hf
def L_M_mostAlike_49 : Nat → Int → Int → Int → Mm → Option (Int)
  | 0, _, _, _, _ => none
  | n + 1, x2, x4, x5, σ =>
    if x2 ≤ x5 then
      some x4
    else
      b1 (L_M_mostAlike_61 LF x2 x5 0 0 σ) fun x6_10 =>
      bindM ((if x6_10 ≤ x4 then x4 else x6_10 : Int)) fun v11 =>
      if r32 (x5 + 1) then
        L_M_mostAlike_49 n x2 v11 (x5 + 1) σ
      else none
set_option maxRecDepth 100000 in
set_option maxHeartbeats 4000000 in
theorem l_M_mostAlike_49 {X : Cx} (h : CX X 1 cX11_mostAlike 8 6 (some .int) RX11) (x2 : Int) (σ : Mm) (hx2 : r32 x2) (ok : okM σ) {res : Int} (hex : ∀ (x4 : Int) (hz : some x4 = some res) (hx4 : r32 x4), SW X 1 8 122 [none, none, none, none, some (.int (i32 x4)), none, none, none] [] σ) : ∀ (n : Nat) (x4 : Int) (x5 : Int) (hx4 : r32 x4) (hx5 : r32 x5) (hf : L_M_mostAlike_49 n x2 x4 x5 σ = some res), SW X 1 8 49 [some (.ref (xad X 200)), none, some (.int (i32 x2)), none, some (.int (i32 x4)), some (.int (i32 x5)), none, none] [] σ := by
  intro n
  induction n with
  | zero => intro x4 x5 hx4 hx5 hf; exact absurd hf (by simp [L_M_mostAlike_49])
  | succ n ih =>
    intro x4 x5 hx4 hx5 hf
    rw [L_M_mostAlike_49] at hf
    refine SW_iload h rfl (dt t_M_mostAlike 27 rfl) ?_
    refine SW_iload_n h rfl (dt t_M_mostAlike 28 rfl) ?_
    refine SW_icmp_ge (tgt := 122) h (fun _ => hx5) (fun _ => hx2) (dt t_M_mostAlike 29 rfl) rfl hf (fun hf => ?_) (fun hf => ?_)
    · exact SW_fgt [false, false, false, false, true, false, false, false] rfl (hex x4 hf hx4)
    · refine SW_iconst h (dt t_M_mostAlike 30 rfl) ?_
      refine SW_istore (lv2 := [some (.ref (xad X 200)), none, some (.int (i32 x2)), none, some (.int (i32 x4)), some (.int (i32 x5)), some (.int (i32 0)), none]) h (dt t_M_mostAlike 31 rfl) (by decide) rfl ?_
      refine SW_iconst h (dt t_M_mostAlike 32 rfl) ?_
      refine SW_istore (lv2 := [some (.ref (xad X 200)), none, some (.int (i32 x2)), none, some (.int (i32 x4)), some (.int (i32 x5)), some (.int (i32 0)), some (.int (i32 0))]) h (dt t_M_mostAlike 33 rfl) (by decide) rfl ?_
      obtain ⟨z10, e10, hk10⟩ := b1_ex hf
      refine SW_fgt [true, false, true, false, true, true, true, true] rfl (l_M_mostAlike_61 h x2 x4 x5 σ hx2 hx4 hx5 ok (fun x6_10 hz10 hx6_10 => ?_) LF 0 0 (by decide) (by decide) e10)
      have hf := hk10 x6_10 hz10
      refine SW_iload h rfl (dt t_M_mostAlike 54 rfl) ?_
      refine SW_iload h rfl (dt t_M_mostAlike 55 rfl) ?_
      refine bT hf (fun g11 e11 hf => ?_)
      have k11 : ∀ (v11 : Int) (h11 : r32 v11) (hf : g11 v11 = some res), SW X 1 8 114 [some (.ref (xad X 200)), none, some (.int (i32 x2)), none, some (.int (i32 x4)), some (.int (i32 x5)), some (.int (i32 x6_10)), none] [.int (i32 v11)] σ := by
        intro v11 h11 hf
        rw [e11] at hf
        refine SW_istore (lv2 := [some (.ref (xad X 200)), none, some (.int (i32 x2)), none, some (.int (i32 v11)), some (.int (i32 x5)), some (.int (i32 x6_10)), none]) h (dt t_M_mostAlike 60 rfl) (by decide) rfl ?_
        refine SW_iinc (lv2 := [some (.ref (xad X 200)), none, some (.int (i32 x2)), none, some (.int (i32 v11)), some (.int (i32 (x5 + 1))), some (.int (i32 x6_10)), none]) h (dt t_M_mostAlike 61 rfl) rfl (by decide) rfl ?_
        refine SW_goto (tgt := 49) h (dt t_M_mostAlike 62 rfl) rfl ?_
        refine SW_chk hf (fun h12 hf => ?_)
        exact SW_fgt [true, false, true, false, true, true, false, false] rfl (ih v11 (x5 + 1) h11 h12 hf)
      have hf := bIte hf
      refine SW_icmp_le (tgt := 112) h (fun _ => hx6_10) (fun _ => hx4) (dt t_M_mostAlike 56 rfl) rfl hf (fun hf => ?_) (fun hf => ?_)
      · refine SW_iload h rfl (dt t_M_mostAlike 59 rfl) ?_
        exact k11 x4 hx4 hf
      · refine SW_iload h rfl (dt t_M_mostAlike 57 rfl) ?_
        refine SW_goto (tgt := 114) h (dt t_M_mostAlike 58 rfl) rfl ?_
        exact k11 x6_10 hx6_10 hf
def F_M_mostAlike (x1 : Int) (x2 : Int) (x3 : Int) (σ : Mm) : Option (Int × Mm) :=
  b0M (L_M_mostAlike_3 LF x1 x2 x3 0 σ) fun s6 =>
  b1 (L_M_mostAlike_49 LF x2 0 0 s6) fun x4_13 =>
  some (x4_13, s6)
set_option maxRecDepth 100000 in
set_option maxHeartbeats 4000000 in
theorem c_M_mostAlike (x1 : Int) (hx1 : r32 x1) (x2 : Int) (hx2 : r32 x2) (x3 : Int) (hx3 : r32 x3) {σ : Mm} {a : Int} {σ2 : Mm} (hf : F_M_mostAlike x1 x2 x3 σ = some (a, σ2)) : CT yX11_mostAlike cX11_mostAlike 8 (some .int) 6 1 (fun ad => [.ref (ad 200), .int (i32 x1), .int (i32 x2), .int (i32 x3)]) σ (r32 a) (some (.int (i32 a))) σ2 := by
  refine MetJ 4 (by decide +kernel) rfl (fun _ => Nat.le_of_ble_eq_true rfl) ?_
  intro X h hR ok
  obtain ⟨res, er⟩ : ∃ z, z = (a, σ2) := ⟨_, rfl⟩
  have hret : ∀ y : Int × Mm, some y = some res → RX X 1 (r32 (y.1)) (some (.int (i32 (y.1)))) y.2 := fun y e => by cases e; cases er; exact hR
  rw [← er] at hf
  clear er hR
  unfold F_M_mostAlike at hf
  show SW X 1 8 0 [some (.ref (xad X 200)), some (.int (i32 x1)), some (.int (i32 x2)), some (.int (i32 x3)), none, none, none, none] [] σ
  refine SW_iconst h (dt t_M_mostAlike 0 rfl) ?_
  refine SW_istore (lv2 := [some (.ref (xad X 200)), some (.int (i32 x1)), some (.int (i32 x2)), some (.int (i32 x3)), some (.int (i32 0)), none, none, none]) h (dt t_M_mostAlike 1 rfl) (by decide) rfl ?_
  obtain ⟨z6, e6, hk6⟩ := b0M_ex hf
  refine SW_fgt [true, true, true, true, true, false, false, false] rfl (l_M_mostAlike_3 h x1 x2 x3 hx1 hx2 hx3 (fun s6 hz6 ok6 => ?_) LF 0 σ (by decide) ok e6)
  have hf := hk6 s6 hz6
  refine SW_iconst h (dt t_M_mostAlike 23 rfl) ?_
  refine SW_istore (lv2 := [some (.ref (xad X 200)), none, some (.int (i32 x2)), none, some (.int (i32 0)), none, none, none]) h (dt t_M_mostAlike 24 rfl) (by decide) rfl ?_
  refine SW_iconst h (dt t_M_mostAlike 25 rfl) ?_
  refine SW_istore (lv2 := [some (.ref (xad X 200)), none, some (.int (i32 x2)), none, some (.int (i32 0)), some (.int (i32 0)), none, none]) h (dt t_M_mostAlike 26 rfl) (by decide) rfl ?_
  obtain ⟨z13, e13, hk13⟩ := b1_ex hf
  refine SW_fgt [true, false, true, false, true, true, false, false] rfl (l_M_mostAlike_49 h x2 s6 hx2 ok6 (fun x4_13 hz13 hx4_13 => ?_) LF 0 0 (by decide) (by decide) e13)
  have hf := hk13 x4_13 hz13
  refine SW_iload h rfl (dt t_M_mostAlike 63 rfl) ?_
  exact SW_iret h (hret _ hf) (fun _ => hx4_13) rfl (dt t_M_mostAlike 64 rfl)
def b_M_nearest : List (Nat × Instr × Nat) := [(0, .iload_n 1, 1), (1, .iconst 0, 1), (2, .sipush 9999, 3), (5, .invokestatic 150, 3), (8, .ifCond .ne 5, 3), (11, .iconst (-1), 1), (12, .ireturn, 1), (13, .aload_n 0, 1), (14, .invokevirtual 446, 3), (17, .iconst 0, 1), (18, .istore_n 2, 1), (19, .iload_n 2, 1), (20, .sipush 10000, 3), (23, .if_icmp .ge 51, 3), (26, .iload_n 1, 1), (27, .iload_n 2, 1), (28, .if_icmp .lt 17, 3), (31, .aload_n 0, 1), (32, .iload_n 1, 1), (33, .iload_n 2, 1), (34, .isub, 1), (35, .invokevirtual 520, 3), (38, .ifCond .eq 7, 3), (41, .iload_n 1, 1), (42, .iload_n 2, 1), (43, .isub, 1), (44, .ireturn, 1), (45, .iload_n 1, 1), (46, .iload_n 2, 1), (47, .iadd, 1), (48, .sipush 10000, 3), (51, .if_icmp .ge 17, 3), (54, .aload_n 0, 1), (55, .iload_n 1, 1), (56, .iload_n 2, 1), (57, .iadd, 1), (58, .invokevirtual 520, 3), (61, .ifCond .eq 7, 3), (64, .iload_n 1, 1), (65, .iload_n 2, 1), (66, .iadd, 1), (67, .ireturn, 1), (68, .iinc 2 1, 3), (71, .goto (-52), 3), (74, .iconst (-1), 1), (75, .ireturn, 1)]
theorem t_M_nearest : DT cX11_nearest b_M_nearest := DT.of (by decide +kernel)
def L_M_nearest_19 : Nat → Int → Int → Mm → Option ((Int × Mm) ⊕ (Mm))
  | 0, _, _, _ => none
  | n + 1, x1, x2, σ =>
    if 10000 ≤ x2 then
      some (.inr σ)
    else
      bindM (fun  (t3 : Mm) =>
        if r32 (x1 + x2) then
          bindM (fun  (t5 : Mm) =>
            if r32 (x2 + 1) then
              L_M_nearest_19 n x1 (x2 + 1) t5
            else none) fun J5 =>
          if 10000 ≤ x1 + x2 then
            J5 t3
          else
            if r32 (x1 + x2) then
              b1M (F_M_isQuiet (x1 + x2) t3) fun v7 s7 =>
              if v7 = 0 then
                J5 s7
              else
                if r32 (x1 + x2) then
                  some (.inl (x1 + x2, s7))
                else none
            else none
        else none) fun J3 =>
      if x1 < x2 then
        J3 σ
      else
        if r32 (x1 - x2) then
          b1M (F_M_isQuiet (x1 - x2) σ) fun v10 s10 =>
          if v10 = 0 then
            J3 s10
          else
            if r32 (x1 - x2) then
              some (.inl (x1 - x2, s10))
            else none
        else none
set_option maxRecDepth 100000 in
set_option maxHeartbeats 4000000 in
theorem l_M_nearest_19 {X : Cx} (h : CX X 1 cX11_nearest 3 7 (some .int) RX11) (x1 : Int) (hx1 : r32 x1) {res : (Int × Mm) ⊕ (Mm)} (hret : ∀ y : Int × Mm, some (.inl y) = some res → RX X 1 (r32 (y.1)) (some (.int (i32 (y.1)))) y.2) (hex : ∀  (σ : Mm) (hz : some (.inr σ) = some res)  (ok : okM σ), SW X 1 3 74 [none, none, none] [] σ) : ∀ (n : Nat) (x2 : Int) (σ : Mm) (hx2 : r32 x2) (ok : okM σ) (hf : L_M_nearest_19 n x1 x2 σ = some res), SW X 1 3 19 [some (.ref (xad X 200)), some (.int (i32 x1)), some (.int (i32 x2))] [] σ := by
  intro n
  induction n with
  | zero => intro x2 σ hx2 ok hf; exact absurd hf (by simp [L_M_nearest_19])
  | succ n ih =>
    intro x2 σ hx2 ok hf
    rw [L_M_nearest_19] at hf
    refine SW_iload_n h rfl (dt t_M_nearest 11 rfl) ?_
    refine SW_sipush h (dt t_M_nearest 12 rfl) (by decide) ?_
    refine SW_icmp_ge (tgt := 74) h (fun _ => hx2) (fun _ => (by decide)) (dt t_M_nearest 13 rfl) rfl hf (fun hf => ?_) (fun hf => ?_)
    · exact SW_fgt [false, false, false] rfl (hex σ hf ok)
    · refine SW_iload_n h rfl (dt t_M_nearest 14 rfl) ?_
      refine SW_iload_n h rfl (dt t_M_nearest 15 rfl) ?_
      refine bJ hf (fun J3 e3 hf => ?_)
      have k3 : ∀  (t3 : Mm)  (ot3 : okM t3) (hf : J3 t3 = some res), SW X 1 3 45 [some (.ref (xad X 200)), some (.int (i32 x1)), some (.int (i32 x2))] [] t3 := by
        intro t3 ot3 hf
        rw [e3] at hf
        refine SW_iload_n h rfl (dt t_M_nearest 27 rfl) ?_
        refine SW_iload_n h rfl (dt t_M_nearest 28 rfl) ?_
        refine SW_iadd h (dt t_M_nearest 29 rfl) ?_
        refine SW_sipush h (dt t_M_nearest 30 rfl) (by decide) ?_
        refine SW_chk hf (fun h4 hf => ?_)
        refine bJ hf (fun J5 e5 hf => ?_)
        have k5 : ∀  (t5 : Mm)  (ot5 : okM t5) (hf : J5 t5 = some res), SW X 1 3 68 [some (.ref (xad X 200)), some (.int (i32 x1)), some (.int (i32 x2))] [] t5 := by
          intro t5 ot5 hf
          rw [e5] at hf
          refine SW_iinc (lv2 := [some (.ref (xad X 200)), some (.int (i32 x1)), some (.int (i32 (x2 + 1)))]) h (dt t_M_nearest 42 rfl) rfl (by decide) rfl ?_
          refine SW_goto (tgt := 19) h (dt t_M_nearest 43 rfl) rfl ?_
          refine SW_chk hf (fun h6 hf => ?_)
          exact SW_fgt [true, true, true] rfl (ih (x2 + 1) t5 h6 ot5 hf)
        refine SW_icmp_ge (tgt := 68) h (fun _ => h4) (fun _ => (by decide)) (dt t_M_nearest 31 rfl) rfl hf (fun hf => ?_) (fun hf => ?_)
        · exact SW_fgt [true, true, true] rfl (k5 t3 ot3 hf)
        · refine SW_aload_n h rfl (dt t_M_nearest 32 rfl) ?_
          refine SW_iload_n h rfl (dt t_M_nearest 33 rfl) ?_
          refine SW_iload_n h rfl (dt t_M_nearest 34 rfl) ?_
          refine SW_iadd h (dt t_M_nearest 35 rfl) ?_
          refine SW_chk hf (fun h8 hf => ?_)
          obtain ⟨v7, s7, e7, hf⟩ := b1M_of hf
          refine cV h [.int (i32 (x1 + x2))] [] v_X11_isQuiet kX11_520 o200 (c_M_isQuiet (x1 + x2) h8 e7) rfl rfl (by decide) (by decide) rfl (Nat.le_of_ble_eq_true rfl) (dt t_M_nearest 36 rfl) (fun h7 => ?_)
          refine SW_ok (fun ok7 => ?_)
          refine SW_if_eq (tgt := 68) h (fun _ => (r_zo h7)) (dt t_M_nearest 37 rfl) rfl hf (fun hf => ?_) (fun hf => ?_)
          · exact SW_fgt [true, true, true] rfl (k5 s7 ok7 hf)
          · refine SW_iload_n h rfl (dt t_M_nearest 38 rfl) ?_
            refine SW_iload_n h rfl (dt t_M_nearest 39 rfl) ?_
            refine SW_iadd h (dt t_M_nearest 40 rfl) ?_
            refine SW_chk hf (fun h9 hf => ?_)
            exact SW_iret h (hret _ hf) (fun _ => h9) rfl (dt t_M_nearest 41 rfl)
      refine SW_icmp_lt (tgt := 45) h (fun _ => hx1) (fun _ => hx2) (dt t_M_nearest 16 rfl) rfl hf (fun hf => ?_) (fun hf => ?_)
      · exact SW_fgt [true, true, true] rfl (k3 σ ok hf)
      · refine SW_aload_n h rfl (dt t_M_nearest 17 rfl) ?_
        refine SW_iload_n h rfl (dt t_M_nearest 18 rfl) ?_
        refine SW_iload_n h rfl (dt t_M_nearest 19 rfl) ?_
        refine SW_isub h (dt t_M_nearest 20 rfl) ?_
        refine SW_chk hf (fun h11 hf => ?_)
        obtain ⟨v10, s10, e10, hf⟩ := b1M_of hf
        refine cV h [.int (i32 (x1 - x2))] [] v_X11_isQuiet kX11_520 o200 (c_M_isQuiet (x1 - x2) h11 e10) rfl rfl (by decide) (by decide) rfl (Nat.le_of_ble_eq_true rfl) (dt t_M_nearest 21 rfl) (fun h10 => ?_)
        refine SW_ok (fun ok10 => ?_)
        refine SW_if_eq (tgt := 45) h (fun _ => (r_zo h10)) (dt t_M_nearest 22 rfl) rfl hf (fun hf => ?_) (fun hf => ?_)
        · exact SW_fgt [true, true, true] rfl (k3 s10 ok10 hf)
        · refine SW_iload_n h rfl (dt t_M_nearest 23 rfl) ?_
          refine SW_iload_n h rfl (dt t_M_nearest 24 rfl) ?_
          refine SW_isub h (dt t_M_nearest 25 rfl) ?_
          refine SW_chk hf (fun h12 hf => ?_)
          exact SW_iret h (hret _ hf) (fun _ => h12) rfl (dt t_M_nearest 26 rfl)
def F_M_nearest (x1 : Int) (σ : Mm) : Option (Int × Mm) :=
  b1 (F_M_in x1 0 9999) fun v1 =>
  if v1 = 0 then
    some ((-1), σ)
  else
    b0M (F_M_laysNow  σ) fun s2 =>
    b0MS (L_M_nearest_19 LF x1 0 s2) (fun y => some y) fun s13 =>
    some ((-1), s13)
set_option maxRecDepth 100000 in
set_option maxHeartbeats 4000000 in
theorem c_M_nearest (x1 : Int) (hx1 : r32 x1) {σ : Mm} {a : Int} {σ2 : Mm} (hf : F_M_nearest x1 σ = some (a, σ2)) : CT yX11_nearest cX11_nearest 3 (some .int) 7 1 (fun ad => [.ref (ad 200), .int (i32 x1)]) σ (r32 a) (some (.int (i32 a))) σ2 := by
  refine MetJ 1 (by decide +kernel) rfl (fun _ => Nat.le_of_ble_eq_true rfl) ?_
  intro X h hR ok
  obtain ⟨res, er⟩ : ∃ z, z = (a, σ2) := ⟨_, rfl⟩
  have hret : ∀ y : Int × Mm, some y = some res → RX X 1 (r32 (y.1)) (some (.int (i32 (y.1)))) y.2 := fun y e => by cases e; cases er; exact hR
  rw [← er] at hf
  clear er hR
  unfold F_M_nearest at hf
  show SW X 1 3 0 [some (.ref (xad X 200)), some (.int (i32 x1)), none] [] σ
  refine SW_iload_n h rfl (dt t_M_nearest 0 rfl) ?_
  refine SW_iconst h (dt t_M_nearest 1 rfl) ?_
  refine SW_sipush h (dt t_M_nearest 2 rfl) (by decide) ?_
  obtain ⟨v1, e1, hf⟩ := b1_of hf
  refine cS h [.int (i32 x1), .int (i32 0), .int (i32 9999)] [] v_X11_in kX11_150 (c_M_in x1 hx1 0 (by decide) 9999 (by decide) e1) rfl rfl (by decide) (by decide) rfl (Nat.le_of_ble_eq_true rfl) (dt t_M_nearest 3 rfl) (fun h1 => ?_)
  refine SW_if_ne (tgt := 13) h (fun _ => (r_zo h1)) (dt t_M_nearest 4 rfl) rfl hf (fun hf => ?_) (fun hf => ?_)
  · refine SW_iconst h (dt t_M_nearest 5 rfl) ?_
    exact SW_iret h (hret _ hf) (fun _ => (by decide)) rfl (dt t_M_nearest 6 rfl)
  · refine SW_aload_n h rfl (dt t_M_nearest 7 rfl) ?_
    obtain ⟨s2, e2, hf⟩ := b0M_of hf
    refine cVv h [] [] v_X11_laysNow kX11_446 o200 (c_M_laysNow  e2) rfl rfl (by decide) (by decide) rfl (Nat.le_of_ble_eq_true rfl) (dt t_M_nearest 8 rfl) (fun h2 => ?_)
    refine SW_ok (fun ok2 => ?_)
    refine SW_iconst h (dt t_M_nearest 9 rfl) ?_
    refine SW_istore_n (lv2 := [some (.ref (xad X 200)), some (.int (i32 x1)), some (.int (i32 0))]) h (dt t_M_nearest 10 rfl) (by decide) rfl ?_
    obtain ⟨z13, e13, g13, hk13⟩ := b0MS_of hf
    refine SW_fgt [true, true, true] rfl (l_M_nearest_19 h x1 hx1 (fun y e => hret y (g13 y (Option.some.inj e).symm)) (fun s13 hz13 ok13 => ?_) LF 0 s2 (by decide) ok2 e13)
    have hf := hk13 s13 (Option.some.inj hz13).symm
    refine SW_iconst h (dt t_M_nearest 44 rfl) ?_
    exact SW_iret h (hret _ hf) (fun _ => (by decide)) rfl (dt t_M_nearest 45 rfl)
def b_M_of : List (Nat × Instr × Nat) := [(0, .iload_n 1, 1), (1, .invokestatic 463, 3), (4, .ifCond .ne 5, 3), (7, .iconst (-1), 1), (8, .ireturn, 1), (9, .iload_n 2, 1), (10, .tableswitch 74 0 3 #[30, 41, 52, 63], 30), (40, .aload_n 0, 1), (41, .getfield 7, 3), (44, .sipush 140, 3), (47, .iload_n 1, 1), (48, .iadd, 1), (49, .iaload, 1), (50, .ireturn, 1), (51, .aload_n 0, 1), (52, .getfield 7, 3), (55, .sipush 150, 3), (58, .iload_n 1, 1), (59, .iadd, 1), (60, .iaload, 1), (61, .ireturn, 1), (62, .aload_n 0, 1), (63, .getfield 7, 3), (66, .sipush 160, 3), (69, .iload_n 1, 1), (70, .iadd, 1), (71, .iaload, 1), (72, .ireturn, 1), (73, .aload_n 0, 1), (74, .getfield 7, 3), (77, .sipush 170, 3), (80, .iload_n 1, 1), (81, .iadd, 1), (82, .iaload, 1), (83, .ireturn, 1), (84, .iconst (-1), 1), (85, .ireturn, 1)]
theorem t_M_of : DT cX11_of b_M_of := DT.of (by decide +kernel)
def F_M_of (x1 : Int) (x2 : Int) (σ : Mm) : Option (Int) :=
  b1 (F_M_isFigure x1) fun v1 =>
  if v1 = 0 then
    some ((-1))
  else
    if x2 = 0 then
      if 0 ≤ 140 + x1 ∧ 140 + x1 < 5240 then
        some (σ 201 ((140 + x1).toNat))
      else none
    else
      if x2 = 1 then
        if 0 ≤ 150 + x1 ∧ 150 + x1 < 5240 then
          some (σ 201 ((150 + x1).toNat))
        else none
      else
        if x2 = 2 then
          if 0 ≤ 160 + x1 ∧ 160 + x1 < 5240 then
            some (σ 201 ((160 + x1).toNat))
          else none
        else
          if x2 = 3 then
            if 0 ≤ 170 + x1 ∧ 170 + x1 < 5240 then
              some (σ 201 ((170 + x1).toNat))
            else none
          else
            some ((-1))
set_option maxRecDepth 100000 in
set_option maxHeartbeats 4000000 in
theorem c_M_of (x1 : Int) (hx1 : r32 x1) (x2 : Int) (hx2 : r32 x2) {σ : Mm} {a : Int} (hf : F_M_of x1 x2 σ = some a) : CT yX11_of cX11_of 3 (some .int) 2 1 (fun ad => [.ref (ad 200), .int (i32 x1), .int (i32 x2)]) σ (r32 a) (some (.int (i32 a))) σ := by
  refine MetJ 0 (by decide +kernel) rfl (fun _ => Nat.le_of_ble_eq_true rfl) ?_
  intro X h hR ok
  obtain ⟨res, er⟩ : ∃ z, z = a := ⟨_, rfl⟩
  have hret : ∀ y : Int, some y = some res → RX X 1 (r32 (y)) (some (.int (i32 (y)))) σ := fun y e => by cases e; cases er; exact hR
  rw [← er] at hf
  clear er hR
  unfold F_M_of at hf
  show SW X 1 3 0 [some (.ref (xad X 200)), some (.int (i32 x1)), some (.int (i32 x2))] [] σ
  refine SW_iload_n h rfl (dt t_M_of 0 rfl) ?_
  obtain ⟨v1, e1, hf⟩ := b1_of hf
  refine cS h [.int (i32 x1)] [] v_X11_isFigure kX11_463 (c_M_isFigure x1 hx1 e1) rfl rfl (by decide) (by decide) rfl (Nat.le_of_ble_eq_true rfl) (dt t_M_of 1 rfl) (fun h1 => ?_)
  refine SW_if_ne (tgt := 9) h (fun _ => (r_zo h1)) (dt t_M_of 2 rfl) rfl hf (fun hf => ?_) (fun hf => ?_)
  · refine SW_iconst h (dt t_M_of 3 rfl) ?_
    exact SW_iret h (hret _ hf) (fun _ => (by decide)) rfl (dt t_M_of 4 rfl)
  · refine SW_iload_n h rfl (dt t_M_of 5 rfl) ?_
    refine SW_ite hf (fun h2 hf => ?_) (fun h2 hf => ?_)
    · refine SW_tabIn (tgt := 40) h 0 (fun _ => hx2) (dt t_M_of 6 rfl) (h2.trans rfl) (by decide) rfl rfl ?_
      refine SW_aload_n h rfl (dt t_M_of 7 rfl) ?_
      refine gR h cf11 o200 f11_0 j200_0 lX11_7 (dt t_M_of 8 rfl) ?_
      refine SW_sipush h (dt t_M_of 9 rfl) (by decide) ?_
      refine SW_iload_n h rfl (dt t_M_of 10 rfl) ?_
      refine SW_iadd h (dt t_M_of 11 rfl) ?_
      refine aI h a201 (dt t_M_of 12 rfl) hf (fun hf => ?_)
      exact SW_iret h (hret _ hf) (fun _ => (okI ok 201 ((140 + x1).toNat) (IsA.n3 a201 (by decide)))) rfl (dt t_M_of 13 rfl)
    · refine SW_ite hf (fun h3 hf => ?_) (fun h3 hf => ?_)
      · refine SW_tabIn (tgt := 51) h 1 (fun _ => hx2) (dt t_M_of 6 rfl) (h3.trans rfl) (by decide) rfl rfl ?_
        refine SW_aload_n h rfl (dt t_M_of 14 rfl) ?_
        refine gR h cf11 o200 f11_0 j200_0 lX11_7 (dt t_M_of 15 rfl) ?_
        refine SW_sipush h (dt t_M_of 16 rfl) (by decide) ?_
        refine SW_iload_n h rfl (dt t_M_of 17 rfl) ?_
        refine SW_iadd h (dt t_M_of 18 rfl) ?_
        refine aI h a201 (dt t_M_of 19 rfl) hf (fun hf => ?_)
        exact SW_iret h (hret _ hf) (fun _ => (okI ok 201 ((150 + x1).toNat) (IsA.n3 a201 (by decide)))) rfl (dt t_M_of 20 rfl)
      · refine SW_ite hf (fun h4 hf => ?_) (fun h4 hf => ?_)
        · refine SW_tabIn (tgt := 62) h 2 (fun _ => hx2) (dt t_M_of 6 rfl) (h4.trans rfl) (by decide) rfl rfl ?_
          refine SW_aload_n h rfl (dt t_M_of 21 rfl) ?_
          refine gR h cf11 o200 f11_0 j200_0 lX11_7 (dt t_M_of 22 rfl) ?_
          refine SW_sipush h (dt t_M_of 23 rfl) (by decide) ?_
          refine SW_iload_n h rfl (dt t_M_of 24 rfl) ?_
          refine SW_iadd h (dt t_M_of 25 rfl) ?_
          refine aI h a201 (dt t_M_of 26 rfl) hf (fun hf => ?_)
          exact SW_iret h (hret _ hf) (fun _ => (okI ok 201 ((160 + x1).toNat) (IsA.n3 a201 (by decide)))) rfl (dt t_M_of 27 rfl)
        · refine SW_ite hf (fun h5 hf => ?_) (fun h5 hf => ?_)
          · refine SW_tabIn (tgt := 73) h 3 (fun _ => hx2) (dt t_M_of 6 rfl) (h5.trans rfl) (by decide) rfl rfl ?_
            refine SW_aload_n h rfl (dt t_M_of 28 rfl) ?_
            refine gR h cf11 o200 f11_0 j200_0 lX11_7 (dt t_M_of 29 rfl) ?_
            refine SW_sipush h (dt t_M_of 30 rfl) (by decide) ?_
            refine SW_iload_n h rfl (dt t_M_of 31 rfl) ?_
            refine SW_iadd h (dt t_M_of 32 rfl) ?_
            refine aI h a201 (dt t_M_of 33 rfl) hf (fun hf => ?_)
            exact SW_iret h (hret _ hf) (fun _ => (okI ok 201 ((170 + x1).toNat) (IsA.n3 a201 (by decide)))) rfl (dt t_M_of 34 rfl)
          · refine SW_tabOut (tgt := 84) h (fun _ => hx2) (dt t_M_of 6 rfl) (by omega) rfl ?_
            refine SW_iconst h (dt t_M_of 35 rfl) ?_
            exact SW_iret h (hret _ hf) (fun _ => (by decide)) rfl (dt t_M_of 36 rfl)
def b_M_ofRow : List (Nat × Instr × Nat) := [(0, .aload_n 0, 1), (1, .iload_n 1, 1), (2, .invokevirtual 439, 3), (5, .ifCond .ne 7, 3), (8, .ldc_w 442, 3), (11, .ireturn, 1), (12, .aload_n 0, 1), (13, .invokevirtual 446, 3), (16, .aload_n 0, 1), (17, .iload_n 1, 1), (18, .invokevirtual 419, 3), (21, .aload_n 0, 1), (22, .invokevirtual 406, 3), (25, .iload_n 2, 1), (26, .tableswitch 59 0 4 #[34, 39, 44, 49, 54], 34), (60, .aload_n 0, 1), (61, .getfield 154, 3), (64, .ireturn, 1), (65, .aload_n 0, 1), (66, .invokevirtual 409, 3), (69, .ireturn, 1), (70, .aload_n 0, 1), (71, .invokevirtual 422, 3), (74, .ireturn, 1), (75, .aload_n 0, 1), (76, .invokevirtual 496, 3), (79, .ireturn, 1), (80, .aload_n 0, 1), (81, .getfield 385, 3), (84, .ireturn, 1), (85, .iload_n 2, 1), (86, .bipush 20, 2), (88, .bipush 19, 2), (90, .aload_n 0, 1), (91, .getfield 154, 3), (94, .iadd, 1), (95, .invokestatic 150, 3), (98, .ifCond .eq 15, 3), (101, .aload_n 0, 1), (102, .getfield 157, 3), (105, .iload_n 2, 1), (106, .bipush 20, 2), (108, .isub, 1), (109, .ishr, 1), (110, .iconst 1, 1), (111, .iand, 1), (112, .ireturn, 1), (113, .iload_n 2, 1), (114, .bipush 10, 2), (116, .bipush 9, 2), (118, .aload_n 0, 1), (119, .getfield 154, 3), (122, .iadd, 1), (123, .invokestatic 150, 3), (126, .ifCond .eq 15, 3), (129, .aload_n 0, 1), (130, .getfield 103, 3), (133, .iload_n 2, 1), (134, .bipush 10, 2), (136, .isub, 1), (137, .iaload, 1), (138, .goto 6, 3), (141, .ldc_w 442, 3), (144, .ireturn, 1)]
theorem t_M_ofRow : DT cX11_ofRow b_M_ofRow := DT.of (by decide +kernel)
def F_M_ofRow (x1 : Int) (x2 : Int) (σ : Mm) : Option (Int × Mm) :=
  b1 (F_M_isRow x1 σ) fun v1 =>
  if v1 = 0 then
    some ((-1000000), σ)
  else
    b0M (F_M_laysNow  σ) fun s2 =>
    b0M (F_M_laysRow x1 s2) fun s3 =>
    b0M (F_M_laysDigits  s3) fun s4 =>
    if x2 = 0 then
      some (s4 200 48, s4)
    else
      if x2 = 1 then
        b1 (F_M_trueNow  s4) fun v7 =>
        some (v7, s4)
      else
        if x2 = 2 then
          b1M (F_M_outNow  s4) fun v9 s9 =>
          some (v9, s9)
        else
          if x2 = 3 then
            b1M (F_M_quarrelsNow  s4) fun v11 s11 =>
            some (v11, s11)
          else
            if x2 = 4 then
              some (s4 200 53, s4)
            else
              if r32 (19 + (s4 200 48)) then
                b1 (F_M_in x2 20 (19 + (s4 200 48))) fun v13 =>
                if v13 = 0 then
                  if r32 (9 + (s4 200 48)) then
                    b1 (F_M_in x2 10 (9 + (s4 200 48))) fun v15 =>
                    if v15 = 0 then
                      some ((-1000000), s4)
                    else
                      if 0 ≤ x2 - 10 ∧ x2 - 10 < 4 then
                        some (s4 229 ((x2 - 10).toNat), s4)
                      else none
                  else none
                else
                  some (iand (ishr (s4 200 49) (x2 - 20)) 1, s4)
              else none
set_option maxRecDepth 100000 in
set_option maxHeartbeats 4000000 in
theorem c_M_ofRow (x1 : Int) (hx1 : r32 x1) (x2 : Int) (hx2 : r32 x2) {σ : Mm} {a : Int} {σ2 : Mm} (hf : F_M_ofRow x1 x2 σ = some (a, σ2)) : CT yX11_ofRow cX11_ofRow 3 (some .int) 6 1 (fun ad => [.ref (ad 200), .int (i32 x1), .int (i32 x2)]) σ (r32 a) (some (.int (i32 a))) σ2 := by
  refine MetJ 0 (by decide +kernel) rfl (fun _ => Nat.le_of_ble_eq_true rfl) ?_
  intro X h hR ok
  obtain ⟨res, er⟩ : ∃ z, z = (a, σ2) := ⟨_, rfl⟩
  have hret : ∀ y : Int × Mm, some y = some res → RX X 1 (r32 (y.1)) (some (.int (i32 (y.1)))) y.2 := fun y e => by cases e; cases er; exact hR
  rw [← er] at hf
  clear er hR
  unfold F_M_ofRow at hf
  show SW X 1 3 0 [some (.ref (xad X 200)), some (.int (i32 x1)), some (.int (i32 x2))] [] σ
  refine SW_aload_n h rfl (dt t_M_ofRow 0 rfl) ?_
  refine SW_iload_n h rfl (dt t_M_ofRow 1 rfl) ?_
  obtain ⟨v1, e1, hf⟩ := b1_of hf
  refine cV h [.int (i32 x1)] [] v_X11_isRow kX11_439 o200 (c_M_isRow x1 hx1 e1) rfl rfl (by decide) (by decide) rfl (Nat.le_of_ble_eq_true rfl) (dt t_M_ofRow 2 rfl) (fun h1 => ?_)
  refine SW_if_ne (tgt := 12) h (fun _ => (r_zo h1)) (dt t_M_ofRow 3 rfl) rfl hf (fun hf => ?_) (fun hf => ?_)
  · refine SW_ldcw (n := -1000000) h nX11_442 (by decide) (dt t_M_ofRow 4 rfl) ?_
    exact SW_iret h (hret _ hf) (fun _ => (by decide)) rfl (dt t_M_ofRow 5 rfl)
  · refine SW_aload_n h rfl (dt t_M_ofRow 6 rfl) ?_
    obtain ⟨s2, e2, hf⟩ := b0M_of hf
    refine cVv h [] [] v_X11_laysNow kX11_446 o200 (c_M_laysNow  e2) rfl rfl (by decide) (by decide) rfl (Nat.le_of_ble_eq_true rfl) (dt t_M_ofRow 7 rfl) (fun h2 => ?_)
    refine SW_ok (fun ok2 => ?_)
    refine SW_aload_n h rfl (dt t_M_ofRow 8 rfl) ?_
    refine SW_iload_n h rfl (dt t_M_ofRow 9 rfl) ?_
    obtain ⟨s3, e3, hf⟩ := b0M_of hf
    refine cVv h [.int (i32 x1)] [] v_X11_laysRow kX11_419 o200 (c_M_laysRow x1 hx1 e3) rfl rfl (by decide) (by decide) rfl (Nat.le_of_ble_eq_true rfl) (dt t_M_ofRow 10 rfl) (fun h3 => ?_)
    refine SW_ok (fun ok3 => ?_)
    refine SW_aload_n h rfl (dt t_M_ofRow 11 rfl) ?_
    obtain ⟨s4, e4, hf⟩ := b0M_of hf
    refine cVv h [] [] v_X11_laysDigits kX11_406 o200 (c_M_laysDigits  e4) rfl rfl (by decide) (by decide) rfl (Nat.le_of_ble_eq_true rfl) (dt t_M_ofRow 12 rfl) (fun h4 => ?_)
    refine SW_ok (fun ok4 => ?_)
    refine SW_iload_n h rfl (dt t_M_ofRow 13 rfl) ?_
    refine SW_ite hf (fun h5 hf => ?_) (fun h5 hf => ?_)
    · refine SW_tabIn (tgt := 60) h 0 (fun _ => hx2) (dt t_M_ofRow 14 rfl) (h5.trans rfl) (by decide) rfl rfl ?_
      refine SW_aload_n h rfl (dt t_M_ofRow 15 rfl) ?_
      refine gI h cf11 o200 f11_48 lX11_154 (dt t_M_ofRow 16 rfl) ?_
      exact SW_iret h (hret _ hf) (fun _ => (okI ok4 200 48 (IsO.n3 o200))) rfl (dt t_M_ofRow 17 rfl)
    · refine SW_ite hf (fun h6 hf => ?_) (fun h6 hf => ?_)
      · refine SW_tabIn (tgt := 65) h 1 (fun _ => hx2) (dt t_M_ofRow 14 rfl) (h6.trans rfl) (by decide) rfl rfl ?_
        refine SW_aload_n h rfl (dt t_M_ofRow 18 rfl) ?_
        obtain ⟨v7, e7, hf⟩ := b1_of hf
        refine cV h [] [] v_X11_trueNow kX11_409 o200 (c_M_trueNow  e7) rfl rfl (by decide) (by decide) rfl (Nat.le_of_ble_eq_true rfl) (dt t_M_ofRow 19 rfl) (fun h7 => ?_)
        exact SW_iret h (hret _ hf) (fun _ => h7) rfl (dt t_M_ofRow 20 rfl)
      · refine SW_ite hf (fun h8 hf => ?_) (fun h8 hf => ?_)
        · refine SW_tabIn (tgt := 70) h 2 (fun _ => hx2) (dt t_M_ofRow 14 rfl) (h8.trans rfl) (by decide) rfl rfl ?_
          refine SW_aload_n h rfl (dt t_M_ofRow 21 rfl) ?_
          obtain ⟨v9, s9, e9, hf⟩ := b1M_of hf
          refine cV h [] [] v_X11_outNow kX11_422 o200 (c_M_outNow  e9) rfl rfl (by decide) (by decide) rfl (Nat.le_of_ble_eq_true rfl) (dt t_M_ofRow 22 rfl) (fun h9 => ?_)
          refine SW_ok (fun ok9 => ?_)
          exact SW_iret h (hret _ hf) (fun _ => h9) rfl (dt t_M_ofRow 23 rfl)
        · refine SW_ite hf (fun h10 hf => ?_) (fun h10 hf => ?_)
          · refine SW_tabIn (tgt := 75) h 3 (fun _ => hx2) (dt t_M_ofRow 14 rfl) (h10.trans rfl) (by decide) rfl rfl ?_
            refine SW_aload_n h rfl (dt t_M_ofRow 24 rfl) ?_
            obtain ⟨v11, s11, e11, hf⟩ := b1M_of hf
            refine cV h [] [] v_X11_quarrelsNow kX11_496 o200 (c_M_quarrelsNow  e11) rfl rfl (by decide) (by decide) rfl (Nat.le_of_ble_eq_true rfl) (dt t_M_ofRow 25 rfl) (fun h11 => ?_)
            refine SW_ok (fun ok11 => ?_)
            exact SW_iret h (hret _ hf) (fun _ => h11) rfl (dt t_M_ofRow 26 rfl)
          · refine SW_ite hf (fun h12 hf => ?_) (fun h12 hf => ?_)
            · refine SW_tabIn (tgt := 80) h 4 (fun _ => hx2) (dt t_M_ofRow 14 rfl) (h12.trans rfl) (by decide) rfl rfl ?_
              refine SW_aload_n h rfl (dt t_M_ofRow 27 rfl) ?_
              refine gI h cf11 o200 f11_53 lX11_385 (dt t_M_ofRow 28 rfl) ?_
              exact SW_iret h (hret _ hf) (fun _ => (okI ok4 200 53 (IsO.n3 o200))) rfl (dt t_M_ofRow 29 rfl)
            · refine SW_tabOut (tgt := 85) h (fun _ => hx2) (dt t_M_ofRow 14 rfl) (by omega) rfl ?_
              refine SW_iload_n h rfl (dt t_M_ofRow 30 rfl) ?_
              refine SW_bipush h (dt t_M_ofRow 31 rfl) (by decide) ?_
              refine SW_bipush h (dt t_M_ofRow 32 rfl) (by decide) ?_
              refine SW_aload_n h rfl (dt t_M_ofRow 33 rfl) ?_
              refine gI h cf11 o200 f11_48 lX11_154 (dt t_M_ofRow 34 rfl) ?_
              refine SW_iadd h (dt t_M_ofRow 35 rfl) ?_
              refine SW_chk hf (fun h14 hf => ?_)
              obtain ⟨v13, e13, hf⟩ := b1_of hf
              refine cS h [.int (i32 x2), .int (i32 20), .int (i32 (19 + (s4 200 48)))] [] v_X11_in kX11_150 (c_M_in x2 hx2 20 (by decide) (19 + (s4 200 48)) h14 e13) rfl rfl (by decide) (by decide) rfl (Nat.le_of_ble_eq_true rfl) (dt t_M_ofRow 36 rfl) (fun h13 => ?_)
              refine SW_if_eq (tgt := 113) h (fun _ => (r_zo h13)) (dt t_M_ofRow 37 rfl) rfl hf (fun hf => ?_) (fun hf => ?_)
              · refine SW_iload_n h rfl (dt t_M_ofRow 47 rfl) ?_
                refine SW_bipush h (dt t_M_ofRow 48 rfl) (by decide) ?_
                refine SW_bipush h (dt t_M_ofRow 49 rfl) (by decide) ?_
                refine SW_aload_n h rfl (dt t_M_ofRow 50 rfl) ?_
                refine gI h cf11 o200 f11_48 lX11_154 (dt t_M_ofRow 51 rfl) ?_
                refine SW_iadd h (dt t_M_ofRow 52 rfl) ?_
                refine SW_chk hf (fun h16 hf => ?_)
                obtain ⟨v15, e15, hf⟩ := b1_of hf
                refine cS h [.int (i32 x2), .int (i32 10), .int (i32 (9 + (s4 200 48)))] [] v_X11_in kX11_150 (c_M_in x2 hx2 10 (by decide) (9 + (s4 200 48)) h16 e15) rfl rfl (by decide) (by decide) rfl (Nat.le_of_ble_eq_true rfl) (dt t_M_ofRow 53 rfl) (fun h15 => ?_)
                refine SW_if_eq (tgt := 141) h (fun _ => (r_zo h15)) (dt t_M_ofRow 54 rfl) rfl hf (fun hf => ?_) (fun hf => ?_)
                · refine SW_ldcw (n := -1000000) h nX11_442 (by decide) (dt t_M_ofRow 62 rfl) ?_
                  exact SW_iret h (hret _ hf) (fun _ => (by decide)) rfl (dt t_M_ofRow 63 rfl)
                · refine SW_aload_n h rfl (dt t_M_ofRow 55 rfl) ?_
                  refine gR h cf11 o200 f11_47 j200_47 lX11_103 (dt t_M_ofRow 56 rfl) ?_
                  refine SW_iload_n h rfl (dt t_M_ofRow 57 rfl) ?_
                  refine SW_bipush h (dt t_M_ofRow 58 rfl) (by decide) ?_
                  refine SW_isub h (dt t_M_ofRow 59 rfl) ?_
                  refine aI h a229 (dt t_M_ofRow 60 rfl) hf (fun hf => ?_)
                  refine SW_goto (tgt := 144) h (dt t_M_ofRow 61 rfl) rfl ?_
                  exact SW_iret h (hret _ hf) (fun _ => (okI ok4 229 ((x2 - 10).toNat) (IsA.n3 a229 (by decide)))) rfl (dt t_M_ofRow 63 rfl)
              · refine SW_aload_n h rfl (dt t_M_ofRow 38 rfl) ?_
                refine gI h cf11 o200 f11_49 lX11_157 (dt t_M_ofRow 39 rfl) ?_
                refine SW_iload_n h rfl (dt t_M_ofRow 40 rfl) ?_
                refine SW_bipush h (dt t_M_ofRow 41 rfl) (by decide) ?_
                refine SW_isub h (dt t_M_ofRow 42 rfl) ?_
                refine SW_ishr h (dt t_M_ofRow 43 rfl) ?_
                refine SW_iconst h (dt t_M_ofRow 44 rfl) ?_
                refine SW_iand h (dt t_M_ofRow 45 rfl) ?_
                exact SW_iret h (hret _ hf) (fun _ => (r_iand _ _)) rfl (dt t_M_ofRow 46 rfl)
def b_M_order : List (Nat × Instr × Nat) := [(0, .iload_n 1, 1), (1, .iconst 1, 1), (2, .bipush 100, 2), (4, .invokestatic 150, 3), (7, .ifCond .ne 5, 3), (10, .iconst (-1), 1), (11, .ireturn, 1), (12, .aload_n 0, 1), (13, .invokevirtual 446, 3), (16, .iconst 0, 1), (17, .istore_n 2, 1), (18, .iload_n 2, 1), (19, .iload_n 1, 1), (20, .if_icmp .ge 44, 3), (23, .iconst 0, 1), (24, .istore_n 3, 1), (25, .iload_n 3, 1), (26, .iload_n 1, 1), (27, .if_icmp .ge 31, 3), (30, .aload_n 0, 1), (31, .iload_n 2, 1), (32, .iload_n 3, 1), (33, .invokevirtual 549, 3), (36, .aload_n 0, 1), (37, .iload_n 3, 1), (38, .iload_n 2, 1), (39, .invokevirtual 549, 3), (42, .if_icmp .eq 10, 3), (45, .bipush 100, 2), (47, .iload_n 2, 1), (48, .imul, 1), (49, .iload_n 3, 1), (50, .iadd, 1), (51, .ireturn, 1), (52, .iinc 3 1, 3), (55, .goto (-30), 3), (58, .iinc 2 1, 3), (61, .goto (-43), 3), (64, .iconst (-1), 1), (65, .ireturn, 1)]
theorem t_M_order : DT cX11_order b_M_order := DT.of (by decide +kernel)
def L_M_order_25 : Nat → Int → Int → Int → Mm → Option ((Int × Mm) ⊕ (Mm))
  | 0, _, _, _, _ => none
  | n + 1, x1, x2, x3, σ =>
    if x1 ≤ x3 then
      some (.inr σ)
    else
      b1M (F_M_outOfTwo x2 x3 σ) fun v3 s3 =>
      b1M (F_M_outOfTwo x3 x2 s3) fun v4 s4 =>
      if v3 = v4 then
        if r32 (x3 + 1) then
          L_M_order_25 n x1 x2 (x3 + 1) s4
        else none
      else
        if r32 ((100 * x2) + x3) then
          some (.inl ((100 * x2) + x3, s4))
        else none
set_option maxRecDepth 100000 in
set_option maxHeartbeats 4000000 in
theorem l_M_order_25 {X : Cx} (h : CX X 1 cX11_order 4 7 (some .int) RX11) (x1 : Int) (x2 : Int) (hx1 : r32 x1) (hx2 : r32 x2) {res : (Int × Mm) ⊕ (Mm)} (hret : ∀ y : Int × Mm, some (.inl y) = some res → RX X 1 (r32 (y.1)) (some (.int (i32 (y.1)))) y.2) (hex : ∀  (σ : Mm) (hz : some (.inr σ) = some res)  (ok : okM σ), SW X 1 4 58 [some (.ref (xad X 200)), some (.int (i32 x1)), some (.int (i32 x2)), none] [] σ) : ∀ (n : Nat) (x3 : Int) (σ : Mm) (hx3 : r32 x3) (ok : okM σ) (hf : L_M_order_25 n x1 x2 x3 σ = some res), SW X 1 4 25 [some (.ref (xad X 200)), some (.int (i32 x1)), some (.int (i32 x2)), some (.int (i32 x3))] [] σ := by
  intro n
  induction n with
  | zero => intro x3 σ hx3 ok hf; exact absurd hf (by simp [L_M_order_25])
  | succ n ih =>
    intro x3 σ hx3 ok hf
    rw [L_M_order_25] at hf
    refine SW_iload_n h rfl (dt t_M_order 16 rfl) ?_
    refine SW_iload_n h rfl (dt t_M_order 17 rfl) ?_
    refine SW_icmp_ge (tgt := 58) h (fun _ => hx3) (fun _ => hx1) (dt t_M_order 18 rfl) rfl hf (fun hf => ?_) (fun hf => ?_)
    · exact SW_fgt [true, true, true, false] rfl (hex σ hf ok)
    · refine SW_aload_n h rfl (dt t_M_order 19 rfl) ?_
      refine SW_iload_n h rfl (dt t_M_order 20 rfl) ?_
      refine SW_iload_n h rfl (dt t_M_order 21 rfl) ?_
      obtain ⟨v3, s3, e3, hf⟩ := b1M_of hf
      refine cV h [.int (i32 x2), .int (i32 x3)] [] v_X11_outOfTwo kX11_549 o200 (c_M_outOfTwo x2 hx2 x3 hx3 e3) rfl rfl (by decide) (by decide) rfl (Nat.le_of_ble_eq_true rfl) (dt t_M_order 22 rfl) (fun h3 => ?_)
      refine SW_ok (fun ok3 => ?_)
      refine SW_aload_n h rfl (dt t_M_order 23 rfl) ?_
      refine SW_iload_n h rfl (dt t_M_order 24 rfl) ?_
      refine SW_iload_n h rfl (dt t_M_order 25 rfl) ?_
      obtain ⟨v4, s4, e4, hf⟩ := b1M_of hf
      refine cV h [.int (i32 x3), .int (i32 x2)] [.int (i32 v3)] v_X11_outOfTwo kX11_549 o200 (c_M_outOfTwo x3 hx3 x2 hx2 e4) rfl rfl (by decide) (by decide) rfl (Nat.le_of_ble_eq_true rfl) (dt t_M_order 26 rfl) (fun h4 => ?_)
      refine SW_ok (fun ok4 => ?_)
      refine SW_icmp_eq (tgt := 52) h (fun _ => h3) (fun _ => h4) (dt t_M_order 27 rfl) rfl hf (fun hf => ?_) (fun hf => ?_)
      · refine SW_iinc (lv2 := [some (.ref (xad X 200)), some (.int (i32 x1)), some (.int (i32 x2)), some (.int (i32 (x3 + 1)))]) h (dt t_M_order 34 rfl) rfl (by decide) rfl ?_
        refine SW_goto (tgt := 25) h (dt t_M_order 35 rfl) rfl ?_
        refine SW_chk hf (fun h5 hf => ?_)
        exact SW_fgt [true, true, true, true] rfl (ih (x3 + 1) s4 h5 ok4 hf)
      · refine SW_bipush h (dt t_M_order 28 rfl) (by decide) ?_
        refine SW_iload_n h rfl (dt t_M_order 29 rfl) ?_
        refine SW_imul h (dt t_M_order 30 rfl) ?_
        refine SW_iload_n h rfl (dt t_M_order 31 rfl) ?_
        refine SW_iadd h (dt t_M_order 32 rfl) ?_
        refine SW_chk hf (fun h6 hf => ?_)
        exact SW_iret h (hret _ hf) (fun _ => h6) rfl (dt t_M_order 33 rfl)
def L_M_order_18 : Nat → Int → Int → Mm → Option ((Int × Mm) ⊕ (Mm))
  | 0, _, _, _ => none
  | n + 1, x1, x2, σ =>
    if x1 ≤ x2 then
      some (.inr σ)
    else
      b0MS (L_M_order_25 LF x1 x2 0 σ) (fun y => some (.inl y)) fun s7 =>
      if r32 (x2 + 1) then
        L_M_order_18 n x1 (x2 + 1) s7
      else none
set_option maxRecDepth 100000 in
set_option maxHeartbeats 4000000 in
theorem l_M_order_18 {X : Cx} (h : CX X 1 cX11_order 4 7 (some .int) RX11) (x1 : Int) (hx1 : r32 x1) {res : (Int × Mm) ⊕ (Mm)} (hret : ∀ y : Int × Mm, some (.inl y) = some res → RX X 1 (r32 (y.1)) (some (.int (i32 (y.1)))) y.2) (hex : ∀  (σ : Mm) (hz : some (.inr σ) = some res)  (ok : okM σ), SW X 1 4 64 [none, none, none, none] [] σ) : ∀ (n : Nat) (x2 : Int) (σ : Mm) (hx2 : r32 x2) (ok : okM σ) (hf : L_M_order_18 n x1 x2 σ = some res), SW X 1 4 18 [some (.ref (xad X 200)), some (.int (i32 x1)), some (.int (i32 x2)), none] [] σ := by
  intro n
  induction n with
  | zero => intro x2 σ hx2 ok hf; exact absurd hf (by simp [L_M_order_18])
  | succ n ih =>
    intro x2 σ hx2 ok hf
    rw [L_M_order_18] at hf
    refine SW_iload_n h rfl (dt t_M_order 11 rfl) ?_
    refine SW_iload_n h rfl (dt t_M_order 12 rfl) ?_
    refine SW_icmp_ge (tgt := 64) h (fun _ => hx2) (fun _ => hx1) (dt t_M_order 13 rfl) rfl hf (fun hf => ?_) (fun hf => ?_)
    · exact SW_fgt [false, false, false, false] rfl (hex σ hf ok)
    · refine SW_iconst h (dt t_M_order 14 rfl) ?_
      refine SW_istore_n (lv2 := [some (.ref (xad X 200)), some (.int (i32 x1)), some (.int (i32 x2)), some (.int (i32 0))]) h (dt t_M_order 15 rfl) (by decide) rfl ?_
      obtain ⟨z7, e7, g7, hk7⟩ := b0MS_of hf
      refine SW_fgt [true, true, true, true] rfl (l_M_order_25 h x1 x2 hx1 hx2 (fun y e => hret y (g7 y (Option.some.inj e).symm)) (fun s7 hz7 ok7 => ?_) LF 0 σ (by decide) ok e7)
      have hf := hk7 s7 (Option.some.inj hz7).symm
      refine SW_iinc (lv2 := [some (.ref (xad X 200)), some (.int (i32 x1)), some (.int (i32 (x2 + 1))), none]) h (dt t_M_order 36 rfl) rfl (by decide) rfl ?_
      refine SW_goto (tgt := 18) h (dt t_M_order 37 rfl) rfl ?_
      refine SW_chk hf (fun h8 hf => ?_)
      exact SW_fgt [true, true, true, false] rfl (ih (x2 + 1) s7 h8 ok7 hf)
def F_M_order (x1 : Int) (σ : Mm) : Option (Int × Mm) :=
  b1 (F_M_in x1 1 100) fun v1 =>
  if v1 = 0 then
    some ((-1), σ)
  else
    b0M (F_M_laysNow  σ) fun s2 =>
    b0MS (L_M_order_18 LF x1 0 s2) (fun y => some y) fun s9 =>
    some ((-1), s9)
set_option maxRecDepth 100000 in
set_option maxHeartbeats 4000000 in
theorem c_M_order (x1 : Int) (hx1 : r32 x1) {σ : Mm} {a : Int} {σ2 : Mm} (hf : F_M_order x1 σ = some (a, σ2)) : CT yX11_order cX11_order 4 (some .int) 7 1 (fun ad => [.ref (ad 200), .int (i32 x1)]) σ (r32 a) (some (.int (i32 a))) σ2 := by
  refine MetJ 2 (by decide +kernel) rfl (fun _ => Nat.le_of_ble_eq_true rfl) ?_
  intro X h hR ok
  obtain ⟨res, er⟩ : ∃ z, z = (a, σ2) := ⟨_, rfl⟩
  have hret : ∀ y : Int × Mm, some y = some res → RX X 1 (r32 (y.1)) (some (.int (i32 (y.1)))) y.2 := fun y e => by cases e; cases er; exact hR
  rw [← er] at hf
  clear er hR
  unfold F_M_order at hf
  show SW X 1 4 0 [some (.ref (xad X 200)), some (.int (i32 x1)), none, none] [] σ
  refine SW_iload_n h rfl (dt t_M_order 0 rfl) ?_
  refine SW_iconst h (dt t_M_order 1 rfl) ?_
  refine SW_bipush h (dt t_M_order 2 rfl) (by decide) ?_
  obtain ⟨v1, e1, hf⟩ := b1_of hf
  refine cS h [.int (i32 x1), .int (i32 1), .int (i32 100)] [] v_X11_in kX11_150 (c_M_in x1 hx1 1 (by decide) 100 (by decide) e1) rfl rfl (by decide) (by decide) rfl (Nat.le_of_ble_eq_true rfl) (dt t_M_order 3 rfl) (fun h1 => ?_)
  refine SW_if_ne (tgt := 12) h (fun _ => (r_zo h1)) (dt t_M_order 4 rfl) rfl hf (fun hf => ?_) (fun hf => ?_)
  · refine SW_iconst h (dt t_M_order 5 rfl) ?_
    exact SW_iret h (hret _ hf) (fun _ => (by decide)) rfl (dt t_M_order 6 rfl)
  · refine SW_aload_n h rfl (dt t_M_order 7 rfl) ?_
    obtain ⟨s2, e2, hf⟩ := b0M_of hf
    refine cVv h [] [] v_X11_laysNow kX11_446 o200 (c_M_laysNow  e2) rfl rfl (by decide) (by decide) rfl (Nat.le_of_ble_eq_true rfl) (dt t_M_order 8 rfl) (fun h2 => ?_)
    refine SW_ok (fun ok2 => ?_)
    refine SW_iconst h (dt t_M_order 9 rfl) ?_
    refine SW_istore_n (lv2 := [some (.ref (xad X 200)), some (.int (i32 x1)), some (.int (i32 0)), none]) h (dt t_M_order 10 rfl) (by decide) rfl ?_
    obtain ⟨z9, e9, g9, hk9⟩ := b0MS_of hf
    refine SW_fgt [true, true, true, false] rfl (l_M_order_18 h x1 hx1 (fun y e => hret y (g9 y (Option.some.inj e).symm)) (fun s9 hz9 ok9 => ?_) LF 0 s2 (by decide) ok2 e9)
    have hf := hk9 s9 (Option.some.inj hz9).symm
    refine SW_iconst h (dt t_M_order 38 rfl) ?_
    exact SW_iret h (hret _ hf) (fun _ => (by decide)) rfl (dt t_M_order 39 rfl)
def b_M_twosChanged : List (Nat × Instr × Nat) := [(0, .iconst 0, 1), (1, .istore_n 2, 1), (2, .iconst 0, 1), (3, .istore_n 3, 1), (4, .iload_n 3, 1), (5, .iload_n 1, 1), (6, .if_icmp .ge 50, 3), (9, .iload_n 3, 1), (10, .iconst 1, 1), (11, .iadd, 1), (12, .istore 4, 2), (14, .iload 4, 2), (16, .iload_n 1, 1), (17, .if_icmp .ge 33, 3), (20, .iload_n 2, 1), (21, .aload_n 0, 1), (22, .getfield 119, 3), (25, .iload_n 3, 1), (26, .iaload, 1), (27, .aload_n 0, 1), (28, .getfield 119, 3), (31, .iload 4, 2), (33, .iaload, 1), (34, .if_icmp .le 7, 3), (37, .iconst 1, 1), (38, .goto 4, 3), (41, .iconst 0, 1), (42, .iadd, 1), (43, .istore_n 2, 1), (44, .iinc 4 1, 3), (47, .goto (-33), 3), (50, .iinc 3 1, 3), (53, .goto (-49), 3), (56, .iload_n 2, 1), (57, .ireturn, 1)]
theorem t_M_twosChanged : DT cX11_twosChanged b_M_twosChanged := DT.of (by decide +kernel)
def L_M_twosChanged_14 : Nat → Int → Int → Int → Int → Mm → Option (Int)
  | 0, _, _, _, _, _ => none
  | n + 1, x1, x2, x3, x4, σ =>
    if x1 ≤ x4 then
      some x2
    else
      if 0 ≤ x3 ∧ x3 < 6 then
        if 0 ≤ x4 ∧ x4 < 6 then
          bindM ((if σ 234 x3.toNat ≤ σ 234 x4.toNat then 0 else 1 : Int)) fun v1 =>
          if r32 (x2 + v1) then
            if r32 (x4 + 1) then
              L_M_twosChanged_14 n x1 (x2 + v1) x3 (x4 + 1) σ
            else none
          else none
        else none
      else none
set_option maxRecDepth 100000 in
set_option maxHeartbeats 4000000 in
theorem l_M_twosChanged_14 {X : Cx} (h : CX X 1 cX11_twosChanged 5 0 (some .int) RX11) (x1 : Int) (x3 : Int) (σ : Mm) (hx1 : r32 x1) (hx3 : r32 x3) (ok : okM σ) {res : Int} (hex : ∀ (x2 : Int) (hz : some x2 = some res) (hx2 : r32 x2), SW X 1 5 50 [some (.ref (xad X 200)), some (.int (i32 x1)), some (.int (i32 x2)), some (.int (i32 x3)), none] [] σ) : ∀ (n : Nat) (x2 : Int) (x4 : Int) (hx2 : r32 x2) (hx4 : r32 x4) (hf : L_M_twosChanged_14 n x1 x2 x3 x4 σ = some res), SW X 1 5 14 [some (.ref (xad X 200)), some (.int (i32 x1)), some (.int (i32 x2)), some (.int (i32 x3)), some (.int (i32 x4))] [] σ := by
  intro n
  induction n with
  | zero => intro x2 x4 hx2 hx4 hf; exact absurd hf (by simp [L_M_twosChanged_14])
  | succ n ih =>
    intro x2 x4 hx2 hx4 hf
    rw [L_M_twosChanged_14] at hf
    refine SW_iload h rfl (dt t_M_twosChanged 11 rfl) ?_
    refine SW_iload_n h rfl (dt t_M_twosChanged 12 rfl) ?_
    refine SW_icmp_ge (tgt := 50) h (fun _ => hx4) (fun _ => hx1) (dt t_M_twosChanged 13 rfl) rfl hf (fun hf => ?_) (fun hf => ?_)
    · exact SW_fgt [true, true, true, true, false] rfl (hex x2 hf hx2)
    · refine SW_iload_n h rfl (dt t_M_twosChanged 14 rfl) ?_
      refine SW_aload_n h rfl (dt t_M_twosChanged 15 rfl) ?_
      refine gR h cf11 o200 f11_55 j200_55 lX11_119 (dt t_M_twosChanged 16 rfl) ?_
      refine SW_iload_n h rfl (dt t_M_twosChanged 17 rfl) ?_
      refine aI h a234 (dt t_M_twosChanged 18 rfl) hf (fun hf => ?_)
      refine SW_aload_n h rfl (dt t_M_twosChanged 19 rfl) ?_
      refine gR h cf11 o200 f11_55 j200_55 lX11_119 (dt t_M_twosChanged 20 rfl) ?_
      refine SW_iload h rfl (dt t_M_twosChanged 21 rfl) ?_
      refine aI h a234 (dt t_M_twosChanged 22 rfl) hf (fun hf => ?_)
      refine bT hf (fun g1 e1 hf => ?_)
      have k1 : ∀ (v1 : Int) (h1 : r32 v1) (hf : g1 v1 = some res), SW X 1 5 42 [some (.ref (xad X 200)), some (.int (i32 x1)), some (.int (i32 x2)), some (.int (i32 x3)), some (.int (i32 x4))] [.int (i32 v1), .int (i32 x2)] σ := by
        intro v1 h1 hf
        rw [e1] at hf
        refine SW_iadd h (dt t_M_twosChanged 27 rfl) ?_
        refine SW_istore_n (lv2 := [some (.ref (xad X 200)), some (.int (i32 x1)), some (.int (i32 (x2 + v1))), some (.int (i32 x3)), some (.int (i32 x4))]) h (dt t_M_twosChanged 28 rfl) (by decide) rfl ?_
        refine SW_iinc (lv2 := [some (.ref (xad X 200)), some (.int (i32 x1)), some (.int (i32 (x2 + v1))), some (.int (i32 x3)), some (.int (i32 (x4 + 1)))]) h (dt t_M_twosChanged 29 rfl) rfl (by decide) rfl ?_
        refine SW_goto (tgt := 14) h (dt t_M_twosChanged 30 rfl) rfl ?_
        refine SW_chk hf (fun h2 hf => ?_)
        refine SW_chk hf (fun h3 hf => ?_)
        exact SW_fgt [true, true, true, true, true] rfl (ih (x2 + v1) (x4 + 1) h2 h3 hf)
      have hf := bIte hf
      refine SW_icmp_le (tgt := 41) h (fun _ => (okI ok 234 x3.toNat (IsA.n3 a234 (by decide)))) (fun _ => (okI ok 234 x4.toNat (IsA.n3 a234 (by decide)))) (dt t_M_twosChanged 23 rfl) rfl hf (fun hf => ?_) (fun hf => ?_)
      · refine SW_iconst h (dt t_M_twosChanged 26 rfl) ?_
        exact k1 0 (by decide) hf
      · refine SW_iconst h (dt t_M_twosChanged 24 rfl) ?_
        refine SW_goto (tgt := 42) h (dt t_M_twosChanged 25 rfl) rfl ?_
        exact k1 1 (by decide) hf
def L_M_twosChanged_4 : Nat → Int → Int → Int → Mm → Option (Int)
  | 0, _, _, _, _ => none
  | n + 1, x1, x2, x3, σ =>
    if x1 ≤ x3 then
      some x2
    else
      if r32 (x3 + 1) then
        b1 (L_M_twosChanged_14 LF x1 x2 x3 (x3 + 1) σ) fun x2_4 =>
        if r32 (x3 + 1) then
          L_M_twosChanged_4 n x1 x2_4 (x3 + 1) σ
        else none
      else none
set_option maxRecDepth 100000 in
set_option maxHeartbeats 4000000 in
theorem l_M_twosChanged_4 {X : Cx} (h : CX X 1 cX11_twosChanged 5 0 (some .int) RX11) (x1 : Int) (σ : Mm) (hx1 : r32 x1) (ok : okM σ) {res : Int} (hex : ∀ (x2 : Int) (hz : some x2 = some res) (hx2 : r32 x2), SW X 1 5 56 [none, none, some (.int (i32 x2)), none, none] [] σ) : ∀ (n : Nat) (x2 : Int) (x3 : Int) (hx2 : r32 x2) (hx3 : r32 x3) (hf : L_M_twosChanged_4 n x1 x2 x3 σ = some res), SW X 1 5 4 [some (.ref (xad X 200)), some (.int (i32 x1)), some (.int (i32 x2)), some (.int (i32 x3)), none] [] σ := by
  intro n
  induction n with
  | zero => intro x2 x3 hx2 hx3 hf; exact absurd hf (by simp [L_M_twosChanged_4])
  | succ n ih =>
    intro x2 x3 hx2 hx3 hf
    rw [L_M_twosChanged_4] at hf
    refine SW_iload_n h rfl (dt t_M_twosChanged 4 rfl) ?_
    refine SW_iload_n h rfl (dt t_M_twosChanged 5 rfl) ?_
    refine SW_icmp_ge (tgt := 56) h (fun _ => hx3) (fun _ => hx1) (dt t_M_twosChanged 6 rfl) rfl hf (fun hf => ?_) (fun hf => ?_)
    · exact SW_fgt [false, false, true, false, false] rfl (hex x2 hf hx2)
    · refine SW_iload_n h rfl (dt t_M_twosChanged 7 rfl) ?_
      refine SW_iconst h (dt t_M_twosChanged 8 rfl) ?_
      refine SW_iadd h (dt t_M_twosChanged 9 rfl) ?_
      refine SW_istore (lv2 := [some (.ref (xad X 200)), some (.int (i32 x1)), some (.int (i32 x2)), some (.int (i32 x3)), some (.int (i32 (x3 + 1)))]) h (dt t_M_twosChanged 10 rfl) (by decide) rfl ?_
      refine SW_chk hf (fun h5 hf => ?_)
      obtain ⟨z4, e4, hk4⟩ := b1_ex hf
      refine SW_fgt [true, true, true, true, true] rfl (l_M_twosChanged_14 h x1 x3 σ hx1 hx3 ok (fun x2_4 hz4 hx2_4 => ?_) LF x2 (x3 + 1) hx2 h5 e4)
      have hf := hk4 x2_4 hz4
      refine SW_iinc (lv2 := [some (.ref (xad X 200)), some (.int (i32 x1)), some (.int (i32 x2_4)), some (.int (i32 (x3 + 1))), none]) h (dt t_M_twosChanged 31 rfl) rfl (by decide) rfl ?_
      refine SW_goto (tgt := 4) h (dt t_M_twosChanged 32 rfl) rfl ?_
      refine SW_chk hf (fun h6 hf => ?_)
      exact SW_fgt [true, true, true, true, false] rfl (ih x2_4 (x3 + 1) hx2_4 h6 hf)
def F_M_twosChanged (x1 : Int) (σ : Mm) : Option (Int) :=
  b1 (L_M_twosChanged_4 LF x1 0 0 σ) fun x2_7 =>
  some x2_7
set_option maxRecDepth 100000 in
set_option maxHeartbeats 4000000 in
theorem c_M_twosChanged (x1 : Int) (hx1 : r32 x1) {σ : Mm} {a : Int} (hf : F_M_twosChanged x1 σ = some a) : CT yX11_twosChanged cX11_twosChanged 5 (some .int) 0 1 (fun ad => [.ref (ad 200), .int (i32 x1)]) σ (r32 a) (some (.int (i32 a))) σ := by
  refine MetJ 3 (by decide +kernel) rfl (fun _ => Nat.le_of_ble_eq_true rfl) ?_
  intro X h hR ok
  obtain ⟨res, er⟩ : ∃ z, z = a := ⟨_, rfl⟩
  have hret : ∀ y : Int, some y = some res → RX X 1 (r32 (y)) (some (.int (i32 (y)))) σ := fun y e => by cases e; cases er; exact hR
  rw [← er] at hf
  clear er hR
  unfold F_M_twosChanged at hf
  show SW X 1 5 0 [some (.ref (xad X 200)), some (.int (i32 x1)), none, none, none] [] σ
  refine SW_iconst h (dt t_M_twosChanged 0 rfl) ?_
  refine SW_istore_n (lv2 := [some (.ref (xad X 200)), some (.int (i32 x1)), some (.int (i32 0)), none, none]) h (dt t_M_twosChanged 1 rfl) (by decide) rfl ?_
  refine SW_iconst h (dt t_M_twosChanged 2 rfl) ?_
  refine SW_istore_n (lv2 := [some (.ref (xad X 200)), some (.int (i32 x1)), some (.int (i32 0)), some (.int (i32 0)), none]) h (dt t_M_twosChanged 3 rfl) (by decide) rfl ?_
  obtain ⟨z7, e7, hk7⟩ := b1_ex hf
  refine SW_fgt [true, true, true, true, false] rfl (l_M_twosChanged_4 h x1 σ hx1 ok (fun x2_7 hz7 hx2_7 => ?_) LF 0 0 (by decide) (by decide) e7)
  have hf := hk7 x2_7 hz7
  refine SW_iload_n h rfl (dt t_M_twosChanged 33 rfl) ?_
  exact SW_iret h (hret _ hf) (fun _ => hx2_7) rfl (dt t_M_twosChanged 34 rfl)
def b_M_ordered : List (Nat × Instr × Nat) := [(0, .aload_n 0, 1), (1, .iload_n 1, 1), (2, .invokevirtual 439, 3), (5, .ifCond .eq 22, 3), (8, .iload_n 2, 1), (9, .iconst (-1), 1), (10, .aload_n 0, 1), (11, .getfield 7, 3), (14, .bipush 10, 2), (16, .iload_n 1, 1), (17, .iadd, 1), (18, .iaload, 1), (19, .iconst 1, 1), (20, .isub, 1), (21, .invokestatic 150, 3), (24, .ifCond .ne 5, 3), (27, .iconst (-1), 1), (28, .ireturn, 1), (29, .aload_n 0, 1), (30, .invokevirtual 446, 3), (33, .aload_n 0, 1), (34, .getfield 7, 3), (37, .bipush 10, 2), (39, .iload_n 1, 1), (40, .iadd, 1), (41, .iaload, 1), (42, .istore_n 3, 1), (43, .iconst (-1), 1), (44, .istore 4, 2), (46, .iconst 0, 1), (47, .istore 5, 2), (49, .iload 5, 2), (51, .iload_n 3, 1), (52, .invokestatic 499, 3), (55, .if_icmp .ge 61, 3), (58, .aload_n 0, 1), (59, .iload 5, 2), (61, .iload_n 3, 1), (62, .invokevirtual 502, 3), (65, .aload_n 0, 1), (66, .iload_n 3, 1), (67, .invokevirtual 505, 3), (70, .istore 6, 2), (72, .iload 4, 2), (74, .iconst (-1), 1), (75, .if_icmp .eq 10, 3), (78, .iload 6, 2), (80, .iload 4, 2), (82, .if_icmp .ge 28, 3), (85, .aload_n 0, 1), (86, .iload_n 1, 1), (87, .invokevirtual 508, 3), (90, .aload_n 0, 1), (91, .invokevirtual 422, 3), (94, .aload_n 0, 1), (95, .invokevirtual 409, 3), (98, .if_icmp .ne 12, 3), (101, .iload 6, 2), (103, .istore 4, 2), (105, .aload_n 0, 1), (106, .iload_n 3, 1), (107, .invokevirtual 511, 3), (110, .iinc 5 1, 3), (113, .goto (-64), 3), (116, .iload 4, 2), (118, .iconst (-1), 1), (119, .if_icmp .eq 8, 3), (122, .iload_n 2, 1), (123, .iconst (-1), 1), (124, .if_icmp .ne 8, 3), (127, .iload 4, 2), (129, .goto 9, 3), (132, .aload_n 0, 1), (133, .getfield 122, 3), (136, .iload_n 2, 1), (137, .iaload, 1), (138, .ireturn, 1)]
theorem t_M_ordered : DT cX11_ordered b_M_ordered := DT.of (by decide +kernel)
def L_M_ordered_49 : Nat → Int → Int → Int → Int → Mm → Option (Int × Mm)
  | 0, _, _, _, _, _ => none
  | n + 1, x1, x3, x4, x5, σ =>
    b1 (F_M_waysOf x3) fun v6 =>
    if v6 ≤ x5 then
      some ((x4, σ))
    else
      b0M (F_M_laysOrder x5 x3 σ) fun s7 =>
      b1 (F_M_twosChanged x3 s7) fun v8 =>
      bindM (fun (x4_9 : Int) (t9 : Mm) =>
        if r32 (x5 + 1) then
          L_M_ordered_49 n x1 x3 x4_9 (x5 + 1) t9
        else none) fun J9 =>
      bindM (
        b0M (F_M_laysRowSo x1 s7) fun s12 =>
        b1M (F_M_outNow  s12) fun v13 s13 =>
        b1 (F_M_trueNow  s13) fun v14 =>
        if v13 = v14 then
          b0M (F_M_keepsOrder x3 s13) fun s15 =>
          J9 v8 s15
        else
          J9 x4 s13) fun J11 =>
      if x4 = (-1) then
        J11
      else
        if x4 ≤ v8 then
          J9 x4 s7
        else
          J11
set_option maxRecDepth 100000 in
set_option maxHeartbeats 4000000 in
theorem l_M_ordered_49 {X : Cx} (h : CX X 1 cX11_ordered 7 6 (some .int) RX11) (x1 : Int) (x2 : Int) (x3 : Int) (hx1 : r32 x1) (hx2 : r32 x2) (hx3 : r32 x3) {res : Int × Mm} (hex : ∀ (x4 : Int) (σ : Mm) (hz : some ((x4, σ)) = some res) (hx4 : r32 x4) (ok : okM σ), SW X 1 7 116 [some (.ref (xad X 200)), none, some (.int (i32 x2)), none, some (.int (i32 x4)), none, none] [] σ) : ∀ (n : Nat) (x4 : Int) (x5 : Int) (σ : Mm) (hx4 : r32 x4) (hx5 : r32 x5) (ok : okM σ) (hf : L_M_ordered_49 n x1 x3 x4 x5 σ = some res), SW X 1 7 49 [some (.ref (xad X 200)), some (.int (i32 x1)), some (.int (i32 x2)), some (.int (i32 x3)), some (.int (i32 x4)), some (.int (i32 x5)), none] [] σ := by
  intro n
  induction n with
  | zero => intro x4 x5 σ hx4 hx5 ok hf; exact absurd hf (by simp [L_M_ordered_49])
  | succ n ih =>
    intro x4 x5 σ hx4 hx5 ok hf
    rw [L_M_ordered_49] at hf
    refine SW_iload h rfl (dt t_M_ordered 31 rfl) ?_
    refine SW_iload_n h rfl (dt t_M_ordered 32 rfl) ?_
    obtain ⟨v6, e6, hf⟩ := b1_of hf
    refine cS h [.int (i32 x3)] [.int (i32 x5)] v_X11_waysOf kX11_499 (c_M_waysOf x3 hx3 e6) rfl rfl (by decide) (by decide) rfl (Nat.le_of_ble_eq_true rfl) (dt t_M_ordered 33 rfl) (fun h6 => ?_)
    refine SW_icmp_ge (tgt := 116) h (fun _ => hx5) (fun _ => h6) (dt t_M_ordered 34 rfl) rfl hf (fun hf => ?_) (fun hf => ?_)
    · exact SW_fgt [true, false, true, false, true, false, false] rfl (hex x4 σ hf hx4 ok)
    · refine SW_aload_n h rfl (dt t_M_ordered 35 rfl) ?_
      refine SW_iload h rfl (dt t_M_ordered 36 rfl) ?_
      refine SW_iload_n h rfl (dt t_M_ordered 37 rfl) ?_
      obtain ⟨s7, e7, hf⟩ := b0M_of hf
      refine cVv h [.int (i32 x5), .int (i32 x3)] [] v_X11_laysOrder kX11_502 o200 (c_M_laysOrder x5 hx5 x3 hx3 e7) rfl rfl (by decide) (by decide) rfl (Nat.le_of_ble_eq_true rfl) (dt t_M_ordered 38 rfl) (fun h7 => ?_)
      refine SW_ok (fun ok7 => ?_)
      refine SW_aload_n h rfl (dt t_M_ordered 39 rfl) ?_
      refine SW_iload_n h rfl (dt t_M_ordered 40 rfl) ?_
      obtain ⟨v8, e8, hf⟩ := b1_of hf
      refine cV h [.int (i32 x3)] [] v_X11_twosChanged kX11_505 o200 (c_M_twosChanged x3 hx3 e8) rfl rfl (by decide) (by decide) rfl (Nat.le_of_ble_eq_true rfl) (dt t_M_ordered 41 rfl) (fun h8 => ?_)
      refine SW_istore (lv2 := [some (.ref (xad X 200)), some (.int (i32 x1)), some (.int (i32 x2)), some (.int (i32 x3)), some (.int (i32 x4)), some (.int (i32 x5)), some (.int (i32 v8))]) h (dt t_M_ordered 42 rfl) (by decide) rfl ?_
      refine SW_iload h rfl (dt t_M_ordered 43 rfl) ?_
      refine SW_iconst h (dt t_M_ordered 44 rfl) ?_
      refine bJ hf (fun J9 e9 hf => ?_)
      have k9 : ∀ (x4_9 : Int) (t9 : Mm) (hx4_9 : r32 x4_9) (ot9 : okM t9) (hf : J9 x4_9 t9 = some res), SW X 1 7 110 [some (.ref (xad X 200)), some (.int (i32 x1)), some (.int (i32 x2)), some (.int (i32 x3)), some (.int (i32 x4_9)), some (.int (i32 x5)), none] [] t9 := by
        intro x4_9 t9 hx4_9 ot9 hf
        rw [e9] at hf
        refine SW_iinc (lv2 := [some (.ref (xad X 200)), some (.int (i32 x1)), some (.int (i32 x2)), some (.int (i32 x3)), some (.int (i32 x4_9)), some (.int (i32 (x5 + 1))), none]) h (dt t_M_ordered 62 rfl) rfl (by decide) rfl ?_
        refine SW_goto (tgt := 49) h (dt t_M_ordered 63 rfl) rfl ?_
        refine SW_chk hf (fun h10 hf => ?_)
        exact SW_fgt [true, true, true, true, true, true, false] rfl (ih x4_9 (x5 + 1) t9 hx4_9 h10 ot9 hf)
      refine bJ hf (fun J11 e11 hf => ?_)
      have k11 : ∀ (hf : J11 = some res), SW X 1 7 85 [some (.ref (xad X 200)), some (.int (i32 x1)), some (.int (i32 x2)), some (.int (i32 x3)), some (.int (i32 x4)), some (.int (i32 x5)), some (.int (i32 v8))] [] s7 := by
        intro hf
        rw [e11] at hf
        refine SW_aload_n h rfl (dt t_M_ordered 49 rfl) ?_
        refine SW_iload_n h rfl (dt t_M_ordered 50 rfl) ?_
        obtain ⟨s12, e12, hf⟩ := b0M_of hf
        refine cVv h [.int (i32 x1)] [] v_X11_laysRowSo kX11_508 o200 (c_M_laysRowSo x1 hx1 e12) rfl rfl (by decide) (by decide) rfl (Nat.le_of_ble_eq_true rfl) (dt t_M_ordered 51 rfl) (fun h12 => ?_)
        refine SW_ok (fun ok12 => ?_)
        refine SW_aload_n h rfl (dt t_M_ordered 52 rfl) ?_
        obtain ⟨v13, s13, e13, hf⟩ := b1M_of hf
        refine cV h [] [] v_X11_outNow kX11_422 o200 (c_M_outNow  e13) rfl rfl (by decide) (by decide) rfl (Nat.le_of_ble_eq_true rfl) (dt t_M_ordered 53 rfl) (fun h13 => ?_)
        refine SW_ok (fun ok13 => ?_)
        refine SW_aload_n h rfl (dt t_M_ordered 54 rfl) ?_
        obtain ⟨v14, e14, hf⟩ := b1_of hf
        refine cV h [] [.int (i32 v13)] v_X11_trueNow kX11_409 o200 (c_M_trueNow  e14) rfl rfl (by decide) (by decide) rfl (Nat.le_of_ble_eq_true rfl) (dt t_M_ordered 55 rfl) (fun h14 => ?_)
        refine SW_icmp_ne (tgt := 110) h (fun _ => h13) (fun _ => h14) (dt t_M_ordered 56 rfl) rfl hf (fun hf => ?_) (fun hf => ?_)
        · refine SW_iload h rfl (dt t_M_ordered 57 rfl) ?_
          refine SW_istore (lv2 := [some (.ref (xad X 200)), some (.int (i32 x1)), some (.int (i32 x2)), some (.int (i32 x3)), some (.int (i32 v8)), some (.int (i32 x5)), some (.int (i32 v8))]) h (dt t_M_ordered 58 rfl) (by decide) rfl ?_
          refine SW_aload_n h rfl (dt t_M_ordered 59 rfl) ?_
          refine SW_iload_n h rfl (dt t_M_ordered 60 rfl) ?_
          obtain ⟨s15, e15, hf⟩ := b0M_of hf
          refine cVv h [.int (i32 x3)] [] v_X11_keepsOrder kX11_511 o200 (c_M_keepsOrder x3 hx3 e15) rfl rfl (by decide) (by decide) rfl (Nat.le_of_ble_eq_true rfl) (dt t_M_ordered 61 rfl) (fun h15 => ?_)
          refine SW_ok (fun ok15 => ?_)
          exact SW_fgt [true, true, true, true, true, true, false] rfl (k9 v8 s15 h8 ok15 hf)
        · exact SW_fgt [true, true, true, true, true, true, false] rfl (k9 x4 s13 hx4 ok13 hf)
      refine SW_icmp_eq (tgt := 85) h (fun _ => hx4) (fun _ => (by decide)) (dt t_M_ordered 45 rfl) rfl hf (fun hf => ?_) (fun hf => ?_)
      · exact SW_fgt [true, true, true, true, true, true, true] rfl (k11 hf)
      · refine SW_iload h rfl (dt t_M_ordered 46 rfl) ?_
        refine SW_iload h rfl (dt t_M_ordered 47 rfl) ?_
        refine SW_icmp_ge (tgt := 110) h (fun _ => h8) (fun _ => hx4) (dt t_M_ordered 48 rfl) rfl hf (fun hf => ?_) (fun hf => ?_)
        · exact SW_fgt [true, true, true, true, true, true, false] rfl (k9 x4 s7 hx4 ok7 hf)
        · exact SW_fgt [true, true, true, true, true, true, true] rfl (k11 hf)
def F_M_ordered (x1 : Int) (x2 : Int) (σ : Mm) : Option (Int × Mm) :=
  b1 (F_M_isRow x1 σ) fun v1 =>
  if v1 = 0 then
    some ((-1), σ)
  else
    if 0 ≤ 10 + x1 ∧ 10 + x1 < 5240 then
      if r32 ((σ 201 ((10 + x1).toNat)) - 1) then
        b1 (F_M_in x2 ((-1)) ((σ 201 ((10 + x1).toNat)) - 1)) fun v2 =>
        if v2 = 0 then
          some ((-1), σ)
        else
          b0M (F_M_laysNow  σ) fun s4 =>
          if 0 ≤ 10 + x1 ∧ 10 + x1 < 5240 then
            bindM (s4 201 ((10 + x1).toNat)) fun v5 =>
            b1M (L_M_ordered_49 LF x1 v5 ((-1)) 0 s4) fun x4_16 s16 =>
            if x4_16 = (-1) then
              some (x4_16, s16)
            else
              if x2 = (-1) then
                some (x4_16, s16)
              else
                if 0 ≤ x2 ∧ x2 < 6 then
                  some (s16 235 x2.toNat, s16)
                else none
          else none
      else none
    else none
set_option maxRecDepth 100000 in
set_option maxHeartbeats 4000000 in
theorem c_M_ordered (x1 : Int) (hx1 : r32 x1) (x2 : Int) (hx2 : r32 x2) {σ : Mm} {a : Int} {σ2 : Mm} (hf : F_M_ordered x1 x2 σ = some (a, σ2)) : CT yX11_ordered cX11_ordered 7 (some .int) 6 1 (fun ad => [.ref (ad 200), .int (i32 x1), .int (i32 x2)]) σ (r32 a) (some (.int (i32 a))) σ2 := by
  refine MetJ 4 (by decide +kernel) rfl (fun _ => Nat.le_of_ble_eq_true rfl) ?_
  intro X h hR ok
  obtain ⟨res, er⟩ : ∃ z, z = (a, σ2) := ⟨_, rfl⟩
  have hret : ∀ y : Int × Mm, some y = some res → RX X 1 (r32 (y.1)) (some (.int (i32 (y.1)))) y.2 := fun y e => by cases e; cases er; exact hR
  rw [← er] at hf
  clear er hR
  unfold F_M_ordered at hf
  show SW X 1 7 0 [some (.ref (xad X 200)), some (.int (i32 x1)), some (.int (i32 x2)), none, none, none, none] [] σ
  refine SW_aload_n h rfl (dt t_M_ordered 0 rfl) ?_
  refine SW_iload_n h rfl (dt t_M_ordered 1 rfl) ?_
  obtain ⟨v1, e1, hf⟩ := b1_of hf
  refine cV h [.int (i32 x1)] [] v_X11_isRow kX11_439 o200 (c_M_isRow x1 hx1 e1) rfl rfl (by decide) (by decide) rfl (Nat.le_of_ble_eq_true rfl) (dt t_M_ordered 2 rfl) (fun h1 => ?_)
  refine SW_if_eq (tgt := 27) h (fun _ => (r_zo h1)) (dt t_M_ordered 3 rfl) rfl hf (fun hf => ?_) (fun hf => ?_)
  · refine SW_iconst h (dt t_M_ordered 16 rfl) ?_
    exact SW_iret h (hret _ hf) (fun _ => (by decide)) rfl (dt t_M_ordered 17 rfl)
  · refine SW_iload_n h rfl (dt t_M_ordered 4 rfl) ?_
    refine SW_iconst h (dt t_M_ordered 5 rfl) ?_
    refine SW_aload_n h rfl (dt t_M_ordered 6 rfl) ?_
    refine gR h cf11 o200 f11_0 j200_0 lX11_7 (dt t_M_ordered 7 rfl) ?_
    refine SW_bipush h (dt t_M_ordered 8 rfl) (by decide) ?_
    refine SW_iload_n h rfl (dt t_M_ordered 9 rfl) ?_
    refine SW_iadd h (dt t_M_ordered 10 rfl) ?_
    refine aI h a201 (dt t_M_ordered 11 rfl) hf (fun hf => ?_)
    refine SW_iconst h (dt t_M_ordered 12 rfl) ?_
    refine SW_isub h (dt t_M_ordered 13 rfl) ?_
    refine SW_chk hf (fun h3 hf => ?_)
    obtain ⟨v2, e2, hf⟩ := b1_of hf
    refine cS h [.int (i32 x2), .int (i32 ((-1))), .int (i32 ((σ 201 ((10 + x1).toNat)) - 1))] [] v_X11_in kX11_150 (c_M_in x2 hx2 ((-1)) (by decide) ((σ 201 ((10 + x1).toNat)) - 1) h3 e2) rfl rfl (by decide) (by decide) rfl (Nat.le_of_ble_eq_true rfl) (dt t_M_ordered 14 rfl) (fun h2 => ?_)
    refine SW_if_ne (tgt := 29) h (fun _ => (r_zo h2)) (dt t_M_ordered 15 rfl) rfl hf (fun hf => ?_) (fun hf => ?_)
    · refine SW_iconst h (dt t_M_ordered 16 rfl) ?_
      exact SW_iret h (hret _ hf) (fun _ => (by decide)) rfl (dt t_M_ordered 17 rfl)
    · refine SW_aload_n h rfl (dt t_M_ordered 18 rfl) ?_
      obtain ⟨s4, e4, hf⟩ := b0M_of hf
      refine cVv h [] [] v_X11_laysNow kX11_446 o200 (c_M_laysNow  e4) rfl rfl (by decide) (by decide) rfl (Nat.le_of_ble_eq_true rfl) (dt t_M_ordered 19 rfl) (fun h4 => ?_)
      refine SW_ok (fun ok4 => ?_)
      refine SW_aload_n h rfl (dt t_M_ordered 20 rfl) ?_
      refine gR h cf11 o200 f11_0 j200_0 lX11_7 (dt t_M_ordered 21 rfl) ?_
      refine SW_bipush h (dt t_M_ordered 22 rfl) (by decide) ?_
      refine SW_iload_n h rfl (dt t_M_ordered 23 rfl) ?_
      refine SW_iadd h (dt t_M_ordered 24 rfl) ?_
      refine aI h a201 (dt t_M_ordered 25 rfl) hf (fun hf => ?_)
      refine SW_vi hf (okI ok4 201 ((10 + x1).toNat) (IsA.n3 a201 (by decide))) (fun v5 h5 hf => ?_)
      refine SW_istore_n (lv2 := [some (.ref (xad X 200)), some (.int (i32 x1)), some (.int (i32 x2)), some (.int (i32 v5)), none, none, none]) h (dt t_M_ordered 26 rfl) (by decide) rfl ?_
      refine SW_iconst h (dt t_M_ordered 27 rfl) ?_
      refine SW_istore (lv2 := [some (.ref (xad X 200)), some (.int (i32 x1)), some (.int (i32 x2)), some (.int (i32 v5)), some (.int (i32 ((-1)))), none, none]) h (dt t_M_ordered 28 rfl) (by decide) rfl ?_
      refine SW_iconst h (dt t_M_ordered 29 rfl) ?_
      refine SW_istore (lv2 := [some (.ref (xad X 200)), some (.int (i32 x1)), some (.int (i32 x2)), some (.int (i32 v5)), some (.int (i32 ((-1)))), some (.int (i32 0)), none]) h (dt t_M_ordered 30 rfl) (by decide) rfl ?_
      obtain ⟨z16, e16, hk16⟩ := b1M_ex hf
      refine SW_fgt [true, true, true, true, true, true, false] rfl (l_M_ordered_49 h x1 x2 v5 hx1 hx2 h5 (fun x4_16 s16 hz16 hx4_16 ok16 => ?_) LF ((-1)) 0 s4 (by decide) (by decide) ok4 e16)
      have hf := hk16 x4_16 s16 hz16
      refine SW_iload h rfl (dt t_M_ordered 64 rfl) ?_
      refine SW_iconst h (dt t_M_ordered 65 rfl) ?_
      refine SW_icmp_eq (tgt := 127) h (fun _ => hx4_16) (fun _ => (by decide)) (dt t_M_ordered 66 rfl) rfl hf (fun hf => ?_) (fun hf => ?_)
      · refine SW_iload h rfl (dt t_M_ordered 70 rfl) ?_
        refine SW_goto (tgt := 138) h (dt t_M_ordered 71 rfl) rfl ?_
        exact SW_iret h (hret _ hf) (fun _ => hx4_16) rfl (dt t_M_ordered 76 rfl)
      · refine SW_iload_n h rfl (dt t_M_ordered 67 rfl) ?_
        refine SW_iconst h (dt t_M_ordered 68 rfl) ?_
        refine SW_icmp_ne (tgt := 132) h (fun _ => hx2) (fun _ => (by decide)) (dt t_M_ordered 69 rfl) rfl hf (fun hf => ?_) (fun hf => ?_)
        · refine SW_iload h rfl (dt t_M_ordered 70 rfl) ?_
          refine SW_goto (tgt := 138) h (dt t_M_ordered 71 rfl) rfl ?_
          exact SW_iret h (hret _ hf) (fun _ => hx4_16) rfl (dt t_M_ordered 76 rfl)
        · refine SW_aload_n h rfl (dt t_M_ordered 72 rfl) ?_
          refine gR h cf11 o200 f11_56 j200_56 lX11_122 (dt t_M_ordered 73 rfl) ?_
          refine SW_iload_n h rfl (dt t_M_ordered 74 rfl) ?_
          refine aI h a235 (dt t_M_ordered 75 rfl) hf (fun hf => ?_)
          exact SW_iret h (hret _ hf) (fun _ => (okI ok16 235 x2.toNat (IsA.n3 a235 (by decide)))) rfl (dt t_M_ordered 76 rfl)
def b_M_rowBy : List (Nat × Instr × Nat) := [(0, .aload_n 0, 1), (1, .aload_n 0, 1), (2, .getfield 36, 3), (5, .iload_n 1, 1), (6, .iaload, 1), (7, .putfield 154, 3), (10, .aload_n 0, 1), (11, .aload_n 0, 1), (12, .getfield 39, 3), (15, .iload_n 1, 1), (16, .iaload, 1), (17, .putfield 157, 3), (20, .iconst 0, 1), (21, .istore_n 2, 1), (22, .iload_n 2, 1), (23, .aload_n 0, 1), (24, .getfield 154, 3), (27, .if_icmp .ge 25, 3), (30, .aload_n 0, 1), (31, .getfield 103, 3), (34, .iload_n 2, 1), (35, .aload_n 0, 1), (36, .getfield 42, 3), (39, .iconst 4, 1), (40, .iload_n 1, 1), (41, .imul, 1), (42, .iload_n 2, 1), (43, .iadd, 1), (44, .iaload, 1), (45, .iastore, 1), (46, .iinc 2 1, 3), (49, .goto (-27), 3), (52, .aload_n 0, 1), (53, .invokevirtual 160, 3), (56, .iconst (-1), 1), (57, .if_icmp .eq 7, 3), (60, .iconst 1, 1), (61, .goto 4, 3), (64, .iconst 0, 1), (65, .ireturn, 1)]
theorem t_M_rowBy : DT cX11_rowBy b_M_rowBy := DT.of (by decide +kernel)
def L_M_rowBy_22 : Nat → Int → Int → Mm → Option (Mm)
  | 0, _, _, _ => none
  | n + 1, x1, x2, σ =>
    if σ 200 48 ≤ x2 then
      some σ
    else
      if 0 ≤ (4 * x1) + x2 ∧ (4 * x1) + x2 < 384 then
        if 0 ≤ x2 ∧ x2 < 4 then
          bindM (st2 σ 229 x2.toNat (σ 209 (((4 * x1) + x2).toNat))) fun s5 =>
          if r32 (x2 + 1) then
            L_M_rowBy_22 n x1 (x2 + 1) s5
          else none
        else none
      else none
set_option maxRecDepth 100000 in
set_option maxHeartbeats 4000000 in
theorem l_M_rowBy_22 {X : Cx} (h : CX X 1 cX11_rowBy 3 1 (some .boolean) RX11) (x1 : Int) (hx1 : r32 x1) {res : Mm} (hex : ∀  (σ : Mm) (hz : some σ = some res)  (ok : okM σ), SW X 1 3 52 [some (.ref (xad X 200)), none, none] [] σ) : ∀ (n : Nat) (x2 : Int) (σ : Mm) (hx2 : r32 x2) (ok : okM σ) (hf : L_M_rowBy_22 n x1 x2 σ = some res), SW X 1 3 22 [some (.ref (xad X 200)), some (.int (i32 x1)), some (.int (i32 x2))] [] σ := by
  intro n
  induction n with
  | zero => intro x2 σ hx2 ok hf; exact absurd hf (by simp [L_M_rowBy_22])
  | succ n ih =>
    intro x2 σ hx2 ok hf
    rw [L_M_rowBy_22] at hf
    refine SW_iload_n h rfl (dt t_M_rowBy 14 rfl) ?_
    refine SW_aload_n h rfl (dt t_M_rowBy 15 rfl) ?_
    refine gI h cf11 o200 f11_48 lX11_154 (dt t_M_rowBy 16 rfl) ?_
    refine SW_icmp_ge (tgt := 52) h (fun _ => hx2) (fun _ => (okI ok 200 48 (IsO.n3 o200))) (dt t_M_rowBy 17 rfl) rfl hf (fun hf => ?_) (fun hf => ?_)
    · exact SW_fgt [true, false, false] rfl (hex σ hf ok)
    · refine SW_aload_n h rfl (dt t_M_rowBy 18 rfl) ?_
      refine gR h cf11 o200 f11_47 j200_47 lX11_103 (dt t_M_rowBy 19 rfl) ?_
      refine SW_iload_n h rfl (dt t_M_rowBy 20 rfl) ?_
      refine SW_aload_n h rfl (dt t_M_rowBy 21 rfl) ?_
      refine gR h cf11 o200 f11_11 j200_11 lX11_42 (dt t_M_rowBy 22 rfl) ?_
      refine SW_iconst h (dt t_M_rowBy 23 rfl) ?_
      refine SW_iload_n h rfl (dt t_M_rowBy 24 rfl) ?_
      refine SW_imul h (dt t_M_rowBy 25 rfl) ?_
      refine SW_iload_n h rfl (dt t_M_rowBy 26 rfl) ?_
      refine SW_iadd h (dt t_M_rowBy 27 rfl) ?_
      refine aI h a209 (dt t_M_rowBy 28 rfl) hf (fun hf => ?_)
      refine sI h a229 (okI ok 209 (((4 * x1) + x2).toNat) (IsA.n3 a209 (by decide))) (dt t_M_rowBy 29 rfl) hf (fun hf => SW_bm hf (fun s5 ok5 hf => ?_))
      refine SW_iinc (lv2 := [some (.ref (xad X 200)), some (.int (i32 x1)), some (.int (i32 (x2 + 1)))]) h (dt t_M_rowBy 30 rfl) rfl (by decide) rfl ?_
      refine SW_goto (tgt := 22) h (dt t_M_rowBy 31 rfl) rfl ?_
      refine SW_chk hf (fun h6 hf => ?_)
      exact SW_fgt [true, true, true] rfl (ih (x2 + 1) s5 h6 ok5 hf)
def F_M_rowBy (x1 : Int) (σ : Mm) : Option (Int × Mm) :=
  if 0 ≤ x1 ∧ x1 < 96 then
    bindM (st2 σ 200 48 (σ 207 x1.toNat)) fun s2 =>
    if 0 ≤ x1 ∧ x1 < 96 then
      bindM (st2 s2 200 49 (s2 208 x1.toNat)) fun s4 =>
      b0M (L_M_rowBy_22 LF x1 0 s4) fun s7 =>
      b1M (F_M_addsRow  s7) fun v8 s8 =>
      if v8 = (-1) then
        some (0, s8)
      else
        some (1, s8)
    else none
  else none
set_option maxRecDepth 100000 in
set_option maxHeartbeats 4000000 in
theorem c_M_rowBy (x1 : Int) (hx1 : r32 x1) {σ : Mm} {a : Int} {σ2 : Mm} (hf : F_M_rowBy x1 σ = some (a, σ2)) : CT yX11_rowBy cX11_rowBy 3 (some .boolean) 1 1 (fun ad => [.ref (ad 200), .int (i32 x1)]) σ (a = 0 ∨ a = 1) (some (.int (i32 a))) σ2 := by
  refine MetJ 1 (by decide +kernel) rfl (fun _ => Nat.le_of_ble_eq_true rfl) ?_
  intro X h hR ok
  obtain ⟨res, er⟩ : ∃ z, z = (a, σ2) := ⟨_, rfl⟩
  have hret : ∀ y : Int × Mm, some y = some res → RX X 1 (y.1 = 0 ∨ y.1 = 1) (some (.int (i32 (y.1)))) y.2 := fun y e => by cases e; cases er; exact hR
  rw [← er] at hf
  clear er hR
  unfold F_M_rowBy at hf
  show SW X 1 3 0 [some (.ref (xad X 200)), some (.int (i32 x1)), none] [] σ
  refine SW_aload_n h rfl (dt t_M_rowBy 0 rfl) ?_
  refine SW_aload_n h rfl (dt t_M_rowBy 1 rfl) ?_
  refine gR h cf11 o200 f11_9 j200_9 lX11_36 (dt t_M_rowBy 2 rfl) ?_
  refine SW_iload_n h rfl (dt t_M_rowBy 3 rfl) ?_
  refine aI h a207 (dt t_M_rowBy 4 rfl) hf (fun hf => ?_)
  refine pI h cf11 o200 f11_48 (okI ok 207 x1.toNat (IsA.n3 a207 (by decide))) lX11_154 (dt t_M_rowBy 5 rfl) (SW_bm hf (fun s2 ok2 hf => ?_))
  refine SW_aload_n h rfl (dt t_M_rowBy 6 rfl) ?_
  refine SW_aload_n h rfl (dt t_M_rowBy 7 rfl) ?_
  refine gR h cf11 o200 f11_10 j200_10 lX11_39 (dt t_M_rowBy 8 rfl) ?_
  refine SW_iload_n h rfl (dt t_M_rowBy 9 rfl) ?_
  refine aI h a208 (dt t_M_rowBy 10 rfl) hf (fun hf => ?_)
  refine pI h cf11 o200 f11_49 (okI ok2 208 x1.toNat (IsA.n3 a208 (by decide))) lX11_157 (dt t_M_rowBy 11 rfl) (SW_bm hf (fun s4 ok4 hf => ?_))
  refine SW_iconst h (dt t_M_rowBy 12 rfl) ?_
  refine SW_istore_n (lv2 := [some (.ref (xad X 200)), some (.int (i32 x1)), some (.int (i32 0))]) h (dt t_M_rowBy 13 rfl) (by decide) rfl ?_
  obtain ⟨z7, e7, hk7⟩ := b0M_ex hf
  refine SW_fgt [true, true, true] rfl (l_M_rowBy_22 h x1 hx1 (fun s7 hz7 ok7 => ?_) LF 0 s4 (by decide) ok4 e7)
  have hf := hk7 s7 hz7
  refine SW_aload_n h rfl (dt t_M_rowBy 32 rfl) ?_
  obtain ⟨v8, s8, e8, hf⟩ := b1M_of hf
  refine cV h [] [] v_X11_addsRow kX11_160 o200 (c_M_addsRow  e8) rfl rfl (by decide) (by decide) rfl (Nat.le_of_ble_eq_true rfl) (dt t_M_rowBy 33 rfl) (fun h8 => ?_)
  refine SW_ok (fun ok8 => ?_)
  refine SW_iconst h (dt t_M_rowBy 34 rfl) ?_
  refine SW_icmp_eq (tgt := 64) h (fun _ => h8) (fun _ => (by decide)) (dt t_M_rowBy 35 rfl) rfl hf (fun hf => ?_) (fun hf => ?_)
  · refine SW_iconst h (dt t_M_rowBy 38 rfl) ?_
    exact SW_zret h (hret _ hf) (by decide) rfl (dt t_M_rowBy 39 rfl)
  · refine SW_iconst h (dt t_M_rowBy 36 rfl) ?_
    refine SW_goto (tgt := 65) h (dt t_M_rowBy 37 rfl) rfl ?_
    exact SW_zret h (hret _ hf) (by decide) rfl (dt t_M_rowBy 39 rfl)
def b_M_reckon : List (Nat × Instr × Nat) := [(0, .aload_n 0, 1), (1, .iload_n 1, 1), (2, .invokevirtual 439, 3), (5, .ifCond .ne 7, 3), (8, .ldc_w 442, 3), (11, .ireturn, 1), (12, .aload_n 0, 1), (13, .invokevirtual 443, 3), (16, .aload_n 0, 1), (17, .invokevirtual 446, 3), (20, .aload_n 0, 1), (21, .iload_n 1, 1), (22, .invokevirtual 430, 3), (25, .istore_n 2, 1), (26, .aload_n 0, 1), (27, .iload_n 1, 1), (28, .iload_n 2, 1), (29, .invokevirtual 433, 3), (32, .aload_n 0, 1), (33, .invokevirtual 449, 3), (36, .iload_n 2, 1), (37, .ireturn, 1)]
theorem t_M_reckon : DT cX11_reckon b_M_reckon := DT.of (by decide +kernel)
def F_M_reckon (x1 : Int) (σ : Mm) : Option (Int × Mm) :=
  b1 (F_M_isRow x1 σ) fun v1 =>
  if v1 = 0 then
    some ((-1000000), σ)
  else
    b0M (F_M_keepsStep  σ) fun s2 =>
    b0M (F_M_laysNow  s2) fun s3 =>
    b1M (F_M_reckons x1 s3) fun v4 s4 =>
    b0M (F_M_writes x1 v4 s4) fun s5 =>
    b0M (F_M_keepsNow  s5) fun s6 =>
    some (v4, s6)
set_option maxRecDepth 100000 in
set_option maxHeartbeats 4000000 in
theorem c_M_reckon (x1 : Int) (hx1 : r32 x1) {σ : Mm} {a : Int} {σ2 : Mm} (hf : F_M_reckon x1 σ = some (a, σ2)) : CT yX11_reckon cX11_reckon 3 (some .int) 7 1 (fun ad => [.ref (ad 200), .int (i32 x1)]) σ (r32 a) (some (.int (i32 a))) σ2 := by
  refine MetJ 1 (by decide +kernel) rfl (fun _ => Nat.le_of_ble_eq_true rfl) ?_
  intro X h hR ok
  obtain ⟨res, er⟩ : ∃ z, z = (a, σ2) := ⟨_, rfl⟩
  have hret : ∀ y : Int × Mm, some y = some res → RX X 1 (r32 (y.1)) (some (.int (i32 (y.1)))) y.2 := fun y e => by cases e; cases er; exact hR
  rw [← er] at hf
  clear er hR
  unfold F_M_reckon at hf
  show SW X 1 3 0 [some (.ref (xad X 200)), some (.int (i32 x1)), none] [] σ
  refine SW_aload_n h rfl (dt t_M_reckon 0 rfl) ?_
  refine SW_iload_n h rfl (dt t_M_reckon 1 rfl) ?_
  obtain ⟨v1, e1, hf⟩ := b1_of hf
  refine cV h [.int (i32 x1)] [] v_X11_isRow kX11_439 o200 (c_M_isRow x1 hx1 e1) rfl rfl (by decide) (by decide) rfl (Nat.le_of_ble_eq_true rfl) (dt t_M_reckon 2 rfl) (fun h1 => ?_)
  refine SW_if_ne (tgt := 12) h (fun _ => (r_zo h1)) (dt t_M_reckon 3 rfl) rfl hf (fun hf => ?_) (fun hf => ?_)
  · refine SW_ldcw (n := -1000000) h nX11_442 (by decide) (dt t_M_reckon 4 rfl) ?_
    exact SW_iret h (hret _ hf) (fun _ => (by decide)) rfl (dt t_M_reckon 5 rfl)
  · refine SW_aload_n h rfl (dt t_M_reckon 6 rfl) ?_
    obtain ⟨s2, e2, hf⟩ := b0M_of hf
    refine cVv h [] [] v_X11_keepsStep kX11_443 o200 (c_M_keepsStep  e2) rfl rfl (by decide) (by decide) rfl (Nat.le_of_ble_eq_true rfl) (dt t_M_reckon 7 rfl) (fun h2 => ?_)
    refine SW_ok (fun ok2 => ?_)
    refine SW_aload_n h rfl (dt t_M_reckon 8 rfl) ?_
    obtain ⟨s3, e3, hf⟩ := b0M_of hf
    refine cVv h [] [] v_X11_laysNow kX11_446 o200 (c_M_laysNow  e3) rfl rfl (by decide) (by decide) rfl (Nat.le_of_ble_eq_true rfl) (dt t_M_reckon 9 rfl) (fun h3 => ?_)
    refine SW_ok (fun ok3 => ?_)
    refine SW_aload_n h rfl (dt t_M_reckon 10 rfl) ?_
    refine SW_iload_n h rfl (dt t_M_reckon 11 rfl) ?_
    obtain ⟨v4, s4, e4, hf⟩ := b1M_of hf
    refine cV h [.int (i32 x1)] [] v_X11_reckons kX11_430 o200 (c_M_reckons x1 hx1 e4) rfl rfl (by decide) (by decide) rfl (Nat.le_of_ble_eq_true rfl) (dt t_M_reckon 12 rfl) (fun h4 => ?_)
    refine SW_ok (fun ok4 => ?_)
    refine SW_istore_n (lv2 := [some (.ref (xad X 200)), some (.int (i32 x1)), some (.int (i32 v4))]) h (dt t_M_reckon 13 rfl) (by decide) rfl ?_
    refine SW_aload_n h rfl (dt t_M_reckon 14 rfl) ?_
    refine SW_iload_n h rfl (dt t_M_reckon 15 rfl) ?_
    refine SW_iload_n h rfl (dt t_M_reckon 16 rfl) ?_
    obtain ⟨s5, e5, hf⟩ := b0M_of hf
    refine cVv h [.int (i32 x1), .int (i32 v4)] [] v_X11_writes kX11_433 o200 (c_M_writes x1 hx1 v4 h4 e5) rfl rfl (by decide) (by decide) rfl (Nat.le_of_ble_eq_true rfl) (dt t_M_reckon 17 rfl) (fun h5 => ?_)
    refine SW_ok (fun ok5 => ?_)
    refine SW_aload_n h rfl (dt t_M_reckon 18 rfl) ?_
    obtain ⟨s6, e6, hf⟩ := b0M_of hf
    refine cVv h [] [] v_X11_keepsNow kX11_449 o200 (c_M_keepsNow  e6) rfl rfl (by decide) (by decide) rfl (Nat.le_of_ble_eq_true rfl) (dt t_M_reckon 19 rfl) (fun h6 => ?_)
    refine SW_ok (fun ok6 => ?_)
    refine SW_iload_n h rfl (dt t_M_reckon 20 rfl) ?_
    exact SW_iret h (hret _ hf) (fun _ => h4) rfl (dt t_M_reckon 21 rfl)
def b_M_turn : List (Nat × Instr × Nat) := [(0, .iload_n 1, 1), (1, .invokestatic 463, 3), (4, .ifCond .eq 10, 3), (7, .iload_n 2, 1), (8, .invokestatic 463, 3), (11, .ifCond .ne 5, 3), (14, .iconst 0, 1), (15, .ireturn, 1), (16, .aload_n 0, 1), (17, .invokevirtual 443, 3), (20, .aload_n 0, 1), (21, .iload_n 1, 1), (22, .iload_n 2, 1), (23, .invokevirtual 466, 3), (26, .aload_n 0, 1), (27, .getfield 7, 3), (30, .sipush 170, 3), (33, .iload_n 1, 1), (34, .iadd, 1), (35, .iaload, 1), (36, .iload_n 2, 1), (37, .invokestatic 388, 3), (40, .ireturn, 1)]
theorem t_M_turn : DT cX11_turn b_M_turn := DT.of (by decide +kernel)
def F_M_turn (x1 : Int) (x2 : Int) (σ : Mm) : Option (Int × Mm) :=
  b1 (F_M_isFigure x1) fun v1 =>
  if v1 = 0 then
    some (0, σ)
  else
    b1 (F_M_isFigure x2) fun v2 =>
    if v2 = 0 then
      some (0, σ)
    else
      b0M (F_M_keepsStep  σ) fun s3 =>
      b0M (F_M_turns2 x1 x2 s3) fun s4 =>
      if 0 ≤ 170 + x1 ∧ 170 + x1 < 5240 then
        b1 (F_M_has (s4 201 ((170 + x1).toNat)) x2) fun v5 =>
        some (v5, s4)
      else none
set_option maxRecDepth 100000 in
set_option maxHeartbeats 4000000 in
theorem c_M_turn (x1 : Int) (hx1 : r32 x1) (x2 : Int) (hx2 : r32 x2) {σ : Mm} {a : Int} {σ2 : Mm} (hf : F_M_turn x1 x2 σ = some (a, σ2)) : CT yX11_turn cX11_turn 3 (some .boolean) 2 1 (fun ad => [.ref (ad 200), .int (i32 x1), .int (i32 x2)]) σ (a = 0 ∨ a = 1) (some (.int (i32 a))) σ2 := by
  refine MetJ 0 (by decide +kernel) rfl (fun _ => Nat.le_of_ble_eq_true rfl) ?_
  intro X h hR ok
  obtain ⟨res, er⟩ : ∃ z, z = (a, σ2) := ⟨_, rfl⟩
  have hret : ∀ y : Int × Mm, some y = some res → RX X 1 (y.1 = 0 ∨ y.1 = 1) (some (.int (i32 (y.1)))) y.2 := fun y e => by cases e; cases er; exact hR
  rw [← er] at hf
  clear er hR
  unfold F_M_turn at hf
  show SW X 1 3 0 [some (.ref (xad X 200)), some (.int (i32 x1)), some (.int (i32 x2))] [] σ
  refine SW_iload_n h rfl (dt t_M_turn 0 rfl) ?_
  obtain ⟨v1, e1, hf⟩ := b1_of hf
  refine cS h [.int (i32 x1)] [] v_X11_isFigure kX11_463 (c_M_isFigure x1 hx1 e1) rfl rfl (by decide) (by decide) rfl (Nat.le_of_ble_eq_true rfl) (dt t_M_turn 1 rfl) (fun h1 => ?_)
  refine SW_if_eq (tgt := 14) h (fun _ => (r_zo h1)) (dt t_M_turn 2 rfl) rfl hf (fun hf => ?_) (fun hf => ?_)
  · refine SW_iconst h (dt t_M_turn 6 rfl) ?_
    exact SW_zret h (hret _ hf) (by decide) rfl (dt t_M_turn 7 rfl)
  · refine SW_iload_n h rfl (dt t_M_turn 3 rfl) ?_
    obtain ⟨v2, e2, hf⟩ := b1_of hf
    refine cS h [.int (i32 x2)] [] v_X11_isFigure kX11_463 (c_M_isFigure x2 hx2 e2) rfl rfl (by decide) (by decide) rfl (Nat.le_of_ble_eq_true rfl) (dt t_M_turn 4 rfl) (fun h2 => ?_)
    refine SW_if_ne (tgt := 16) h (fun _ => (r_zo h2)) (dt t_M_turn 5 rfl) rfl hf (fun hf => ?_) (fun hf => ?_)
    · refine SW_iconst h (dt t_M_turn 6 rfl) ?_
      exact SW_zret h (hret _ hf) (by decide) rfl (dt t_M_turn 7 rfl)
    · refine SW_aload_n h rfl (dt t_M_turn 8 rfl) ?_
      obtain ⟨s3, e3, hf⟩ := b0M_of hf
      refine cVv h [] [] v_X11_keepsStep kX11_443 o200 (c_M_keepsStep  e3) rfl rfl (by decide) (by decide) rfl (Nat.le_of_ble_eq_true rfl) (dt t_M_turn 9 rfl) (fun h3 => ?_)
      refine SW_ok (fun ok3 => ?_)
      refine SW_aload_n h rfl (dt t_M_turn 10 rfl) ?_
      refine SW_iload_n h rfl (dt t_M_turn 11 rfl) ?_
      refine SW_iload_n h rfl (dt t_M_turn 12 rfl) ?_
      obtain ⟨s4, e4, hf⟩ := b0M_of hf
      refine cVv h [.int (i32 x1), .int (i32 x2)] [] v_X11_turns2 kX11_466 o200 (c_M_turns2 x1 hx1 x2 hx2 e4) rfl rfl (by decide) (by decide) rfl (Nat.le_of_ble_eq_true rfl) (dt t_M_turn 13 rfl) (fun h4 => ?_)
      refine SW_ok (fun ok4 => ?_)
      refine SW_aload_n h rfl (dt t_M_turn 14 rfl) ?_
      refine gR h cf11 o200 f11_0 j200_0 lX11_7 (dt t_M_turn 15 rfl) ?_
      refine SW_sipush h (dt t_M_turn 16 rfl) (by decide) ?_
      refine SW_iload_n h rfl (dt t_M_turn 17 rfl) ?_
      refine SW_iadd h (dt t_M_turn 18 rfl) ?_
      refine aI h a201 (dt t_M_turn 19 rfl) hf (fun hf => ?_)
      refine SW_iload_n h rfl (dt t_M_turn 20 rfl) ?_
      obtain ⟨v5, e5, hf⟩ := b1_of hf
      refine cS h [.int (i32 (s4 201 ((170 + x1).toNat))), .int (i32 x2)] [] v_X11_has kX11_388 (c_M_has (s4 201 ((170 + x1).toNat)) (okI ok4 201 ((170 + x1).toNat) (IsA.n3 a201 (by decide))) x2 hx2 e5) rfl rfl (by decide) (by decide) rfl (Nat.le_of_ble_eq_true rfl) (dt t_M_turn 21 rfl) (fun h5 => ?_)
      exact SW_zret h (hret _ hf) h5 rfl (dt t_M_turn 22 rfl)
def b_M_turnBy : List (Nat × Instr × Nat) := [(0, .aload_n 0, 1), (1, .aload_n 0, 1), (2, .getfield 36, 3), (5, .iload_n 1, 1), (6, .iaload, 1), (7, .aload_n 0, 1), (8, .getfield 39, 3), (11, .iload_n 1, 1), (12, .iaload, 1), (13, .invokevirtual 478, 3), (16, .istore_n 2, 1), (17, .iconst 1, 1), (18, .ireturn, 1)]
theorem t_M_turnBy : DT cX11_turnBy b_M_turnBy := DT.of (by decide +kernel)
def F_M_turnBy (x1 : Int) (σ : Mm) : Option (Int × Mm) :=
  if 0 ≤ x1 ∧ x1 < 96 then
    if 0 ≤ x1 ∧ x1 < 96 then
      b1M (F_M_turn (σ 207 x1.toNat) (σ 208 x1.toNat) σ) fun v1 s1 =>
      some (1, s1)
    else none
  else none
set_option maxRecDepth 100000 in
set_option maxHeartbeats 4000000 in
theorem c_M_turnBy (x1 : Int) (hx1 : r32 x1) {σ : Mm} {a : Int} {σ2 : Mm} (hf : F_M_turnBy x1 σ = some (a, σ2)) : CT yX11_turnBy cX11_turnBy 3 (some .boolean) 3 1 (fun ad => [.ref (ad 200), .int (i32 x1)]) σ (a = 0 ∨ a = 1) (some (.int (i32 a))) σ2 := by
  refine MetJ 1 (by decide +kernel) rfl (fun _ => Nat.le_of_ble_eq_true rfl) ?_
  intro X h hR ok
  obtain ⟨res, er⟩ : ∃ z, z = (a, σ2) := ⟨_, rfl⟩
  have hret : ∀ y : Int × Mm, some y = some res → RX X 1 (y.1 = 0 ∨ y.1 = 1) (some (.int (i32 (y.1)))) y.2 := fun y e => by cases e; cases er; exact hR
  rw [← er] at hf
  clear er hR
  unfold F_M_turnBy at hf
  show SW X 1 3 0 [some (.ref (xad X 200)), some (.int (i32 x1)), none] [] σ
  refine SW_aload_n h rfl (dt t_M_turnBy 0 rfl) ?_
  refine SW_aload_n h rfl (dt t_M_turnBy 1 rfl) ?_
  refine gR h cf11 o200 f11_9 j200_9 lX11_36 (dt t_M_turnBy 2 rfl) ?_
  refine SW_iload_n h rfl (dt t_M_turnBy 3 rfl) ?_
  refine aI h a207 (dt t_M_turnBy 4 rfl) hf (fun hf => ?_)
  refine SW_aload_n h rfl (dt t_M_turnBy 5 rfl) ?_
  refine gR h cf11 o200 f11_10 j200_10 lX11_39 (dt t_M_turnBy 6 rfl) ?_
  refine SW_iload_n h rfl (dt t_M_turnBy 7 rfl) ?_
  refine aI h a208 (dt t_M_turnBy 8 rfl) hf (fun hf => ?_)
  obtain ⟨v1, s1, e1, hf⟩ := b1M_of hf
  refine cV h [.int (i32 (σ 207 x1.toNat)), .int (i32 (σ 208 x1.toNat))] [] v_X11_turn kX11_478 o200 (c_M_turn (σ 207 x1.toNat) (okI ok 207 x1.toNat (IsA.n3 a207 (by decide))) (σ 208 x1.toNat) (okI ok 208 x1.toNat (IsA.n3 a208 (by decide))) e1) rfl rfl (by decide) (by decide) rfl (Nat.le_of_ble_eq_true rfl) (dt t_M_turnBy 9 rfl) (fun h1 => ?_)
  refine SW_ok (fun ok1 => ?_)
  refine SW_istore_n (lv2 := [some (.ref (xad X 200)), some (.int (i32 x1)), some (.int (i32 v1))]) h (dt t_M_turnBy 10 rfl) (by decide) rfl ?_
  refine SW_iconst h (dt t_M_turnBy 11 rfl) ?_
  exact SW_zret h (hret _ hf) (by decide) rfl (dt t_M_turnBy 12 rfl)
def b_M_soothe : List (Nat × Instr × Nat) := [(0, .iload_n 1, 1), (1, .invokestatic 463, 3), (4, .ifCond .eq 27, 3), (7, .iload_n 2, 1), (8, .iconst 0, 1), (9, .bipush 9, 2), (11, .invokestatic 150, 3), (14, .ifCond .eq 17, 3), (17, .aload_n 0, 1), (18, .getfield 7, 3), (21, .sipush 140, 3), (24, .iload_n 1, 1), (25, .iadd, 1), (26, .iaload, 1), (27, .iload_n 2, 1), (28, .if_icmp .ne 5, 3), (31, .iconst 0, 1), (32, .ireturn, 1), (33, .aload_n 0, 1), (34, .invokevirtual 443, 3), (37, .aload_n 0, 1), (38, .getfield 7, 3), (41, .sipush 140, 3), (44, .iload_n 1, 1), (45, .iadd, 1), (46, .iload_n 2, 1), (47, .iastore, 1), (48, .iconst 1, 1), (49, .ireturn, 1)]
theorem t_M_soothe : DT cX11_soothe b_M_soothe := DT.of (by decide +kernel)
def F_M_soothe (x1 : Int) (x2 : Int) (σ : Mm) : Option (Int × Mm) :=
  b1 (F_M_isFigure x1) fun v1 =>
  if v1 = 0 then
    some (0, σ)
  else
    b1 (F_M_in x2 0 9) fun v2 =>
    if v2 = 0 then
      some (0, σ)
    else
      if 0 ≤ 140 + x1 ∧ 140 + x1 < 5240 then
        if σ 201 ((140 + x1).toNat) = x2 then
          some (0, σ)
        else
          b0M (F_M_keepsStep  σ) fun s3 =>
          if 0 ≤ 140 + x1 ∧ 140 + x1 < 5240 then
            bindM (st2 s3 201 ((140 + x1).toNat) x2) fun s4 =>
            some (1, s4)
          else none
      else none
set_option maxRecDepth 100000 in
set_option maxHeartbeats 4000000 in
theorem c_M_soothe (x1 : Int) (hx1 : r32 x1) (x2 : Int) (hx2 : r32 x2) {σ : Mm} {a : Int} {σ2 : Mm} (hf : F_M_soothe x1 x2 σ = some (a, σ2)) : CT yX11_soothe cX11_soothe 3 (some .boolean) 2 1 (fun ad => [.ref (ad 200), .int (i32 x1), .int (i32 x2)]) σ (a = 0 ∨ a = 1) (some (.int (i32 a))) σ2 := by
  refine MetJ 0 (by decide +kernel) rfl (fun _ => Nat.le_of_ble_eq_true rfl) ?_
  intro X h hR ok
  obtain ⟨res, er⟩ : ∃ z, z = (a, σ2) := ⟨_, rfl⟩
  have hret : ∀ y : Int × Mm, some y = some res → RX X 1 (y.1 = 0 ∨ y.1 = 1) (some (.int (i32 (y.1)))) y.2 := fun y e => by cases e; cases er; exact hR
  rw [← er] at hf
  clear er hR
  unfold F_M_soothe at hf
  show SW X 1 3 0 [some (.ref (xad X 200)), some (.int (i32 x1)), some (.int (i32 x2))] [] σ
  refine SW_iload_n h rfl (dt t_M_soothe 0 rfl) ?_
  obtain ⟨v1, e1, hf⟩ := b1_of hf
  refine cS h [.int (i32 x1)] [] v_X11_isFigure kX11_463 (c_M_isFigure x1 hx1 e1) rfl rfl (by decide) (by decide) rfl (Nat.le_of_ble_eq_true rfl) (dt t_M_soothe 1 rfl) (fun h1 => ?_)
  refine SW_if_eq (tgt := 31) h (fun _ => (r_zo h1)) (dt t_M_soothe 2 rfl) rfl hf (fun hf => ?_) (fun hf => ?_)
  · refine SW_iconst h (dt t_M_soothe 16 rfl) ?_
    exact SW_zret h (hret _ hf) (by decide) rfl (dt t_M_soothe 17 rfl)
  · refine SW_iload_n h rfl (dt t_M_soothe 3 rfl) ?_
    refine SW_iconst h (dt t_M_soothe 4 rfl) ?_
    refine SW_bipush h (dt t_M_soothe 5 rfl) (by decide) ?_
    obtain ⟨v2, e2, hf⟩ := b1_of hf
    refine cS h [.int (i32 x2), .int (i32 0), .int (i32 9)] [] v_X11_in kX11_150 (c_M_in x2 hx2 0 (by decide) 9 (by decide) e2) rfl rfl (by decide) (by decide) rfl (Nat.le_of_ble_eq_true rfl) (dt t_M_soothe 6 rfl) (fun h2 => ?_)
    refine SW_if_eq (tgt := 31) h (fun _ => (r_zo h2)) (dt t_M_soothe 7 rfl) rfl hf (fun hf => ?_) (fun hf => ?_)
    · refine SW_iconst h (dt t_M_soothe 16 rfl) ?_
      exact SW_zret h (hret _ hf) (by decide) rfl (dt t_M_soothe 17 rfl)
    · refine SW_aload_n h rfl (dt t_M_soothe 8 rfl) ?_
      refine gR h cf11 o200 f11_0 j200_0 lX11_7 (dt t_M_soothe 9 rfl) ?_
      refine SW_sipush h (dt t_M_soothe 10 rfl) (by decide) ?_
      refine SW_iload_n h rfl (dt t_M_soothe 11 rfl) ?_
      refine SW_iadd h (dt t_M_soothe 12 rfl) ?_
      refine aI h a201 (dt t_M_soothe 13 rfl) hf (fun hf => ?_)
      refine SW_iload_n h rfl (dt t_M_soothe 14 rfl) ?_
      refine SW_icmp_ne (tgt := 33) h (fun _ => (okI ok 201 ((140 + x1).toNat) (IsA.n3 a201 (by decide)))) (fun _ => hx2) (dt t_M_soothe 15 rfl) rfl hf (fun hf => ?_) (fun hf => ?_)
      · refine SW_iconst h (dt t_M_soothe 16 rfl) ?_
        exact SW_zret h (hret _ hf) (by decide) rfl (dt t_M_soothe 17 rfl)
      · refine SW_aload_n h rfl (dt t_M_soothe 18 rfl) ?_
        obtain ⟨s3, e3, hf⟩ := b0M_of hf
        refine cVv h [] [] v_X11_keepsStep kX11_443 o200 (c_M_keepsStep  e3) rfl rfl (by decide) (by decide) rfl (Nat.le_of_ble_eq_true rfl) (dt t_M_soothe 19 rfl) (fun h3 => ?_)
        refine SW_ok (fun ok3 => ?_)
        refine SW_aload_n h rfl (dt t_M_soothe 20 rfl) ?_
        refine gR h cf11 o200 f11_0 j200_0 lX11_7 (dt t_M_soothe 21 rfl) ?_
        refine SW_sipush h (dt t_M_soothe 22 rfl) (by decide) ?_
        refine SW_iload_n h rfl (dt t_M_soothe 23 rfl) ?_
        refine SW_iadd h (dt t_M_soothe 24 rfl) ?_
        refine SW_iload_n h rfl (dt t_M_soothe 25 rfl) ?_
        refine sI h a201 hx2 (dt t_M_soothe 26 rfl) hf (fun hf => SW_bm hf (fun s4 ok4 hf => ?_))
        refine SW_iconst h (dt t_M_soothe 27 rfl) ?_
        exact SW_zret h (hret _ hf) (by decide) rfl (dt t_M_soothe 28 rfl)
def b_M_played : List (Nat × Instr × Nat) := [(0, .iload_n 1, 1), (1, .iconst 0, 1), (2, .aload_n 0, 1), (3, .getfield 7, 3), (6, .iconst 1, 1), (7, .iaload, 1), (8, .iconst 1, 1), (9, .isub, 1), (10, .invokestatic 150, 3), (13, .ifCond .ne 6, 3), (16, .bipush (-2), 2), (18, .ireturn, 1), (19, .iconst 0, 1), (20, .istore_n 2, 1), (21, .iload_n 2, 1), (22, .aload_n 0, 1), (23, .getfield 27, 3), (26, .iload_n 1, 1), (27, .iaload, 1), (28, .if_icmp .ge 147, 3), (31, .bipush 24, 2), (33, .iload_n 1, 1), (34, .imul, 1), (35, .iload_n 2, 1), (36, .iadd, 1), (37, .istore_n 3, 1), (38, .iconst 1, 1), (39, .istore 4, 2), (41, .aload_n 0, 1), (42, .getfield 30, 3), (45, .iload_n 3, 1), (46, .iaload, 1), (47, .tableswitch 115 3 7 #[33, 43, 69, 79, 100], 33), (80, .aload_n 0, 1), (81, .iload_n 3, 1), (82, .invokevirtual 481, 3), (85, .istore 4, 2), (87, .goto 75, 3), (90, .aload_n 0, 1), (91, .aload_n 0, 1), (92, .getfield 36, 3), (95, .iload_n 3, 1), (96, .iaload, 1), (97, .invokevirtual 484, 3), (100, .ldc_w 442, 3), (103, .if_icmp .eq 7, 3), (106, .iconst 1, 1), (107, .goto 4, 3), (110, .iconst 0, 1), (111, .istore 4, 2), (113, .goto 49, 3), (116, .aload_n 0, 1), (117, .iload_n 3, 1), (118, .invokevirtual 487, 3), (121, .istore 4, 2), (123, .goto 39, 3), (126, .aload_n 0, 1), (127, .aload_n 0, 1), (128, .getfield 36, 3), (131, .iload_n 3, 1), (132, .iaload, 1), (133, .aload_n 0, 1), (134, .getfield 39, 3), (137, .iload_n 3, 1), (138, .iaload, 1), (139, .invokevirtual 490, 3), (142, .istore 4, 2), (144, .goto 18, 3), (147, .aload_n 0, 1), (148, .aload_n 0, 1), (149, .getfield 36, 3), (152, .iload_n 3, 1), (153, .iaload, 1), (154, .invokevirtual 493, 3), (157, .istore 4, 2), (159, .goto 3, 3), (162, .iload 4, 2), (164, .ifCond .ne 5, 3), (167, .iload_n 2, 1), (168, .ireturn, 1), (169, .iinc 2 1, 3), (172, .goto (-151), 3), (175, .iconst (-1), 1), (176, .ireturn, 1)]
theorem t_M_played : DT cX11_played b_M_played := DT.of (by decide +kernel)
def L_M_played_21 : Nat → Int → Int → Mm → Option ((Int × Mm) ⊕ (Mm))
  | 0, _, _, _ => none
  | n + 1, x1, x2, σ =>
    if 0 ≤ x1 ∧ x1 < 4 then
      if σ 204 x1.toNat ≤ x2 then
        some (.inr σ)
      else
        bindM ((24 * x1) + x2) fun v3 =>
        if 0 ≤ v3 ∧ v3 < 96 then
          bindM (fun (x4_4 : Int) (t4 : Mm) =>
            if x4_4 = 0 then
              some (.inl (x2, t4))
            else
              if r32 (x2 + 1) then
                L_M_played_21 n x1 (x2 + 1) t4
              else none) fun J4 =>
          if σ 205 v3.toNat = 3 then
            if r32 v3 then
              b1M (F_M_rowBy v3 σ) fun v7 s7 =>
              J4 v7 s7
            else none
          else
            if σ 205 v3.toNat = 4 then
              if 0 ≤ v3 ∧ v3 < 96 then
                b1M (F_M_reckon (σ 207 v3.toNat) σ) fun v10 s10 =>
                bindM ((if v10 = (-1000000) then 0 else 1 : Int)) fun v11 =>
                J4 v11 s10
              else none
            else
              if σ 205 v3.toNat = 5 then
                if r32 v3 then
                  b1M (F_M_turnBy v3 σ) fun v13 s13 =>
                  J4 v13 s13
                else none
              else
                if σ 205 v3.toNat = 6 then
                  if 0 ≤ v3 ∧ v3 < 96 then
                    if 0 ≤ v3 ∧ v3 < 96 then
                      b1M (F_M_soothe (σ 207 v3.toNat) (σ 208 v3.toNat) σ) fun v16 s16 =>
                      J4 v16 s16
                    else none
                  else none
                else
                  if σ 205 v3.toNat = 7 then
                    if 0 ≤ v3 ∧ v3 < 96 then
                      b1M (F_M_days (σ 207 v3.toNat) σ) fun v18 s18 =>
                      J4 v18 s18
                    else none
                  else
                    J4 1 σ
        else none
    else none
set_option maxRecDepth 100000 in
set_option maxHeartbeats 4000000 in
theorem l_M_played_21 {X : Cx} (h : CX X 1 cX11_played 5 11 (some .int) RX11) (x1 : Int) (hx1 : r32 x1) {res : (Int × Mm) ⊕ (Mm)} (hret : ∀ y : Int × Mm, some (.inl y) = some res → RX X 1 (r32 (y.1)) (some (.int (i32 (y.1)))) y.2) (hex : ∀  (σ : Mm) (hz : some (.inr σ) = some res)  (ok : okM σ), SW X 1 5 175 [none, none, none, none, none] [] σ) : ∀ (n : Nat) (x2 : Int) (σ : Mm) (hx2 : r32 x2) (ok : okM σ) (hf : L_M_played_21 n x1 x2 σ = some res), SW X 1 5 21 [some (.ref (xad X 200)), some (.int (i32 x1)), some (.int (i32 x2)), none, none] [] σ := by
  intro n
  induction n with
  | zero => intro x2 σ hx2 ok hf; exact absurd hf (by simp [L_M_played_21])
  | succ n ih =>
    intro x2 σ hx2 ok hf
    rw [L_M_played_21] at hf
    refine SW_iload_n h rfl (dt t_M_played 14 rfl) ?_
    refine SW_aload_n h rfl (dt t_M_played 15 rfl) ?_
    refine gR h cf11 o200 f11_6 j200_6 lX11_27 (dt t_M_played 16 rfl) ?_
    refine SW_iload_n h rfl (dt t_M_played 17 rfl) ?_
    refine aI h a204 (dt t_M_played 18 rfl) hf (fun hf => ?_)
    refine SW_icmp_ge (tgt := 175) h (fun _ => hx2) (fun _ => (okI ok 204 x1.toNat (IsA.n3 a204 (by decide)))) (dt t_M_played 19 rfl) rfl hf (fun hf => ?_) (fun hf => ?_)
    · exact SW_fgt [false, false, false, false, false] rfl (hex σ hf ok)
    · refine SW_bipush h (dt t_M_played 20 rfl) (by decide) ?_
      refine SW_iload_n h rfl (dt t_M_played 21 rfl) ?_
      refine SW_imul h (dt t_M_played 22 rfl) ?_
      refine SW_iload_n h rfl (dt t_M_played 23 rfl) ?_
      refine SW_iadd h (dt t_M_played 24 rfl) ?_
      refine SW_vu hf (fun v3 hf => ?_)
      refine SW_istore_n (lv2 := [some (.ref (xad X 200)), some (.int (i32 x1)), some (.int (i32 x2)), some (.int (i32 v3)), none]) h (dt t_M_played 25 rfl) (by decide) rfl ?_
      refine SW_iconst h (dt t_M_played 26 rfl) ?_
      refine SW_istore (lv2 := [some (.ref (xad X 200)), some (.int (i32 x1)), some (.int (i32 x2)), some (.int (i32 v3)), some (.int (i32 1))]) h (dt t_M_played 27 rfl) (by decide) rfl ?_
      refine SW_aload_n h rfl (dt t_M_played 28 rfl) ?_
      refine gR h cf11 o200 f11_7 j200_7 lX11_30 (dt t_M_played 29 rfl) ?_
      refine SW_iload_n h rfl (dt t_M_played 30 rfl) ?_
      refine aI h a205 (dt t_M_played 31 rfl) hf (fun hf => ?_)
      refine bJ hf (fun J4 e4 hf => ?_)
      have k4 : ∀ (x4_4 : Int) (t4 : Mm) (hx4_4 : r32 x4_4) (ot4 : okM t4) (hf : J4 x4_4 t4 = some res), SW X 1 5 162 [some (.ref (xad X 200)), some (.int (i32 x1)), some (.int (i32 x2)), none, some (.int (i32 x4_4))] [] t4 := by
        intro x4_4 t4 hx4_4 ot4 hf
        rw [e4] at hf
        refine SW_iload h rfl (dt t_M_played 76 rfl) ?_
        refine SW_if_ne (tgt := 169) h (fun _ => hx4_4) (dt t_M_played 77 rfl) rfl hf (fun hf => ?_) (fun hf => ?_)
        · refine SW_iload_n h rfl (dt t_M_played 78 rfl) ?_
          exact SW_iret h (hret _ hf) (fun _ => hx2) rfl (dt t_M_played 79 rfl)
        · refine SW_iinc (lv2 := [some (.ref (xad X 200)), some (.int (i32 x1)), some (.int (i32 (x2 + 1))), none, some (.int (i32 x4_4))]) h (dt t_M_played 80 rfl) rfl (by decide) rfl ?_
          refine SW_goto (tgt := 21) h (dt t_M_played 81 rfl) rfl ?_
          refine SW_chk hf (fun h5 hf => ?_)
          exact SW_fgt [true, true, true, false, false] rfl (ih (x2 + 1) t4 h5 ot4 hf)
      refine SW_ite hf (fun h6 hf => ?_) (fun h6 hf => ?_)
      · refine SW_tabIn (tgt := 80) h 0 (fun _ => (okI ok 205 v3.toNat (IsA.n3 a205 (by decide)))) (dt t_M_played 32 rfl) (h6.trans rfl) (by decide) rfl rfl ?_
        refine SW_aload_n h rfl (dt t_M_played 33 rfl) ?_
        refine SW_iload_n h rfl (dt t_M_played 34 rfl) ?_
        refine SW_chk hf (fun h8 hf => ?_)
        obtain ⟨v7, s7, e7, hf⟩ := b1M_of hf
        refine cV h [.int (i32 v3)] [] v_X11_rowBy kX11_481 o200 (c_M_rowBy v3 h8 e7) rfl rfl (by decide) (by decide) rfl (Nat.le_of_ble_eq_true rfl) (dt t_M_played 35 rfl) (fun h7 => ?_)
        refine SW_ok (fun ok7 => ?_)
        refine SW_istore (lv2 := [some (.ref (xad X 200)), some (.int (i32 x1)), some (.int (i32 x2)), some (.int (i32 v3)), some (.int (i32 v7))]) h (dt t_M_played 36 rfl) (by decide) rfl ?_
        refine SW_goto (tgt := 162) h (dt t_M_played 37 rfl) rfl ?_
        exact SW_fgt [true, true, true, false, true] rfl (k4 v7 s7 (r_zo h7) ok7 hf)
      · refine SW_ite hf (fun h9 hf => ?_) (fun h9 hf => ?_)
        · refine SW_tabIn (tgt := 90) h 1 (fun _ => (okI ok 205 v3.toNat (IsA.n3 a205 (by decide)))) (dt t_M_played 32 rfl) (h9.trans rfl) (by decide) rfl rfl ?_
          refine SW_aload_n h rfl (dt t_M_played 38 rfl) ?_
          refine SW_aload_n h rfl (dt t_M_played 39 rfl) ?_
          refine gR h cf11 o200 f11_9 j200_9 lX11_36 (dt t_M_played 40 rfl) ?_
          refine SW_iload_n h rfl (dt t_M_played 41 rfl) ?_
          refine aI h a207 (dt t_M_played 42 rfl) hf (fun hf => ?_)
          obtain ⟨v10, s10, e10, hf⟩ := b1M_of hf
          refine cV h [.int (i32 (σ 207 v3.toNat))] [] v_X11_reckon kX11_484 o200 (c_M_reckon (σ 207 v3.toNat) (okI ok 207 v3.toNat (IsA.n3 a207 (by decide))) e10) rfl rfl (by decide) (by decide) rfl (Nat.le_of_ble_eq_true rfl) (dt t_M_played 43 rfl) (fun h10 => ?_)
          refine SW_ok (fun ok10 => ?_)
          refine SW_ldcw (n := -1000000) h nX11_442 (by decide) (dt t_M_played 44 rfl) ?_
          refine bT hf (fun g11 e11 hf => ?_)
          have k11 : ∀ (v11 : Int) (h11 : r32 v11) (hf : g11 v11 = some res), SW X 1 5 111 [some (.ref (xad X 200)), some (.int (i32 x1)), some (.int (i32 x2)), some (.int (i32 v3)), some (.int (i32 1))] [.int (i32 v11)] s10 := by
            intro v11 h11 hf
            rw [e11] at hf
            refine SW_istore (lv2 := [some (.ref (xad X 200)), some (.int (i32 x1)), some (.int (i32 x2)), some (.int (i32 v3)), some (.int (i32 v11))]) h (dt t_M_played 49 rfl) (by decide) rfl ?_
            refine SW_goto (tgt := 162) h (dt t_M_played 50 rfl) rfl ?_
            exact SW_fgt [true, true, true, false, true] rfl (k4 v11 s10 h11 ok10 hf)
          have hf := bIte hf
          refine SW_icmp_eq (tgt := 110) h (fun _ => h10) (fun _ => (by decide)) (dt t_M_played 45 rfl) rfl hf (fun hf => ?_) (fun hf => ?_)
          · refine SW_iconst h (dt t_M_played 48 rfl) ?_
            exact k11 0 (by decide) hf
          · refine SW_iconst h (dt t_M_played 46 rfl) ?_
            refine SW_goto (tgt := 111) h (dt t_M_played 47 rfl) rfl ?_
            exact k11 1 (by decide) hf
        · refine SW_ite hf (fun h12 hf => ?_) (fun h12 hf => ?_)
          · refine SW_tabIn (tgt := 116) h 2 (fun _ => (okI ok 205 v3.toNat (IsA.n3 a205 (by decide)))) (dt t_M_played 32 rfl) (h12.trans rfl) (by decide) rfl rfl ?_
            refine SW_aload_n h rfl (dt t_M_played 51 rfl) ?_
            refine SW_iload_n h rfl (dt t_M_played 52 rfl) ?_
            refine SW_chk hf (fun h14 hf => ?_)
            obtain ⟨v13, s13, e13, hf⟩ := b1M_of hf
            refine cV h [.int (i32 v3)] [] v_X11_turnBy kX11_487 o200 (c_M_turnBy v3 h14 e13) rfl rfl (by decide) (by decide) rfl (Nat.le_of_ble_eq_true rfl) (dt t_M_played 53 rfl) (fun h13 => ?_)
            refine SW_ok (fun ok13 => ?_)
            refine SW_istore (lv2 := [some (.ref (xad X 200)), some (.int (i32 x1)), some (.int (i32 x2)), some (.int (i32 v3)), some (.int (i32 v13))]) h (dt t_M_played 54 rfl) (by decide) rfl ?_
            refine SW_goto (tgt := 162) h (dt t_M_played 55 rfl) rfl ?_
            exact SW_fgt [true, true, true, false, true] rfl (k4 v13 s13 (r_zo h13) ok13 hf)
          · refine SW_ite hf (fun h15 hf => ?_) (fun h15 hf => ?_)
            · refine SW_tabIn (tgt := 126) h 3 (fun _ => (okI ok 205 v3.toNat (IsA.n3 a205 (by decide)))) (dt t_M_played 32 rfl) (h15.trans rfl) (by decide) rfl rfl ?_
              refine SW_aload_n h rfl (dt t_M_played 56 rfl) ?_
              refine SW_aload_n h rfl (dt t_M_played 57 rfl) ?_
              refine gR h cf11 o200 f11_9 j200_9 lX11_36 (dt t_M_played 58 rfl) ?_
              refine SW_iload_n h rfl (dt t_M_played 59 rfl) ?_
              refine aI h a207 (dt t_M_played 60 rfl) hf (fun hf => ?_)
              refine SW_aload_n h rfl (dt t_M_played 61 rfl) ?_
              refine gR h cf11 o200 f11_10 j200_10 lX11_39 (dt t_M_played 62 rfl) ?_
              refine SW_iload_n h rfl (dt t_M_played 63 rfl) ?_
              refine aI h a208 (dt t_M_played 64 rfl) hf (fun hf => ?_)
              obtain ⟨v16, s16, e16, hf⟩ := b1M_of hf
              refine cV h [.int (i32 (σ 207 v3.toNat)), .int (i32 (σ 208 v3.toNat))] [] v_X11_soothe kX11_490 o200 (c_M_soothe (σ 207 v3.toNat) (okI ok 207 v3.toNat (IsA.n3 a207 (by decide))) (σ 208 v3.toNat) (okI ok 208 v3.toNat (IsA.n3 a208 (by decide))) e16) rfl rfl (by decide) (by decide) rfl (Nat.le_of_ble_eq_true rfl) (dt t_M_played 65 rfl) (fun h16 => ?_)
              refine SW_ok (fun ok16 => ?_)
              refine SW_istore (lv2 := [some (.ref (xad X 200)), some (.int (i32 x1)), some (.int (i32 x2)), some (.int (i32 v3)), some (.int (i32 v16))]) h (dt t_M_played 66 rfl) (by decide) rfl ?_
              refine SW_goto (tgt := 162) h (dt t_M_played 67 rfl) rfl ?_
              exact SW_fgt [true, true, true, false, true] rfl (k4 v16 s16 (r_zo h16) ok16 hf)
            · refine SW_ite hf (fun h17 hf => ?_) (fun h17 hf => ?_)
              · refine SW_tabIn (tgt := 147) h 4 (fun _ => (okI ok 205 v3.toNat (IsA.n3 a205 (by decide)))) (dt t_M_played 32 rfl) (h17.trans rfl) (by decide) rfl rfl ?_
                refine SW_aload_n h rfl (dt t_M_played 68 rfl) ?_
                refine SW_aload_n h rfl (dt t_M_played 69 rfl) ?_
                refine gR h cf11 o200 f11_9 j200_9 lX11_36 (dt t_M_played 70 rfl) ?_
                refine SW_iload_n h rfl (dt t_M_played 71 rfl) ?_
                refine aI h a207 (dt t_M_played 72 rfl) hf (fun hf => ?_)
                obtain ⟨v18, s18, e18, hf⟩ := b1M_of hf
                refine cV h [.int (i32 (σ 207 v3.toNat))] [] v_X11_days kX11_493 o200 (c_M_days (σ 207 v3.toNat) (okI ok 207 v3.toNat (IsA.n3 a207 (by decide))) e18) rfl rfl (by decide) (by decide) rfl (Nat.le_of_ble_eq_true rfl) (dt t_M_played 73 rfl) (fun h18 => ?_)
                refine SW_ok (fun ok18 => ?_)
                refine SW_istore (lv2 := [some (.ref (xad X 200)), some (.int (i32 x1)), some (.int (i32 x2)), some (.int (i32 v3)), some (.int (i32 v18))]) h (dt t_M_played 74 rfl) (by decide) rfl ?_
                refine SW_goto (tgt := 162) h (dt t_M_played 75 rfl) rfl ?_
                exact SW_fgt [true, true, true, false, true] rfl (k4 v18 s18 (r_zo h18) ok18 hf)
              · refine SW_tabOut (tgt := 162) h (fun _ => (okI ok 205 v3.toNat (IsA.n3 a205 (by decide)))) (dt t_M_played 32 rfl) (by omega) rfl ?_
                exact SW_fgt [true, true, true, false, true] rfl (k4 1 σ (by decide) ok hf)
def F_M_played (x1 : Int) (σ : Mm) : Option (Int × Mm) :=
  if r32 ((σ 201 1) - 1) then
    b1 (F_M_in x1 0 ((σ 201 1) - 1)) fun v1 =>
    if v1 = 0 then
      some ((-2), σ)
    else
      b0MS (L_M_played_21 LF x1 0 σ) (fun y => some y) fun s19 =>
      some ((-1), s19)
  else none
set_option maxRecDepth 100000 in
set_option maxHeartbeats 4000000 in
theorem c_M_played (x1 : Int) (hx1 : r32 x1) {σ : Mm} {a : Int} {σ2 : Mm} (hf : F_M_played x1 σ = some (a, σ2)) : CT yX11_played cX11_played 5 (some .int) 11 1 (fun ad => [.ref (ad 200), .int (i32 x1)]) σ (r32 a) (some (.int (i32 a))) σ2 := by
  refine MetJ 3 (by decide +kernel) rfl (fun _ => Nat.le_of_ble_eq_true rfl) ?_
  intro X h hR ok
  obtain ⟨res, er⟩ : ∃ z, z = (a, σ2) := ⟨_, rfl⟩
  have hret : ∀ y : Int × Mm, some y = some res → RX X 1 (r32 (y.1)) (some (.int (i32 (y.1)))) y.2 := fun y e => by cases e; cases er; exact hR
  rw [← er] at hf
  clear er hR
  unfold F_M_played at hf
  show SW X 1 5 0 [some (.ref (xad X 200)), some (.int (i32 x1)), none, none, none] [] σ
  refine SW_iload_n h rfl (dt t_M_played 0 rfl) ?_
  refine SW_iconst h (dt t_M_played 1 rfl) ?_
  refine SW_aload_n h rfl (dt t_M_played 2 rfl) ?_
  refine gR h cf11 o200 f11_0 j200_0 lX11_7 (dt t_M_played 3 rfl) ?_
  refine SW_iconst h (dt t_M_played 4 rfl) ?_
  refine aIk h a201 (by decide) (dt t_M_played 5 rfl) ?_
  refine SW_iconst h (dt t_M_played 6 rfl) ?_
  refine SW_isub h (dt t_M_played 7 rfl) ?_
  refine SW_chk hf (fun h2 hf => ?_)
  obtain ⟨v1, e1, hf⟩ := b1_of hf
  refine cS h [.int (i32 x1), .int (i32 0), .int (i32 ((σ 201 1) - 1))] [] v_X11_in kX11_150 (c_M_in x1 hx1 0 (by decide) ((σ 201 1) - 1) h2 e1) rfl rfl (by decide) (by decide) rfl (Nat.le_of_ble_eq_true rfl) (dt t_M_played 8 rfl) (fun h1 => ?_)
  refine SW_if_ne (tgt := 19) h (fun _ => (r_zo h1)) (dt t_M_played 9 rfl) rfl hf (fun hf => ?_) (fun hf => ?_)
  · refine SW_bipush h (dt t_M_played 10 rfl) (by decide) ?_
    exact SW_iret h (hret _ hf) (fun _ => (by decide)) rfl (dt t_M_played 11 rfl)
  · refine SW_iconst h (dt t_M_played 12 rfl) ?_
    refine SW_istore_n (lv2 := [some (.ref (xad X 200)), some (.int (i32 x1)), some (.int (i32 0)), none, none]) h (dt t_M_played 13 rfl) (by decide) rfl ?_
    obtain ⟨z19, e19, g19, hk19⟩ := b0MS_of hf
    refine SW_fgt [true, true, true, false, false] rfl (l_M_played_21 h x1 hx1 (fun y e => hret y (g19 y (Option.some.inj e).symm)) (fun s19 hz19 ok19 => ?_) LF 0 σ (by decide) ok e19)
    have hf := hk19 s19 (Option.some.inj hz19).symm
    refine SW_iconst h (dt t_M_played 82 rfl) ?_
    exact SW_iret h (hret _ hf) (fun _ => (by decide)) rfl (dt t_M_played 83 rfl)
def b_M_ring : List (Nat × Instr × Nat) := [(0, .aload_n 0, 1), (1, .invokevirtual 446, 3), (4, .aload_n 0, 1), (5, .invokevirtual 573, 3), (8, .istore_n 2, 1), (9, .iload_n 2, 1), (10, .iconst (-1), 1), (11, .if_icmp .eq 14, 3), (14, .iload_n 1, 1), (15, .bipush (-2), 2), (17, .if_icmp .lt 8, 3), (20, .iload_n 1, 1), (21, .iload_n 2, 1), (22, .if_icmp .lt 5, 3), (25, .iconst (-1), 1), (26, .ireturn, 1), (27, .iload_n 1, 1), (28, .iconst (-1), 1), (29, .if_icmp .lt 19, 3), (32, .iload_n 1, 1), (33, .iconst (-1), 1), (34, .if_icmp .ne 7, 3), (37, .iload_n 2, 1), (38, .goto 9, 3), (41, .aload_n 0, 1), (42, .getfield 143, 3), (45, .iload_n 1, 1), (46, .iaload, 1), (47, .ireturn, 1), (48, .aload_n 0, 1), (49, .aload_n 0, 1), (50, .getfield 143, 3), (53, .iconst 0, 1), (54, .iaload, 1), (55, .aload_n 0, 1), (56, .getfield 143, 3), (59, .iconst 1, 1), (60, .iaload, 1), (61, .invokevirtual 564, 3), (64, .istore_n 3, 1), (65, .iconst 1, 1), (66, .istore 4, 2), (68, .iload 4, 2), (70, .iload_n 2, 1), (71, .if_icmp .ge 46, 3), (74, .aload_n 0, 1), (75, .aload_n 0, 1), (76, .getfield 143, 3), (79, .iload 4, 2), (81, .iaload, 1), (82, .aload_n 0, 1), (83, .getfield 143, 3), (86, .iload 4, 2), (88, .iconst 1, 1), (89, .iadd, 1), (90, .iload_n 2, 1), (91, .irem, 1), (92, .iaload, 1), (93, .invokevirtual 564, 3), (96, .istore 5, 2), (98, .iload 5, 2), (100, .iload_n 3, 1), (101, .if_icmp .ge 8, 3), (104, .iload 5, 2), (106, .goto 4, 3), (109, .iload_n 3, 1), (110, .istore_n 3, 1), (111, .iinc 4 1, 3), (114, .goto (-46), 3), (117, .iload_n 3, 1), (118, .ireturn, 1)]
theorem t_M_ring : DT cX11_ring b_M_ring := DT.of (by decide +kernel)
def L_M_ring_68 : Nat → Int → Int → Int → Mm → Option (Int × Mm)
  | 0, _, _, _, _ => none
  | n + 1, x2, x3, x4, σ =>
    if x2 ≤ x4 then
      some ((x3, σ))
    else
      if 0 ≤ x4 ∧ x4 < 6 then
        if r32 (x4 + 1) then
          if ¬ x2 = 0 then
            if 0 ≤ (x4 + 1).tmod x2 ∧ (x4 + 1).tmod x2 < 6 then
              b1M (F_M_owedBy (σ 242 x4.toNat) (σ 242 (((x4 + 1).tmod x2).toNat)) σ) fun v6 s6 =>
              bindM ((if x3 ≤ v6 then x3 else v6 : Int)) fun v7 =>
              if r32 (x4 + 1) then
                L_M_ring_68 n x2 v7 (x4 + 1) s6
              else none
            else none
          else none
        else none
      else none
set_option maxRecDepth 100000 in
set_option maxHeartbeats 4000000 in
theorem l_M_ring_68 {X : Cx} (h : CX X 1 cX11_ring 6 9 (some .int) RX11) (x2 : Int) (hx2 : r32 x2) {res : Int × Mm} (hex : ∀ (x3 : Int) (σ : Mm) (hz : some ((x3, σ)) = some res) (hx3 : r32 x3) (ok : okM σ), SW X 1 6 117 [none, none, none, some (.int (i32 x3)), none, none] [] σ) : ∀ (n : Nat) (x3 : Int) (x4 : Int) (σ : Mm) (hx3 : r32 x3) (hx4 : r32 x4) (ok : okM σ) (hf : L_M_ring_68 n x2 x3 x4 σ = some res), SW X 1 6 68 [some (.ref (xad X 200)), none, some (.int (i32 x2)), some (.int (i32 x3)), some (.int (i32 x4)), none] [] σ := by
  intro n
  induction n with
  | zero => intro x3 x4 σ hx3 hx4 ok hf; exact absurd hf (by simp [L_M_ring_68])
  | succ n ih =>
    intro x3 x4 σ hx3 hx4 ok hf
    rw [L_M_ring_68] at hf
    refine SW_iload h rfl (dt t_M_ring 42 rfl) ?_
    refine SW_iload_n h rfl (dt t_M_ring 43 rfl) ?_
    refine SW_icmp_ge (tgt := 117) h (fun _ => hx4) (fun _ => hx2) (dt t_M_ring 44 rfl) rfl hf (fun hf => ?_) (fun hf => ?_)
    · exact SW_fgt [false, false, false, true, false, false] rfl (hex x3 σ hf hx3 ok)
    · refine SW_aload_n h rfl (dt t_M_ring 45 rfl) ?_
      refine SW_aload_n h rfl (dt t_M_ring 46 rfl) ?_
      refine gR h cf11 o200 f11_64 j200_64 lX11_143 (dt t_M_ring 47 rfl) ?_
      refine SW_iload h rfl (dt t_M_ring 48 rfl) ?_
      refine aI h a242 (dt t_M_ring 49 rfl) hf (fun hf => ?_)
      refine SW_aload_n h rfl (dt t_M_ring 50 rfl) ?_
      refine gR h cf11 o200 f11_64 j200_64 lX11_143 (dt t_M_ring 51 rfl) ?_
      refine SW_iload h rfl (dt t_M_ring 52 rfl) ?_
      refine SW_iconst h (dt t_M_ring 53 rfl) ?_
      refine SW_iadd h (dt t_M_ring 54 rfl) ?_
      refine SW_iload_n h rfl (dt t_M_ring 55 rfl) ?_
      refine SW_chk hf (fun h4 hf => ?_)
      refine SW_chk hf (fun h5 hf => ?_)
      refine SW_irem h (fun _ => h4) (fun _ => hx2) h5 (dt t_M_ring 56 rfl) ?_
      refine aI h a242 (dt t_M_ring 57 rfl) hf (fun hf => ?_)
      obtain ⟨v6, s6, e6, hf⟩ := b1M_of hf
      refine cV h [.int (i32 (σ 242 x4.toNat)), .int (i32 (σ 242 (((x4 + 1).tmod x2).toNat)))] [] v_X11_owedBy kX11_564 o200 (c_M_owedBy (σ 242 x4.toNat) (okI ok 242 x4.toNat (IsA.n3 a242 (by decide))) (σ 242 (((x4 + 1).tmod x2).toNat)) (okI ok 242 (((x4 + 1).tmod x2).toNat) (IsA.n3 a242 (by decide))) e6) rfl rfl (by decide) (by decide) rfl (Nat.le_of_ble_eq_true rfl) (dt t_M_ring 58 rfl) (fun h6 => ?_)
      refine SW_ok (fun ok6 => ?_)
      refine SW_istore (lv2 := [some (.ref (xad X 200)), none, some (.int (i32 x2)), some (.int (i32 x3)), some (.int (i32 x4)), some (.int (i32 v6))]) h (dt t_M_ring 59 rfl) (by decide) rfl ?_
      refine SW_iload h rfl (dt t_M_ring 60 rfl) ?_
      refine SW_iload_n h rfl (dt t_M_ring 61 rfl) ?_
      refine bT hf (fun g7 e7 hf => ?_)
      have k7 : ∀ (v7 : Int) (h7 : r32 v7) (hf : g7 v7 = some res), SW X 1 6 110 [some (.ref (xad X 200)), none, some (.int (i32 x2)), some (.int (i32 x3)), some (.int (i32 x4)), some (.int (i32 v6))] [.int (i32 v7)] s6 := by
        intro v7 h7 hf
        rw [e7] at hf
        refine SW_istore_n (lv2 := [some (.ref (xad X 200)), none, some (.int (i32 x2)), some (.int (i32 v7)), some (.int (i32 x4)), some (.int (i32 v6))]) h (dt t_M_ring 66 rfl) (by decide) rfl ?_
        refine SW_iinc (lv2 := [some (.ref (xad X 200)), none, some (.int (i32 x2)), some (.int (i32 v7)), some (.int (i32 (x4 + 1))), some (.int (i32 v6))]) h (dt t_M_ring 67 rfl) rfl (by decide) rfl ?_
        refine SW_goto (tgt := 68) h (dt t_M_ring 68 rfl) rfl ?_
        refine SW_chk hf (fun h8 hf => ?_)
        exact SW_fgt [true, false, true, true, true, false] rfl (ih v7 (x4 + 1) s6 h7 h8 ok6 hf)
      have hf := bIte hf
      refine SW_icmp_ge (tgt := 109) h (fun _ => h6) (fun _ => hx3) (dt t_M_ring 62 rfl) rfl hf (fun hf => ?_) (fun hf => ?_)
      · refine SW_iload_n h rfl (dt t_M_ring 65 rfl) ?_
        exact k7 x3 hx3 hf
      · refine SW_iload h rfl (dt t_M_ring 63 rfl) ?_
        refine SW_goto (tgt := 110) h (dt t_M_ring 64 rfl) rfl ?_
        exact k7 v6 h6 hf
def F_M_ring (x1 : Int) (σ : Mm) : Option (Int × Mm) :=
  b0M (F_M_laysNow  σ) fun s1 =>
  b1M (F_M_laysRing  s1) fun v2 s2 =>
  if v2 = (-1) then
    some ((-1), s2)
  else
    if x1 < (-2) then
      some ((-1), s2)
    else
      if x1 < v2 then
        if x1 < (-1) then
          b1M (F_M_owedBy (s2 242 0) (s2 242 1) s2) fun v3 s3 =>
          b1M (L_M_ring_68 LF v2 v3 1 s3) fun x3_9 s9 =>
          some (x3_9, s9)
        else
          if x1 = (-1) then
            some (v2, s2)
          else
            if 0 ≤ x1 ∧ x1 < 6 then
              some (s2 242 x1.toNat, s2)
            else none
      else
        some ((-1), s2)
set_option maxRecDepth 100000 in
set_option maxHeartbeats 4000000 in
theorem c_M_ring (x1 : Int) (hx1 : r32 x1) {σ : Mm} {a : Int} {σ2 : Mm} (hf : F_M_ring x1 σ = some (a, σ2)) : CT yX11_ring cX11_ring 6 (some .int) 9 1 (fun ad => [.ref (ad 200), .int (i32 x1)]) σ (r32 a) (some (.int (i32 a))) σ2 := by
  refine MetJ 4 (by decide +kernel) rfl (fun _ => Nat.le_of_ble_eq_true rfl) ?_
  intro X h hR ok
  obtain ⟨res, er⟩ : ∃ z, z = (a, σ2) := ⟨_, rfl⟩
  have hret : ∀ y : Int × Mm, some y = some res → RX X 1 (r32 (y.1)) (some (.int (i32 (y.1)))) y.2 := fun y e => by cases e; cases er; exact hR
  rw [← er] at hf
  clear er hR
  unfold F_M_ring at hf
  show SW X 1 6 0 [some (.ref (xad X 200)), some (.int (i32 x1)), none, none, none, none] [] σ
  refine SW_aload_n h rfl (dt t_M_ring 0 rfl) ?_
  obtain ⟨s1, e1, hf⟩ := b0M_of hf
  refine cVv h [] [] v_X11_laysNow kX11_446 o200 (c_M_laysNow  e1) rfl rfl (by decide) (by decide) rfl (Nat.le_of_ble_eq_true rfl) (dt t_M_ring 1 rfl) (fun h1 => ?_)
  refine SW_ok (fun ok1 => ?_)
  refine SW_aload_n h rfl (dt t_M_ring 2 rfl) ?_
  obtain ⟨v2, s2, e2, hf⟩ := b1M_of hf
  refine cV h [] [] v_X11_laysRing kX11_573 o200 (c_M_laysRing  e2) rfl rfl (by decide) (by decide) rfl (Nat.le_of_ble_eq_true rfl) (dt t_M_ring 3 rfl) (fun h2 => ?_)
  refine SW_ok (fun ok2 => ?_)
  refine SW_istore_n (lv2 := [some (.ref (xad X 200)), some (.int (i32 x1)), some (.int (i32 v2)), none, none, none]) h (dt t_M_ring 4 rfl) (by decide) rfl ?_
  refine SW_iload_n h rfl (dt t_M_ring 5 rfl) ?_
  refine SW_iconst h (dt t_M_ring 6 rfl) ?_
  refine SW_icmp_eq (tgt := 25) h (fun _ => h2) (fun _ => (by decide)) (dt t_M_ring 7 rfl) rfl hf (fun hf => ?_) (fun hf => ?_)
  · refine SW_iconst h (dt t_M_ring 14 rfl) ?_
    exact SW_iret h (hret _ hf) (fun _ => (by decide)) rfl (dt t_M_ring 15 rfl)
  · refine SW_iload_n h rfl (dt t_M_ring 8 rfl) ?_
    refine SW_bipush h (dt t_M_ring 9 rfl) (by decide) ?_
    refine SW_icmp_lt (tgt := 25) h (fun _ => hx1) (fun _ => (by decide)) (dt t_M_ring 10 rfl) rfl hf (fun hf => ?_) (fun hf => ?_)
    · refine SW_iconst h (dt t_M_ring 14 rfl) ?_
      exact SW_iret h (hret _ hf) (fun _ => (by decide)) rfl (dt t_M_ring 15 rfl)
    · refine SW_iload_n h rfl (dt t_M_ring 11 rfl) ?_
      refine SW_iload_n h rfl (dt t_M_ring 12 rfl) ?_
      refine SW_icmp_lt (tgt := 27) h (fun _ => hx1) (fun _ => h2) (dt t_M_ring 13 rfl) rfl hf (fun hf => ?_) (fun hf => ?_)
      · refine SW_iload_n h rfl (dt t_M_ring 16 rfl) ?_
        refine SW_iconst h (dt t_M_ring 17 rfl) ?_
        refine SW_icmp_lt (tgt := 48) h (fun _ => hx1) (fun _ => (by decide)) (dt t_M_ring 18 rfl) rfl hf (fun hf => ?_) (fun hf => ?_)
        · refine SW_aload_n h rfl (dt t_M_ring 29 rfl) ?_
          refine SW_aload_n h rfl (dt t_M_ring 30 rfl) ?_
          refine gR h cf11 o200 f11_64 j200_64 lX11_143 (dt t_M_ring 31 rfl) ?_
          refine SW_iconst h (dt t_M_ring 32 rfl) ?_
          refine aIk h a242 (by decide) (dt t_M_ring 33 rfl) ?_
          refine SW_aload_n h rfl (dt t_M_ring 34 rfl) ?_
          refine gR h cf11 o200 f11_64 j200_64 lX11_143 (dt t_M_ring 35 rfl) ?_
          refine SW_iconst h (dt t_M_ring 36 rfl) ?_
          refine aIk h a242 (by decide) (dt t_M_ring 37 rfl) ?_
          obtain ⟨v3, s3, e3, hf⟩ := b1M_of hf
          refine cV h [.int (i32 (s2 242 0)), .int (i32 (s2 242 1))] [] v_X11_owedBy kX11_564 o200 (c_M_owedBy (s2 242 0) (okI ok2 242 0 (IsA.n3 a242 (by decide))) (s2 242 1) (okI ok2 242 1 (IsA.n3 a242 (by decide))) e3) rfl rfl (by decide) (by decide) rfl (Nat.le_of_ble_eq_true rfl) (dt t_M_ring 38 rfl) (fun h3 => ?_)
          refine SW_ok (fun ok3 => ?_)
          refine SW_istore_n (lv2 := [some (.ref (xad X 200)), some (.int (i32 x1)), some (.int (i32 v2)), some (.int (i32 v3)), none, none]) h (dt t_M_ring 39 rfl) (by decide) rfl ?_
          refine SW_iconst h (dt t_M_ring 40 rfl) ?_
          refine SW_istore (lv2 := [some (.ref (xad X 200)), some (.int (i32 x1)), some (.int (i32 v2)), some (.int (i32 v3)), some (.int (i32 1)), none]) h (dt t_M_ring 41 rfl) (by decide) rfl ?_
          obtain ⟨z9, e9, hk9⟩ := b1M_ex hf
          refine SW_fgt [true, false, true, true, true, false] rfl (l_M_ring_68 h v2 h2 (fun x3_9 s9 hz9 hx3_9 ok9 => ?_) LF v3 1 s3 h3 (by decide) ok3 e9)
          have hf := hk9 x3_9 s9 hz9
          refine SW_iload_n h rfl (dt t_M_ring 69 rfl) ?_
          exact SW_iret h (hret _ hf) (fun _ => hx3_9) rfl (dt t_M_ring 70 rfl)
        · refine SW_iload_n h rfl (dt t_M_ring 19 rfl) ?_
          refine SW_iconst h (dt t_M_ring 20 rfl) ?_
          refine SW_icmp_ne (tgt := 41) h (fun _ => hx1) (fun _ => (by decide)) (dt t_M_ring 21 rfl) rfl hf (fun hf => ?_) (fun hf => ?_)
          · refine SW_iload_n h rfl (dt t_M_ring 22 rfl) ?_
            refine SW_goto (tgt := 47) h (dt t_M_ring 23 rfl) rfl ?_
            exact SW_iret h (hret _ hf) (fun _ => h2) rfl (dt t_M_ring 28 rfl)
          · refine SW_aload_n h rfl (dt t_M_ring 24 rfl) ?_
            refine gR h cf11 o200 f11_64 j200_64 lX11_143 (dt t_M_ring 25 rfl) ?_
            refine SW_iload_n h rfl (dt t_M_ring 26 rfl) ?_
            refine aI h a242 (dt t_M_ring 27 rfl) hf (fun hf => ?_)
            exact SW_iret h (hret _ hf) (fun _ => (okI ok2 242 x1.toNat (IsA.n3 a242 (by decide)))) rfl (dt t_M_ring 28 rfl)
      · refine SW_iconst h (dt t_M_ring 14 rfl) ?_
        exact SW_iret h (hret _ hf) (fun _ => (by decide)) rfl (dt t_M_ring 15 rfl)
