/-! length, charAt, indexOf of the two literals -/
def b_coder : List (Nat × Instr × Nat) := [(0, .getstatic 38, 3), (3, .ifCond .eq 10, 3), (6, .aload_n 0, 1), (7, .getfield 15, 3), (10, .goto 4, 3), (13, .iconst 1, 1), (14, .ireturn, 1)]
theorem t_coder : DT cJ0_coder_7d493 b_coder := DT.of (by decide +kernel)
theorem v_coder : MVs yJ0_coder_7d493 cJ0_coder_7d493 1 (some .byte) 0 := ⟨lw_gm 722 (by decide +kernel) rfl, lw_gm 723 (by decide +kernel) rfl, lw_gm 124 (by decide +kernel) rfl, w_J0_coder_7d493, (by decide +kernel), rfl⟩
theorem s_coder {w i : Nat} (hi : i < 2) {σ : Mm} : CTs yJ0_coder_7d493 cJ0_coder_7d493 1 (some .byte) 0 w (fun sK _ => [.ref (sK i)]) σ True (some (.int (i32 0))) σ := by
  refine MetJs 0 (by decide +kernel) rfl (fun _ _ => Nat.le_of_ble_eq_true rfl) ?_
  intro X h hR ok
  show SW X w 1 0 [some (.ref (xsk X i))] [] σ
  refine SW_scmp h (dt t_coder 0 rfl) ?_
  refine SW_if_eq (FA := none) (FB := some ()) (tgt := 13) h (fun _ => (by decide)) (dt t_coder 1 rfl) rfl rfl (fun q => nomatch q) (fun _ => ?_)
  refine SW_aload_n h rfl (dt t_coder 2 rfl) ?_
  refine SW_scod h hi (dt t_coder 3 rfl) ?_
  refine SW_goto (tgt := 14) h (dt t_coder 4 rfl) rfl ?_
  exact SW_nret h hR trivial rfl rfl (dt t_coder 6 rfl)
def b_isLatin : List (Nat × Instr × Nat) := [(0, .getstatic 38, 3), (3, .ifCond .eq 14, 3), (6, .aload_n 0, 1), (7, .getfield 15, 3), (10, .ifCond .ne 7, 3), (13, .iconst 1, 1), (14, .goto 4, 3), (17, .iconst 0, 1), (18, .ireturn, 1)]
theorem t_isLatin : DT cJ0_isLatin1_aae02 b_isLatin := DT.of (by decide +kernel)
theorem v_isLatin : MVs yJ0_isLatin1_aae02 cJ0_isLatin1_aae02 1 (some .boolean) 0 := ⟨lw_gm 732 (by decide +kernel) rfl, lw_gm 733 (by decide +kernel) rfl, lw_gm 124 (by decide +kernel) rfl, w_J0_isLatin1_aae02, (by decide +kernel), rfl⟩
theorem s_isLatin {w i : Nat} (hi : i < 2) {σ : Mm} : CTs yJ0_isLatin1_aae02 cJ0_isLatin1_aae02 1 (some .boolean) 0 w (fun sK _ => [.ref (sK i)]) σ True (some (.int (i32 1))) σ := by
  refine MetJs 0 (by decide +kernel) rfl (fun _ _ => Nat.le_of_ble_eq_true rfl) ?_
  intro X h hR ok
  show SW X w 1 0 [some (.ref (xsk X i))] [] σ
  refine SW_scmp h (dt t_isLatin 0 rfl) ?_
  refine SW_if_eq (FA := none) (FB := some ()) (tgt := 17) h (fun _ => (by decide)) (dt t_isLatin 1 rfl) rfl rfl (fun q => nomatch q) (fun _ => ?_)
  refine SW_aload_n h rfl (dt t_isLatin 2 rfl) ?_
  refine SW_scod h hi (dt t_isLatin 3 rfl) ?_
  refine SW_if_ne (FA := some ()) (FB := none) (tgt := 17) h (fun _ => (by decide)) (dt t_isLatin 4 rfl) rfl rfl (fun _ => ?_) (fun q => nomatch q)
  refine SW_iconst h (dt t_isLatin 5 rfl) ?_
  refine SW_goto (tgt := 18) h (dt t_isLatin 6 rfl) rfl ?_
  exact SW_nret h hR trivial rfl rfl (dt t_isLatin 8 rfl)
def b_slen : List (Nat × Instr × Nat) := [(0, .aload_n 0, 1), (1, .getfield 9, 3), (4, .arraylength, 1), (5, .aload_n 0, 1), (6, .invokevirtual 335, 3), (9, .ishr, 1), (10, .ireturn, 1)]
theorem t_slen : DT cJ0_length_8abf5 b_slen := DT.of (by decide +kernel)
theorem v_slen : MVs yJ0_length_8abf5 cJ0_length_8abf5 1 (some .int) 0 := ⟨lw_gm 718 (by decide +kernel) rfl, lw_gm 719 (by decide +kernel) rfl, lw_gm 124 (by decide +kernel) rfl, w_J0_length_8abf5, (by decide +kernel), rfl⟩
theorem len_k : ∀ i : Nat, i < 2 → ishr (lenJS.getD i 0 : Nat) 0 = (lenJS.getD i 0 : Nat) ∧ lenJS.getD i 0 < 200 := by decide +kernel
theorem s_slen {w i : Nat} (hi : i < 2) {σ : Mm} : CTs yJ0_length_8abf5 cJ0_length_8abf5 1 (some .int) 1 w (fun sK _ => [.ref (sK i)]) σ True (some (.int (i32 (lenJS.getD i 0 : Nat)))) σ := by
  obtain ⟨l1, l2⟩ := len_k i hi
  refine MetJs 0 (by decide +kernel) rfl (fun _ _ => Nat.le_of_ble_eq_true rfl) ?_
  intro X h hR ok
  show SW X w 1 0 [some (.ref (xsk X i))] [] σ
  refine SW_aload_n h rfl (dt t_slen 0 rfl) ?_
  refine SW_sval h hi (dt t_slen 1 rfl) ?_
  refine SW_stl h hi (dt t_slen 2 rfl) ?_
  refine SW_aload_n h rfl (dt t_slen 3 rfl) ?_
  refine SW_callVs (As := []) (rest := [.int (i32 (lenJS.getD i 0 : Nat))]) h v_coder kJ0_335 hi (s_coder hi) rfl rfl (Nat.le_of_ble_eq_true rfl) (Nat.le_of_ble_eq_true rfl) rfl (Nat.le_of_ble_eq_true rfl) (dt t_slen 4 rfl) (fun _ => ?_)
  refine SW_ishr (x := (lenJS.getD i 0 : Nat)) (y := 0) h (dt t_slen 5 rfl) ?_
  rw [l1]
  exact SW_nret h hR trivial rfl rfl (dt t_slen 6 rfl)
def b_pck : List (Nat × Instr × Nat) := [(0, .iload_n 0, 1), (1, .ifCond .lt 8, 3), (4, .iload_n 0, 1), (5, .iload_n 1, 1), (6, .if_icmp .lt 10, 3), (16, .iload_n 0, 1), (17, .ireturn, 1)]
theorem t_pck : DT cJ3_checkIndex_8e157 b_pck := DT.of (by decide +kernel)
theorem s_pck {w : Nat} {x n : Int} (h0 : 0 ≤ x) (h1 : x < n) (hn : n < 2147483648) {σ : Mm} (v : Value) (hv : v.category = 1) : CTs yJ3_checkIndex_8e157 cJ3_checkIndex_8e157 3 (some .int) 0 w (fun _ _ => [.int (i32 x), .int (i32 n), v]) σ True (some (.int (i32 x))) σ := by
  have rx : r32 x := ⟨by omega, by omega⟩
  have rn : r32 n := ⟨by omega, by omega⟩
  refine MetJs 0 (by decide +kernel) rfl (fun _ _ => ?_) ?_
  · show (lg_sl [Value.int (i32 x), .int (i32 n), v]).length ≤ 3
    cases v <;> first | exact Nat.le_of_ble_eq_true rfl | cases hv
  · intro X h hR ok
    have e : lvA [Value.int (i32 x), .int (i32 n), v] = [some (.int (i32 x)), some (.int (i32 n)), some v] := by
      cases v <;> first | rfl | cases hv
    show SW X w 3 0 (lvA [Value.int (i32 x), .int (i32 n), v] ++ []) [] σ
    rw [e]
    refine SW_iload_n h rfl (dt t_pck 0 rfl) ?_
    refine SW_if_lt (FA := none) (FB := some ()) (tgt := 9) h (fun _ => rx) (dt t_pck 1 rfl) rfl (if_neg (by omega)) (fun q => nomatch q) (fun _ => ?_)
    refine SW_iload_n h rfl (dt t_pck 2 rfl) ?_
    refine SW_iload_n h rfl (dt t_pck 3 rfl) ?_
    refine SW_icmp_lt (FA := some ()) (FB := none) (tgt := 16) h (fun _ => rx) (fun _ => rn) (dt t_pck 4 rfl) rfl (if_pos h1) (fun _ => ?_) (fun q => nomatch q)
    refine SW_iload_n h rfl (dt t_pck 5 rfl) ?_
    exact SW_nret h hR trivial rfl rfl (dt t_pck 6 rfl)
def b_sck : List (Nat × Instr × Nat) := [(0, .iload_n 0, 1), (1, .iload_n 1, 1), (2, .getstatic 1053, 3), (5, .invokestatic 1059, 3), (8, .pop, 1), (9, .return_, 1)]
theorem t_sck : DT cJ0_checkIndex_df160 b_sck := DT.of (by decide +kernel)
theorem s_sck {w : Nat} {x n : Int} (h0 : 0 ≤ x) (h1 : x < n) (hn : n < 2147483648) {σ : Mm} : CTs yJ0_checkIndex_df160 cJ0_checkIndex_df160 2 none 1 w (fun _ _ => [.int (i32 x), .int (i32 n)]) σ True none σ := by
  refine MetJs 0 (by decide +kernel) rfl (fun _ _ => Nat.le_of_ble_eq_true rfl) ?_
  intro X h hR ok
  show SW X w 2 0 [some (.int (i32 x)), some (.int (i32 n))] [] σ
  refine SW_iload_n h rfl (dt t_sck 0 rfl) ?_
  refine SW_iload_n h rfl (dt t_sck 1 rfl) ?_
  refine SW_sfmt h (dt t_sck 2 rfl) (fun v hv => ?_)
  refine SW_callSs (As := [.int (i32 x), .int (i32 n), v]) (rest := []) h v_J3_checkIndex_8e157 kJ0_1059 (s_pck h0 h1 hn v hv) rfl rfl (Nat.le_of_ble_eq_true rfl) (Nat.le_of_ble_eq_true rfl) rfl (Nat.le_of_ble_eq_true rfl) (dt t_sck 3 rfl) (fun _ => ?_)
  refine SW_pop h rfl (dt t_sck 4 rfl) ?_
  exact SW_vret h hR rfl (dt t_sck 5 rfl)
def b_lch : List (Nat × Instr × Nat) := [(0, .iload_n 1, 1), (1, .aload_n 0, 1), (2, .arraylength, 1), (3, .invokestatic 9, 3), (6, .aload_n 0, 1), (7, .iload_n 1, 1), (8, .baload, 1), (9, .sipush 255, 3), (12, .iand, 1), (13, .i2c, 1), (14, .ireturn, 1)]
theorem t_lch : DT cJ1_charAt_3b067 b_lch := DT.of (by decide +kernel)
theorem ch_k : ∀ i : Nat, i < 2 → ∀ k : Nat, k < lenJS.getD i 0 → i2cI (iand (schI i k) 255) = schI i k ∧ narrow .char (.int (i32 (schI i k))) = .int (i32 (schI i k)) := by decide +kernel
theorem s_lch {w i : Nat} (hi : i < 2) {x : Int} (h0 : 0 ≤ x) (h1 : x < lenJS.getD i 0) {σ : Mm} : CTs yJ1_charAt_3b067 cJ1_charAt_3b067 2 (some .char) 2 w (fun _ sV => [.ref (sV i), .int (i32 x)]) σ True (some (.int (i32 (schI i x.toNat)))) σ := by
  obtain ⟨l1, l2⟩ := len_k i hi
  obtain ⟨k1, k2⟩ := ch_k i hi x.toNat (by omega)
  refine MetJs 0 (by decide +kernel) rfl (fun _ _ => Nat.le_of_ble_eq_true rfl) ?_
  intro X h hR ok
  show SW X w 2 0 [some (.ref (xsv X i)), some (.int (i32 x))] [] σ
  refine SW_iload_n h rfl (dt t_lch 0 rfl) ?_
  refine SW_aload_n h rfl (dt t_lch 1 rfl) ?_
  refine SW_stl h hi (dt t_lch 2 rfl) ?_
  refine SW_callSs (As := [.int (i32 x), .int (i32 (lenJS.getD i 0 : Nat))]) (rest := []) h v_J0_checkIndex_df160 kJ1_9 (s_sck h0 h1 (by omega)) rfl rfl (Nat.le_of_ble_eq_true rfl) (Nat.le_of_ble_eq_true rfl) rfl (Nat.le_of_ble_eq_true rfl) (dt t_lch 3 rfl) (fun _ => ?_)
  refine SW_aload_n h rfl (dt t_lch 4 rfl) ?_
  refine SW_iload_n h rfl (dt t_lch 5 rfl) ?_
  refine SW_stb h hi h0 h1 (by omega) (dt t_lch 6 rfl) ?_
  refine SW_sipush h (dt t_lch 7 rfl) (by decide) ?_
  refine SW_iand h (dt t_lch 8 rfl) ?_
  refine SW_i2c h (dt t_lch 9 rfl) ?_
  rw [k1]
  exact SW_nret h hR trivial k2 rfl (dt t_lch 10 rfl)
def b_sch : List (Nat × Instr × Nat) := [(0, .aload_n 0, 1), (1, .invokevirtual 492, 3), (4, .ifCond .eq 12, 3), (7, .aload_n 0, 1), (8, .getfield 9, 3), (11, .iload_n 1, 1), (12, .invokestatic 495, 3), (15, .ireturn, 1)]
theorem t_sch : DT cJ0_charAt_5068e b_sch := DT.of (by decide +kernel)
theorem v_sch : MVs yJ0_charAt_5068e cJ0_charAt_5068e 2 (some .char) 1 := ⟨lw_gm 728 (by decide +kernel) rfl, lw_gm 729 (by decide +kernel) rfl, lw_gm 124 (by decide +kernel) rfl, w_J0_charAt_5068e, (by decide +kernel), rfl⟩
theorem s_sch {w i : Nat} (hi : i < 2) {x : Int} (h0 : 0 ≤ x) (h1 : x < lenJS.getD i 0) {σ : Mm} : CTs yJ0_charAt_5068e cJ0_charAt_5068e 2 (some .char) 3 w (fun sK _ => [.ref (sK i), .int (i32 x)]) σ True (some (.int (i32 (schI i x.toNat)))) σ := by
  obtain ⟨k1, k2⟩ := ch_k i hi x.toNat (by omega)
  refine MetJs 0 (by decide +kernel) rfl (fun _ _ => Nat.le_of_ble_eq_true rfl) ?_
  intro X h hR ok
  show SW X w 2 0 [some (.ref (xsk X i)), some (.int (i32 x))] [] σ
  refine SW_aload_n h rfl (dt t_sch 0 rfl) ?_
  refine SW_callVs (As := []) (rest := []) h v_isLatin kJ0_492 hi (s_isLatin hi) rfl rfl (Nat.le_of_ble_eq_true rfl) (Nat.le_of_ble_eq_true rfl) rfl (Nat.le_of_ble_eq_true rfl) (dt t_sch 1 rfl) (fun _ => ?_)
  refine SW_if_eq (x := 1) (FA := none) (FB := some ()) (tgt := 16) h (fun _ => (by decide)) (dt t_sch 2 rfl) rfl rfl (fun q => nomatch q) (fun _ => ?_)
  refine SW_aload_n h rfl (dt t_sch 3 rfl) ?_
  refine SW_sval h hi (dt t_sch 4 rfl) ?_
  refine SW_iload_n h rfl (dt t_sch 5 rfl) ?_
  refine SW_callSs (As := [.ref (xsv X i), .int (i32 x)]) (rest := []) h v_J1_charAt_3b067 kJ0_495 (s_lch hi h0 h1) rfl rfl (Nat.le_of_ble_eq_true rfl) (Nat.le_of_ble_eq_true rfl) rfl (Nat.le_of_ble_eq_true rfl) (dt t_sch 6 rfl) (fun _ => ?_)
  exact SW_nret h hR trivial k2 rfl (dt t_sch 7 rfl)
