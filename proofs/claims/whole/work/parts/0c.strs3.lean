def b_can : List (Nat × Instr × Nat) := [(0, .iload_n 0, 1), (1, .ifCond .lt 14, 3), (4, .iload_n 0, 1), (5, .sipush 255, 3), (8, .if_icmp .gt 7, 3), (11, .iconst 1, 1), (12, .goto 4, 3), (15, .iconst 0, 1), (16, .ireturn, 1)]
theorem t_can : DT cJ1_canEncode_9a6ad b_can := DT.of (by decide +kernel)
theorem s_can {w : Nat} {x : Int} (hx : r32 x) {σ : Mm} : CTs yJ1_canEncode_9a6ad cJ1_canEncode_9a6ad 1 (some .boolean) 0 w (fun _ _ => [.int (i32 x)]) σ True (some (.int (i32 (if 0 ≤ x ∧ x ≤ 255 then 1 else 0)))) σ := by
  refine MetJs 0 (by decide +kernel) rfl (fun _ _ => Nat.le_of_ble_eq_true rfl) ?_
  intro X h hR ok
  show SW X w 1 0 [some (.int (i32 x))] [] σ
  refine SW_iload_n h rfl (dt t_can 0 rfl) ?_
  by_cases a : x < 0
  · rw [if_neg (show ¬ (0 ≤ x ∧ x ≤ 255) by omega)] at hR
    refine SW_if_lt (FA := some ()) (FB := none) (tgt := 15) h (fun _ => hx) (dt t_can 1 rfl) rfl (if_pos a) (fun _ => ?_) (fun q => nomatch q)
    refine SW_iconst h (dt t_can 7 rfl) ?_
    exact SW_nret h hR trivial rfl rfl (dt t_can 8 rfl)
  · refine SW_if_lt (FA := none) (FB := some ()) (tgt := 15) h (fun _ => hx) (dt t_can 1 rfl) rfl (if_neg a) (fun q => nomatch q) (fun _ => ?_)
    refine SW_iload_n h rfl (dt t_can 2 rfl) ?_
    refine SW_sipush h (dt t_can 3 rfl) (by decide) ?_
    by_cases b : 255 < x
    · rw [if_neg (show ¬ (0 ≤ x ∧ x ≤ 255) by omega)] at hR
      refine SW_icmp_gt (FA := some ()) (FB := none) (tgt := 15) h (fun _ => hx) (fun _ => (by decide)) (dt t_can 4 rfl) rfl (if_pos b) (fun _ => ?_) (fun q => nomatch q)
      refine SW_iconst h (dt t_can 7 rfl) ?_
      exact SW_nret h hR trivial rfl rfl (dt t_can 8 rfl)
    · rw [if_pos (show 0 ≤ x ∧ x ≤ 255 by omega)] at hR
      refine SW_icmp_gt (FA := none) (FB := some ()) (tgt := 15) h (fun _ => hx) (fun _ => (by decide)) (dt t_can 4 rfl) rfl (if_neg b) (fun q => nomatch q) (fun _ => ?_)
      refine SW_iconst h (dt t_can 5 rfl) ?_
      refine SW_goto (tgt := 16) h (dt t_can 6 rfl) rfl ?_
      exact SW_nret h hR trivial rfl rfl (dt t_can 8 rfl)
theorem six_at : ∀ k : Nat, k < 13 → sixI 1 (schI 1 k) = (k : Int) := by decide +kernel
theorem sch_lo : ∀ k : Nat, k < 13 → 0 ≤ schI 1 k ∧ schI 1 k < 128 := by decide +kernel
theorem i2b_k : ∀ x : Nat, x < 256 → (x < 128 → i2bI (x : Int) = (x : Int)) ∧ (128 ≤ x → i2bI (x : Int) < 0) := by decide +kernel
theorem six_no {x : Int} (h : ∀ j : Nat, j < 13 → ¬ schI 1 j = x) : sixI 1 x = -1 := by
  have e : (bytJS.getD 1 []).findIdx? (fun b => decide (b.toInt = x)) = none := by
    rw [List.findIdx?_eq_none_iff]
    intro b hb
    obtain ⟨j, hj, e⟩ := List.getElem_of_mem hb
    have hj13 : j < 13 := hj
    have := h j hj13
    unfold schI at this
    have e2 : (bytJS.getD 1 []).getD j 0 = b := by rw [List.getD_eq_getElem?_getD, List.getElem?_eq_getElem hj, e]; rfl
    rw [e2] at this
    exact decide_eq_false this
  unfold sixI
  rw [e]
theorem r_six (i : Nat) (c : Int) : r32 (sixI i c) := by
  have key : ∀ l : List Int32, l.length ≤ 200 → r32 (match l.findIdx? (fun b => decide (b.toInt = c)) with | some k => (k : Int) | none => -1) := fun l hl => by
    cases hm : l.findIdx? (fun b => decide (b.toInt = c)) with
    | none => exact ⟨by decide, by decide⟩
    | some k =>
      have hk : k < l.length := by
        rw [List.findIdx?_eq_some_iff_getElem] at hm
        exact hm.1
      show -2147483648 ≤ (k : Int) ∧ (k : Int) < 2147483648
      omega
  refine key _ ?_
  match i with
  | 0 => decide +kernel
  | 1 => decide +kernel
  | i + 2 => exact Nat.zero_le _
def b_ixc : List (Nat × Instr × Nat) := [(0, .iload_n 1, 1), (1, .i2b, 1), (2, .istore 4, 2), (4, .iload_n 2, 1), (5, .istore 5, 2), (7, .iload 5, 2), (9, .iload_n 3, 1), (10, .if_icmp .ge 21, 3), (13, .aload_n 0, 1), (14, .iload 5, 2), (16, .baload, 1), (17, .iload 4, 2), (19, .if_icmp .ne 6, 3), (22, .iload 5, 2), (24, .ireturn, 1), (25, .iinc 5 1, 3), (28, .goto (-21), 3), (31, .iconst (-1), 1), (32, .ireturn, 1)]
theorem t_ixc : DT cJ1_indexOfChar_4cfef b_ixc := DT.of (by decide +kernel)
theorem ixc_loop {X : Cx} {w : Nat} {x : Int} {σ : Mm} (h : CX X w cJ1_indexOfChar_4cfef 6 0 (some .int) RJ1) (hx : 0 ≤ x ∧ x ≤ 255) (hR : RX X w True (some (.int (i32 (sixI 1 x)))) σ) : ∀ (d k : Nat), k + d = 13 → (∀ j, j < k → ¬ schI 1 j = x) → SW X w 6 7 [some (.ref (xsv X 1)), some (.int (i32 x)), some (.int (i32 0)), some (.int (i32 (13 : Nat))), some (.int (i32 (i2bI x))), some (.int (i32 (k : Int)))] [] σ := by
  have rb : r32 (i2bI x) := r32_of _
  obtain ⟨xn, rfl⟩ := Int.eq_ofNat_of_zero_le hx.1
  have ib := i2b_k xn (by omega)
  intro d
  induction d with
  | zero =>
    intro k hk hno
    refine SW_iload h rfl (dt t_ixc 5 rfl) ?_
    refine SW_iload_n h rfl (dt t_ixc 6 rfl) ?_
    refine SW_icmp_ge (FA := some ()) (FB := none) (tgt := 31) h (fun _ => ⟨by omega, by omega⟩) (fun _ => (by decide)) (dt t_ixc 7 rfl) rfl (if_pos (show ((13 : Nat) : Int) ≤ (k : Int) by omega)) (fun _ => ?_) (fun q => nomatch q)
    refine SW_iconst h (dt t_ixc 17 rfl) ?_
    rw [six_no (fun j hj => hno j (by omega))] at hR
    exact SW_nret h hR trivial rfl rfl (dt t_ixc 18 rfl)
  | succ d ih =>
    intro k hk hno
    have lo := sch_lo k (by omega)
    refine SW_iload h rfl (dt t_ixc 5 rfl) ?_
    refine SW_iload_n h rfl (dt t_ixc 6 rfl) ?_
    refine SW_icmp_ge (FA := none) (FB := some ()) (tgt := 31) h (fun _ => ⟨by omega, by omega⟩) (fun _ => (by decide)) (dt t_ixc 7 rfl) rfl (if_neg (show ¬ ((13 : Nat) : Int) ≤ (k : Int) by omega)) (fun q => nomatch q) (fun _ => ?_)
    refine SW_aload_n h rfl (dt t_ixc 8 rfl) ?_
    refine SW_iload h rfl (dt t_ixc 9 rfl) ?_
    refine SW_stb h (i := 1) (by decide) (show 0 ≤ (k : Int) by omega) (show (k : Int) < ((13 : Nat) : Int) by omega) (show 13 < 2147483648 by decide) (dt t_ixc 10 rfl) ?_
    rw [Int.toNat_natCast]
    refine SW_iload h rfl (dt t_ixc 11 rfl) ?_
    by_cases c : schI 1 k = (xn : Int)
    · have e : schI 1 k = i2bI (xn : Int) := by rw [ib.1 (by omega)]; exact c
      refine SW_icmp_ne (FA := some ()) (FB := none) (tgt := 25) h (fun _ => ⟨by omega, by omega⟩) (fun _ => rb) (dt t_ixc 12 rfl) rfl (if_pos e) (fun _ => ?_) (fun q => nomatch q)
      refine SW_iload h rfl (dt t_ixc 13 rfl) ?_
      rw [← c, six_at k (by omega)] at hR
      exact SW_nret h hR trivial rfl rfl (dt t_ixc 14 rfl)
    · have e : ¬ schI 1 k = i2bI (xn : Int) := by
        by_cases l : xn < 128
        · rw [ib.1 l]; exact c
        · have := ib.2 (by omega); omega
      refine SW_icmp_ne (FA := none) (FB := some ()) (tgt := 25) h (fun _ => ⟨by omega, by omega⟩) (fun _ => rb) (dt t_ixc 12 rfl) rfl (if_neg e) (fun q => nomatch q) (fun _ => ?_)
      refine SW_iinc (lv2 := [some (.ref (xsv X 1)), some (.int (i32 (xn : Int))), some (.int (i32 0)), some (.int (i32 (13 : Nat))), some (.int (i32 (i2bI (xn : Int)))), some (.int (i32 ((k : Int) + 1)))]) h (dt t_ixc 15 rfl) rfl (by decide) rfl ?_
      refine SW_goto (tgt := 7) h (dt t_ixc 16 rfl) rfl ?_
      refine ih (k + 1) (by omega) (fun j hj => ?_)
      by_cases cj : j = k
      · rw [cj]; exact c
      · exact hno j (by omega)
theorem s_ixc {w : Nat} {x : Int} (hx : 0 ≤ x ∧ x ≤ 255) {σ : Mm} : CTs yJ1_indexOfChar_4cfef cJ1_indexOfChar_4cfef 6 (some .int) 0 w (fun _ sV => [.ref (sV 1), .int (i32 x), .int (i32 0), .int (i32 (13 : Nat))]) σ True (some (.int (i32 (sixI 1 x)))) σ := by
  refine MetJs 2 (by decide +kernel) rfl (fun _ _ => Nat.le_of_ble_eq_true rfl) ?_
  intro X h hR ok
  show SW X w 6 0 [some (.ref (xsv X 1)), some (.int (i32 x)), some (.int (i32 0)), some (.int (i32 (13 : Nat))), none, none] [] σ
  refine SW_iload_n h rfl (dt t_ixc 0 rfl) ?_
  refine SW_i2b h (dt t_ixc 1 rfl) ?_
  refine SW_istore (lv2 := [some (.ref (xsv X 1)), some (.int (i32 x)), some (.int (i32 0)), some (.int (i32 (13 : Nat))), some (.int (i32 (i2bI x))), none]) h (dt t_ixc 2 rfl) (by decide) rfl ?_
  refine SW_iload_n h rfl (dt t_ixc 3 rfl) ?_
  refine SW_istore (lv2 := [some (.ref (xsv X 1)), some (.int (i32 x)), some (.int (i32 0)), some (.int (i32 (13 : Nat))), some (.int (i32 (i2bI x))), some (.int (i32 ((0 : Nat) : Int)))]) h (dt t_ixc 4 rfl) (by decide) rfl ?_
  exact ixc_loop h hx hR 13 0 rfl (fun j hj => absurd hj (Nat.not_lt_zero j))
def b_lix : List (Nat × Instr × Nat) := [(0, .iload_n 1, 1), (1, .invokestatic 88, 3), (4, .ifCond .ne 5, 3), (7, .iconst (-1), 1), (8, .ireturn, 1), (9, .iload_n 2, 1), (10, .iconst 0, 1), (11, .invokestatic 92, 3), (14, .istore_n 2, 1), (15, .iload_n 3, 1), (16, .aload_n 0, 1), (17, .arraylength, 1), (18, .invokestatic 38, 3), (21, .istore_n 3, 1), (22, .iload_n 2, 1), (23, .iload_n 3, 1), (24, .if_icmp .lt 5, 3), (29, .aload_n 0, 1), (30, .iload_n 1, 1), (31, .iload_n 2, 1), (32, .iload_n 3, 1), (33, .invokestatic 95, 3), (36, .ireturn, 1)]
theorem t_lix : DT cJ1_indexOf_4cfef b_lix := DT.of (by decide +kernel)
theorem s_lix {w : Nat} {x : Int} (hx : r32 x) {σ : Mm} : CTs yJ1_indexOf_4cfef cJ1_indexOf_4cfef 4 (some .int) 1 w (fun _ sV => [.ref (sV 1), .int (i32 x), .int (i32 0), .int (i32 (13 : Nat))]) σ True (some (.int (i32 (sixI 1 x)))) σ := by
  refine MetJs 0 (by decide +kernel) rfl (fun _ _ => Nat.le_of_ble_eq_true rfl) ?_
  intro X h hR ok
  show SW X w 4 0 [some (.ref (xsv X 1)), some (.int (i32 x)), some (.int (i32 0)), some (.int (i32 (13 : Nat)))] [] σ
  refine SW_iload_n h rfl (dt t_lix 0 rfl) ?_
  refine SW_callSs (As := [.int (i32 x)]) (rest := []) h v_J1_canEncode_9a6ad kJ1_88 (s_can hx) rfl rfl (Nat.le_of_ble_eq_true rfl) (Nat.le_of_ble_eq_true rfl) rfl (Nat.le_of_ble_eq_true rfl) (dt t_lix 1 rfl) (fun _ => ?_)
  by_cases a : 0 ≤ x ∧ x ≤ 255
  · rw [if_pos a]
    refine SW_if_ne (x := 1) (FA := none) (FB := some ()) (tgt := 9) h (fun _ => (by decide)) (dt t_lix 2 rfl) rfl rfl (fun q => nomatch q) (fun _ => ?_)
    refine SW_iload_n h rfl (dt t_lix 5 rfl) ?_
    refine SW_iconst h (dt t_lix 6 rfl) ?_
    refine SW_max h kJ1_92 (by decide) (by decide) (by decide) (dt t_lix 7 rfl) ?_
    refine SW_istore_n (lv2 := [some (.ref (xsv X 1)), some (.int (i32 x)), some (.int (i32 0)), some (.int (i32 (13 : Nat)))]) h (dt t_lix 8 rfl) (by decide) rfl ?_
    refine SW_iload_n h rfl (dt t_lix 9 rfl) ?_
    refine SW_aload_n h rfl (dt t_lix 10 rfl) ?_
    refine SW_stl h (i := 1) (by decide) (dt t_lix 11 rfl) ?_
    refine SW_min (x := ((13 : Nat) : Int)) (y := ((13 : Nat) : Int)) h kJ1_38 (by decide) (by decide) (by decide) (dt t_lix 12 rfl) ?_
    refine SW_istore_n (lv2 := [some (.ref (xsv X 1)), some (.int (i32 x)), some (.int (i32 0)), some (.int (i32 (13 : Nat)))]) h (dt t_lix 13 rfl) (by decide) rfl ?_
    refine SW_iload_n h rfl (dt t_lix 14 rfl) ?_
    refine SW_iload_n h rfl (dt t_lix 15 rfl) ?_
    refine SW_icmp_lt (x := 0) (y := ((13 : Nat) : Int)) (FA := some ()) (FB := none) (tgt := 29) h (fun _ => (by decide)) (fun _ => (by decide)) (dt t_lix 16 rfl) rfl rfl (fun _ => ?_) (fun q => nomatch q)
    refine SW_aload_n h rfl (dt t_lix 17 rfl) ?_
    refine SW_iload_n h rfl (dt t_lix 18 rfl) ?_
    refine SW_iload_n h rfl (dt t_lix 19 rfl) ?_
    refine SW_iload_n h rfl (dt t_lix 20 rfl) ?_
    refine SW_callSs (As := [.ref (xsv X 1), .int (i32 x), .int (i32 0), .int (i32 (13 : Nat))]) (rest := []) h v_J1_indexOfChar_4cfef kJ1_95 (s_ixc a) rfl rfl (Nat.le_of_ble_eq_true rfl) (Nat.le_of_ble_eq_true rfl) rfl (Nat.le_of_ble_eq_true rfl) (dt t_lix 21 rfl) (fun _ => ?_)
    exact SW_nret h hR trivial rfl rfl (dt t_lix 22 rfl)
  · rw [if_neg a]
    refine SW_if_ne (x := 0) (FA := some ()) (FB := none) (tgt := 9) h (fun _ => (by decide)) (dt t_lix 2 rfl) rfl rfl (fun _ => ?_) (fun q => nomatch q)
    refine SW_iconst h (dt t_lix 3 rfl) ?_
    rw [six_no (fun j hj => by have := sch_lo j hj; omega)] at hR
    exact SW_nret h hR trivial rfl rfl (dt t_lix 4 rfl)
def b_ix2 : List (Nat × Instr × Nat) := [(0, .aload_n 0, 1), (1, .invokevirtual 492, 3), (4, .ifCond .eq 19, 3), (7, .aload_n 0, 1), (8, .getfield 9, 3), (11, .iload_n 1, 1), (12, .iload_n 2, 1), (13, .aload_n 0, 1), (14, .invokevirtual 505, 3), (17, .invokestatic 637, 3), (20, .goto 16, 3), (36, .ireturn, 1)]
theorem t_ix2 : DT cJ0_indexOf_7cf53 b_ix2 := DT.of (by decide +kernel)
theorem v_ix2 : MVs yJ0_indexOf_7cf53 cJ0_indexOf_7cf53 3 (some .int) 2 := ⟨lw_gm 771 (by decide +kernel) rfl, lw_gm 772 (by decide +kernel) rfl, lw_gm 124 (by decide +kernel) rfl, w_J0_indexOf_7cf53, (by decide +kernel), rfl⟩
theorem s_ix2 {w : Nat} {x : Int} (hx : r32 x) {σ : Mm} : CTs yJ0_indexOf_7cf53 cJ0_indexOf_7cf53 3 (some .int) 2 w (fun sK _ => [.ref (sK 1), .int (i32 x), .int (i32 0)]) σ True (some (.int (i32 (sixI 1 x)))) σ := by
  refine MetJs 0 (by decide +kernel) rfl (fun _ _ => Nat.le_of_ble_eq_true rfl) ?_
  intro X h hR ok
  show SW X w 3 0 [some (.ref (xsk X 1)), some (.int (i32 x)), some (.int (i32 0))] [] σ
  refine SW_aload_n h rfl (dt t_ix2 0 rfl) ?_
  refine SW_callVs (i := 1) (As := []) (rest := []) h v_isLatin kJ0_492 (by decide) (s_isLatin (by decide)) rfl rfl (Nat.le_of_ble_eq_true rfl) (Nat.le_of_ble_eq_true rfl) rfl (Nat.le_of_ble_eq_true rfl) (dt t_ix2 1 rfl) (fun _ => ?_)
  refine SW_if_eq (x := 1) (FA := none) (FB := some ()) (tgt := 23) h (fun _ => (by decide)) (dt t_ix2 2 rfl) rfl rfl (fun q => nomatch q) (fun _ => ?_)
  refine SW_aload_n h rfl (dt t_ix2 3 rfl) ?_
  refine SW_sval h (i := 1) (by decide) (dt t_ix2 4 rfl) ?_
  refine SW_iload_n h rfl (dt t_ix2 5 rfl) ?_
  refine SW_iload_n h rfl (dt t_ix2 6 rfl) ?_
  refine SW_aload_n h rfl (dt t_ix2 7 rfl) ?_
  refine SW_callVs (i := 1) (As := []) (rest := [.int (i32 0), .int (i32 x), .ref (xsv X 1)]) h v_slen kJ0_505 (by decide) (s_slen (by decide)) rfl rfl (Nat.le_of_ble_eq_true rfl) (Nat.le_of_ble_eq_true rfl) rfl (Nat.le_of_ble_eq_true rfl) (dt t_ix2 8 rfl) (fun _ => ?_)
  refine SW_callSs (As := [.ref (xsv X 1), .int (i32 x), .int (i32 0), .int (i32 (13 : Nat))]) (rest := []) h v_J1_indexOf_4cfef kJ0_637 (s_lix hx) rfl rfl (Nat.le_of_ble_eq_true rfl) (Nat.le_of_ble_eq_true rfl) rfl (Nat.le_of_ble_eq_true rfl) (dt t_ix2 9 rfl) (fun _ => ?_)
  refine SW_goto (tgt := 36) h (dt t_ix2 10 rfl) rfl ?_
  exact SW_nret h hR trivial rfl rfl (dt t_ix2 11 rfl)
def b_ix1 : List (Nat × Instr × Nat) := [(0, .aload_n 0, 1), (1, .iload_n 1, 1), (2, .iconst 0, 1), (3, .invokevirtual 633, 3), (6, .ireturn, 1)]
theorem t_ix1 : DT cJ0_indexOf_0f7a4 b_ix1 := DT.of (by decide +kernel)
theorem v_ix1 : MVs yJ0_indexOf_0f7a4 cJ0_indexOf_0f7a4 2 (some .int) 1 := ⟨lw_gm 767 (by decide +kernel) rfl, lw_gm 768 (by decide +kernel) rfl, lw_gm 124 (by decide +kernel) rfl, w_J0_indexOf_0f7a4, (by decide +kernel), rfl⟩
theorem s_ix1 {w : Nat} {x : Int} (hx : r32 x) {σ : Mm} : CTs yJ0_indexOf_0f7a4 cJ0_indexOf_0f7a4 2 (some .int) 3 w (fun sK _ => [.ref (sK 1), .int (i32 x)]) σ True (some (.int (i32 (sixI 1 x)))) σ := by
  refine MetJs 0 (by decide +kernel) rfl (fun _ _ => Nat.le_of_ble_eq_true rfl) ?_
  intro X h hR ok
  show SW X w 2 0 [some (.ref (xsk X 1)), some (.int (i32 x))] [] σ
  refine SW_aload_n h rfl (dt t_ix1 0 rfl) ?_
  refine SW_iload_n h rfl (dt t_ix1 1 rfl) ?_
  refine SW_iconst h (dt t_ix1 2 rfl) ?_
  refine SW_callVs (i := 1) (As := [.int (i32 x), .int (i32 0)]) (rest := []) h v_ix2 kJ0_633 (by decide) (s_ix2 hx) rfl rfl (Nat.le_of_ble_eq_true rfl) (Nat.le_of_ble_eq_true rfl) rfl (Nat.le_of_ble_eq_true rfl) (dt t_ix1 3 rfl) (fun _ => ?_)
  exact SW_nret h hR trivial rfl rfl (dt t_ix1 4 rfl)
section STR2
variable {X : Cx} {w nL pc d : Nat} {cc : ByteArray} {own : String} {ret : Option FieldType} {lv : List (Option Value)} {st : List Value} {σ : Mm}
theorem SW_ldcs0 (h : CX X w cc nL d ret RX5) (dd : decode cc pc = .ok (.ldc 83, 2)) (k : SW X w nL (pc + 2) lv (.ref (xsk X 0) :: st) σ) : SW X w nL pc lv st σ := by
  obtain ⟨p, l, e, R, s, m, args, below, meth, c, Q, A, D, cs, ad, sK, sV⟩ := X
  intro H locs ls hP hD hS hl ho
  exact va_ldcS h.1 h.2.1 h.2.2.2.1 h.2.2.2.2.2.2.1.1 dd (k H locs ls hP hD hS hl ho)
theorem SW_ldcs1 (h : CX X w cc nL d ret RX5) (dd : decode cc pc = .ok (.ldc 75, 2)) (k : SW X w nL (pc + 2) lv (.ref (xsk X 1) :: st) σ) : SW X w nL pc lv st σ := by
  obtain ⟨p, l, e, R, s, m, args, below, meth, c, Q, A, D, cs, ad, sK, sV⟩ := X
  intro H locs ls hP hD hS hl ho
  exact va_ldcS h.1 h.2.1 h.2.2.2.1 h.2.2.2.2.2.2.1.2.1 dd (k H locs ls hP hD hS hl ho)
theorem SW_slen0 (h : CX X w cc nL d ret own) (hd : 8 ≤ d) (hrs : (st.map fun v => v.category).sum ≤ 8) {idx : Nat} (hl : Cond.methodLink own idx yJ0_length_8abf5 ∈ lw_g) (dd : decode cc pc = .ok (.invokevirtual idx, 3)) (k : SW X w nL (pc + 3) lv (.int (i32 136) :: st) σ) : SW X w nL pc lv (.ref (xsk X 0) :: st) σ :=
  SW_callVs (i := 0) (As := []) (rest := st) h v_slen hl (by decide) (s_slen (by decide)) rfl rfl (by omega) (Nat.le_of_ble_eq_true rfl) rfl hrs dd (fun _ => k)
theorem SW_schar0 (h : CX X w cc nL d ret own) (hd : 8 ≤ d) (hrs : (st.map fun v => v.category).sum ≤ 8) {ρ : Type} {FA : Option ρ} {r : ρ} {idx : Nat} {x : Int} (hl : Cond.methodLink own idx yJ0_charAt_5068e ∈ lw_g) (dd : decode cc pc = .ok (.invokevirtual idx, 3)) (hf : (if 0 ≤ x ∧ x < 136 then FA else none) = some r) (k : FA = some r → SW X w nL (pc + 3) lv (.int (i32 (schI 0 x.toNat)) :: st) σ) : SW X w nL pc lv (.int (i32 x) :: .ref (xsk X 0) :: st) σ := by
  by_cases c : 0 ≤ x ∧ x < 136
  · rw [if_pos c] at hf
    exact SW_callVs (i := 0) (As := [.int (i32 x)]) (rest := st) h v_sch hl (by decide) (s_sch (by decide) c.1 (show x < ((lenJS.getD 0 0 : Nat) : Int) from c.2)) rfl rfl (by omega) (Nat.le_of_ble_eq_true rfl) rfl hrs dd (fun _ => k hf)
  · rw [if_neg c] at hf; cases hf
theorem SW_sidx1 (h : CX X w cc nL d ret own) (hd : 8 ≤ d) (hrs : (st.map fun v => v.category).sum ≤ 8) {idx : Nat} {x : Int} (hx : r32 x) (hl : Cond.methodLink own idx yJ0_indexOf_0f7a4 ∈ lw_g) (dd : decode cc pc = .ok (.invokevirtual idx, 3)) (k : SW X w nL (pc + 3) lv (.int (i32 (sixI 1 x)) :: st) σ) : SW X w nL pc lv (.int (i32 x) :: .ref (xsk X 1) :: st) σ :=
  SW_callVs (i := 1) (As := [.int (i32 x)]) (rest := st) h v_ix1 hl (by decide) (s_ix1 hx) rfl rfl (by omega) (Nat.le_of_ble_eq_true rfl) rfl hrs dd (fun _ => k)
end STR2
