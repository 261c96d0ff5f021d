def oL : Array Int := #[163, 226, 249, 272, 305, 338, 371, 434, 457, 470, 493, 516, 539, 552, 585, 618, 651, 684, 717, 750, 783, 816, 839, 872, 905, 948, 971, 1004, 1027, 1050, 1109, 1158, 1201, 1224, 1247, 1260, 1273]
section Lloop
variable {X : Cx} {ad2 : Nat → Nat} {b L : Nat} {xs : Nat → Int32} {σ μ : Mm}
theorem LW_end (h : LC X ad2 b L xs) {lv : List (Option Value)} : LW X ad2 1335 lv [] σ μ := by
  obtain ⟨p, l, e, R, s, m, args, below, meth, c, Q, A, D, cs, ad, sK, sV⟩ := X
  intro H locs ls hP hP2 hS hl o1 o2
  obtain ⟨hx, hb, hml, hown, hts, hK, hSx, hA, hR, hlk, hrt, hap, hX, hbl, hargs, hQ⟩ := h
  have hR : R = room_1 := hR
  have hargs : args = #[Value.ref b] := hargs
  have hQ : Q = lw_Z below #[Value.ref b] s := hQ
  subst hR
  subst hargs
  subst hQ
  refine lv_iconst (v := 1) hx hb (dt t_lt 2 rfl) rfl ?_
  refine va_forget (fun q hq => ?_) ?_
  · have := hS.2.2 q hq
    rw [hA] at this
    exact this
  · exact lw_ret hx hb hrt hlk (dt t_lt 3 rfl)
/-- the next six ints -/
theorem LW_next (h : LC X ad2 b L xs) {i : Nat} (k : LW X ad2 18 (lvL X ad2 b (i + 1)) [] σ μ) : LW X ad2 1329 (lvL X ad2 b i) [] σ μ := by
  obtain ⟨p, l, e, R, s, m, args, below, meth, c, Q, A, D, cs, ad, sK, sV⟩ := X
  intro H locs ls hP hP2 hS hl o1 o2
  have hm : (3, Value.int (i32 (6 * (i : Int)))) ∈ prs 0 [some (.ref b), some (.ref (ad 0)), some (.ref (ad2 200)), some (.int (i32 (6 * (i : Int))))] := prs_mem.mpr ⟨Nat.zero_le _, rfl⟩
  obtain ⟨q, hq⟩ := List.getElem?_of_mem hm
  refine lv_iinc h.1 h.2.1 (dt t_lt 0 rfl) hl.has hq (v := i32 (6 * ((i + 1 : Nat) : Int))) ?_ (by decide) rfl (fun ls2 hl3 => ?_)
  · rw [show 6 * ((i + 1 : Nat) : Int) = 6 * (i : Int) + 6 by omega, i32_add]; rfl
  · exact lv_goto h.1 h.2.1 (dt t_lt 1 rfl) rfl (k H locs ls2 hP hP2 hS (LV.st1 hl3) o1 o2)
/-- the loop's head: either the end, or the switch -/
theorem LW_head (h : LC X ad2 b L xs) (hL : L ≤ 3072) {i : Nat} (hi : i ≤ 512) (k0 : LW X ad2 1335 (lvL X ad2 b i) [] σ μ) (k1 : 6 * i + 6 ≤ L → ∀ j : Nat, j < 64 → LW X ad2 33 (lvL X ad2 b i) [.int (nI j)] σ μ) : LW X ad2 18 (lvL X ad2 b i) [] σ μ := by
  obtain ⟨p, l, e, R, s, m, args, below, meth, c, Q, A, D, cs, ad, sK, sV⟩ := X
  intro H locs ls hP hP2 hS hl o1 o2
  obtain ⟨hx, hb, hml, hown, hts, hK, hSx, hA, hR, hlk, hrt, hap, hX, hbl, hargs, hQ⟩ := h
  have hbA : ¬ A b := by rw [hA]; exact Nat.not_le.mpr hbl
  have k0 := k0 H locs ls hP hP2 hS hl o1 o2
  have k1 := fun (z : 6 * i + 6 ≤ L) (j : Nat) (hj : j < 64) => k1 z j hj H locs ls hP hP2 hS hl o1 o2
  refine lv_iload_n hx hb (dt t_lh 10 rfl) rfl (hl.2.2 3 _ rfl) ?_
  refine lv_aload_n hx hb (dt t_lh 11 rfl) rfl (hl.2.2 0 _ rfl) ?_
  refine va_slen hx hb hX hbl hbA hS (dt t_lh 12 rfl) ?_
  refine lv_bipush (v := i32 6) hx hb (dt t_lh 13 rfl) (by decide) ?_
  refine lv_isub hx hb (dt t_lh 14 rfl) ?_
  have e1 : Int32.ofNat L - i32 6 = i32 ((L : Int) - 6) := by rw [i32_sub, i32_nat]; rfl
  rw [e1]
  refine lv_icmp_gt (tgt := 1335) hx hb (dt t_lh 15 rfl) rfl (fun _ => k0) (fun z => ?_)
  have hle : 6 * i + 6 ≤ L := by
    rcases Nat.lt_or_ge L (6 * i + 6) with q | q
    · exact absurd ((i32_lt ⟨by omega, by omega⟩ ⟨by omega, by omega⟩).mpr (by omega)) z
    · exact q
  refine lv_aload_n hx hb (dt t_lh 16 rfl) rfl (hl.2.2 0 _ rfl) ?_
  refine lv_iload_n hx hb (dt t_lh 17 rfl) rfl (hl.2.2 3 _ rfl) ?_
  refine va_sld hx hb hX hbl hbA hS (i32_in (by omega) (by omega) (by omega)) (dt t_lh 18 rfl) ?_
  refine lv_bipush (v := 63) hx hb (dt t_lh 19 rfl) (by decide) ?_
  refine lv_iand hx hb (dt t_lh 20 rfl) ?_
  obtain ⟨j, hj, e2⟩ := pk_andE (xs (i32 (6 * (i : Int))).toNatClampNeg) (m := 63) 6 (by decide)
  rw [e2]
  exact k1 hle j hj
theorem LW_out (h : LC X ad2 b L xs) {j : Nat} (hj : j < 64) (hj2 : 36 < j) {lv : List (Option Value)} (k : LW X ad2 1329 lv [] σ μ) : LW X ad2 33 lv [.int (nI j)] σ μ := by
  obtain ⟨p, l, e, R, s, m, args, below, meth, c, Q, A, D, cs, ad, sK, sV⟩ := X
  intro H locs ls hP hP2 hS hl o1 o2
  refine lv_tableOut (tgt := 1329) h.1 h.2.1 (dt t_lh 21 rfl) (Or.inr ?_) rfl (k H locs ls hP hP2 hS hl o1 o2)
  rw [nI_toInt (by omega)]
  omega
theorem LW_in (h : LC X ad2 b L xs) (j : Nat) (hj : j ≤ 36) {off : Int} {tgt : Nat} {lv : List (Option Value)} (ho : oL[j]? = some off) (ht : (33 : Int) + off = (tgt : Int)) (k : LW X ad2 tgt lv [] σ μ) : LW X ad2 33 lv [.int (nI j)] σ μ := by
  obtain ⟨p, l, e, R, s, m, args, below, meth, c, Q, A, D, cs, ad, sK, sV⟩ := X
  intro H locs ls hP hP2 hS hl o1 o2
  have e1 : (nI j).toInt = (j : Int) := nI_toInt (by omega)
  refine lv_tableIn (off := off) (tgt := tgt) h.1 h.2.1 (dt t_lh 21 rfl) (by rw [e1]; omega) (by rw [e1]; omega) ?_ ht (k H locs ls hP hP2 hS hl o1 o2)
  rw [e1]
  have e2 : ((j : Int) - 0).toNat = j := by omega
  rw [e2]
  exact ho
end Lloop
set_option maxRecDepth 20000 in
/-- THE LAW'S LOOP -/
theorem l_loop {X : Cx} {ad2 : Nat → Nat} {b L : Nat} {xs : Nat → Int32} (h : LC X ad2 b L xs) (hL : L ≤ 3072) : ∀ (n i : Nat), i + n = 513 → ∀ (σ μ : Mm), i ≤ 512 ∧ Rc i σ μ → LW X ad2 18 (lvL X ad2 b i) [] σ μ := by
  intro n
  induction n with
  | zero =>
    intro i h1 σ μ hR
    exact absurd hR.1 (by omega)
  | succ n ih =>
    intro i h1 σ μ hR
    refine LW_head h hL (by omega) (LW_end h) (fun hi j hj => ?_)
    have h5 : i < 512 := by omega
    have hR := hR.2
    have kk : ∀ σ2 μ2 : Mm, Rc (i + 1) σ2 μ2 → LW X ad2 1329 (lvL X ad2 b i) [] σ2 μ2 := fun σ2 μ2 h2 => LW_next h (ih (i + 1) (by omega) σ2 μ2 ⟨by omega, h2⟩)
    rcases Nat.lt_or_ge 36 j with q | q
    · exact LW_out h hj q (kk σ μ (hR.w (by omega) (by omega)))
    · have hc : j = 0 ∨ j = 1 ∨ j = 2 ∨ j = 3 ∨ j = 4 ∨ j = 5 ∨ j = 6 ∨ j = 7 ∨ j = 8 ∨ j = 9 ∨ j = 10 ∨ j = 11 ∨ j = 12 ∨ j = 13 ∨ j = 14 ∨ j = 15 ∨ j = 16 ∨ j = 17 ∨ j = 18 ∨ j = 19 ∨ j = 20 ∨ j = 21 ∨ j = 22 ∨ j = 23 ∨ j = 24 ∨ j = 25 ∨ j = 26 ∨ j = 27 ∨ j = 28 ∨ j = 29 ∨ j = 30 ∨ j = 31 ∨ j = 32 ∨ j = 33 ∨ j = 34 ∨ j = 35 ∨ j = 36 := by omega
      rcases hc with rfl | rfl | rfl | rfl | rfl | rfl | rfl | rfl | rfl | rfl | rfl | rfl | rfl | rfl | rfl | rfl | rfl | rfl | rfl | rfl | rfl | rfl | rfl | rfl | rfl | rfl | rfl | rfl | rfl | rfl | rfl | rfl | rfl | rfl | rfl | rfl | rfl
      · exact LW_in h 0 (by decide) rfl (tgt := 196) rfl (lc_0 h hL hi h5 hR kk)
      · exact LW_in h 1 (by decide) rfl (tgt := 259) rfl (lc_1 h hL hi h5 hR kk)
      · exact LW_in h 2 (by decide) rfl (tgt := 282) rfl (lc_2 h hL hi h5 hR kk)
      · exact LW_in h 3 (by decide) rfl (tgt := 305) rfl (lc_3 h hL hi h5 hR kk)
      · exact LW_in h 4 (by decide) rfl (tgt := 338) rfl (lc_4 h hL hi h5 hR kk)
      · exact LW_in h 5 (by decide) rfl (tgt := 371) rfl (lc_5 h hL hi h5 hR kk)
      · exact LW_in h 6 (by decide) rfl (tgt := 404) rfl (lc_6 h hL hi h5 hR kk)
      · exact LW_in h 7 (by decide) rfl (tgt := 467) rfl (lc_7 h hL hi h5 hR kk)
      · exact LW_in h 8 (by decide) rfl (tgt := 490) rfl (lc_8 h hL hi h5 hR kk)
      · exact LW_in h 9 (by decide) rfl (tgt := 503) rfl (lc_9 h hL hi h5 hR kk)
      · exact LW_in h 10 (by decide) rfl (tgt := 526) rfl (lc_10 h hL hi h5 hR kk)
      · exact LW_in h 11 (by decide) rfl (tgt := 549) rfl (lc_11 h hL hi h5 hR kk)
      · exact LW_in h 12 (by decide) rfl (tgt := 572) rfl (lc_12 h hL hi h5 hR kk)
      · exact LW_in h 13 (by decide) rfl (tgt := 585) rfl (lc_13 h hL hi h5 hR kk)
      · exact LW_in h 14 (by decide) rfl (tgt := 618) rfl (lc_14 h hL hi h5 hR kk)
      · exact LW_in h 15 (by decide) rfl (tgt := 651) rfl (lc_15 h hL hi h5 hR kk)
      · exact LW_in h 16 (by decide) rfl (tgt := 684) rfl (lc_16 h hL hi h5 hR kk)
      · exact LW_in h 17 (by decide) rfl (tgt := 717) rfl (lc_17 h hL hi h5 hR kk)
      · exact LW_in h 18 (by decide) rfl (tgt := 750) rfl (lc_18 h hL hi h5 hR kk)
      · exact LW_in h 19 (by decide) rfl (tgt := 783) rfl (lc_19 h hL hi h5 hR kk)
      · exact LW_in h 20 (by decide) rfl (tgt := 816) rfl (lc_20 h hL hi h5 hR kk)
      · exact LW_in h 21 (by decide) rfl (tgt := 849) rfl (lc_21 h hL hi h5 hR kk)
      · exact LW_in h 22 (by decide) rfl (tgt := 872) rfl (lc_22 h hL hi h5 hR kk)
      · exact LW_in h 23 (by decide) rfl (tgt := 905) rfl (lc_23 h hL hi h5 hR kk)
      · exact LW_in h 24 (by decide) rfl (tgt := 938) rfl (lc_24 h hL hi h5 hR kk)
      · exact LW_in h 25 (by decide) rfl (tgt := 981) rfl (lc_25 h hL hi h5 hR kk)
      · exact LW_in h 26 (by decide) rfl (tgt := 1004) rfl (lc_26 h hL hi h5 hR kk)
      · exact LW_in h 27 (by decide) rfl (tgt := 1037) rfl (lc_27 h hL hi h5 hR kk)
      · exact LW_in h 28 (by decide) rfl (tgt := 1060) rfl (lc_28 h hL hi h5 hR kk)
      · exact LW_in h 29 (by decide) rfl (tgt := 1083) rfl (lc_29 h hL hi h5 hR kk)
      · exact LW_in h 30 (by decide) rfl (tgt := 1142) rfl (lc_30 h hL hi h5 hR kk)
      · exact LW_in h 31 (by decide) rfl (tgt := 1191) rfl (lc_31 h hL hi h5 hR kk)
      · exact LW_in h 32 (by decide) rfl (tgt := 1234) rfl (lc_32 h hL hi h5 hR kk)
      · exact LW_in h 33 (by decide) rfl (tgt := 1257) rfl (lc_33 h hL hi h5 hR kk)
      · exact LW_in h 34 (by decide) rfl (tgt := 1280) rfl (lc_34 h hL hi h5 hR kk)
      · exact LW_in h 35 (by decide) rfl (tgt := 1293) rfl (lc_35 h hL hi h5 hR kk)
      · exact LW_in h 36 (by decide) rfl (tgt := 1306) rfl (lc_36 h hL hi h5 hR kk)
