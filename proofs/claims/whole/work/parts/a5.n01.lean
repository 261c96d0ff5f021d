-- a law under way: the step where a ONE or an ASK begins
/-- ( - not: what opens by one token -/
theorem open_one {s u u1 : Mm} {T law : Nat} {b x y : Int} {g1 cs : List Int} {S O n e c K m : Nat} (hT : 94 ≤ T) (hx : x = 20015 ∨ x = 20016 ∨ x = 20017) (tok : TokR s u1 n e) (z : s 90 3 = 0 ∧ u1 200 19 = 0 ∧ u1 200 29 = (K : Int)) (L : LwC s T (stk g1) cs S) (M : LwM u1 law b g1 cs O) (hl : s 90 14 = (law : Int) ∧ s 90 13 = cpd g1) (ho : opn g1 ≤ 8) (hf : (frs b g1).length < 40) (pg : Pg s e c) (h7 : ¬ s 90 7 = 0) (hc : S + cs.length + (stk g1).length ≤ c) (hO : O ≤ S + 24) (hlaw : (law = 0 ∧ b = 2) ∨ ((law = 1 ∨ law = 2) ∧ b = 1)) (wf : wfS (okw law) [] cs = some (tyG g1)) (mt : MT u u1 m) (hm : m ≤ 1) (gm : GM u u1 O)
    (hg : ∃ a : Bool, Gk b (x :: g1) a ∧ u1 200 28 = if a = true then 0 else 1) (hM : ∀ r w, F_M_opensSign (frK x) u1 = some (r, w) → MT u1 w 1) (hC : F_R_readOne s = jO y s) (hO2 : F_R_openingBy y s = some x) : Res s u T law b S O n K c (F_R_readOne s) := by
  have o1 : opn (stk g1) = opn g1 := opn_stk
  have a11 : s 90 11 = (opn g1 : Int) := by rw [← o1]; exact L.2.2.1.1
  have a21 : u1 200 21 = (opn g1 : Int) := M.2.2.2.1
  by_cases h8 : opn g1 = 8
  · refine Res.err (f := 3) hT tok (by omega) mt hm gm ?_ ?_
    · refine hM 0 _ ?_
      unfold F_M_opensSign
      rw [a21, if_pos (by omega), err_M z.2.1, b0M_some]
    · rw [hC]
      unfold jO
      rw [hO2, b1_some, if_neg (show ¬ x = -1 by omega), a11, if_neg (show ¬ (opn g1 : Int) < 8 by omega), err_C z.1, b1M_some]
  · obtain ⟨t, v, e2, C, E, tok2, L2, M2, c1, m1, ⟨k1, k2, k3, k4, k5, k6⟩, pg2⟩ := opens_ok (x := x) hT (by omega) tok L M (show opn g1 < 8 by omega) hf pg h7 hc
    refine ⟨0, t, v, m + 1, ?_, mt.tr (hM _ _ E), by omega, c1, gm.tr m1, Or.inl ⟨rfl, x :: g1, cs, e2, ⟨tok2, ⟨by rw [k1]; exact z.1, by rw [k2]; exact z.2.1, by rw [k3]; exact z.2.2⟩, L2, ⟨by rw [k6]; exact hl.1, by rw [k5, cpd_0 (by omega)]; exact hl.2⟩, by rw [opn_1 (by omega)]; omega, ⟨pg2, by rw [stk_n (by omega), List.length_cons]; omega⟩, hO, hlaw⟩, M2, ?_, fun h q => by rw [List.cons.injEq] at q; omega, by rw [tyG_n (by omega) (by omega)]; exact wf⟩⟩
    · rw [hC]
      unfold jO
      rw [hO2, b1_some, if_neg (show ¬ x = -1 by omega), if_pos (show s 90 11 < 8 by rw [a11]; omega), C, bindM_eq, if_neg (show ¬ x = 20018 by omega), if_neg (show ¬ x = 20019 by omega)]
    · rw [k4]; exact hg
/-- more, less: what opens by two tokens -/
theorem open_two {s u u1 : Mm} {T law : Nat} {b x y : Int} {g1 cs : List Int} {S O n e c K m : Nat} (hT : 94 ≤ T) (hx : x = 20018 ∨ x = 20019) (tok : TokR s u1 n e) (z : s 90 3 = 0 ∧ u1 200 19 = 0 ∧ u1 200 29 = (K : Int)) (L : LwC s T (stk g1) cs S) (M : LwM u1 law b g1 cs O) (hl : s 90 14 = (law : Int) ∧ s 90 13 = cpd g1) (ho : opn g1 ≤ 8) (hf : (frs b g1).length < 40) (pg : Pg s e c) (h7 : ¬ s 90 7 = 0) (hc : S + cs.length + (stk g1).length ≤ c) (hO : O ≤ S + 24) (hlaw : (law = 0 ∧ b = 2) ∨ ((law = 1 ∨ law = 2) ∧ b = 1)) (wf : wfS (okw law) [] cs = some (tyG g1)) (mt : MT u u1 m) (hm : m ≤ 1) (gm : GM u u1 O) (h28 : u1 200 28 = 1)
    (hg : Gk b g1 false) (hM : F_M_begins u1 = b0M (F_M_opensTwo (frK x) u1) fun s9 => some s9) (hC : F_R_readOne s = jO y s) (hO2 : F_R_openingBy y s = some x) : Res s u T law b S O n K c (F_R_readOne s) := by
  have o1 : opn (stk g1) = opn g1 := opn_stk
  have a11 : s 90 11 = (opn g1 : Int) := by rw [← o1]; exact L.2.2.1.1
  have a21 : u1 200 21 = (opn g1 : Int) := M.2.2.2.1
  by_cases h8 : opn g1 = 8
  · refine Res.err (f := 3) hT tok (by omega) mt hm gm (MT.t1 z.2.1 h28 ?_) ?_
    · rw [hM]
      unfold F_M_opensTwo F_M_opensSign
      rw [a21, if_pos (show (opn g1 : Int) = 8 by omega), err_M z.2.1, b0M_some, b1M_some, if_pos rfl, b0M_some]
    · rw [hC]
      unfold jO
      rw [hO2, b1_some, if_neg (show ¬ x = -1 by omega), a11, if_neg (show ¬ (opn g1 : Int) < 8 by omega), err_C z.1, b1M_some]
  · obtain ⟨t, v, e2, C, E, tok2, L2, M2, c1, m1, ⟨k1, k2, k3, k4, k5, k6⟩, pg2⟩ := opens_ok (x := x) hT (by omega) tok L M (show opn g1 < 8 by omega) hf pg h7 hc
    have hCC : F_R_readOne s = if t 90 7 = 40 then b0M (F_R_step t) fun s31 => some (0, s31) else b1M (F_R_fail 1 t) fun v32 s32 => some (v32, s32) := by
      rw [hC]
      unfold jO
      rw [hO2, b1_some, if_neg (show ¬ x = -1 by omega), if_pos (show s 90 11 < 8 by rw [a11]; omega), C, bindM_eq]
      by_cases c1 : x = 20018
      · rw [if_pos c1]
      · rw [if_neg c1, if_pos (show x = 20019 by omega)]
    have hMM : F_M_begins u1 = if (if v 200 17 = 3 ∧ v 200 18 = 40 then 1 else 0 : Int) = 0 then b0M (F_M_errs 1 v) fun s3 => some s3 else b0M (F_M_next v) fun s4 => some s4 := by
      rw [hM]
      unfold F_M_opensTwo
      rw [E, b1M_some, if_neg ne10, isS, b1_some]
      by_cases c1 : v 200 17 = 3 ∧ v 200 18 = 40
      · rw [if_pos c1, if_neg ne10]
        match F_M_next v with
        | none => rfl
        | some w => rfl
      · rw [if_neg c1, if_pos rfl]
        match F_M_errs 1 v with
        | none => rfl
        | some w => rfl
    have ks := kind_s (x := 40) tok2.2.2.2 (by unfold sgn; omega)
    by_cases c40 : t 90 7 = 40
    · obtain ⟨e3, t3, v3, E3, E4, tok3, s1, s2, p1, p2⟩ := tok2.step
      rw [if_pos c40, E3, b0M_some] at hCC
      rw [if_pos (ks.mp c40), if_neg ne10, E4, b0M_some] at hMM
      have pg3 := (pg2.go (by omega) p1 p2).w (show c + 1 ≤ c + 1 + 1 by omega)
      refine ⟨0, t3, v3, m + 1, hCC, mt.tr (MT.t1 z.2.1 h28 hMM), by omega, c1.tr (s1.g hT), gm.tr (m1.tr s2.g), Or.inl ⟨rfl, x :: g1, cs, e3, ⟨tok3, ⟨by rw [s1.1 3 (by omega), k1]; exact z.1, by rw [s2.1 19 (by omega), k2]; exact z.2.1, by rw [s2.1 29 (by omega), k3]; exact z.2.2⟩, L2.st hT s1, ⟨by rw [s1.1 14 (by omega), k6]; exact hl.1, by rw [s1.1 13 (by omega), k5, cpd_0 (by omega)]; exact hl.2⟩, by rw [opn_1 (by omega)]; omega, ⟨pg3, by rw [stk_n (by omega), List.length_cons]; omega⟩, hO, hlaw⟩, M2.st s2, ⟨false, ?_, ?_⟩, fun h q => by rw [List.cons.injEq] at q; omega, by rw [tyG_n (by omega) (by omega)]; exact wf⟩⟩
      · rw [Gk]; exact Or.inr (Or.inr ⟨Or.inr (by omega), hg⟩)
      · rw [s2.1 28 (by omega), k4, h28]; rfl
    · have z3 : t 90 3 = 0 := by rw [k1]; exact z.1
      have z19 : v 200 19 = 0 := by rw [k2]; exact z.2.1
      rw [if_neg c40, err_C z3, b1M_some] at hCC
      rw [if_neg (fun q => c40 (ks.mpr q)), if_pos rfl, err_M z19, b0M_some] at hMM
      exact ⟨2, _, _, m + 1, hCC, mt.tr (MT.t1 z.2.1 h28 hMM), by omega, (c1.p90 hT (by omega)).p90 hT (by omega), ((gm.tr m1).p0 (by omega)).p0 (by omega), Or.inr (Or.inr ⟨rfl, Or.inl (err_R tok2 (by omega))⟩)⟩
theorem one_step {s u : Mm} {T law : Nat} {b : Int} {g cs : List Int} {S O n e c K : Nat} (q : IsO 0 9 T) (h : RunB s u T law b g cs S O n e c K) : Res s u T law b S O n K c (F_R_readOne s) := by
  have hq := isO9 q
  have hT := hq.1
  obtain ⟨⟨tok, ⟨z1, z2, z3⟩, L, ⟨l1, l2⟩, ho, ⟨pg, hc⟩, hO, hlaw⟩, M, ⟨a, hg, h28⟩, hh, wf⟩ := h
  have hn : n ≤ 300 := tok.1.1
  by_cases hnot : u 200 17 = 1 ∧ u 200 18 = 12
  · -- not
    have h7 : s 90 7 = 312 := by
      rcases tok.2.2.2 with ⟨h1, h2⟩ | ⟨h1, h2, h3⟩ | ⟨j, j1, j2, j3, j4⟩ | ⟨h1, h2⟩ | ⟨h1, h2⟩
      · omega
      · omega
      · have := (wmap_in j j1).1.mp (by omega)
        omega
      · omega
      · omega
    have hC := rdo_open (s := s) h7 (by decide) (by decide) (by decide) (Or.inl (by decide))
    match a, hg, h28 with
    | true, hg, h28 =>
      have b2 := Gk_t2 hg
      have hl := (Gk_t hg).2.1.1
      refine open_one (x := 20016) hT (by omega) tok ⟨z1, z2, z3⟩ L M ⟨l1, l2⟩ ho (by omega) pg (by omega) hc hO hlaw wf MT.rf (by omega) GM.rf ⟨true, by rw [Gk]; exact Or.inl ⟨rfl, hg⟩, h28⟩ (fun r w E => MT.t0 z2 h28 ?_) hC ?_
      · have E : F_M_opensSign 3 u = some (r, w) := E
        unfold F_M_asks
        rw [isW, b1_some, if_pos hnot, if_neg ne10, E, b1M_some]
      · exact opb_not L (by omega) (by omega) (by omega) (by rw [stk_t hg]; exact hd_t hg)
    | false, hg, h28 =>
      have hO2 : F_R_openingBy (312 - 300) s = some (-1) := by
        refine opb_nn L (by omega) (by omega) ?_
        by_cases hl0 : law = 0
        · have b2 : b = 2 := by omega
          subst b2
          exact Or.inr (hd_f hg hh)
        · exact Or.inl (by omega)
      refine Res.err (f := 1) (e := e) hT tok (by omega) MT.rf (by omega) GM.rf (MT.t1 z2 h28 ?_) ?_
      · exact beg_err z2 (by omega) (by unfold F_M_nameNow; rw [if_pos hnot.1, if_neg (by omega), if_pos (by omega)]) (by omega) (by omega) (by omega) (by omega)
      · rw [hC]
        unfold jO
        rw [hO2, b1_some, if_pos rfl, err_C z1, b1M_some]
  · -- other tokens: the reference begins the left side of an ASK first
    obtain ⟨u1, g1, m, mt, hm, M1, F1, q28, hg1, e1, e2, e3, e4, e5⟩ := to_one M hg h28 z2 hnot ho
    have tok1 : TokR s u1 n e := tok.f (S := S) hT FW.rf F1
    have y19 : u1 200 19 = 0 := by rw [F1.2.1 19 (by decide) (by decide) (by decide) (by decide) (by decide)]; exact z2
    have y29 : u1 200 29 = (K : Int) := by rw [F1.2.1 29 (by decide) (by decide) (by decide) (by decide) (by decide)]; exact z3
    have y17 : u1 200 17 = u 200 17 := F1.2.1 17 (by decide) (by decide) (by decide) (by decide) (by decide)
    have y18 : u1 200 18 = u 200 18 := F1.2.1 18 (by decide) (by decide) (by decide) (by decide) (by decide)
    have y30 : u1 200 30 = (law : Int) := M1.1
    rw [← y17, ← y18] at hnot
    rw [← e1] at L hc
    rw [← e2] at ho
    rw [← e4] at l2
    rw [← e5] at wf
    have hf : (frs b g1).length < 40 := by have := (Gk_f hg1).1.1; omega
    clear M hg h28 hh e1 e2 e3 e4 e5 y17 y18 tok
    have ks40 := kind_s (x := 40) tok1.2.2.2 (by unfold sgn; omega)
    have ks45 := kind_s (x := 45) tok1.2.2.2 (by unfold sgn; omega)
    -- what neither knows
    have bad : ∀ x : Int, s 90 7 = x → -1000 ≤ x → x ≤ 1000 → ¬ x = 2 → ¬ x = 40 → ¬ x = 45 → ¬ x = 309 → ¬ x = 312 → ¬ x = 313 → ¬ x = 314 → (x < 315 ∨ 326 < x) → ¬ u1 200 17 = 2 → F_M_nameNow u1 = some (-1) → ¬ (u1 200 17 = 1 ∧ u1 200 18 = 13) → ¬ (u1 200 17 = 1 ∧ u1 200 18 = 14) → Res s u T law b S O n K c (F_R_readOne s) := fun x h7 r1 r2 n2 n40 n45 n9 n12 n13 n14 nn m2 mn m13 m14 => by
      refine Res.err (f := 1) hT tok1 (by omega) mt hm F1.g (MT.t1 y19 q28 (beg_err y19 m2 mn m13 m14 (fun q => n40 (by rw [← h7]; exact ks40.mpr q)) (fun q => n45 (by rw [← h7]; exact ks45.mpr q)))) ?_
      rw [rdo_open h7 n2 ⟨r1, r2⟩ (by omega) (by omega)]
      unfold jO
      rw [opb_none L (by omega) (by omega) (by omega), b1_some, if_pos rfl, err_C z1, b1M_some]
    have num0 : ¬ u1 200 17 = 1 → F_M_nameNow u1 = some (-1) := fun q => by unfold F_M_nameNow; rw [if_neg q]
    rcases tok1.2.2.2 with ⟨h1, h2⟩ | ⟨h1, h2, h3⟩ | ⟨j, j1, j2, j3, j4⟩ | ⟨h1, h2⟩ | ⟨h1, h2⟩
    · exact bad 0 h1 (by omega) (by omega) (by omega) (by omega) (by omega) (by omega) (by omega) (by omega) (by omega) (by omega) (by omega) (num0 (by omega)) (by omega) (by omega)
    · -- a NUMBER
      obtain ⟨r1, r2, r3, r4⟩ := h3
      have hC : F_R_readOne s = if s 90 8 ≤ 9999 then (if 0 ≤ s 90 15 ∧ IsO 0 9 (s 90 15).toNat then b0M (F_T_emit ((s 90 15).toNat) (s 90 8) s) fun s2 => b0M (F_R_step s2) fun s3 => some (1, s3) else none) else b1M (F_R_fail 2 s) fun v4 s4 => some (v4, s4) := by
        unfold F_R_readOne
        rw [if_pos h1]
      have hM : F_M_begins u1 = if u1 200 18 ≤ 9999 then b0M (F_M_emits 400 (u1 200 18) u1) fun s2 => b0M (F_M_next s2) fun s3 => b0M (F_M_oneIsOver s3) fun s4 => some s4 else b0M (F_M_errs 2 u1) fun s5 => some s5 := by
        unfold F_M_begins
        rw [num0 (by omega), b1_some, if_pos h2]
      by_cases c9 : s 90 8 ≤ 9999
      · obtain ⟨t, v, E1, E2, R, c1, m1⟩ := lit_ok (K := K) (x := s 90 8) (v0 := u1 200 18) q tok1 ⟨z1, y19, y29⟩ L M1 ⟨l1, l2⟩ ho pg (by omega) hc hO hlaw hg1 wf ⟨by omega, by omega, by omega⟩ (by rw [if_pos (by omega)]; omega)
        have e4 : encO (s 90 8) = 400 := by unfold encO; rw [if_pos (by omega)]
        rw [e4] at E2
        rw [if_pos c9, L.1, if_pos (show 0 ≤ (T : Int) ∧ IsO 0 9 (T : Int).toNat from ⟨by omega, q⟩), Int.toNat_natCast, E1] at hC
        rw [if_pos (by omega), E2] at hM
        obtain ⟨e2, R⟩ := R
        exact ⟨1, t, v, m + 1, hC, mt.tr (MT.t1 y19 q28 hM), by omega, c1, F1.g.tr m1, Or.inr (Or.inl ⟨rfl, _, _, e2, R⟩)⟩
      · rw [if_neg (by omega), err_M y19, b0M_some] at hM
        rw [if_neg c9, err_C z1, b1M_some] at hC
        exact Res.err (f := 2) hT tok1 (by omega) mt hm F1.g (MT.t1 y19 q28 hM) hC
    · -- a word
      obtain ⟨w12, w13, w14, w9, wh, wl, -, -⟩ := wmap_in j j1
      have n12 : ¬ j = 12 := fun q => hnot ⟨j3, by rw [j4, w12.mpr q]; rfl⟩
      by_cases hN : j = 9 ∨ 15 ≤ j
      · -- a NAME
        have nn : ∃ v8 : Int, 0 ≤ v8 ∧ v8 ≤ 12 ∧ F_R_readOne s = jN v8 s ∧ F_M_nameNow u1 = some v8 := by
          rcases hN with q | q
          · refine ⟨0, by omega, by omega, rdo_name j2 (Or.inl ⟨by omega, rfl⟩), ?_⟩
            unfold F_M_nameNow
            rw [if_pos j3, if_pos (by rw [j4, w9.mpr q]; rfl)]
          · refine ⟨((300 + j : Nat) : Int) - 314, by omega, by omega, rdo_name j2 (Or.inr ⟨by omega, by omega, rfl⟩), ?_⟩
            have e18 : u1 200 18 = (j : Int) := by rw [j4, wh q]
            unfold F_M_nameNow
            rw [if_pos j3, e18, if_neg (by omega), if_neg (by omega), if_pos ⟨by omega, by omega⟩]
            congr 1; omega
        obtain ⟨v8, n1, n2, hC, hNN⟩ := nn
        have hM : F_M_begins u1 = if (if okw law v8 = true then 1 else 0 : Int) = 0 then b0M (F_M_errs 5 u1) fun s17 => some s17 else b0M (F_M_emits 401 v8 u1) fun s18 => b0M (F_M_next s18) fun s19 => b0M (F_M_oneIsOver s19) fun s20 => some s20 := by
          unfold F_M_begins
          rw [hNN, b1_some, if_neg (show ¬ u1 200 17 = 2 by omega), if_neg (show ¬ v8 = -1 by omega), y30, may_ok ⟨n1, n2⟩, b1_some]
        have hokw : okw law v8 = true ↔ (v8 = 0 ∨ ((v8 < 9 ∧ ¬ law = 2) ∨ (9 ≤ v8 ∧ law = 2))) := by
          unfold okw
          by_cases c2 : law = 2
          · rw [if_pos c2, decide_eq_true_iff]; omega
          · rw [if_neg c2, decide_eq_true_iff]; omega
        have hJ : jN v8 s = if okw law v8 = true then (b0M (F_T_emit T (10000 + v8) s) fun s12 => b0M (F_R_step s12) fun s14 => some (1, s14)) else b1M (F_R_fail 5 s) fun v17 s17 => some (v17, s17) := by
          unfold jN
          rw [L.1, if_pos (show 0 ≤ (T : Int) ∧ IsO 0 9 (T : Int).toNat from ⟨by omega, q⟩), Int.toNat_natCast, if_pos (show r32 (10000 + v8) from ⟨by omega, by omega⟩), bindM_eq, l1]
          by_cases c0 : v8 = 0
          · rw [if_pos c0, if_pos (hokw.mpr (Or.inl c0))]
          · rw [if_neg c0, bindM_eq, bindM_eq]
            by_cases c9 : v8 < 9
            · by_cases c2 : law = 2
              · rw [if_pos c9, if_pos (show (law : Int) = 2 by omega), if_neg (by decide), if_neg (fun q => by have := hokw.mp q; omega)]
              · rw [if_pos c9, if_neg (show ¬ (law : Int) = 2 by omega), if_pos rfl, if_pos (hokw.mpr (by omega))]
            · by_cases c2 : law = 2
              · rw [if_neg c9, if_pos (show (law : Int) = 2 by omega), if_pos rfl, if_pos (hokw.mpr (by omega))]
              · rw [if_neg c9, if_neg (show ¬ (law : Int) = 2 by omega), if_neg (by decide), if_neg (fun q => by have := hokw.mp q; omega)]
        by_cases ok : okw law v8 = true
        · obtain ⟨t, v, E1, E2, R, c1, m1⟩ := lit_ok (K := K) (x := 10000 + v8) (v0 := v8) q tok1 ⟨z1, y19, y29⟩ L M1 ⟨l1, l2⟩ ho pg (by omega) hc hO hlaw hg1 wf ⟨by omega, by omega, Or.inr (by rw [show 10000 + v8 - 10000 = v8 by omega]; exact ok)⟩ (by rw [if_neg (by omega)]; omega)
          have e4 : encO (10000 + v8) = 401 := by unfold encO; rw [if_neg (by omega), if_pos (by omega)]
          rw [e4] at E2
          rw [hJ, if_pos ok, E1] at hC
          rw [if_pos ok, if_neg ne10, E2] at hM
          obtain ⟨e2, R⟩ := R
          exact ⟨1, t, v, m + 1, hC, mt.tr (MT.t1 y19 q28 hM), by omega, c1, F1.g.tr m1, Or.inr (Or.inl ⟨rfl, _, _, e2, R⟩)⟩
        · rw [if_neg ok, if_pos rfl, err_M y19, b0M_some] at hM
          rw [hJ, if_neg ok, err_C z1, b1M_some] at hC
          exact Res.err (f := 5) hT tok1 (by omega) mt hm F1.g (MT.t1 y19 q28 hM) hC
      · by_cases hT2 : j = 13 ∨ j = 14
        · -- more, less
          have h18 : u1 200 18 = 13 ∨ u1 200 18 = 14 := by
            rcases hT2 with q | q
            · exact Or.inl (by rw [j4, w13.mpr q]; rfl)
            · exact Or.inr (by rw [j4, w14.mpr q]; rfl)
          have hC := rdo_open (s := s) j2 (by omega) (by omega) (by omega) (Or.inl (by omega))
          have hO2 := opb_two (s := s) (v := ((300 + j : Nat) : Int) - 300) (by omega) (by omega) (by omega)
          have hx : (if ((300 + j : Nat) : Int) - 300 = 13 then 20018 else 20019 : Int) = 20018 ∨ (if ((300 + j : Nat) : Int) - 300 = 13 then 20018 else 20019 : Int) = 20019 := by
            by_cases q : ((300 + j : Nat) : Int) - 300 = 13
            · rw [if_pos q]; exact Or.inl rfl
            · rw [if_neg q]; exact Or.inr rfl
          refine open_two (x := if ((300 + j : Nat) : Int) - 300 = 13 then 20018 else 20019) hT hx tok1 ⟨z1, y19, y29⟩ L M1 ⟨l1, l2⟩ ho hf pg (by omega) hc hO hlaw wf mt hm F1.g q28 hg1 ?_ hC hO2
          rw [beg_two j3 h18]
          congr 2
          by_cases q : j = 13
          · have h13 : u1 200 18 = 13 := by rw [j4, w13.mpr q]; rfl
            rw [if_pos h13, if_pos (by omega)]; rfl
          · have h13 : ¬ u1 200 18 = 13 := by
              intro z
              rw [j4] at z
              exact q (w13.mp (by omega))
            rw [if_neg h13, if_neg (by omega)]; rfl
        · have hw : wmap j < 15 := wl (by omega)
          have h7 : ¬ u1 200 18 = 7 := by
            intro z
            rw [j4] at z
            exact hN (Or.inl (w9.mp (by omega)))
          refine bad _ j2 (by omega) (by omega) (by omega) (by omega) (by omega) (by omega) (by omega) (by omega) (by omega) (by omega) (by omega) ?_ ?_ ?_
          · unfold F_M_nameNow
            rw [if_pos j3, if_neg h7, if_pos (by omega)]
          · intro z
            rw [j4] at z
            exact hT2 (Or.inl (w13.mp (by omega)))
          · intro z
            rw [j4] at z
            exact hT2 (Or.inr (w14.mp (by omega)))
    · -- a sign
      by_cases c40 : s 90 7 = 40
      · obtain ⟨_, h18⟩ := ks40.mp c40
        refine open_one (x := 20017) hT (by omega) tok1 ⟨z1, y19, y29⟩ L M1 ⟨l1, l2⟩ ho hf pg (by omega) hc hO hlaw wf mt hm F1.g ⟨false, by rw [Gk]; exact Or.inr (Or.inr ⟨Or.inr (by omega), hg1⟩), q28⟩ (fun r w E => MT.t1 y19 q28 ?_) (rdo_open c40 (by decide) (by decide) (by decide) (Or.inl (by decide))) (opb_par c40)
        have E : F_M_opensSign 6 u1 = some (r, w) := E
        rw [beg_par h1 h18, E, b1M_some]
      · by_cases c45 : s 90 7 = 45
        · obtain ⟨_, h18⟩ := ks45.mp c45
          refine open_one (x := 20015) hT (by omega) tok1 ⟨z1, y19, y29⟩ L M1 ⟨l1, l2⟩ ho hf pg (by omega) hc hO hlaw wf mt hm F1.g ⟨false, by rw [Gk]; exact Or.inr (Or.inr ⟨Or.inl rfl, hg1⟩), q28⟩ (fun r w E => MT.t1 y19 q28 ?_) (rdo_open c45 (by decide) (by decide) (by decide) (Or.inl (by decide))) (opb_neg c45)
          have E : F_M_opensSign 7 u1 = some (r, w) := E
          rw [beg_neg h1 h18, E, b1M_some]
        · have r7 : 3 ≤ s 90 7 ∧ s 90 7 ≤ 62 := by
            rcases h2 with ⟨h2, h3⟩ | ⟨h2, h3⟩ | ⟨h2, h3⟩
            · unfold sgn at h3; omega
            · omega
            · omega
          exact bad _ rfl (by omega) (by omega) (by omega) c40 c45 (by omega) (by omega) (by omega) (by omega) (by omega) (by omega) (num0 (by omega)) (by omega) (by omega)
    · exact bad 1 h1 (by omega) (by omega) (by omega) (by omega) (by omega) (by omega) (by omega) (by omega) (by omega) (by omega) (by omega) (num0 (by omega)) (by omega) (by omega)
