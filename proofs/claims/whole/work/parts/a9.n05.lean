-- a law under way: the step behind a ONE
theorem LwC.p13 {s : Mm} {T S : Nat} {w cs : List Int} {y : Int} (h : LwC s T w cs S) (hT : 94 ≤ T) : LwC (st2 s 90 13 y) T w cs S := by
  obtain ⟨h1, ⟨h2, h3⟩, ⟨h4, h5⟩, ⟨h6, h7⟩, h8, h9⟩ := h
  refine ⟨?_, ⟨?_, ?_⟩, ⟨?_, ?_⟩, ⟨?_, ?_⟩, h8, h9⟩
  · rw [st2_sk, if_neg (by decide)]; exact h1
  · rw [st2_sk, if_neg (by decide)]; exact h2
  · rw [st2_ne (by decide)]; exact h3
  · rw [st2_sk, if_neg (by decide)]; exact h4
  · rw [st2_sk, if_neg (by decide)]; exact h5
  · rw [st2_ne (by omega)]; exact h6
  · rw [st2_ne (by omega)]; exact h7
/-- the left side of an ASK is over -/
theorem LwM.cmp {law O : Nat} {b x : Int} {h cs : List Int} {v : Mm} (M : LwM v law b (1 :: h) cs O) (hx : cmq x) : v 200 22 = (((frs b h).length + 1 : Nat) : Int) ∧ LwM (st2 (st2 v 213 ((frs b h).length + 1) (encO x)) 212 (frs b h).length 5) law b (x :: h) cs O := by
  obtain ⟨h1, ⟨h2, h3, h4⟩, ⟨h5, h6, h7⟩, h8, h9, h10⟩ := M
  have e5 : frK x = 5 := by
    unfold frK
    rw [if_neg (by omega), if_pos (by omega)]
  rw [frs_f (by omega)] at h2 h3
  rw [List.length_cons] at h2
  rw [wos_f (by omega)] at h5 h6
  rw [wfr_f (by omega)] at h7
  rw [opn_0 (by omega)] at h8
  refine ⟨h2, ⟨?_, ⟨?_, ?_, ?_⟩, ⟨?_, ?_, ?_⟩, ?_, ?_, ?_⟩⟩
  · rw [st2_ne (by decide), st2_ne (by decide)]; exact h1
  · rw [st2_ne (by decide), st2_ne (by decide), frs_f (by omega), List.length_cons]; exact h2
  · rw [frs_f (by omega), e5]
    exact StkR.push (by rw [st2_ne (by decide)]; exact h3.2)
  · rw [st2_ne (by decide)]
    refine ⟨fun _ => ?_, ?_⟩
    · rw [frs_f (by omega), List.length_cons, st2_ss]
    · exact CmpR.on (fun k hk => by rw [st2_sk, if_neg (by omega)]) h4.2
  · rw [st2_ne (by decide), st2_ne (by decide), wos_f (by omega)]; exact h5
  · rw [st2_ne (by decide), st2_ne (by decide), wos_f (by omega)]; exact h6
  · rw [st2_ne (by decide), st2_ne (by decide), wfr_f (by omega)]; exact h7
  · rw [st2_ne (by decide), st2_ne (by decide), opn_0 (by omega)]; exact h8
  · rw [st2_ne (by decide), st2_ne (by decide)]; exact h9
  · rw [st2_ne (by decide), st2_ne (by decide), st2_ne (by decide), st2_ne (by decide)]; exact h10
theorem enc_ari {x : Int} (h : ari x) : encO x = 43 ∨ encO x = 45 ∨ encO x = 42 ∨ encO x = 47 ∨ encO x = 37 := by
  rcases (show x = 20000 ∨ x = 20001 ∨ x = 20002 ∨ x = 20003 ∨ x = 20004 by omega) with rfl | rfl | rfl | rfl | rfl
  all_goals decide
theorem enc_cmq {x : Int} (h : cmq x) : encO x = 60 ∨ encO x = 62 ∨ encO x = 61 ∨ encO x = 35 ∨ encO x = 300 ∨ encO x = 301 := by
  rcases (show x = 20005 ∨ x = 20006 ∨ x = 20007 ∨ x = 20008 ∨ x = 20009 ∨ x = 20010 by omega) with rfl | rfl | rfl | rfl | rfl | rfl
  all_goals decide
theorem beh_step {s u : Mm} {T law : Nat} {b : Int} {g cs : List Int} {S O n e c K : Nat} (q : IsO 0 9 T) (h : RunH s u T law b g cs S O n e c K) (n41 : ¬ s 90 7 = 41) (n44 : ¬ s 90 7 = 44) (n59 : ¬ s 90 7 = 59) : Res s u T law b S O n K c (F_R_readBehind s) := by
  have hq := isO9 q
  have hT := hq.1
  obtain ⟨g1, ns, M, hg, hn1, fp, ⟨e5, e6, e7, e8⟩, wf⟩ := h.parts
  obtain ⟨⟨tok, ⟨z1, z2, z3⟩, L, ⟨l1, l2⟩, ho, ⟨pg, hc⟩, hO, hlaw⟩, -, h28, -, -⟩ := h
  obtain ⟨B, em, r1, r2, r3, r4, ⟨⟨r5, r6, r7, r8⟩, r9⟩, r10⟩ := reg_ok hg hn1
  have hn : n ≤ 300 := tok.1.1
  have he : e ≤ n := tok.2.1.2.2
  have hc3 : c ≤ 300 := by
    rcases pg with p | ⟨_, p⟩ <;> omega
  have hb : b = 1 ∨ b = 2 := by omega
  have lcs : (cs ++ ns).length = cs.length + ns.length := List.length_append
  have hss : (stk g1).length ≤ 300 := by omega
  have hnn : O + (cs ++ ns).length + (stk g1).length ≤ 340 := by omega
  have hem : em.length ≤ (stk g1).length := by omega
  have s41 : ¬ (u 200 17 = 3 ∧ u 200 18 = 41) := fun z => n41 ((kind_s (x := 41) tok.2.2.2 (by unfold sgn; omega)).mpr z)
  have s44 : ¬ (u 200 17 = 3 ∧ u 200 18 = 44) := fun z => n44 ((kind_s (x := 44) tok.2.2.2 (by unfold sgn; omega)).mpr z)
  have s59 : ¬ (u 200 17 = 3 ∧ u 200 18 = 59) := fun z => n59 ((kind_s (x := 59) tok.2.2.2 (by unfold sgn; omega)).mpr z)
  have a12 : s 90 12 = (brk B : Int) := by rw [r5, e5, ← brk_stk]; exact L.2.2.1.2
  have a13 : s 90 13 = cpd B := by rw [r6, e6]; exact l2
  have bad : F_R_readBehind s = (b1M (F_R_fail 1 s) fun v2 s2 => some (v2, s2)) → ¬ arM u → ((∃ h, B = 1 :: h) → ¬ (u 200 17 = 3 ∧ F_M_isAsking (u 200 18) = some 1)) → ((∃ x h, B = x :: h ∧ cmq x) → ¬ (u 200 17 = 1 ∧ (u 200 18 = 10 ∨ u 200 18 = 11))) → Res s u T law b S O n K c (F_R_readBehind s) := fun hC na k2 k3 => by
    obtain ⟨u1, m, mt, hm, tok1, gm, mt2⟩ := beh_err (S := S) hT tok z2 h28 M hg e7 hss hnn r1 hem r3 (by omega) r8 hb na (fun _ => s59) k2 (fun z => ⟨k3 z, s59⟩) (fun x h _ => ⟨fun _ => s41, fun _ => s44⟩)
    rw [err_C z1, b1M_some] at hC
    exact Res.err (f := 1) hT tok1 (by omega) mt hm gm mt2 hC
  have jfail : ∀ x y3 y4 : Int, (¬ (law = 0) ∨ 0 < brk B ∨ ¬ cpd B = y4) → bhJ10 x y3 y4 s = (b1M (F_R_fail 1 s) fun v2 s2 => some (v2, s2)) := fun x y3 y4 hh => by
    unfold bhJ10
    by_cases c1 : s 90 14 = 0
    · rw [if_pos c1]
      by_cases c2 : 0 < s 90 12
      · rw [if_pos c2]
      · rw [if_neg c2, if_neg (by rw [a13]; intro z; rcases hh with hh | hh | hh <;> omega)]
    · rw [if_neg c1]
  have hD := done_by s
  rcases dn_kind tok.2.2.2 with ⟨d1, d2, d3⟩ | ⟨d1, d2, d3⟩ | ⟨d1, d2, d3⟩ | d
  · -- nothing that goes on
    rw [d1] at hD
    refine bad (bh_none hD) (fun z => ?_) (fun _ z => ?_) (fun _ => d3)
    · unfold arM at z; omega
    · rw [ask_in] at z
      by_cases c : u 200 18 = 60 ∨ u 200 18 = 62 ∨ u 200 18 = 61 ∨ u 200 18 = 35 ∨ u 200 18 = 300 ∨ u 200 18 = 301
      · exact d2 ⟨z.1, by omega⟩
      · rw [if_neg c] at z; exact absurd (Option.some.inj z.2) (by decide)
  · -- a sign of numbers
    generalize hx0 : dnB (s 90 7) = x0 at *
    have h7 : ¬ s 90 7 = 0 := fun z => by rw [z] at hx0; have : dnB 0 = -1 := rfl; omega
    obtain ⟨D, em2, a1, a2, a3, a4, ⟨⟨a5, a6, a7, a8⟩, a9⟩, a10⟩ := arr_ok hg hn1 d1
    have rk := rkI_a d1
    have fp2 := fp (rkI x0) (by omega)
    rw [a1] at fp2
    obtain ⟨s8, E8, L8, F8⟩ := bh_ok (x := x0) q L (by omega) (by omega) fp2 (by have := pg.le h7; omega)
    obtain ⟨f, fs, f0, -⟩ := r3.top hb
    rw [r8] at f0
    have hw := Gk_w hg e7
    obtain ⟨u2, E2, M2, F2⟩ := wait_ok M (Or.inl d1) hg e7 hss (by omega) a2 a3 (by omega)
    have La : LwC s8 T (stk (x0 :: D)) (cs ++ ns ++ em2) S := by rw [stk_n (by omega), List.append_assoc]; exact L8
    have l3 : (cs ++ ns ++ em2).length = cs.length + ns.length + em2.length := by rw [List.length_append, List.length_append]
    obtain ⟨t, v, e2, E3, E4, R, g3, g4⟩ := goB_ok (a := false) hT (tok.f hT F8 F2) ⟨by rw [F8.2.1 3 (by decide) (by decide) (by decide)]; exact z1, by rw [F2.2.1 19 (by decide) (by decide) (by decide) (by decide) (by decide)]; exact z2, by rw [F2.2.1 29 (by decide) (by decide) (by decide) (by decide) (by decide)]; exact z3⟩ La M2 ⟨by rw [F8.2.1 14 (by decide) (by decide) (by decide)]; exact l1, by rw [F8.2.1 13 (by decide) (by decide) (by decide), cpd_0 (by omega), a6, e6]; exact l2⟩ (by rw [opn_0 (by omega)]; omega) (show Pg s8 e c by unfold Pg at *; rw [F8.2.1 7 (by decide) (by decide) (by decide)]; exact pg) (by rw [F8.2.1 7 (by decide) (by decide) (by decide)]; exact h7) (by rw [stk_n (by omega), List.length_cons]; omega) hO hlaw (show Gk b (x0 :: D) false by rw [Gk]; exact Or.inr (Or.inl ⟨d1, a4, a3⟩)) (fun h z => by rw [List.cons.injEq] at z; omega) (by rw [wfS_app wf, tyG_f (by omega)]; exact a10 _)
    refine ⟨0, t, _, 1, ?_, MT.t2 z2 h28 ?_, by omega, F8.g.tr g3, F2.g.tr g4, Or.inl ⟨rfl, _, _, e2, R⟩⟩
    · rw [bh_ari hD d1, E8, E3, b0M_some]
    · rw [go_ar (top_ok M f0 (by omega)) ⟨d2, by rw [d3]; exact enc_ari d1⟩, d3, E2, E4, b0M_some, b0M_some, bindM_eq]
      rfl
  · -- the left side of an ASK is over
    generalize hx0 : dnB (s 90 7) = x0 at *
    have h7 : ¬ s 90 7 = 0 := fun z => by rw [z] at hx0; have : dnB 0 = -1 := rfl; omega
    have ec := enc_cmq d1
    have na : ¬ arM u := fun z => by unfold arM at z; omega
    have nj : ¬ (u 200 17 = 1 ∧ (u 200 18 = 10 ∨ u 200 18 = 11)) := by omega
    rcases r3 with ⟨hB, hb2⟩ | ⟨h, hB, k⟩ | ⟨x, h, hB, hx, k⟩ | ⟨x, h, hB, hx, k⟩
    · exact bad (by rw [bh_cmp hD d1]; exact jfail _ _ _ (Or.inl (by omega))) na (fun ⟨h, z⟩ => by rw [hB] at z; simp at z) (fun _ => nj)
    · have b2 := Gk_t2 k
      have law0 : law = 0 := by omega
      have k1 := Gk_t k
      subst hB
      have hb0 : brk (1 :: h) = 0 := by rw [brk_0 (by omega)]; exact k1.1.2.1
      have hc0 : cpd (1 :: h) = 0 := by rw [cpd_0 (by omega)]; exact k1.1.2.2
      rw [hb0] at a12
      rw [hc0] at a13
      have r4' := rkI_c d1
      have fp2 := fp (rkI x0) (by omega)
      rw [r4 (rkI x0) (by omega), stk_1, stk_t k, finP_t (w := h) (r := rkI x0) (by omega)] at fp2
      have fp2 : finP (rkI x0) (stk g) = (h, ns ++ (em ++ [])) := fp2
      obtain ⟨s8, E8, L8, F8⟩ := bh_ok (x := x0) q (L.p13 (y := 1) hT) (by omega) (by omega) fp2 (by have := pg.le h7; omega)
      rw [List.append_nil] at L8
      obtain ⟨w, E1, M1, F1, -⟩ := wk_ok (r := 3) M hg e7 hss (by omega)
      rw [r1] at M1
      have M1 : LwM w law b (1 :: h) (cs ++ ns ++ em) O := M1
      obtain ⟨c22, M2⟩ := M1.cmp d1
      have hoh : opn h ≤ 8 := by rw [opn_0 (by omega)] at r7; omega
      have hw := Gk_w k hoh
      have F2 : FV u (st2 (st2 w 213 ((frs b h).length + 1) (encO x0)) 212 (frs b h).length 5) O := (F1.p1 (by omega)).p1 (by omega)
      have tok1 : TokR (st2 s 90 13 1) u n e := tok.mv (fun k hk => by rw [st2_sk, if_neg (by omega)]) (st2_ne (by decide)) (fun _ _ _ => rfl) rfl
      have y7 : s8 90 7 = s 90 7 := by rw [F8.2.1 7 (by decide) (by decide) (by decide), st2_sk, if_neg (by decide)]
      have w18 : w 200 18 = encO x0 := by rw [F1.2.1 18 (by decide) (by decide) (by decide) (by decide) (by decide)]; exact d3
      have l3 : (cs ++ ns ++ em).length = cs.length + ns.length + em.length := by rw [List.length_append, List.length_append]
      have r9 : (stk g1).length = em.length + h.length := by rw [stk_1, stk_t k] at r9; exact r9
      obtain ⟨t, v, e2, E3, E4, R, g3, g4⟩ := goB_ok (a := false) (g := x0 :: h) (cs := cs ++ ns ++ em) hT (tok1.f hT F8 F2) ⟨by rw [F8.2.1 3 (by decide) (by decide) (by decide), st2_sk, if_neg (by decide)]; exact z1, by rw [F2.2.1 19 (by decide) (by decide) (by decide) (by decide) (by decide)]; exact z2, by rw [F2.2.1 29 (by decide) (by decide) (by decide) (by decide) (by decide)]; exact z3⟩ (by rw [stk_n (by omega), stk_t k, List.append_assoc]; exact L8) M2 ⟨by rw [F8.2.1 14 (by decide) (by decide) (by decide), st2_sk, if_neg (by decide)]; exact l1, by rw [F8.2.1 13 (by decide) (by decide) (by decide), st2_ss, cpd_1 d1]⟩ (by rw [opn_0 (by omega)]; exact hoh) (show Pg s8 e c by unfold Pg at *; rw [y7]; exact pg) (by rw [y7]; exact h7) (by rw [stk_n (by omega), stk_t k, List.length_cons]; omega) hO hlaw (show Gk b (x0 :: h) false by rw [Gk]; exact Or.inl ⟨Or.inr d1, k⟩) (fun h z => by rw [List.cons.injEq] at z; omega) (by rw [wfS_app wf, r10, tyG_n (by omega) (by omega), tyG_f (by omega)])
      refine ⟨0, t, _, 1, ?_, MT.t2 z2 h28 ?_, by omega, (GC.rf.p90 hT (by omega)).tr (F8.g.tr g3), F2.g.tr g4, Or.inl ⟨rfl, _, _, e2, R⟩⟩
      · rw [bh_cmp hD d1]
        unfold bhJ10
        rw [l1, if_pos (show (law : Int) = 0 by omega), a12, if_neg (show ¬ (0 : Int) < ((0 : Nat) : Int) by decide), if_pos a13, if_pos (show (1 : Int) = 0 ∨ (1 : Int) = 1 from Or.inr rfl), bindM_eq, E8, E3, b0M_some]
      · have hwg := Gk_w hg e7
        have f0 : frs b g1 = 4 :: frs b h := by rw [← r8]; exact frs_f (by omega)
        have d22 : st2 w 213 ((frs b h).length + 1) (encO x0) 200 22 = (((frs b h).length + 1 : Nat) : Int) := by rw [st2_ne (by decide)]; exact c22
        have e1 : (((frs b h).length + 1 : Nat) : Int) - 1 = ((frs b h).length : Int) := by omega
        rw [go_na (top_ok M f0 (by omega)) na, go4 d2 (by rw [ask_in, if_pos (by omega)])]
        unfold gA
        rw [E1, b0M_some, c22, if_pos (show 0 ≤ (((frs b h).length + 1 : Nat) : Int) ∧ (((frs b h).length + 1 : Nat) : Int) < 41 by omega), Int.toNat_natCast, w18, bindM_eq, d22, e1, if_pos (show 0 ≤ ((frs b h).length : Int) ∧ ((frs b h).length : Int) < 40 by omega), Int.toNat_natCast, bindM_eq, E4, b0M_some, bindM_eq]
        rfl
    · have k1 := Gk_t k
      exact bad (by rw [bh_cmp hD d1]; exact jfail _ _ _ (Or.inr (Or.inr (by rw [hB, cpd_1 hx]; decide)))) na (fun ⟨h, z⟩ => by rw [hB, List.cons.injEq] at z; omega) (fun _ => nj)
    · exact bad (by rw [bh_cmp hD d1]; exact jfail _ _ _ (Or.inr (Or.inl (by rw [hB, brk_1 (by omega)]; omega)))) na (fun ⟨h, z⟩ => by rw [hB, List.cons.injEq] at z; omega) (fun _ => nj)
  · -- and, or
    generalize hx0 : dnB (s 90 7) = x0 at *
    have h7 : ¬ s 90 7 = 0 := fun z => by rw [z] at hx0; have : dnB 0 = -1 := rfl; omega
    have hx0' : x0 = 20011 ∨ x0 = 20012 := by omega
    have d2 : u 200 17 = 1 := by omega
    have na : ¬ arM u := fun z => by unfold arM at z; omega
    rcases r3 with ⟨hB, hb2⟩ | ⟨h, hB, k⟩ | ⟨x, h, hB, hx, k⟩ | ⟨x, h, hB, hx, k⟩
    · exact bad (by rw [bh_join hD hx0']; exact jfail _ _ _ (Or.inl (by omega))) na (fun _ z => by omega) (fun ⟨x, h, z, _⟩ => by rw [hB] at z; simp at z)
    · have k1 := Gk_t k
      exact bad (by rw [bh_join hD hx0']; exact jfail _ _ _ (Or.inr (Or.inr (by rw [hB, cpd_0 (by omega), k1.1.2.2]; decide)))) na (fun _ z => by omega) (fun ⟨x, h, z, z2⟩ => by rw [hB, List.cons.injEq] at z; omega)
    · have b2 := Gk_t2 k
      have law0 : law = 0 := by omega
      have k1 := Gk_t k
      subst hB
      have hb0 : brk (x :: h) = 0 := by rw [brk_0 (by omega)]; exact k1.1.2.1
      have hc0 : cpd (x :: h) = 1 := cpd_1 hx
      have hoh : opn h ≤ 8 := by rw [opn_0 (by omega)] at r7; omega
      rw [hb0] at a12
      rw [hc0] at a13
      have rr : rkI x0 = 1 ∨ rkI x0 = 2 := by rcases hx0' with z | z <;> rw [z] <;> decide
      have rm : rkM x0 = rkI x0 := by rcases hx0' with z | z <;> rw [z] <;> rfl
      have rc := rkI_c hx
      obtain ⟨h2, ns2, t1, t2, t3, t4, ⟨t5, t6, t7⟩, t8⟩ := not_ok k
      obtain ⟨D, em2, j1, j2, j3, j4, ⟨j5, j6, j7⟩, j8⟩ := join_ok rr t2 t3
      have fp2 := fp (rkI x0) (by omega)
      rw [r4 (rkI x0) (by omega), stk_n (by omega), stk_t k, finP_g (by omega), t4 (rkI x0) (by omega), j1] at fp2
      have fp2 : finP (rkI x0) (stk g) = (D, ns ++ (em ++ (x :: (ns2 ++ em2)))) := fp2
      obtain ⟨s8, E8, L8, F8⟩ := bh_ok (x := x0) q (L.p13 (y := 0) hT) (by omega) (by omega) fp2 (by have := pg.le h7; omega)
      obtain ⟨u3, mt, M3, F3, k28⟩ := right_ok z2 h28 M hg e7 hss hnn r1 hem hx k hoh r8.symm na
      rw [t1] at M3
      have M3 : LwM u3 law b h2 (cs ++ ns ++ em ++ [x] ++ ns2) O := M3
      have l4 : (cs ++ ns ++ em ++ [x] ++ ns2).length = cs.length + ns.length + em.length + 1 + ns2.length := by rw [List.length_append, List.length_append, List.length_append, List.length_append, List.length_singleton]
      have l5 : (cs ++ ns ++ em ++ [x] ++ ns2 ++ em2).length = cs.length + ns.length + em.length + 1 + ns2.length + em2.length := by rw [List.length_append, l4]
      have r9 : (stk g1).length = em.length + (h.length + 1) := by rw [stk_n (by omega), stk_t k, List.length_cons] at r9; exact r9
      obtain ⟨u2, E2, M2, F2⟩ := wait_ok (x := x0) M3 (Or.inr hx0') t2 (by omega) (by rw [stk_t t2]; omega) (by omega) (by rw [rm]; exact j2) j3 (by omega)
      have eL : cs ++ (ns ++ (em ++ (x :: (ns2 ++ em2)))) = cs ++ ns ++ em ++ [x] ++ ns2 ++ em2 := by simp
      rw [eL] at L8
      have tok1 : TokR (st2 s 90 13 0) u n e := tok.mv (fun k hk => by rw [st2_sk, if_neg (by omega)]) (st2_ne (by decide)) (fun _ _ _ => rfl) rfl
      have y7 : s8 90 7 = s 90 7 := by rw [F8.2.1 7 (by decide) (by decide) (by decide), st2_sk, if_neg (by decide)]
      have F4 := F3.tr F2
      have wf2 : wfS (okw law) [] (cs ++ ns ++ em ++ [x] ++ ns2 ++ em2) = some (true :: tyG D) := by
        have w1 : wfS (okw law) [] (cs ++ ns ++ em) = some (false :: false :: tyG h) := by rw [wfS_app wf, r10, tyG_f (by omega)]
        have w2 : wfS (okw law) [] (cs ++ ns ++ em ++ [x]) = some (true :: tyG h) := by rw [wfS_app w1, wfS_c (wst_c hx)]; rfl
        have w3 : wfS (okw law) [] (cs ++ ns ++ em ++ [x] ++ ns2) = some (true :: tyG h2) := by rw [wfS_app w2, t5]; exact t8 _ _
        rw [wfS_app w3]; exact j8 _
      obtain ⟨t, v, e2, E3, E4, R, g3, g4⟩ := goB_ok (a := true) (g := x0 :: D) (cs := cs ++ ns ++ em ++ [x] ++ ns2 ++ em2) hT (tok1.f hT F8 F4) ⟨by rw [F8.2.1 3 (by decide) (by decide) (by decide), st2_sk, if_neg (by decide)]; exact z1, by rw [F4.2.1 19 (by decide) (by decide) (by decide) (by decide) (by decide)]; exact z2, by rw [F4.2.1 29 (by decide) (by decide) (by decide) (by decide) (by decide)]; exact z3⟩ (by rw [stk_n (by omega), stk_t j3]; exact L8) M2 ⟨by rw [F8.2.1 14 (by decide) (by decide) (by decide), st2_sk, if_neg (by decide)]; exact l1, by rw [F8.2.1 13 (by decide) (by decide) (by decide), st2_ss, cpd_0 (by omega), (Gk_t j3).1.2.2]⟩ (by rw [opn_0 (by omega)]; omega) (show Pg s8 e c by unfold Pg at *; rw [y7]; exact pg) (by rw [y7]; exact h7) (by rw [stk_n (by omega), stk_t j3, List.length_cons]; omega) hO hlaw (show Gk b (x0 :: D) true by rw [Gk]; exact Or.inr ⟨hx0', j4, j3⟩) (fun h z => by rw [List.cons.injEq] at z; omega) (by rw [wf2, tyG_t hx0'])
      have y17 : u3 200 17 = u 200 17 := F3.2.1 17 (by decide) (by decide) (by decide) (by decide) (by decide)
      have y18 : u3 200 18 = u 200 18 := F3.2.1 18 (by decide) (by decide) (by decide) (by decide) (by decide)
      have y19 : u3 200 19 = 0 := by rw [F3.2.1 19 (by decide) (by decide) (by decide) (by decide) (by decide)]; exact z2
      refine ⟨0, t, _, 1 + 1, ?_, mt.tr (MT.t3 y19 k28 ?_), by omega, (GC.rf.p90 hT (by omega)).tr (F8.g.tr g3), F4.g.tr g4, Or.inl ⟨rfl, _, _, e2, R⟩⟩
      · rw [bh_join hD hx0']
        unfold bhJ10
        rw [l1, if_pos (show (law : Int) = 0 by omega), a12, if_neg (show ¬ (0 : Int) < ((0 : Nat) : Int) by decide), if_pos a13, if_pos (show (0 : Int) = 0 ∨ (0 : Int) = 1 from Or.inl rfl), bindM_eq, E8, E3, b0M_some]
      · have ex : (u 200 18 = 10 ∧ encO x0 = 407) ∨ (u 200 18 = 11 ∧ encO x0 = 406) := by
          rcases d with ⟨d, d', d''⟩ | ⟨d, d', d''⟩
          · exact Or.inr ⟨d'', by rw [d]; rfl⟩
          · exact Or.inl ⟨d'', by rw [d]; rfl⟩
        rw [on_join (by rw [y17]; exact d2) (by rw [y18]; exact ex), E2, E4, b0M_some, b0M_some, bindM_eq]
        rfl
    · exact bad (by rw [bh_join hD hx0']; exact jfail _ _ _ (Or.inr (Or.inl (by rw [hB, brk_1 (by omega)]; omega)))) na (fun _ z => by omega) (fun ⟨x, h, z, z2⟩ => by rw [hB, List.cons.injEq] at z; omega)
