-- a law under way: the step where a SUM or an EITHER may end
theorem Res.pre {s s1 u : Mm} {T law : Nat} {b : Int} {S O n K c : Nat} {o : Option (Int × Mm)} (g : GC s s1 T S) (h : Res s1 u T law b S O n K c o) : Res s u T law b S O n K c o := by
  obtain ⟨y, t, v, m, h1, h2, h3, h4, h5⟩ := h
  exact ⟨y, t, v, m, h1, h2, h3, g.tr h4, h5⟩
theorem end_step {s u : Mm} {T law : Nat} {b : Int} {g cs : List Int} {S O n e c K : Nat} (q : IsO 0 9 T) (hK : K < 1000) (h : RunH s u T law b g cs S O n e c K) (ht : s 90 7 = 41 ∨ s 90 7 = 44 ∨ s 90 7 = 59) : Res s u T law b S O n K c (F_R_readEnd s) := by
  have hq := isO9 q
  have hT := hq.1
  obtain ⟨g1, ns, M, hg, hn1, fp, ⟨e5, e6, e7, e8⟩, wf⟩ := h.parts
  obtain ⟨⟨tok, ⟨z1, z2, z3⟩, L, ⟨l1, l2⟩, ho, ⟨pg, hc⟩, hO, hlaw⟩, -, h28, -, -⟩ := h
  obtain ⟨B, em, r1, r2, r3, r4, ⟨⟨r5, r6, r7, r8⟩, r9⟩, r10⟩ := reg_ok hg hn1
  have hn : n ≤ 300 := tok.1.1
  have he : e ≤ n := tok.2.1.2.2
  have h7 : ¬ s 90 7 = 0 := by omega
  have pc := pg.le h7
  have hb : b = 1 ∨ b = 2 := by omega
  have lcs : (cs ++ ns).length = cs.length + ns.length := List.length_append
  have hss : (stk g1).length ≤ 300 := by omega
  have hnn : O + (cs ++ ns).length + (stk g1).length ≤ 340 := by omega
  have hem : em.length ≤ (stk g1).length := by omega
  have ks41 := kind_s (x := 41) tok.2.2.2 (by unfold sgn; omega)
  have ks44 := kind_s (x := 44) tok.2.2.2 (by unfold sgn; omega)
  have ks59 := kind_s (x := 59) tok.2.2.2 (by unfold sgn; omega)
  have u17 : u 200 17 = 3 := by
    rcases ht with z | z | z
    · exact (ks41.mp z).1
    · exact (ks44.mp z).1
    · exact (ks59.mp z).1
  have u18 : (s 90 7 = 41 ∧ u 200 18 = 41) ∨ (s 90 7 = 44 ∧ u 200 18 = 44) ∨ (s 90 7 = 59 ∧ u 200 18 = 59) := by
    rcases ht with z | z | z
    · exact Or.inl ⟨z, (ks41.mp z).2⟩
    · exact Or.inr (Or.inl ⟨z, (ks44.mp z).2⟩)
    · exact Or.inr (Or.inr ⟨z, (ks59.mp z).2⟩)
  have g59 := ks59.mp
  have g44 := ks44.mp
  have g41 := ks41.mp
  clear ks41 ks44 ks59
  have na : ¬ arM u := fun z => by unfold arM at z; omega
  have nask : ¬ (u 200 17 = 3 ∧ F_M_isAsking (u 200 18) = some 1) := fun z => by
    rw [ask_in, if_neg (by omega)] at z
    exact absurd (Option.some.inj z.2) (by decide)
  obtain ⟨s1, E, L1, F1, -⟩ := fin_ok q (r := 1) (by decide) L
  have fp1 := fp 1 (by decide)
  rw [r4 1 (by decide)] at fp1
  have fp1 : finP 1 (stk g) = ((finP 1 (stk B)).1, ns ++ (em ++ (finP 1 (stk B)).2)) := fp1
  rw [fp1] at L1
  have L1 : LwC s1 T (finP 1 (stk B)).1 (cs ++ (ns ++ (em ++ (finP 1 (stk B)).2))) S := L1
  have y7 : s1 90 7 = s 90 7 := F1.2.1 7 (by decide) (by decide) (by decide)
  have y3 : s1 90 3 = 0 := by rw [F1.2.1 3 (by decide) (by decide) (by decide)]; exact z1
  have y14 : s1 90 14 = (law : Int) := by rw [F1.2.1 14 (by decide) (by decide) (by decide)]; exact l1
  have y13 : s1 90 13 = cpd B := by rw [F1.2.1 13 (by decide) (by decide) (by decide), r6, e6]; exact l2
  have pg1 : Pg s1 e c := by unfold Pg at *; rw [y7]; exact pg
  have tok1 : TokR s1 u n e := tok.f (O := O) hT F1 FV.rf
  have ou := outer_ok L1
  have hE := end_eE E ou
  have l3 : (cs ++ ns ++ em).length = cs.length + ns.length + em.length := by rw [List.length_append, List.length_append]
  have bad : (s 90 7 = 59 → ¬ (finP 1 (stk B)).1.headD (-1) = -1 ∨ ((law : Int) = 0 ∧ cpd B = 0)) → (s 90 7 = 44 → ¬ (finP 1 (stk B)).1.headD (-1) = 20018 ∧ ¬ (finP 1 (stk B)).1.headD (-1) = 20019) → (s 90 7 = 41 → ¬ (finP 1 (stk B)).1.headD (-1) = 20017 ∧ (finP 1 (stk B)).1.headD (-1) < 20020) → (B = [] → ¬ s 90 7 = 59) → ((∃ x h, B = x :: h ∧ cmq x) → ¬ s 90 7 = 59) → (∀ x h, B = x :: h → (x = 20017 ∨ x = 20020 ∨ x = 20021 → ¬ s 90 7 = 41) ∧ (x = 20018 ∨ x = 20019 → ¬ s 90 7 = 44)) → Res s u T law b S O n K c (F_R_readEnd s) := fun c59 c44 c41 m1 m3 m4 => by
    obtain ⟨u1, m, mt, hm, tok2, gm, mt2⟩ := beh_err (S := S) hT tok1 z2 h28 M hg e7 hss hnn r1 hem r3 (by omega) r8 hb na (fun z => by have := m1 z; omega) (fun _ => nask) (fun z => ⟨by omega, by have := m3 z; omega⟩) (fun x h z => ⟨fun z2 => by have := (m4 x h z).1 z2; omega, fun z2 => by have := (m4 x h z).2 z2; omega⟩)
    refine Res.pre F1.g (Res.err (f := 1) hT tok2 (by omega) mt hm gm mt2 ?_)
    rw [hE, eE_fail (by rw [y7, y14, y13]; exact c59) (by rw [y7]; exact c44) (by rw [y7]; exact c41), err_C y3, b1M_some]
  rcases r3 with ⟨hB, hb2⟩ | ⟨h, hB, k⟩ | ⟨x, h, hB, hx, k⟩ | ⟨x, h, hB, hx, k⟩
  · -- a SUM alone
    subst hB
    by_cases c59 : s 90 7 = 59
    · have law0 : ¬ law = 0 := by omega
      have L2 : LwC s1 T [] (cs ++ ns ++ em) S := by
        have : cs ++ (ns ++ (em ++ [])) = cs ++ ns ++ em := by simp
        rw [← this]; exact L1
      have r9 : (stk g1).length = em.length + 0 := r9
      have f0 : frs b g1 = b :: [] := r8.symm
      have b1 : b = 1 := hb.resolve_right hb2
      have hw := Gk_w hg e7
      obtain ⟨t, v, E3, E4, dn, g3, g4⟩ := clause_end (law := law) hT tok1 ⟨y3, z2, z3⟩ L2 M hg e7 hss (by rw [fin13 hg]; exact r1) pg1 (by rw [y7]; exact h7) (by omega) hO hK (by rw [wfS_app wf, r10, show decide (law = 0) = false from decide_eq_false law0]; rfl)
      refine ⟨2, t, v, 1, ?_, MT.t2 z2 h28 ?_, by omega, F1.g.tr g3, g4, Or.inr (Or.inr ⟨rfl, Or.inr dn⟩)⟩
      · rw [hE]
        show eE (-1) s1 = _
        rw [eE_semi (by rw [y7]; exact c59) (Or.inl (by rw [y14]; omega)), E3, b0M_some]
      · rw [go_na (top_ok M f0 (by omega)) na, b1, go1 (g59 c59), E4, b0M_some]
    · exact bad (fun z => absurd z c59) (fun _ => ⟨by decide, by decide⟩) (fun _ => ⟨by decide, by decide⟩) (fun _ => c59) (fun ⟨x, h, z, _⟩ => by simp at z) (fun x h z => by simp at z)
  · -- the left side of an ASK: nothing may end here
    obtain ⟨h2, ns2, t1, t2, t3, t4, ⟨t5, t6, t7⟩, t8⟩ := not_ok k
    obtain ⟨D, em2, j1, j2, j3, j4, ⟨j5, j6, j7⟩, j8⟩ := join_ok (Or.inl rfl) t2 t3
    have b2 := Gk_t2 k
    have law0 : law = 0 := by omega
    have hc0 : cpd B = 0 := by rw [hB, cpd_0 (by omega)]; exact (Gk_t k).1.2.2
    have hd : (finP 1 (stk B)).1.headD (-1) = -1 := by
      rw [hB, stk_1, stk_t k, t4 1 (by decide), j1, Gk_nil j3 j4]; rfl
    exact bad (fun _ => Or.inr ⟨by omega, hc0⟩) (fun _ => by rw [hd]; exact ⟨by decide, by decide⟩) (fun _ => by rw [hd]; exact ⟨by decide, by decide⟩) (fun z => by rw [hB] at z; simp at z) (fun ⟨x, h, z, z2⟩ => by rw [hB, List.cons.injEq] at z; omega) (fun x h z => by rw [hB, List.cons.injEq] at z; exact ⟨fun z2 => by omega, fun z2 => by omega⟩)
  · -- the right side of an ASK
    obtain ⟨h2, ns2, t1, t2, t3, t4, ⟨t5, t6, t7⟩, t8⟩ := not_ok k
    obtain ⟨D, em2, j1, j2, j3, j4, ⟨j5, j6, j7⟩, j8⟩ := join_ok (r := 1) (Or.inl rfl) t2 t3
    have hDn := Gk_nil j3 j4
    subst hDn
    subst hB
    have b2 := Gk_t2 k
    have law0 : law = 0 := by omega
    have rc := rkI_c hx
    have fB : finP 1 (stk (x :: h)) = ([], x :: (ns2 ++ em2)) := by
      rw [stk_n (by omega), stk_t k, finP_g (by omega), t4 1 (by decide), j1]
    have hd : (finP 1 (stk (x :: h))).1.headD (-1) = -1 := by rw [fB]; rfl
    by_cases c59 : s 90 7 = 59
    · have hoh : opn h ≤ 8 := by rw [opn_0 (by omega)] at r7; omega
      obtain ⟨u3, mt, M3, F3, k28⟩ := right_ok z2 h28 M hg e7 hss hnn r1 hem hx k hoh r8.symm na
      rw [t1] at M3
      have M3 : LwM u3 law b h2 (cs ++ ns ++ em ++ [x] ++ ns2) O := M3
      have L2 : LwC s1 T [] (cs ++ ns ++ em ++ [x] ++ ns2 ++ em2) S := by
        have : cs ++ (ns ++ (em ++ (x :: (ns2 ++ em2)))) = cs ++ ns ++ em ++ [x] ++ ns2 ++ em2 := by simp
        rw [fB] at L1
        rw [← this]; exact L1
      have l5 : (cs ++ ns ++ em ++ [x] ++ ns2 ++ em2).length = cs.length + ns.length + em.length + 1 + ns2.length + em2.length := by rw [List.length_append, List.length_append, List.length_append, List.length_append, List.length_append, List.length_singleton]
      have r9 : (stk g1).length = em.length + (h.length + 1) := by rw [stk_n (by omega), stk_t k, List.length_cons] at r9; exact r9
      have j7 : h2.length = em2.length + 0 := j7
      have wf2 : wfS (okw law) [] (cs ++ ns ++ em ++ [x] ++ ns2 ++ em2) = some [decide (law = 0)] := by
        have w1 : wfS (okw law) [] (cs ++ ns ++ em) = some (false :: false :: tyG h) := by rw [wfS_app wf, r10, tyG_f (by omega)]
        have w2 : wfS (okw law) [] (cs ++ ns ++ em ++ [x]) = some (true :: tyG h) := by rw [wfS_app w1, wfS_c (wst_c hx)]; rfl
        have w3 : wfS (okw law) [] (cs ++ ns ++ em ++ [x] ++ ns2) = some (true :: tyG h2) := by rw [wfS_app w2, t5]; exact t8 _ _
        rw [wfS_app w3, show decide (law = 0) = true from decide_eq_true law0]; exact j8 _
      have x17 : u3 200 17 = u 200 17 := F3.2.1 17 (by decide) (by decide) (by decide) (by decide) (by decide)
      have x18 : u3 200 18 = u 200 18 := F3.2.1 18 (by decide) (by decide) (by decide) (by decide) (by decide)
      have x19 : u3 200 19 = 0 := by rw [F3.2.1 19 (by decide) (by decide) (by decide) (by decide) (by decide)]; exact z2
      have x29 : u3 200 29 = (K : Int) := by rw [F3.2.1 29 (by decide) (by decide) (by decide) (by decide) (by decide)]; exact z3
      obtain ⟨t, v, E3, E4, dn, g3, g4⟩ := clause_end (law := law) (g := h2) hT (tok1.f (S := S) hT FW.rf F3) ⟨y3, x19, x29⟩ L2 M3 t2 (by omega) (by rw [stk_t t2]; omega) j2 pg1 (by rw [y7]; exact h7) (by omega) hO hK wf2
      have f2 := join_fr t2 t3
      refine ⟨2, t, v, 1 + 1, ?_, mt.tr (MT.t3 x19 k28 ?_), by omega, F1.g.tr g3, F3.g.tr g4, Or.inr (Or.inr ⟨rfl, Or.inr dn⟩)⟩
      · rw [hE, hd, eE_semi (by rw [y7]; exact c59) (Or.inr (by rw [y13, cpd_1 hx]; decide)), E3, b0M_some]
      · rw [on_end (by rw [x17, x18]; exact g59 c59) (by rw [top_ok M3 f2 (by rw [f2]; simp), b2]), E4, b0M_some]
    · exact bad (fun z => absurd z c59) (fun _ => by rw [hd]; exact ⟨by decide, by decide⟩) (fun _ => by rw [hd]; exact ⟨by decide, by decide⟩) (fun z => by simp at z) (fun _ => c59) (fun y h z => by rw [List.cons.injEq] at z; exact ⟨fun z2 => by omega, fun z2 => by omega⟩)
  · -- brackets
    subst hB
    have rb := rkI_b hx
    have fB : finP 1 (stk (x :: h)) = (x :: stk h, []) := by rw [stk_n (by omega), finP_s (by omega)]
    have hd : (finP 1 (stk (x :: h))).1.headD (-1) = x := by rw [fB]; rfl
    have L2 : LwC s1 T (x :: stk h) (cs ++ ns ++ em) S := by
      have : cs ++ (ns ++ (em ++ [])) = cs ++ ns ++ em := by simp
      rw [fB] at L1
      rw [← this]; exact L1
    have r9 : (stk g1).length = em.length + ((stk h).length + 1) := by rw [stk_n (by omega), List.length_cons] at r9; exact r9
    have f0 : frs b g1 = frK x :: frs b h := by rw [← r8]; exact frs_f (by omega)
    have hw := Gk_w hg e7
    have r7 : 1 + opn h = opn g1 := by rw [← r7, opn_1 (by omega)]
    have hfl : (frs b g1).length = (frs b h).length + 1 := by rw [f0, List.length_cons]
    obtain ⟨w, E1, M1, G1, -⟩ := wk_ok (r := 3) M hg e7 hss (by omega)
    rw [r1] at M1
    have M1 : LwM w law b (x :: h) (cs ++ ns ++ em) O := M1
    have w19 : w 200 19 = 0 := by rw [G1.2.1 19 (by decide) (by decide) (by decide) (by decide) (by decide)]; exact z2
    have w29 : w 200 29 = (K : Int) := by rw [G1.2.1 29 (by decide) (by decide) (by decide) (by decide) (by decide)]; exact z3
    have cph : cpd (x :: h) = cpd h := cpd_0 (by omega)
    by_cases cc : s 90 7 = 44 ∧ (x = 20018 ∨ x = 20019)
    · -- the second SUM of more, less
      obtain ⟨c44, hxx⟩ := cc
      obtain ⟨⟨k1, k2⟩, L3⟩ := L2.comma hT hxx
      obtain ⟨k3, M2⟩ := M1.comma hxx
      have F2 : FW s1 (st2 s1 92 (stk h).length (x + 2)) T S := FW.rf.p92 hT
      have G2 : FV u (st2 w 212 (frs b h).length (frK (x + 2))) O := G1.p1 (by omega)
      have q7 : st2 s1 92 (stk h).length (x + 2) 90 7 = s 90 7 := by rw [st2_ne (by decide)]; exact y7
      obtain ⟨t, v, e2, E3, E4, R, g3, g4⟩ := goB_ok (a := false) (g := (x + 2) :: h) (law := law) hT (tok1.f hT F2 G2) ⟨by rw [st2_ne (by decide)]; exact y3, by rw [st2_ne (by decide)]; exact w19, by rw [st2_ne (by decide)]; exact w29⟩ (by rw [stk_n (by omega)]; exact L3) M2 ⟨by rw [st2_ne (by decide)]; exact y14, by rw [st2_ne (by decide), cpd_0 (by omega), ← cph]; exact y13⟩ (by rw [opn_1 (by omega)]; omega) (show Pg _ e c by unfold Pg at *; rw [q7]; exact pg) (by rw [q7]; exact h7) (by rw [stk_n (by omega), List.length_cons]; omega) hO hlaw (show Gk b ((x + 2) :: h) false by rw [Gk]; exact Or.inr (Or.inr ⟨Or.inr (by omega), k⟩)) (fun h z => by rw [List.cons.injEq] at z; omega) (by rw [wfS_app wf, r10, tyG_n (by omega) (by omega), tyG_f (by omega)])
      refine ⟨0, t, _, 1, ?_, MT.t2 z2 h28 ?_, by omega, F1.g.tr (F2.g.tr g3), G2.g.tr g4, Or.inl ⟨rfl, _, _, e2, R⟩⟩
      · rw [hE, hd, eE_comma (by rw [y7]; exact c44) hxx, k1, if_pos (show 0 ≤ ((stk h).length : Int) ∧ ((stk h).length : Int) < 300 by omega), Int.toNat_natCast, bindM_eq, E3, b0M_some]
      · have fr40 : 0 ≤ ((frs b h).length : Int) ∧ ((frs b h).length : Int) < 40 := by omega
        rcases hxx with rfl | rfl
        · rw [go_na (top_ok M f0 (by omega)) na, show frK 20018 = 8 from rfl, go8 (g44 c44)]
          have E4 : F_M_next (st2 w 212 (frs b h).length 10) = some v := E4
          unfold gC
          rw [E1, b0M_some, if_pos (show (8 : Int) = 8 from rfl), bindM_eq, k3, if_pos fr40, Int.toNat_natCast, bindM_eq, E4, b0M_some, bindM_eq]
          rfl
        · rw [go_na (top_ok M f0 (by omega)) na, show frK 20019 = 9 from rfl, go9 (g44 c44)]
          have E4 : F_M_next (st2 w 212 (frs b h).length 11) = some v := E4
          unfold gC
          rw [E1, b0M_some, if_neg (show ¬ (9 : Int) = 8 by decide), bindM_eq, k3, if_pos fr40, Int.toNat_natCast, bindM_eq, E4, b0M_some, bindM_eq]
          rfl
    · by_cases cp : s 90 7 = 41 ∧ (x = 20017 ∨ x = 20020 ∨ x = 20021)
      · -- a bracket ends
        obtain ⟨c41, hxx⟩ := cp
        obtain ⟨d1, d2, M2, G2⟩ := M1.drop (by omega)
        have d3 : st2 w 200 22 ((frs b h).length : Int) 200 21 - 1 = (opn h : Int) := by rw [st2_sk, if_neg (by decide)]; exact d2
        have G3 := G1.tr G2
        have o19 : st2 (st2 w 200 22 ((frs b h).length : Int)) 200 21 (opn h : Int) 200 19 = 0 := by rw [st2_sk, if_neg (by decide), st2_sk, if_neg (by decide)]; exact w19
        have o29 : st2 (st2 w 200 22 ((frs b h).length : Int)) 200 21 (opn h : Int) 200 29 = (K : Int) := by rw [st2_sk, if_neg (by decide), st2_sk, if_neg (by decide)]; exact w29
        by_cases c17 : x = 20017
        · subst c17
          obtain ⟨s2, E2, L3, F2⟩ := L2.drop hT (by omega)
          have q7 : s2 90 7 = s 90 7 := by rw [F2.2.1 7 (by decide) (by decide) (by decide)]; exact y7
          obtain ⟨t, v, u3, E3, E4, E5, R, g3, g4⟩ := over_ok (K := K) (c := c) hT (tok1.f hT F2 G3) ⟨by rw [F2.2.1 3 (by decide) (by decide) (by decide)]; exact y3, o19, o29⟩ L3 M2 ⟨by rw [F2.2.1 14 (by decide) (by decide) (by decide)]; exact y14, by rw [F2.2.1 13 (by decide) (by decide) (by decide), ← cph]; exact y13⟩ (by omega) (show Pg s2 e c by unfold Pg at *; rw [q7]; exact pg) (by rw [q7]; exact h7) (by omega) hO hlaw k (by rw [wfS_app wf, r10, tyG_n (by omega) (by omega)])
          obtain ⟨e2, R⟩ := R
          refine ⟨1, t, v, 1, ?_, MT.t2 z2 h28 ?_, by omega, F1.g.tr (F2.g.tr g3), G3.g.tr g4, Or.inr (Or.inl ⟨rfl, _, _, e2, R⟩)⟩
          · rw [hE, hd, eE_par (by rw [y7]; exact c41), E2, E3, b0M_some]
          · rw [go_na (top_ok M f0 (by omega)) na, show frK 20017 = 6 from rfl, go6 (g41 c41)]
            unfold gP
            rw [E1, b0M_some, d1, if_pos (r32_nat (by omega)), bindM_eq, d3, if_pos (r32_nat (by omega)), bindM_eq, E4, b0M_some, E5, b0M_some]
        · have hx2 : x = 20020 ∨ x = 20021 := by omega
          have Ee := emit_raw (c := x - 7) L2.2.2.2.1.1 (by omega)
          have L2e := L2.emit (c := x - 7) hT (by rw [List.length_cons]; omega)
          have Fe : FW s1 (st2 (st2 s1 (T + 4) (S + (cs ++ ns ++ em).length) (x - 7)) T 4 ((S + (cs ++ ns ++ em).length + 1 : Nat) : Int)) T S := (FW.rf.pE hT (by omega)).pT hT
          generalize st2 (st2 s1 (T + 4) (S + (cs ++ ns ++ em).length) (x - 7)) T 4 ((S + (cs ++ ns ++ em).length + 1 : Nat) : Int) = s1e at *
          obtain ⟨s2, E2, L3, F2⟩ := L2e.drop hT (by omega)
          have F2 := Fe.tr F2
          have ex : encO (x - 7) = if x = 20020 then 404 else 403 := by rcases hx2 with rfl | rfl <;> rfl
          obtain ⟨E6, M3, G4⟩ := M2.emit (c := x - 7) (v := 0) (by omega) (fun z => absurd z (by omega))
          have G5 := G3.tr G4
          have l6 : (cs ++ ns ++ em ++ [x - 7]).length = cs.length + ns.length + em.length + 1 := by rw [List.length_append, l3, List.length_singleton]
          have q7 : s2 90 7 = s 90 7 := by rw [F2.2.1 7 (by decide) (by decide) (by decide)]; exact y7
          have wf3 : wfS (okw law) [] (cs ++ ns ++ em ++ [x - 7]) = some (false :: tyG h) := by
            have w1 : wfS (okw law) [] (cs ++ ns ++ em) = some (false :: false :: tyG h) := by rw [wfS_app wf, r10, tyG_f (by omega)]
            rw [wfS_app w1, wfS_c (wst_m (by omega))]; rfl
          obtain ⟨t, v, u3, E3, E4, E5, R, g3, g4⟩ := over_ok (K := K) (c := c) hT (tok1.f hT F2 G5) ⟨by rw [F2.2.1 3 (by decide) (by decide) (by decide)]; exact y3, by rw [G4.2.1 19 (by decide) (by decide) (by decide) (by decide) (by decide)]; exact o19, by rw [G4.2.1 29 (by decide) (by decide) (by decide) (by decide) (by decide)]; exact o29⟩ L3 M3 ⟨by rw [F2.2.1 14 (by decide) (by decide) (by decide)]; exact y14, by rw [F2.2.1 13 (by decide) (by decide) (by decide), ← cph]; exact y13⟩ (by omega) (show Pg s2 e c by unfold Pg at *; rw [q7]; exact pg) (by rw [q7]; exact h7) (by omega) hO hlaw k wf3
          obtain ⟨e2, R⟩ := R
          refine ⟨1, t, v, 1, ?_, MT.t2 z2 h28 ?_, by omega, F1.g.tr (F2.g.tr g3), G5.g.tr g4, Or.inr (Or.inl ⟨rfl, _, _, e2, R⟩)⟩
          · rw [hE, hd, eE_two q L2.1 (by rw [y7]; exact c41) hx2, Ee, b0M_some, E2, E3, b0M_some]
          · rcases hx2 with rfl | rfl
            · have E6 : F_M_emits 404 0 (st2 (st2 w 200 22 ((frs b h).length : Int)) 200 21 (opn h : Int)) = _ := E6
              rw [go_na (top_ok M f0 (by omega)) na, show frK 20020 = 10 from rfl, go10 (g41 c41)]
              unfold gT
              rw [E1, b0M_some, d1, if_pos (r32_nat (by omega)), bindM_eq, d3, if_pos (r32_nat (by omega)), bindM_eq, if_pos (show (10 : Int) = 10 from rfl), bindM_eq, E6, b0M_some, E4, b0M_some, E5, b0M_some]
            · have E6 : F_M_emits 403 0 (st2 (st2 w 200 22 ((frs b h).length : Int)) 200 21 (opn h : Int)) = _ := E6
              rw [go_na (top_ok M f0 (by omega)) na, show frK 20021 = 11 from rfl, go11 (g41 c41)]
              unfold gT
              rw [E1, b0M_some, d1, if_pos (r32_nat (by omega)), bindM_eq, d3, if_pos (r32_nat (by omega)), bindM_eq, if_neg (show ¬ (11 : Int) = 10 by decide), bindM_eq, E6, b0M_some, E4, b0M_some, E5, b0M_some]
      · exact bad (fun _ => Or.inl (by rw [hd]; omega)) (fun z => by rw [hd]; omega) (fun z => by rw [hd]; omega) (fun z => by simp at z) (fun ⟨y, h, z, z2⟩ => by rw [List.cons.injEq] at z; omega) (fun y h z => by rw [List.cons.injEq] at z; exact ⟨fun z2 => by omega, fun z2 => by omega⟩)
