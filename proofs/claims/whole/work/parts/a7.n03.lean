-- a law under way: behind a ONE, what both do
theorem ops_in {b : Int} : ∀ {g : List Int} {a : Bool}, Gk b g a → ∀ x ∈ g, ¬ frm x → 20000 ≤ x ∧ x ≤ 20012
  | [], _, _, x, hx, _ => by simp at hx
  | y :: g, true, h, x, hx, hn => by
    rw [Gk] at h
    rcases List.mem_cons.mp hx with q | q
    · subst q
      rcases h with ⟨h1, _⟩ | ⟨h1, _, _⟩
      · exact absurd (show frm x by omega) hn
      · omega
    · rcases h with ⟨_, h⟩ | ⟨_, _, h⟩
      · exact ops_in h x q hn
      · exact ops_in h x q hn
  | y :: g, false, h, x, hx, hn => by
    rw [Gk] at h
    rcases List.mem_cons.mp hx with q | q
    · subst q
      rcases h with ⟨h1, _⟩ | ⟨h1, _, _⟩ | ⟨h1, _⟩
      · exact absurd (show frm x by omega) hn
      · omega
      · exact absurd (show frm x by omega) hn
    · rcases h with ⟨_, h⟩ | ⟨_, _, h⟩ | ⟨_, h⟩
      · exact ops_in h x q hn
      · exact ops_in h x q hn
      · exact ops_in h x q hn
theorem Gk_w {b : Int} {g : List Int} {a : Bool} (h : Gk b g a) (ho : opn g ≤ 8) : (wos g).length ≤ 29 ∧ (frs b g).length ≤ 10 ∧ (tyG g).length ≤ 29 ∧ g.length ≤ (stk g).length + 1 := by
  match a, h with
  | true, h =>
    obtain ⟨⟨i1, i2, i3⟩, ⟨i4, i5⟩, ⟨i6, i7, i8⟩, i9, i11⟩ := Gk_t h
    exact ⟨by omega, by omega, by omega, by rw [i1]; omega⟩
  | false, h =>
    obtain ⟨⟨i1, i2⟩, ⟨i3, i4, i5⟩, i6⟩ := Gk_f h
    exact ⟨by omega, by omega, by omega, Gk_len h⟩
theorem wk_ok {law O : Nat} {b r : Int} {g cs : List Int} {u : Mm} {a : Bool} (h : LwM u law b g cs O) (hg : Gk b g a) (ho : opn g ≤ 8) (hs : (stk g).length ≤ 300) (hn : O + cs.length ≤ 365) : ∃ v, F_M_works r u = some v ∧ LwM v law b (finM r g).1 (cs ++ (finM r g).2) O ∧ FV u v O ∧ v 200 28 = u 200 28 := by
  have := Gk_w hg ho
  exact works_ok (by unfold LF; omega) h (ops_in hg) (by omega) (by omega)
theorem finP_len {r : Int} : ∀ {w : List Int}, (finP r w).2.length + (finP r w).1.length = w.length
  | [] => rfl
  | x :: w => by
    by_cases c : rkI x < r
    · rw [finP_s c]; simp
    · have := finP_len (r := r) (w := w)
      rw [finP_g c]
      show (x :: (finP r w).2).length + (finP r w).1.length = _
      rw [List.length_cons, List.length_cons]; omega
/-- a sign waits, behind what it lets be done -/
theorem wait_ok {law O : Nat} {b x : Int} {g cs D em : List Int} {u : Mm} {a a2 : Bool} (M : LwM u law b g cs O) (hx : ari x ∨ x = 20011 ∨ x = 20012) (hg : Gk b g a) (ho : opn g ≤ 8) (hs : (stk g).length ≤ 300) (hn : O + cs.length ≤ 365) (hf : finM (rkM x) g = (D, em)) (hD : Gk b D a2) (hoD : opn D ≤ 8) : ∃ u2, F_M_waitsFor (encO x) u = (b0M (F_M_next u2) fun s8 => some s8) ∧ LwM u2 law b (x :: D) (cs ++ em) O ∧ FV u u2 O := by
  obtain ⟨v, E, M2, F2, -⟩ := wk_ok (r := rkM x) M hg ho hs hn
  rw [hf] at M2
  have hw := (Gk_w hD hoD).1
  have nf : ¬ frm x := by omega
  obtain ⟨h1, ⟨h2, h3, h4⟩, ⟨h5, h6, h7⟩, h8, h9, h10⟩ := M2
  have a25 : st2 v 214 (wos D).length (encO x) 200 25 = ((wos D).length : Int) := by rw [st2_ne (by decide)]; exact h5
  have a22 : st2 v 214 (wos D).length (encO x) 200 22 = ((frs b D).length : Int) := by rw [st2_ne (by decide)]; exact h2
  have b25 : st2 (st2 v 214 (wos D).length (encO x)) 215 (wos D).length ((frs b D).length : Int) 200 25 = ((wos D).length : Int) := by rw [st2_ne (by decide)]; exact a25
  have e1 : ((wos D).length : Int) + 1 = (((wos D).length + 1 : Nat) : Int) := by omega
  have h5 : v 200 25 = ((wos D).length : Int) := h5
  refine ⟨st2 (st2 (st2 v 214 (wos D).length (encO x)) 215 (wos D).length ((frs b D).length : Int)) 200 25 (((wos D).length + 1 : Nat) : Int), ?_, ⟨?_, ⟨?_, ?_, ?_, ?_⟩, ⟨?_, ?_, ?_⟩, ?_, ?_, ?_⟩, ((F2.p1 (by omega)).p1 (by omega)).p0 (by omega)⟩
  · unfold F_M_waitsFor
    rw [rank_M (by omega), b1_some, E, b0M_some, h5, if_pos (show 0 ≤ ((wos D).length : Int) ∧ ((wos D).length : Int) < 80 by omega), Int.toNat_natCast, bindM_eq, a25, if_pos (show 0 ≤ ((wos D).length : Int) ∧ ((wos D).length : Int) < 80 by omega), Int.toNat_natCast, a22, bindM_eq, b25, e1, if_pos (r32_nat (by omega)), bindM_eq]
  · rw [st2_sk, if_neg (by decide), st2_ne (by decide), st2_ne (by decide)]; exact h1
  · rw [st2_sk, if_neg (by decide), st2_ne (by decide), st2_ne (by decide), frs_n nf]; exact h2
  · rw [st2_ne (by decide), st2_ne (by decide), st2_ne (by decide), frs_n nf]; exact h3
  · exact fun q => absurd (show frm x by omega) nf
  · rw [st2_ne (by decide), st2_ne (by decide), st2_ne (by decide)]; exact h4
  · rw [st2_ss, wos_n nf, List.length_cons]
  · rw [st2_ne (by decide), st2_ne (by decide), wos_n nf]
    exact StkR.push h6
  · rw [st2_ne (by decide), wfr_n nf]
    have : StkR (st2 v 214 (wos D).length (encO x) 215) (wfr b D) := by rw [st2_ne (by decide)]; exact h7
    have p := StkR.push (x := ((frs b D).length : Int)) this
    rw [wfr_len] at p
    exact p
  · rw [st2_sk, if_neg (by decide), st2_ne (by decide), st2_ne (by decide), h8, opn_0 (by omega)]
  · rw [st2_sk, if_neg (by decide), st2_ne (by decide), st2_ne (by decide)]; exact h9
  · rw [st2_ne (by decide), st2_ne (by decide), st2_ne (by decide), st2_ne (by decide), st2_ne (by decide), st2_ne (by decide)]; exact h10
/-- both go on to a ONE or an ASK -/
theorem goB_ok {s u : Mm} {T law : Nat} {b : Int} {g cs : List Int} {S O n e c K : Nat} {a : Bool} (hT : 94 ≤ T) (tok : TokR s u n e) (z : s 90 3 = 0 ∧ u 200 19 = 0 ∧ u 200 29 = (K : Int)) (L : LwC s T (stk g) cs S) (M : LwM u law b g cs O) (hl : s 90 14 = (law : Int) ∧ s 90 13 = cpd g) (ho : opn g ≤ 8) (pg : Pg s e c) (h7 : ¬ s 90 7 = 0) (hc : S + cs.length + (stk g).length ≤ c + 1) (hO : O ≤ S + 24) (hlaw : (law = 0 ∧ b = 2) ∨ ((law = 1 ∨ law = 2) ∧ b = 1)) (hg : Gk b g a) (hh : ∀ h, g ≠ 1 :: h) (wf : wfS (okw law) [] cs = some (tyG g)) : ∃ t v e2, F_R_step s = some t ∧ F_M_next u = some v ∧ RunB t (st2 v 200 28 (if a = true then 0 else 1)) T law b g cs S O n e2 (c + 1) K ∧ GC s t T S ∧ GM u (st2 v 200 28 (if a = true then 0 else 1)) O := by
  obtain ⟨e2, t, v, E1, E2, tok2, s1, s2, p1, p2⟩ := tok.step
  refine ⟨t, v, e2, E1, E2, ⟨⟨?_, ⟨?_, ?_, ?_⟩, L.st hT s1, ⟨?_, ?_⟩, ho, ⟨pg.go h7 p1 p2, hc⟩, hO, hlaw⟩, (M.st s2).s28, ⟨a, hg, st2_ss _ _ _ _⟩, hh, wf⟩, s1.g hT, s2.g.p0 (by omega)⟩
  · exact tok2.mv (fun _ _ => rfl) rfl (fun k k1 k2 => by rw [st2_sk, if_neg (by omega)]) (st2_ne (by decide))
  · rw [s1.1 3 (by omega)]; exact z.1
  · rw [st2_sk, if_neg (by decide), s2.1 19 (by omega)]; exact z.2.1
  · rw [st2_sk, if_neg (by decide), s2.1 29 (by omega)]; exact z.2.2
  · rw [s1.1 14 (by omega)]; exact hl.1
  · rw [s1.1 13 (by omega)]; exact hl.2
theorem RunH.parts {s u : Mm} {T law : Nat} {b : Int} {g cs : List Int} {S O n e c K : Nat} (h : RunH s u T law b g cs S O n e c K) : ∃ g1 ns, LwM u law b g1 (cs ++ ns) O ∧ Gk b g1 false ∧ (∀ x h, g1 = x :: h → ¬ x = 20015) ∧ (∀ r : Int, r ≤ 7 → finP r (stk g) = ((finP r (stk g1)).1, ns ++ (finP r (stk g1)).2)) ∧ (brk g1 = brk g ∧ cpd g1 = cpd g ∧ opn g1 ≤ 8 ∧ (stk g).length = ns.length + (stk g1).length) ∧ wfS (okw law) [] (cs ++ ns) = some (false :: tyG g1) := by
  obtain ⟨⟨tok, z, L, l, ho, hc, hO, hlaw⟩, M, h28, hg, wf⟩ := h
  obtain ⟨g1, ns, e1, e2, e3, e4, ⟨⟨e5, e6, e7⟩, e8, e9⟩, e10⟩ := neg_ok hg
  rw [e1] at M
  exact ⟨g1, ns, M, e2, e3, e4, ⟨e5, e6, by omega, e9⟩, by rw [wfS_app wf, e7]; exact e10 _ _⟩
/-- the program: finish, hold, step -/
def bhJ5 (v1 : Int) (t5 : Mm) : Option (Int × Mm) :=
  b1 (F_R_rank v1) fun v6 =>
  b0M (F_R_finish v6 t5) fun s7 =>
  b0M (F_R_hold v1 s7) fun s8 =>
  b0M (F_R_step  s8) fun s9 =>
  some (0, s9)
def bhJ10 (v1 y3 y4 : Int) (σ : Mm) : Option (Int × Mm) :=
  if σ 90 14 = 0 then
    if 0 < σ 90 12 then
      b1M (F_R_fail 1 σ) fun v12 s12 =>
      some (v12, s12)
    else
      if σ 90 13 = y4 then
        if y3 = 0 ∨ y3 = 1 then
          bindM (st2 σ 90 13 y3) fun s14 =>
          bhJ5 v1 s14
        else none
      else
        b1M (F_R_fail 1 σ) fun v12 s12 =>
        some (v12, s12)
  else
    b1M (F_R_fail 1 σ) fun v12 s12 =>
    some (v12, s12)
theorem bh_none {s : Mm} (h : F_R_doneBy s = some (-1)) : F_R_readBehind s = b1M (F_R_fail 1 s) fun v2 s2 => some (v2, s2) := by
  unfold F_R_readBehind
  rw [h, b1_some, if_pos rfl]
theorem bh_ari {s : Mm} {x : Int} (h : F_R_doneBy s = some x) (hx : ari x) : F_R_readBehind s = bhJ5 x s := by
  unfold F_R_readBehind bhJ5
  rw [h, b1_some, if_neg (show ¬ x = -1 by omega), bindM_eq, bindM_eq, if_pos (show x < 20005 by omega)]
  dsimp only
  rw [bindM_eq, bindM_eq, if_neg (show ¬ x = 20011 by omega), if_neg (show ¬ x = 20012 by omega)]
  dsimp only
  rw [bindM_eq, bindM_eq, if_pos rfl, if_pos rfl]
theorem bh_cmp {s : Mm} {x : Int} (h : F_R_doneBy s = some x) (hx : cmq x) : F_R_readBehind s = bhJ10 x 1 0 s := by
  unfold F_R_readBehind bhJ10 bhJ5
  rw [h, b1_some, if_neg (show ¬ x = -1 by omega), bindM_eq, bindM_eq, if_neg (show ¬ x < 20005 by omega), if_neg (show ¬ 20010 < x by omega)]
  dsimp only
  rw [bindM_eq, bindM_eq, if_neg (show ¬ x = 20011 by omega), if_neg (show ¬ x = 20012 by omega)]
  dsimp only
  rw [bindM_eq, bindM_eq, if_neg (show ¬ (1 : Int) = 0 by decide)]
  rfl
theorem bh_join {s : Mm} {x : Int} (h : F_R_doneBy s = some x) (hx : x = 20011 ∨ x = 20012) : F_R_readBehind s = bhJ10 x 0 1 s := by
  unfold F_R_readBehind bhJ10 bhJ5
  rw [h, b1_some, if_neg (show ¬ x = -1 by omega), bindM_eq, bindM_eq, if_neg (show ¬ x < 20005 by omega), if_pos (show 20010 < x by omega)]
  dsimp only
  rw [bindM_eq, bindM_eq]
  have key : ∀ A B : Option (Int × Mm), (if x = 20011 then A else if x = 20012 then A else B) = A := fun A B => by
    by_cases c : x = 20011
    · rw [if_pos c]
    · rw [if_neg c, if_pos (by omega)]
  rw [key]
  dsimp only
  rw [bindM_eq, bindM_eq, if_pos rfl, if_neg (show ¬ (1 : Int) = 0 by decide)]
  rfl
theorem bh_ok {s : Mm} {T S : Nat} {w cs D em : List Int} {x : Int} (q : IsO 0 9 T) (L : LwC s T w cs S) (hx : 20000 ≤ x ∧ x ≤ 20012) (hr : 1 ≤ rkI x) (hf : finP (rkI x) w = (D, em)) (hc : S + cs.length + w.length < 300) : ∃ s8, bhJ5 x s = (b0M (F_R_step s8) fun s9 => some (0, s9)) ∧ LwC s8 T (x :: D) (cs ++ em) S ∧ FW s s8 T S := by
  have hq := isO9 q
  obtain ⟨s7, E, L2, F2, e92⟩ := fin_ok q hr L
  have hl := finP_len (r := rkI x) (w := w)
  rw [hf] at L2 hl
  have hl : em.length + D.length = w.length := hl
  obtain ⟨E3, L3, F3⟩ := L2.hold (x := x) (s' := s7) hq.1 (by omega) (by rw [List.length_append]; omega) FW.rf rfl rfl (by rw [opn_0 (by omega)]; exact L2.2.2.1.1) (by rw [brk_0 (by omega)]; exact L2.2.2.1.2) rfl rfl
  refine ⟨_, ?_, L3, F2.tr F3⟩
  unfold bhJ5
  rw [rank_C (by omega), b1_some, E, b0M_some, E3, b0M_some]
