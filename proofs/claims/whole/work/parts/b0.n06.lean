-- a law under way: where a SUM or an EITHER may end
def eE (v2 : Int) (s1 : Mm) : Option (Int × Mm) :=
  bindM (
    bindM (
      bindM (
        b1M (F_R_fail 1 s1) fun v6 s6 =>
        some (v6, s6)) fun J5 =>
      if s1 90 7 = 41 then
        bindM (
          bindM (fun  (t8 : Mm) =>
            if r32 ((t8 90 10) - 1) then
              bindM (st2 t8 90 10 ((t8 90 10) - 1)) fun s11 =>
              if r32 ((s11 90 11) - 1) then
                bindM (st2 s11 90 11 ((s11 90 11) - 1)) fun s14 =>
                if r32 ((s14 90 12) - 1) then
                  bindM (st2 s14 90 12 ((s14 90 12) - 1)) fun s17 =>
                  b0M (F_R_step  s17) fun s18 =>
                  some (1, s18)
                else none
              else none
            else none) fun J8 =>
          if v2 = 20017 then
            J8 s1
          else
            if 0 ≤ s1 90 15 ∧ IsO 0 9 (s1 90 15).toNat then
              bindM ((if v2 = 20020 then 20013 else 20014 : Int)) fun v20 =>
              b0M (F_T_emit ((s1 90 15).toNat) v20 s1) fun s21 =>
              J8 s21
            else none) fun J7 =>
        if v2 = 20017 then
          J7
        else
          if 20020 ≤ v2 then
            J7
          else
            J5
      else
        J5) fun J4 =>
    if s1 90 7 = 44 then
      bindM (
        bindM ((if v2 = 20018 then 20020 else 20021 : Int)) fun v23 =>
        if 0 ≤ (s1 90 10) - 1 ∧ (s1 90 10) - 1 < 300 then
          bindM (st2 s1 92 (((s1 90 10) - 1).toNat) v23) fun s24 =>
          b0M (F_R_step  s24) fun s25 =>
          some (0, s25)
        else none) fun J22 =>
      if v2 = 20018 then
        J22
      else
        if v2 = 20019 then
          J22
        else
          J4
    else
      J4) fun J3 =>
  if s1 90 7 = 59 then
    if v2 = (-1) then
      bindM (
        b0M (F_R_step  s1) fun s27 =>
        some (2, s27)) fun J26 =>
      if s1 90 14 = 0 then
        if s1 90 13 = 0 then
          J3
        else
          J26
      else
        J26
    else
      J3
  else
    J3
def eD (t8 : Mm) : Option (Int × Mm) :=
  if r32 ((t8 90 10) - 1) then
    bindM (st2 t8 90 10 ((t8 90 10) - 1)) fun s11 =>
    if r32 ((s11 90 11) - 1) then
      bindM (st2 s11 90 11 ((s11 90 11) - 1)) fun s14 =>
      if r32 ((s14 90 12) - 1) then
        bindM (st2 s14 90 12 ((s14 90 12) - 1)) fun s17 =>
        b0M (F_R_step  s17) fun s18 =>
        some (1, s18)
      else none
    else none
  else none
theorem end_eE {s s1 : Mm} {v2 : Int} (h : F_R_finish 1 s = some s1) (h2 : F_R_outer s1 = some v2) : F_R_readEnd s = eE v2 s1 := by
  unfold F_R_readEnd eE
  rw [h, b0M_some, h2, b1_some]
theorem eE_fail {s : Mm} {v : Int} (h59 : s 90 7 = 59 → ¬ v = -1 ∨ (s 90 14 = 0 ∧ s 90 13 = 0)) (h44 : s 90 7 = 44 → ¬ v = 20018 ∧ ¬ v = 20019) (h41 : s 90 7 = 41 → ¬ v = 20017 ∧ v < 20020) : eE v s = b1M (F_R_fail 1 s) fun v6 s6 => some (v6, s6) := by
  unfold eE
  generalize hX : (b1M (F_R_fail 1 s) fun v6 s6 => some (v6, s6)) = X
  rw [bindM_eq]
  have a : (bindM (bindM X fun J5 => if s 90 7 = 41 then bindM (bindM (fun (t8 : Mm) => if r32 ((t8 90 10) - 1) then bindM (st2 t8 90 10 ((t8 90 10) - 1)) fun s11 => if r32 ((s11 90 11) - 1) then bindM (st2 s11 90 11 ((s11 90 11) - 1)) fun s14 => if r32 ((s14 90 12) - 1) then bindM (st2 s14 90 12 ((s14 90 12) - 1)) fun s17 => b0M (F_R_step s17) fun s18 => some (1, s18) else none else none else none) fun J8 => if v = 20017 then J8 s else if 0 ≤ s 90 15 ∧ IsO 0 9 (s 90 15).toNat then bindM ((if v = 20020 then 20013 else 20014 : Int)) fun v20 => b0M (F_T_emit ((s 90 15).toNat) v20 s) fun s21 => J8 s21 else none) fun J7 => if v = 20017 then J7 else if 20020 ≤ v then J7 else J5 else J5) fun J4 => if s 90 7 = 44 then bindM (bindM ((if v = 20018 then 20020 else 20021 : Int)) fun v23 => if 0 ≤ (s 90 10) - 1 ∧ (s 90 10) - 1 < 300 then bindM (st2 s 92 (((s 90 10) - 1).toNat) v23) fun s24 => b0M (F_R_step s24) fun s25 => some (0, s25) else none) fun J22 => if v = 20018 then J22 else if v = 20019 then J22 else J4 else J4) = X := by
    rw [bindM_eq]
    have b : (bindM X fun J5 => if s 90 7 = 41 then bindM (bindM (fun (t8 : Mm) => if r32 ((t8 90 10) - 1) then bindM (st2 t8 90 10 ((t8 90 10) - 1)) fun s11 => if r32 ((s11 90 11) - 1) then bindM (st2 s11 90 11 ((s11 90 11) - 1)) fun s14 => if r32 ((s14 90 12) - 1) then bindM (st2 s14 90 12 ((s14 90 12) - 1)) fun s17 => b0M (F_R_step s17) fun s18 => some (1, s18) else none else none else none) fun J8 => if v = 20017 then J8 s else if 0 ≤ s 90 15 ∧ IsO 0 9 (s 90 15).toNat then bindM ((if v = 20020 then 20013 else 20014 : Int)) fun v20 => b0M (F_T_emit ((s 90 15).toNat) v20 s) fun s21 => J8 s21 else none) fun J7 => if v = 20017 then J7 else if 20020 ≤ v then J7 else J5 else J5) = X := by
      rw [bindM_eq]
      by_cases c : s 90 7 = 41
      · obtain ⟨k1, k2⟩ := h41 c
        rw [if_pos c, bindM_eq, if_neg k1, if_neg (by omega)]
      · rw [if_neg c]
    rw [b]
    by_cases c : s 90 7 = 44
    · obtain ⟨k1, k2⟩ := h44 c
      rw [if_pos c, bindM_eq, if_neg k1, if_neg k2]
    · rw [if_neg c]
  rw [a]
  by_cases c : s 90 7 = 59
  · rw [if_pos c]
    by_cases d : v = -1
    · rcases h59 c with k | ⟨k1, k2⟩
      · exact absurd d k
      · rw [if_pos d, bindM_eq, if_pos k1, if_pos k2]
    · rw [if_neg d]
  · rw [if_neg c]
theorem eE_semi {s : Mm} (h59 : s 90 7 = 59) (h : ¬ s 90 14 = 0 ∨ ¬ s 90 13 = 0) : eE (-1) s = b0M (F_R_step s) fun s27 => some (2, s27) := by
  unfold eE
  rw [bindM_eq, if_pos h59, if_pos rfl, bindM_eq]
  by_cases c : s 90 14 = 0
  · rw [if_pos c, if_neg (by rcases h with h | h; exact absurd c h; exact h)]
  · rw [if_neg c]
theorem eE_comma {s : Mm} {v : Int} (h44 : s 90 7 = 44) (hv : v = 20018 ∨ v = 20019) : eE v s = if 0 ≤ (s 90 10) - 1 ∧ (s 90 10) - 1 < 300 then bindM (st2 s 92 (((s 90 10) - 1).toNat) (v + 2)) fun s24 => b0M (F_R_step s24) fun s25 => some (0, s25) else none := by
  have e : (if v = 20018 then 20020 else 20021 : Int) = v + 2 := by
    rcases hv with rfl | rfl <;> rfl
  unfold eE
  rw [bindM_eq, if_neg (show ¬ s 90 7 = 59 by omega), bindM_eq, if_pos h44, bindM_eq, e, bindM_eq]
  by_cases c : v = 20018
  · rw [if_pos c]
  · rw [if_neg c, if_pos (by omega)]
theorem eE_par {s : Mm} (h41 : s 90 7 = 41) : eE 20017 s = eD s := by
  unfold eE eD
  rw [bindM_eq, if_neg (show ¬ s 90 7 = 59 by omega), bindM_eq, if_neg (show ¬ s 90 7 = 44 by omega), bindM_eq, if_pos h41, bindM_eq, if_pos rfl, bindM_eq, if_pos rfl]
theorem eE_two {s : Mm} {v : Int} {T : Nat} (q : IsO 0 9 T) (hT : s 90 15 = (T : Int)) (h41 : s 90 7 = 41) (hv : v = 20020 ∨ v = 20021) : eE v s = b0M (F_T_emit T (v - 7) s) fun s21 => eD s21 := by
  have e : (if v = 20020 then 20013 else 20014 : Int) = v - 7 := by
    rcases hv with rfl | rfl <;> rfl
  unfold eE eD
  rw [bindM_eq, if_neg (show ¬ s 90 7 = 59 by omega), bindM_eq, if_neg (show ¬ s 90 7 = 44 by omega), bindM_eq, if_pos h41, bindM_eq, if_neg (show ¬ v = 20017 by omega), if_pos (show 20020 ≤ v by omega), bindM_eq, if_neg (show ¬ v = 20017 by omega), hT, if_pos (show 0 ≤ (T : Int) ∧ IsO 0 9 (T : Int).toNat from ⟨by omega, q⟩), Int.toNat_natCast, e, bindM_eq]
theorem LwC.comma {s : Mm} {T S : Nat} {w cs : List Int} {x : Int} (h : LwC s T (x :: w) cs S) (hT : 94 ≤ T) (hx : x = 20018 ∨ x = 20019) : (s 90 10 - 1 = (w.length : Int) ∧ w.length < 300) ∧ LwC (st2 s 92 w.length (x + 2)) T ((x + 2) :: w) cs S := by
  obtain ⟨h1, ⟨h2, h3⟩, ⟨h4, h5⟩, ⟨h6, h7⟩, h8, h9⟩ := h
  rw [List.length_cons] at h2 h9
  rw [opn_1 (by omega)] at h4
  rw [brk_1 (by omega)] at h5
  refine ⟨⟨by omega, by omega⟩, ?_, ⟨?_, ?_⟩, ⟨?_, ?_⟩, ⟨?_, ?_⟩, fun y hy => ?_, by rw [List.length_cons]; exact h9⟩
  · rw [st2_ne (by decide)]; exact h1
  · rw [st2_ne (by decide), List.length_cons]; exact h2
  · exact StkR.push h3.2
  · rw [st2_ne (by decide), opn_1 (by omega)]; exact h4
  · rw [st2_ne (by decide), brk_1 (by omega)]; exact h5
  · rw [st2_ne (by omega)]; exact h6
  · rw [st2_ne (by omega)]; exact h7
  · rcases List.mem_cons.mp hy with q | q
    · omega
    · exact h8 y (List.mem_cons_of_mem _ q)
theorem LwC.drop {s : Mm} {T S : Nat} {w cs : List Int} {x : Int} (h : LwC s T (x :: w) cs S) (hT : 94 ≤ T) (hx : 20017 ≤ x) : ∃ s', eD s = (b0M (F_R_step s') fun s18 => some (1, s18)) ∧ LwC s' T w cs S ∧ FW s s' T S := by
  obtain ⟨h1, ⟨h2, h3⟩, ⟨h4, h5⟩, ⟨h6, h7⟩, h8, h9⟩ := h
  rw [List.length_cons] at h2 h9
  rw [opn_1 (by omega)] at h4
  rw [brk_1 (by omega)] at h5
  have o1 := opn_len w
  have b1 := brk_len w
  have e1 : s 90 10 - 1 = (w.length : Int) := by omega
  have e2 : st2 s 90 10 (w.length : Int) 90 11 - 1 = (opn w : Int) := by rw [st2_sk, if_neg (by decide)]; omega
  have e3 : st2 (st2 s 90 10 (w.length : Int)) 90 11 (opn w : Int) 90 12 - 1 = (brk w : Int) := by rw [st2_sk, if_neg (by decide), st2_sk, if_neg (by decide)]; omega
  refine ⟨st2 (st2 (st2 s 90 10 (w.length : Int)) 90 11 (opn w : Int)) 90 12 (brk w : Int), ?_, ⟨?_, ⟨?_, ?_⟩, ⟨?_, ?_⟩, ⟨?_, ?_⟩, fun y hy => h8 y (List.mem_cons_of_mem _ hy), by omega⟩, ((FW.rf.p90 hT (by omega)).p90 hT (by omega)).p90 hT (by omega)⟩
  · unfold eD
    rw [e1, if_pos (r32_nat (by omega)), bindM_eq, e2, if_pos (r32_nat (by omega)), bindM_eq, e3, if_pos (r32_nat (by omega)), bindM_eq]
  · rw [st2_sk, if_neg (by decide), st2_sk, if_neg (by decide), st2_sk, if_neg (by decide)]; exact h1
  · rw [st2_sk, if_neg (by decide), st2_sk, if_neg (by decide), st2_ss]
  · rw [st2_ne (by decide), st2_ne (by decide), st2_ne (by decide)]; exact h3.2
  · rw [st2_sk, if_neg (by decide), st2_ss]
  · rw [st2_ss]
  · rw [st2_ne (by omega), st2_ne (by omega), st2_ne (by omega)]; exact h6
  · rw [st2_ne (by omega), st2_ne (by omega), st2_ne (by omega)]; exact h7
theorem LwM.comma {law O : Nat} {b x : Int} {h cs : List Int} {v : Mm} (M : LwM v law b (x :: h) cs O) (hx : x = 20018 ∨ x = 20019) : v 200 22 - 1 = ((frs b h).length : Int) ∧ LwM (st2 v 212 (frs b h).length (frK (x + 2))) law b ((x + 2) :: h) cs O := by
  obtain ⟨h1, ⟨h2, h3, h4⟩, ⟨h5, h6, h7⟩, h8, h9, h10⟩ := M
  rw [frs_f (by omega)] at h2 h3
  rw [List.length_cons] at h2
  rw [wos_f (by omega)] at h5 h6
  rw [wfr_f (by omega)] at h7
  rw [opn_1 (by omega)] at h8
  refine ⟨by omega, ?_, ⟨?_, ?_, ?_, ?_⟩, ⟨?_, ?_, ?_⟩, ?_, ?_, ?_⟩
  · rw [st2_ne (by decide)]; exact h1
  · rw [st2_ne (by decide), frs_f (by omega), List.length_cons]; exact h2
  · rw [frs_f (by omega)]; exact StkR.push h3.2
  · exact fun q => absurd q (by omega)
  · rw [st2_ne (by decide)]; exact h4.2
  · rw [st2_ne (by decide), wos_f (by omega)]; exact h5
  · rw [st2_ne (by decide), wos_f (by omega)]; exact h6
  · rw [st2_ne (by decide), wfr_f (by omega)]; exact h7
  · rw [st2_ne (by decide), opn_1 (by omega)]; exact h8
  · rw [st2_ne (by decide)]; exact h9
  · rw [st2_ne (by decide), st2_ne (by decide)]; exact h10
theorem fin13 {b : Int} : ∀ {g : List Int}, Gk b g false → finM 1 g = finM 3 g
  | [], _ => rfl
  | x :: g, h => by
    rw [Gk] at h
    rcases h with ⟨hx, h⟩ | ⟨hx, hr, h⟩ | ⟨hx, h⟩
    · rw [finM_s (Or.inl (by omega)), finM_s (Or.inl (by omega))]
    · have r := rkI_a hx
      rw [finM_g (by omega), finM_g (by omega), fin13 h]
    · rw [finM_s (Or.inl (by omega)), finM_s (Or.inl (by omega))]
theorem Gk_nil {b : Int} {g : List Int} (h : Gk b g true) (hr : rkT g < 1) : g = [] := by
  match g, h, hr with
  | [], _, _ => rfl
  | x :: g, h, hr =>
    rw [Gk] at h
    have hr : rkI x < 1 := hr
    rcases h with ⟨rfl, _⟩ | ⟨hx, _, _⟩
    · exact absurd hr (by decide)
    · rcases hx with rfl | rfl
      · exact absurd hr (by decide)
      · exact absurd hr (by decide)
/-- a law ends on both sides -/
theorem clause_end {s u : Mm} {T law : Nat} {b : Int} {g cs em : List Int} {S O n e c K : Nat} {a : Bool} (hT : 94 ≤ T) (tok : TokR s u n e) (z : s 90 3 = 0 ∧ u 200 19 = 0 ∧ u 200 29 = (K : Int)) (L : LwC s T [] (cs ++ em) S) (M : LwM u law b g cs O) (hg : Gk b g a) (ho : opn g ≤ 8) (hs : (stk g).length ≤ 300) (hf : finM 1 g = ([], em)) (pg : Pg s e c) (h7 : ¬ s 90 7 = 0) (hc : S + (cs ++ em).length ≤ c + 1) (hO : O ≤ S + 24) (hK : K < 1000) (wf : wfS (okw law) [] (cs ++ em) = some [decide (law = 0)]) : ∃ t v, F_R_step s = some t ∧ F_M_clauseIsOver u = some v ∧ Done t v T law S O n (c + 1) K ∧ GC s t T S ∧ GM u v O := by
  have hn : n ≤ 300 := tok.1.1
  have he : e ≤ n := tok.2.1.2.2
  have pc := pg.le h7
  have hl : (cs ++ em).length = cs.length + em.length := List.length_append
  obtain ⟨w, E, M1, F1, -⟩ := wk_ok (r := 1) M hg ho hs (by omega)
  rw [hf] at M1
  have M1 : LwM w law b [] (cs ++ em) O := M1
  obtain ⟨h1, ⟨h2, h3, h4⟩, ⟨h5, h6, h7'⟩, h8, h9, h10⟩ := M1
  have a36 : st2 w 200 22 0 200 36 = ((O + (cs ++ em).length : Nat) : Int) := by rw [st2_sk, if_neg (by decide)]; exact h9
  have E2 := emits_raw (o := 408) (v := 0) a36 (by omega)
  have F2 : FV u (em3 (st2 w 200 22 0) (O + (cs ++ em).length) 408 0) O := em3_F (F1.p0 (by omega)) (by omega)
  have C2 : MCode (em3 (st2 w 200 22 0) (O + (cs ++ em).length) 408 0 221) (em3 (st2 w 200 22 0) (O + (cs ++ em).length) 408 0 222) O (cs ++ em) := by
    refine MC.whole (MC.on (fun k _ k2 => ?_) h10) ?_
    · rw [em3_221, if_neg (by omega), em3_222, if_neg (by omega), st2_ne (by decide), st2_ne (by decide)]; exact ⟨rfl, rfl⟩
    · rw [em3_221, if_pos rfl]
  have b36 : em3 (st2 w 200 22 0) (O + (cs ++ em).length) 408 0 200 36 = ((O + (cs ++ em).length + 1 : Nat) : Int) := em3_36
  have b22 : em3 (st2 w 200 22 0) (O + (cs ++ em).length) 408 0 200 22 = 0 := by rw [em3_0 (by decide), st2_ss]
  have b25 : em3 (st2 w 200 22 0) (O + (cs ++ em).length) 408 0 200 25 = 0 := by rw [em3_0 (by decide), st2_sk, if_neg (by decide)]; exact h5
  have b21 : em3 (st2 w 200 22 0) (O + (cs ++ em).length) 408 0 200 21 = 0 := by rw [em3_0 (by decide), st2_sk, if_neg (by decide)]; exact h8
  have b29 : em3 (st2 w 200 22 0) (O + (cs ++ em).length) 408 0 200 29 + 1 = ((K + 1 : Nat) : Int) := by rw [F2.2.1 29 (by decide) (by decide) (by decide) (by decide) (by decide), z.2.2]; rfl
  have b19 : em3 (st2 w 200 22 0) (O + (cs ++ em).length) 408 0 200 19 = 0 := by rw [F2.2.1 19 (by decide) (by decide) (by decide) (by decide) (by decide)]; exact z.2.1
  generalize hy : em3 (st2 w 200 22 0) (O + (cs ++ em).length) 408 0 = y at *
  have tok2 : TokR s (st2 y 200 29 ((K + 1 : Nat) : Int)) n e := (tok.f (S := S) hT FW.rf F2).mv (fun _ _ => rfl) rfl (fun k k1 k2 => by rw [st2_sk, if_neg (by omega)]) (st2_ne (by decide))
  obtain ⟨e2, t, v, E3, E4, tok3, s1, s2, p1, p2⟩ := tok2.step
  have G : GM u (st2 v 200 28 4) O := ((F2.g.p0 (by omega)).tr s2.g).p0 (by omega)
  refine ⟨t, st2 v 200 28 4, E3, ?_, ⟨cs ++ em, e2, ?_, ⟨?_, ?_, ?_⟩, ⟨?_, ?_, ?_⟩, ⟨pg.go h7 p1 p2, by omega⟩, wf, ?_, ?_, ?_, ?_, ?_, ?_⟩, s1.g hT, G⟩
  · unfold F_M_clauseIsOver
    rw [E, b0M_some, bindM_eq, E2, b0M_some, b29, if_pos (r32_nat (by omega)), bindM_eq, E4, b0M_some, bindM_eq]
  · exact tok3.mv (fun _ _ => rfl) rfl (fun k k1 k2 => by rw [st2_sk, if_neg (by omega)]) (st2_ne (by decide))
  · rw [s1.1 3 (by omega)]; exact z.1
  · rw [st2_sk, if_neg (by decide), s2.1 19 (by omega), st2_sk, if_neg (by decide)]; exact b19
  · rw [st2_sk, if_neg (by decide), s2.1 29 (by omega), st2_ss]
  · rw [s1.1 15 (by omega)]; exact L.1
  · rw [s1.2 T (by simp; omega)]; exact L.2.2.2.1.1
  · rw [s1.2 (T + 4) (by simp; omega)]; exact L.2.2.2.1.2
  · rw [st2_ne (by decide), st2_ne (by decide), s2.2 221 (by decide), s2.2 222 (by decide), st2_ne (by decide), st2_ne (by decide)]; exact C2
  · rw [st2_sk, if_neg (by decide), s2.1 36 (by omega), st2_sk, if_neg (by decide)]; exact b36
  · rw [st2_sk, if_neg (by decide), s2.1 22 (by omega), st2_sk, if_neg (by decide)]; exact b22
  · rw [st2_sk, if_neg (by decide), s2.1 25 (by omega), st2_sk, if_neg (by decide)]; exact b25
  · rw [st2_sk, if_neg (by decide), s2.1 21 (by omega), st2_sk, if_neg (by decide)]; exact b21
  · rw [st2_ss]
