-- `played`, put together
theorem part_ok {t k j : Nat} {s : Mm} (ht : t < 4) (hk : k < 24) (hj : j < 6) : F_T_part (94 + t) (k : Int) (j : Int) s = some (s (110 + t) (6 * k + j)) := by
  have e : (k : Int) * 6 + (j : Int) = ((6 * k + j : Nat) : Int) := by omega
  have e2 : 94 + t + 16 = 110 + t := by omega
  unfold F_T_part
  rw [e, bindM_eq, if_pos (r32_nat (by omega)), if_neg (by omega), if_neg (show ¬ ((144 : Nat) : Int) ≤ ((6 * k + j : Nat) : Int) by omega), if_pos (by omega), Int.toNat_natCast, e2]
theorem played_loop {B R : Int} {T t : Nat} (hB0 : 0 ≤ B) (hB : B + 1200 ≤ 90000000) (hR : R + 26000 < 2147483647) (hT : T ≤ 4) (ht : t < T) : ∀ (d N N' k : Nat) (s u : Mm), k + d = 24 → d < N → d < N' → Rel s u (B + 32 * k) (R + 1000 * k) → s 0 8 = (T : Int) →
    Op (b0MS (L_A_played_24 N (94 + t) (k : Int) s) (fun y => some y) fun s24 => some ((-1), s24)) (b0MS (L_M_played_21 N' (t : Int) (k : Int) u) (fun y => some y) fun s19 => some ((-1), s19)) (B + 800) (R + 25000) := by
  intro d
  induction d with
  | zero =>
    intro N N' k s u hk hN hN' h h08
    match N, N', hN, hN' with
    | N + 1, N' + 1, _, _ =>
      obtain ⟨G, O, M, hN, hE⟩ := id h
      obtain ⟨T', t1, t2, t3, t4, t5⟩ := hE.rule
      obtain ⟨⟨n, n1, n2, n3, n4⟩, -⟩ := t4 t (by omega)
      have et : ((t : Int)).toNat = t := by omega
      rw [L_A_played_24, L_M_played_21, n2, if_pos (by omega), if_pos (show 0 ≤ (t : Int) ∧ (t : Int) < 4 by omega), et, n3, if_pos (by omega), b0MS_r, b0MS_r]
      exact Op.ret rfl (h.w (by omega) (by omega))
  | succ d ih =>
    intro N N' k s u hk hN hN' h h08
    match N, N', hN, hN' with
    | N + 1, N' + 1, hNl, hNl' =>
      obtain ⟨G, O, M, hN, hE⟩ := id h
      obtain ⟨T', t1, t2, t3, t4, t5⟩ := hE.rule
      obtain ⟨⟨n, n1, n2, n3, n4⟩, -⟩ := t4 t (by omega)
      have et : ((t : Int)).toNat = t := by omega
      have e2 : (k : Int) + 1 = ((k + 1 : Nat) : Int) := by omega
      have next : r32 ((k + 1 : Nat) : Int) := r32_nat (by omega)
      rw [L_A_played_24, L_M_played_21, n2, if_pos (show 0 ≤ (t : Int) ∧ (t : Int) < 4 by omega), et, n3]
      by_cases hkn : (n : Int) ≤ (k : Int)
      · rw [if_pos hkn, if_pos hkn, b0MS_r, b0MS_r]
        exact Op.ret rfl (h.w (by omega) (by omega))
      · have hc := n4 k (by omega)
        have k24 : k < 24 := by omega
        have t4' : t < 4 := by omega
        have P0 := part_ok (s := s) (t := t) (k := k) (j := 0) t4' k24 (by omega)
        have P1 := part_ok (s := s) (t := t) (k := k) (j := 1) t4' k24 (by omega)
        have P2 := part_ok (s := s) (t := t) (k := k) (j := 2) t4' k24 (by omega)
        have P3 := part_ok (s := s) (t := t) (k := k) (j := 3) t4' k24 (by omega)
        have P4 := part_ok (s := s) (t := t) (k := k) (j := 4) t4' k24 (by omega)
        have P5 := part_ok (s := s) (t := t) (k := k) (j := 5) t4' k24 (by omega)
        rw [show ((0 : Nat) : Int) = 0 from rfl] at P0
        rw [show ((1 : Nat) : Int) = 1 from rfl] at P1
        rw [show ((2 : Nat) : Int) = 2 from rfl] at P2
        rw [show ((3 : Nat) : Int) = 3 from rfl] at P3
        rw [show ((4 : Nat) : Int) = 4 from rfl] at P4
        rw [show ((5 : Nat) : Int) = 5 from rfl] at P5
        have ev : 24 * (t : Int) + (k : Int) = ((24 * t + k : Nat) : Int) := by omega
        have cv : 0 ≤ ((24 * t + k : Nat) : Int) ∧ ((24 * t + k : Nat) : Int) < 96 := by omega
        have rv : r32 ((24 * t + k : Nat) : Int) := r32_nat (by omega)
        have hr := hN.round
        -- on to the next clause
        have go : ∀ (v : Int) (s' u' : Mm), Rel s' u' (B + 32 * ((k + 1 : Nat) : Int)) (R + 1000 * ((k + 1 : Nat) : Int)) → s' 0 = s 0 → Op (b0MS (if v = 0 then some (.inl ((k : Int), s')) else if r32 ((k : Int) + 1) then L_A_played_24 N (94 + t) ((k : Int) + 1) s' else none) (fun y => some y) fun s24 => some ((-1), s24)) (b0MS (if v = 0 then some (.inl ((k : Int), u')) else if r32 ((k : Int) + 1) then L_M_played_21 N' (t : Int) ((k : Int) + 1) u' else none) (fun y => some y) fun s19 => some ((-1), s19)) (B + 800) (R + 25000) := fun v s' u' hRel h0 => by
          by_cases hv : v = 0
          · rw [if_pos hv, if_pos hv, b0MS_l, b0MS_l]
            exact Op.ret rfl (hRel.w (by omega) (by omega))
          · rw [if_neg hv, if_neg hv, e2, if_pos next, if_pos next]
            exact ih N N' (k + 1) s' u' (by omega) (by omega) (by omega) hRel (by rw [h0]; exact h08)
        have up : ∀ {s' u' : Mm} {C S : Int}, Now s' u' G O M C S → FrC s s' → FrM u u' → B + 32 * (k : Int) ≤ C → C ≤ B + 32 * ((k + 1 : Nat) : Int) → S ≤ R + 1000 * ((k + 1 : Nat) : Int) → Rel s' u' (B + 32 * ((k + 1 : Nat) : Int)) (R + 1000 * ((k + 1 : Nat) : Int)) := fun hn fc fm h1 h2 h3 => Rel.w ⟨G, O, M, hn, hE.fr h1 fc.ec fm.em⟩ h2 h3
        have stay : Rel s u (B + 32 * ((k + 1 : Nat) : Int)) (R + 1000 * ((k + 1 : Nat) : Int)) := h.w (by omega) (by omega)
        rw [if_neg hkn, if_neg hkn, P1, P2, P0, b1_some, b1_some, b1_some, bindM_eq, ev, bindM_eq, if_pos cv, bindM_eq, Int.toNat_natCast]
        rcases hc with ⟨w1, w2, w3⟩ | ⟨w1, w2, p, p1, p4, a1, a2, a3, a4, a5, a6⟩ | ⟨w1, w2, a1, a2, a3⟩ | ⟨w1, w2, a1, a2, a3, a4, a5, a6⟩ | ⟨w1, w2, a1, a2, a3, a4, a5, a6⟩ | ⟨w1, w2, a1, a2, a3⟩
        · have w1 : s (110 + t) (6 * k + 0) = u 205 (24 * t + k) := w1
          rw [w1]
          generalize u 205 (24 * t + k) = w at w2 w3
          rw [if_neg (show ¬ w = 3 by omega), if_neg (show ¬ w = 4 by omega), if_neg (show ¬ w = 5 by omega), if_neg (show ¬ w = 6 by omega), if_neg (show ¬ w = 7 by omega), if_neg (show ¬ w = 8 by omega), if_neg (show ¬ w = 9 by omega), if_neg (show ¬ w = 3 by omega), if_neg (show ¬ w = 4 by omega), if_neg (show ¬ w = 5 by omega), if_neg (show ¬ w = 6 by omega), if_neg (show ¬ w = 7 by omega)]
          exact go 1 s u stay rfl
        · -- a row
          have w1 : s (110 + t) (6 * k + 0) = 3 := w1
          have xe : ∀ j, j < 4 → xs4 (s (110 + t) (6 * k + 1)) (s (110 + t) (6 * k + 2)) (s (110 + t) (6 * k + 3)) (s (110 + t) (6 * k + 4)) j = s (110 + t) (6 * k + (1 + j)) := fun j hj => by
            have : j = 0 ∨ j = 1 ∨ j = 2 ∨ j = 3 := by omega
            rcases this with rfl | rfl | rfl | rfl <;> rfl
          have hA : Args (xs4 (s (110 + t) (6 * k + 1)) (s (110 + t) (6 * k + 2)) (s (110 + t) (6 * k + 3)) (s (110 + t) (6 * k + 4))) (s (110 + t) (6 * k + 5)) p := by
            have a2 : u 208 (24 * t + k) = s (110 + t) (6 * k + 5) := a2
            refine ⟨p1, p4, fun j hj => ?_, fun j h1 h2 => by rw [xe j h2]; exact a6 j h1 h2, by rw [← a2]; exact a3, by rw [← a2]; exact a4⟩
            rw [xe j (by omega)]
            obtain ⟨q1, q2, q3⟩ := a5 j hj
            have q1 : s (110 + t) (6 * k + (1 + j)) = u 209 (96 * t + 4 * k + j) := q1
            rw [q1]; exact ⟨q2, q3⟩
          obtain ⟨x, s', u', E1, E2, hRel, h0⟩ := rowBy_rel h (v := 24 * t + k) (by omega) hA a1 a2 (fun j hj => by
            rw [xe j (by omega), show 4 * (24 * t + k) + j = 96 * t + 4 * k + j by omega]
            exact (a5 j hj).1.symm)
          rw [w1, w2, if_pos rfl, if_pos rfl, P3, b1_some, P4, b1_some, P5, b1_some, E1, b1M_some, bindM_eq, if_pos rv, E2, b1M_some]
          exact go _ s' u' (hRel.w (by omega) (by omega)) h0
        · -- reckon
          have w1 : s (110 + t) (6 * k + 0) = 4 := w1
          have a1 : s (110 + t) (6 * k + 1) = u 207 (24 * t + k) := a1
          obtain ⟨⟨v, s'⟩, E1, ⟨w, u'⟩, E2, hvw, hn, fc, fm⟩ := reckon_rel hN (by omega) (by omega) (u 207 (24 * t + k))
          have hvw : w = v := hvw
          rw [w1, w2, if_neg (show ¬ (4 : Int) = 3 by decide), if_pos rfl, if_neg (show ¬ (4 : Int) = 3 by decide), if_pos rfl, a1, if_pos cv, E1, b1M_some, E2, b1M_some, bindM_eq, bindM_eq, hvw]
          exact go _ s' u' (up hn fc fm (by omega) (by omega) (by omega)) (fc.1 0 (by omega) (by omega) (by omega))
        · -- turn
          have w1 : s (110 + t) (6 * k + 0) = 5 := w1
          have a1 : s (110 + t) (6 * k + 1) = u 207 (24 * t + k) := a1
          have a2 : s (110 + t) (6 * k + 2) = u 208 (24 * t + k) := a2
          obtain ⟨⟨v, s'⟩, E1, ⟨w, u'⟩, E2, hvw, hn, fc, fm⟩ := turn_rel hN (u 207 (24 * t + k)) (u 208 (24 * t + k))
          rw [w1, w2, if_neg (show ¬ (5 : Int) = 3 by decide), if_neg (show ¬ (5 : Int) = 4 by decide), if_pos rfl, if_neg (show ¬ (5 : Int) = 3 by decide), if_neg (show ¬ (5 : Int) = 4 by decide), if_pos rfl, a1, a2, if_pos rv, E1, b1M_some]
          unfold F_M_turnBy
          rw [if_pos cv, if_pos cv, Int.toNat_natCast, E2, b1M_some, b1M_some]
          exact go 1 s' u' (up hn fc fm (by omega) (by omega) (by omega)) (fc.1 0 (by omega) (by omega) (by omega))
        · -- soothe
          have w1 : s (110 + t) (6 * k + 0) = 7 := w1
          have a1 : s (110 + t) (6 * k + 1) = u 207 (24 * t + k) := a1
          have a2 : s (110 + t) (6 * k + 2) = u 208 (24 * t + k) := a2
          obtain ⟨⟨v, s'⟩, E1, ⟨w, u'⟩, E2, hvw, hn, fc, fm⟩ := soothe_rel hN (u 207 (24 * t + k)) (u 208 (24 * t + k))
          have hvw : w = v := hvw
          rw [w1, w2, if_neg (show ¬ (7 : Int) = 3 by decide), if_neg (show ¬ (7 : Int) = 4 by decide), if_neg (show ¬ (7 : Int) = 5 by decide), if_neg (show ¬ (7 : Int) = 6 by decide), if_pos rfl, if_neg (show ¬ (6 : Int) = 3 by decide), if_neg (show ¬ (6 : Int) = 4 by decide), if_neg (show ¬ (6 : Int) = 5 by decide), if_pos rfl, a1, a2, if_pos cv, if_pos cv, E1, b1M_some, E2, b1M_some, hvw]
          exact go _ s' u' (up hn fc fm (by omega) (by omega) (by omega)) (fc.1 0 (by omega) (by omega) (by omega))
        · -- days
          have w1 : s (110 + t) (6 * k + 0) = 9 := w1
          have a1 : s (110 + t) (6 * k + 1) = u 207 (24 * t + k) := a1
          obtain ⟨x, hx⟩ := Int.eq_ofNat_of_zero_le (show 0 ≤ u 207 (24 * t + k) by omega)
          obtain ⟨v, s', u', E1, E2, hn, fc, fm⟩ := passDays_rel (x := x) (B := B + 32 * (k : Int)) (by omega) (by omega) (by omega) x LF LF 0 s u _ (by omega) (by unfold LF; omega) (by unfold LF; omega) hN (by omega)
          have E1 : F_A_passDays (x : Int) s = some (v, s') := E1
          have E2 : F_M_days (x : Int) u = some (v, u') := E2
          rw [w1, w2, if_neg (show ¬ (9 : Int) = 3 by decide), if_neg (show ¬ (9 : Int) = 4 by decide), if_neg (show ¬ (9 : Int) = 5 by decide), if_neg (show ¬ (9 : Int) = 6 by decide), if_neg (show ¬ (9 : Int) = 7 by decide), if_neg (show ¬ (9 : Int) = 8 by decide), if_pos rfl, if_neg (show ¬ (7 : Int) = 3 by decide), if_neg (show ¬ (7 : Int) = 4 by decide), if_neg (show ¬ (7 : Int) = 5 by decide), if_neg (show ¬ (7 : Int) = 6 by decide), if_pos rfl, a1, hx, if_pos cv, E1, b1M_some, E2, b1M_some]
          exact go v s' u' (up hn fc fm (by omega) (by omega) (by omega)) (fc.1 0 (by omega) (by omega) (by omega))
theorem played_rel {σ μ : Mm} {B R : Int} (h : Rel σ μ B R) (hB0 : 0 ≤ B) (hB : B + 1200 ≤ 90000000) (hR : R + 26000 < 2147483647) (x : Int) : Op (F_A_played x σ) (F_M_played x μ) (B + 800) (R + 25000) := by
  obtain ⟨G, O, M, hN, hE⟩ := id h
  obtain ⟨T, t1, t2, t3, t4, t5⟩ := hE.rule
  have out : Rel σ μ (B + 800) (R + 25000) := h.w (by omega) (by omega)
  unfold F_A_played F_M_played
  rw [t2, t3, if_pos (show r32 ((T : Int) - 1) from ⟨by omega, by omega⟩), in_ok, b1_some]
  by_cases hx : 0 ≤ x ∧ x ≤ (T : Int) - 1
  · obtain ⟨t, rfl⟩ := Int.eq_ofNat_of_zero_le hx.1
    have et : ((t : Int)).toNat = t := by omega
    rw [if_neg (show ¬ (t : Int) < 0 by omega), if_pos (show (t : Int) < (T : Int) by omega), if_pos (show 0 ≤ (t : Int) ∧ (t : Int) < 4 by omega), et, if_pos hx, if_neg ne10]
    exact played_loop hB0 hB hR t1 (by omega) 24 LF LF 0 σ μ (by omega) (by unfold LF; omega) (by unfold LF; omega) (h.w (by omega) (by omega)) t2
  · rw [if_neg hx, if_pos rfl]
    by_cases h0 : x < 0
    · rw [if_pos h0]; exact Op.ret rfl out
    · rw [if_neg h0, if_neg (by omega)]; exact Op.ret rfl out
