-- `foretold`, `firstOff` on both sides
/-- in days to come: how both sides stand, and from where -/
def FC (σ μ s u : Mm) (G O M : Law) (d : Int) : Prop := (∃ Bx : Int, Bx + 400 ≤ 90000000 ∧ MidF s u G O M Bx) ∧ Fr [2, 3, 4, 5, 6, 7, 9] σ s ∧ (σ 2 5 ≤ s 2 5 ∧ s 2 5 ≤ σ 2 5 + 12 * d) ∧ s 2 6 = σ 2 6 ∧ (∀ k, k < 165 → s 9 k = σ 3 k) ∧ Fr (225 :: 226 :: 227 :: 228 :: 233 :: MFF) μ u ∧ (∀ k, k ≠ 45 → k ≠ 46 → k ≠ 48 → k ≠ 49 → k ≠ 53 → u 200 k = μ 200 k) ∧ s 3 40 = σ 3 40 + d
theorem FC.day {σ μ s u : Mm} {G O M : Law} {d : Int} {c : Nat} (h : FC σ μ s u G O M d) (hc : c ≤ 12) (h14 : σ 1 4 = (c : Int)) (h20 : μ 201 0 = (c : Int)) (hR : RowsR σ μ c) (hd : 0 ≤ d ∧ d ≤ 40) (h5 : 0 ≤ σ 2 5 ∧ σ 2 5 + 1000 < 2147483647) (h40 : σ 3 40 ≤ 999) :
    ∃ (k : Nat) (s2 u2 : Mm), k < 2 ^ c ∧ F_H_passDay s = some ((k : Int), s2) ∧ F_M_dayGoes 0 u = some ((k : Int), u2) ∧ FC σ μ s2 u2 G O M (d + 1) := by
  obtain ⟨⟨Bx, hB, hm⟩, f1, r1, r2, k9, f2, g2, q40⟩ := h
  obtain ⟨k, s2, u2, a0, a1, a2, a3, a4, a5, a6, a7, a8, a9⟩ := passDayF hc hm hB (by rw [f1 1 (by decide)]; exact h14) (by rw [f2 201 (by decide)]; exact h20) (hR.fr hc (fun j j1 _ => f1 j (by simp; omega)) (fun k hk => by rw [f2 201 (by decide)])) ⟨by omega, by omega⟩ (by omega)
  exact ⟨k, s2, u2, a0, a1, a2, ⟨0, by omega, a3⟩, f1.tr (a4.w (by decide)), ⟨by omega, by omega⟩, a6.trans r2, fun j hj => by rw [a4 9 (by decide)]; exact k9 j hj, f2.tr (a7.w (by decide)), fun j j1 j2 j3 j4 j5 => (a8 j j1 j2 j3 j4 j5).trans (g2 j j1 j2 j3 j4 j5), by rw [a9, q40]; omega⟩
theorem FC.start {σ μ : Mm} {G O M : Law} {B R : Int} (hN : Now σ μ G O M B R) (hB : B + 400 ≤ 90000000) : ∃ s u, F_H_save σ = some s ∧ F_M_laysNow μ = some u ∧ FC σ μ s u G O M 0 := by
  obtain ⟨ν, E1, mj, f2, g2, hm⟩ := hN.lays
  refine ⟨_, ν, rfl, E1, ?_⟩
  have w : ∀ a, stR σ 9 (cpyI (σ 3) (σ 9) 0 0 165) a = if a = 9 then cpyI (σ 3) (σ 9) 0 0 165 else σ a := fun a => stR_f _ _ _ _
  generalize stR σ 9 (cpyI (σ 3) (σ 9) 0 0 165) = s at w
  have f1 : Fr [9] σ s := fun i hi => by rw [w, if_neg (by simpa using hi)]
  obtain ⟨m1, m2, m3, m4, m5, m6, m7, w', b, m8, m9⟩ := hm
  have e3 : s 3 = σ 3 := f1 3 (by decide)
  refine ⟨⟨B, hB, ⟨m1.1.fr f1 (by rw [f1 2 (by decide)]) (by decide), by rw [e3]; exact m1.2.1, by rw [f1 6 (by decide), f1 2 (by decide)]; exact m1.2.2⟩, m2, by rw [e3]; exact m3, by rw [e3]; exact m4, by rw [e3]; exact m6, by rw [e3]; exact m7, w', b, by rw [e3]; exact m8⟩, f1.w (by decide), ⟨by rw [f1 2 (by decide)]; omega, by rw [f1 2 (by decide)]; omega⟩, by rw [f1 2 (by decide)], fun k hk => ?_, f2.w (by decide), fun k k1 k2 _ _ _ => g2 k k1 k2, by rw [e3]; omega⟩
  rw [w, if_pos rfl]; exact cpy_lt (n := 165) hk
/-- and back to now -/
theorem FC.end_ {σ μ s u : Mm} {G O M : Law} {B R d : Int} (h : Rel σ μ B R) (hf : FC σ μ s u G O M d) (hd : 0 ≤ d ∧ d ≤ 40) : ∃ t, F_H_restore s = some t ∧ Rel t u B (R + 1000) := by
  obtain ⟨G', O', M', hN, hE⟩ := id h
  have hr := hN.round
  obtain ⟨⟨Bx, hB, hm⟩, f1, r1, r2, k9, f2, g2, q40⟩ := hf
  refine ⟨_, rfl, ?_⟩
  have w : ∀ a, stR s 3 (cpyI (s 9) (s 3) 0 0 165) a = if a = 3 then cpyI (s 9) (s 3) 0 0 165 else s a := fun a => stR_f _ _ _ _
  generalize stR s 3 (cpyI (s 9) (s 3) 0 0 165) = t at w
  have e : ∀ i, i ≠ 3 → t i = s i := fun i hi => by rw [w, if_neg hi]
  refine h.ask ⟨fun i hi => by rw [e i (by omega)]; exact f1 i (by simp; omega), by rw [e 2 (by decide)]; exact r2, fun k hk => ?_⟩ (QM.f0 f2 (by decide) (fun k hk => g2 k (by omega) (by omega) (by omega) (by omega) (by omega))) (by rw [e 6 (by decide), e 2 (by decide)]; exact hm.1.2.2) ⟨by rw [e 2 (by decide)]; omega, by rw [e 2 (by decide)]; omega⟩
  rw [w, if_pos rfl]
  exact (cpy_lt (n := 165) hk).trans (k9 k hk)
theorem foretold_rel {σ μ : Mm} {B R : Int} (h : Rel σ μ B R) (hB : B + 400 ≤ 90000000) (hR : R + 1000 < 2147483647) (x y : Int) : Op (F_A_foretold x y σ) (F_M_foretold x y μ) B (R + 1000) := by
  obtain ⟨G, O, M, hN, hE⟩ := id h
  obtain ⟨c, c1, c2, c3, c4⟩ := hN.rows
  have hr := hN.round
  have h40 := hN.ok.2.2.2.1
  have out : Rel σ μ B (R + 1000) := h.w (Int.le_refl _) (by omega)
  unfold F_A_foretold F_M_foretold
  rw [in_ok, b1_some]
  by_cases hx : 1 ≤ x ∧ x ≤ 30
  · rw [if_neg (show ¬ x < 1 by omega), if_neg (show ¬ 30 < x by omega), if_pos hx, if_neg ne10]
    obtain ⟨n, rfl⟩ := Int.eq_ofNat_of_zero_le (show 0 ≤ x by omega)
    obtain ⟨s, u, E1, E2, hs⟩ := FC.start hN hB
    obtain ⟨t, E3, u2, E4, ht⟩ : ∃ t, L_A_foretold_35 LF (n : Int) 0 s = some t ∧ ∃ u2, L_M_foretold_32 LF (n : Int) 0 u = some u2 ∧ FC σ μ t u2 G O M (n : Int) := by
      have loop : ∀ (m N N2 i : Nat) (s u : Mm), i + m = n → m < N → m < N2 → FC σ μ s u G O M (i : Int) → ∃ t, L_A_foretold_35 N (n : Int) (i : Int) s = some t ∧ ∃ u2, L_M_foretold_32 N2 (n : Int) (i : Int) u = some u2 ∧ FC σ μ t u2 G O M (n : Int) := by
        intro m
        induction m with
        | zero =>
          intro N N2 i s u hi hN hN2 hs
          match N, N2, hN, hN2 with
          | N + 1, N2 + 1, _, _ =>
            have e : i = n := by omega
            subst e
            rw [L_A_foretold_35, L_M_foretold_32, if_pos (Int.le_refl _), if_pos (Int.le_refl _)]
            exact ⟨s, rfl, u, rfl, hs⟩
        | succ m ih =>
          intro N N2 i s u hi hN hN2 hs
          match N, N2, hN, hN2 with
          | N + 1, N2 + 1, hN, hN2 =>
            have e2 : (i : Int) + 1 = ((i + 1 : Nat) : Int) := by omega
            obtain ⟨k, s2, u2, -, F1, F2, h2⟩ := hs.day c1 c2 c3 c4 (by omega) (by omega) (by omega)
            rw [L_A_foretold_35, L_M_foretold_32, if_neg (show ¬ (n : Int) ≤ (i : Int) by omega), if_neg (show ¬ (n : Int) ≤ (i : Int) by omega), F1, F2, b1M_some, b1M_some, e2, if_pos (show r32 ((i + 1 : Nat) : Int) from ⟨by omega, by omega⟩), if_pos (show r32 ((i + 1 : Nat) : Int) from ⟨by omega, by omega⟩)]
            rw [e2] at h2
            exact ih N N2 (i + 1) s2 u2 (by omega) (by omega) (by omega) h2
      exact loop n LF LF 0 s u (by omega) (by unfold LF; omega) (by unfold LF; omega) hs
    obtain ⟨z, E5, hz⟩ := FC.end_ h ht (by omega)
    have hEq := ht.1.choose_spec.2.2.2.1
    have h41 := ht.1.choose_spec.2.2.2.2.1
    have main : (y = -1 ∨ (0 ≤ y ∧ y < 10)) → Op (b0M (F_H_save σ) fun s2 => b0M (L_A_foretold_35 LF (n : Int) 0 s2) fun s5 => bindM ((if y = (-1) then 41 else (0 + y) : Int)) fun v6 => if 0 ≤ v6 ∧ v6 < 165 then bindM (s5 3 v6.toNat) fun v7 => b0M (F_H_restore s5) fun s8 => some (v7, s8) else none) (b0M (F_M_laysNow μ) fun s3 => b0M (L_M_foretold_32 LF (n : Int) 0 s3) fun s6 => if y = (-1) then some (s6 200 46, s6) else if 0 ≤ y ∧ y < 10 then some (s6 225 y.toNat, s6) else none) B (R + 1000) := fun hy => by
      rw [E1, E2, b0M_some, b0M_some, E3, E4, b0M_some, b0M_some, bindM_eq]
      by_cases hy1 : y = -1
      · rw [if_pos hy1, if_pos (show (0 : Int) ≤ 41 ∧ (41 : Int) < 165 by omega), bindM_eq, E5, b0M_some, if_pos hy1]
        exact Op.ret h41.symm hz
      · have hy2 : 0 ≤ y ∧ y < 10 := by omega
        obtain ⟨f, rfl⟩ := Int.eq_ofNat_of_zero_le hy2.1
        have tf : ((0 : Int) + (f : Int)).toNat = f := by omega
        have tf2 : ((f : Int)).toNat = f := by omega
        have := hEq f (by omega)
        rw [EM_1 (by omega)] at this
        rw [if_neg hy1, if_pos (show (0 : Int) ≤ 0 + (f : Int) ∧ (0 : Int) + (f : Int) < 165 by omega), bindM_eq, E5, b0M_some, if_neg hy1, if_pos hy2, tf, tf2]
        exact Op.ret this hz
    rw [bindM_eq, bindM_eq]
    by_cases hy1 : y = -1
    · simp only [if_pos hy1] at main ⊢
      exact main (Or.inl hy1)
    · simp only [if_neg hy1] at main ⊢
      rw [fig_A, fig_M, b1_some, b1_some]
      by_cases hy2 : 0 ≤ y ∧ y < 10
      · rw [if_pos hy2, if_neg ne10, if_neg ne10]; exact main (Or.inr hy2)
      · rw [if_neg hy2, if_pos rfl, if_pos rfl]; exact Op.ret rfl out
  · rw [if_neg hx, if_pos rfl]
    by_cases h1 : x < 1
    · rw [if_pos h1]; exact Op.ret rfl out
    · rw [if_neg h1, if_pos (by omega)]; exact Op.ret rfl out
theorem firstOff_rel {σ μ : Mm} {B R : Int} (h : Rel σ μ B R) (hB : B + 400 ≤ 90000000) (hR : R + 1000 < 2147483647) (x y : Int) : Op (F_A_firstOff x y σ) (F_M_firstOff x y μ) B (R + 1000) := by
  obtain ⟨G, O, M, hN, hE⟩ := id h
  obtain ⟨c, c1, c2, c3, c4⟩ := hN.rows
  have hr := hN.round
  have h40 := hN.ok.2.2.2.1
  have out : Rel σ μ B (R + 1000) := h.w (Int.le_refl _) (by omega)
  obtain ⟨e1, e2⟩ := has_row c1 c2 c3 y
  unfold F_A_firstOff F_M_firstOff
  rw [in_ok, b1_some, e1, e2, b1_some, b1_some]
  by_cases hx : 1 ≤ x ∧ x ≤ 30
  · rw [if_neg (show ¬ x < 1 by omega), if_neg (show ¬ 30 < x by omega), if_pos hx, if_neg ne10]
    by_cases hy : 0 ≤ y ∧ y < (c : Int)
    · rw [if_pos hy, if_neg ne10, if_neg ne10]
      obtain ⟨n, rfl⟩ := Int.eq_ofNat_of_zero_le (show 0 ≤ x by omega)
      obtain ⟨r, rfl⟩ := Int.eq_ofNat_of_zero_le hy.1
      obtain ⟨s, u, E1, E2, hs⟩ := FC.start hN hB
      have loop : ∀ (m N N2 i : Nat) (s u : Mm), i + m = n + 1 → 1 ≤ i → m + 1 < N → m < N2 → FC σ μ s u G O M ((i : Int) - 1) → ∃ v t u2 d, L_A_firstOff_36 N (n : Int) (r : Int) (-1) (i : Int) s = some (v, t) ∧ ((v = -1 ∧ L_M_firstOff_26 N2 (n : Int) (r : Int) (i : Int) u = some (.inr u2)) ∨ L_M_firstOff_26 N2 (n : Int) (r : Int) (i : Int) u = some (.inl (v, u2))) ∧ FC σ μ t u2 G O M d ∧ (0 ≤ d ∧ d ≤ 40) := by
        intro m
        induction m with
        | zero =>
          intro N N2 i s u hi h1 hN hN2 hs
          match N, N2, hN, hN2 with
          | N + 1, N2 + 1, _, _ =>
            rw [L_A_firstOff_36, L_M_firstOff_26, if_pos (show (n : Int) < (i : Int) by omega), if_pos (show (n : Int) < (i : Int) by omega)]
            exact ⟨-1, s, u, _, rfl, Or.inl ⟨rfl, rfl⟩, hs, by omega⟩
        | succ m ih =>
          intro N N2 i s u hi h1 hN hN2 hs
          match N, N2, hN, hN2 with
          | N + 2, N2 + 1, hN, hN2 =>
            have e2 : (i : Int) + 1 = ((i + 1 : Nat) : Int) := by omega
            have next : r32 ((i + 1 : Nat) : Int) := ⟨by omega, by omega⟩
            obtain ⟨k, s2, u2, hk, F1, F2, h2⟩ := hs.day c1 c2 c3 c4 (by omega) (by omega) (by omega)
            have p12 : (2 : Nat) ^ c ≤ 2 ^ 12 := Nat.pow_le_pow_right (by omega) c1
            rw [L_A_firstOff_36, L_M_firstOff_26, if_neg (show ¬ (n : Int) < (i : Int) by omega), if_neg (show ¬ (n : Int) < (i : Int) by omega), if_pos rfl, F1, F2, b1M_some, b1M_some, bindM_eq, bit_of (by omega) (by omega) (by omega) (by omega), hasM_ok (by omega) (by omega) (by omega) (by omega), b1_some]
            have h2' : FC σ μ s2 u2 G O M (((i + 1 : Nat) : Int) - 1) := by
              have e : ((i + 1 : Nat) : Int) - 1 = (i : Int) - 1 + 1 := by omega
              rw [e]; exact h2
            rcases bitI_01 (k : Int) (r : Int) with hb | hb
            · rw [hb, if_neg (by decide), if_pos rfl]
              dsimp only
              rw [e2, if_pos next, if_pos next]
              exact ih (N + 1) N2 (i + 1) s2 u2 (by omega) (by omega) (by omega) (by omega) h2'
            · rw [hb, if_pos rfl, if_neg ne10]
              dsimp only
              rw [e2, if_pos next, L_A_firstOff_36]
              refine ⟨(i : Int), s2, u2, _, ?_, Or.inr rfl, h2, by omega⟩
              by_cases hl : (n : Int) < ((i + 1 : Nat) : Int)
              · rw [if_pos hl]
              · rw [if_neg hl, if_neg (by omega)]
      obtain ⟨v, t, u2, d, E3, E4, ht, hd⟩ := loop n LF LF 1 s u (by omega) (by omega) (by unfold LF; omega) (by unfold LF; omega) hs
      have E3 : L_A_firstOff_36 LF (n : Int) (r : Int) (-1) 1 s = some (v, t) := E3
      obtain ⟨z, E5, hz⟩ := FC.end_ h ht hd
      rw [E1, E2, b0M_some, b0M_some, E3, b1M_some, E5, b0M_some]
      rcases E4 with ⟨v1, E4⟩ | E4
      · have E4 : L_M_firstOff_26 LF (n : Int) (r : Int) 1 u = some (.inr u2) := E4
        rw [E4, b0MS_r, v1]
        exact Op.ret rfl hz
      · have E4 : L_M_firstOff_26 LF (n : Int) (r : Int) 1 u = some (.inl (v, u2)) := E4
        rw [E4, b0MS_l]
        exact Op.ret rfl hz
    · rw [if_neg hy, if_pos rfl, if_pos rfl]; exact Op.ret rfl out
  · rw [if_neg hx, if_pos rfl]
    by_cases h1 : x < 1
    · rw [if_pos h1]; exact Op.ret rfl out
    · rw [if_neg h1, if_pos (show 30 < x by omega)]; exact Op.ret rfl out
