-- `played`
theorem rowBy22 {v p : Nat} {m : Int} {nums : Nat → Int} (hv : v < 96) (hp : p ≤ 4) : ∀ (d N i : Nat) (s : Mm), i + d = p → d < N → s 200 48 = (p : Int) → (∀ j, j < p → s 209 (4 * v + j) = nums j) → (∀ j, j < i → s 229 j = nums j) → ∃ t, L_M_rowBy_22 N (v : Int) (i : Int) s = some t ∧ (∀ j, j < p → t 229 j = nums j) ∧ Fr [229] s t := by
  intro d
  induction d with
  | zero =>
    intro N i s hi hN h48 h209 h229
    match N, hN with
    | N + 1, _ =>
      rw [L_M_rowBy_22, h48, if_pos (by omega)]
      exact ⟨s, rfl, fun j hj => h229 j (by omega), Fr.rf⟩
  | succ d ih =>
    intro N i s hi hN h48 h209 h229
    match N, hN with
    | N + 1, hN =>
      have e2 : (i : Int) + 1 = ((i + 1 : Nat) : Int) := by omega
      have ei : ((i : Int)).toNat = i := by omega
      have ti : (4 * (v : Int) + (i : Int)).toNat = 4 * v + i := by omega
      have f1 : Fr [229] s (st2 s 229 i (nums i)) := Fr.rf.st (by decide)
      rw [L_M_rowBy_22, h48, if_neg (by omega), if_pos (show 0 ≤ 4 * (v : Int) + (i : Int) ∧ 4 * (v : Int) + (i : Int) < 384 by omega), if_pos (show 0 ≤ (i : Int) ∧ (i : Int) < 4 by omega), ti, ei, h209 i (by omega), bindM_eq, e2, if_pos (r32_nat (by omega))]
      obtain ⟨t, E, t1, t2⟩ := ih N (i + 1) (st2 s 229 i (nums i)) (by omega) (by omega) (by rw [f1 200 (by decide)]; exact h48) (fun j hj => by rw [f1 209 (by decide)]; exact h209 j hj) (fun j hj => by
        rw [st2_sk]
        by_cases e : j = i
        · rw [if_pos e, e]
        · rw [if_neg e]; exact h229 j (by omega))
      exact ⟨t, E, t1, f1.tr t2⟩
theorem rowBy_rel {σ μ : Mm} {B R : Int} (h : Rel σ μ B R) {v p : Nat} {m a b c d : Int} (hv : v < 96) (hA : Args (xs4 a b c d) m p) (h207 : μ 207 v = (p : Int)) (h208 : μ 208 v = m) (h209 : ∀ j, j < p → μ 209 (4 * v + j) = xs4 a b c d j) :
    ∃ x s u, F_A_row a b c d m σ = some (x, s) ∧ F_M_rowBy (v : Int) μ = some (if x = -1 then 0 else 1, u) ∧ Rel s u B R ∧ s 0 = σ 0 := by
  obtain ⟨G, O, M, hN, hE⟩ := h
  have h : Rel σ μ B R := ⟨G, O, M, hN, hE⟩
  obtain ⟨r, r1, r2, r3, r4⟩ := hN.rows
  have hp4 := hA.2.1
  have cv : 0 ≤ (v : Int) ∧ (v : Int) < 96 := by omega
  have ev : ((v : Int)).toNat = v := by omega
  have f0 : Fr [200] μ (st2 (st2 μ 200 48 (p : Int)) 200 49 m) := (Fr.rf.st (by decide)).st (by decide)
  have w0 : ∀ k, st2 (st2 μ 200 48 (p : Int)) 200 49 m 200 k = if k = 49 then m else if k = 48 then (p : Int) else μ 200 k := fun k => by rw [st2_sk, st2_sk]
  have EM1 : F_M_rowBy (v : Int) μ = b0M (L_M_rowBy_22 LF (v : Int) 0 (st2 (st2 μ 200 48 (p : Int)) 200 49 m)) fun s7 => b1M (F_M_addsRow s7) fun v8 s8 => if v8 = (-1) then some (0, s8) else some (1, s8) := by
    unfold F_M_rowBy
    have z : st2 μ 200 48 (p : Int) 208 = μ 208 := st2_ne (by decide)
    rw [if_pos cv, ev, h207, bindM_eq, if_pos cv, z, h208, bindM_eq]
  generalize st2 (st2 μ 200 48 (p : Int)) 200 49 m = s4 at f0 w0 EM1
  obtain ⟨s, E1, q1, q2⟩ := rowBy22 (v := v) (p := p) (m := m) (nums := xs4 a b c d) hv hp4 p LF 0 s4 (by omega) (by unfold LF; omega) (by rw [w0]; rfl) (fun j hj => by rw [f0 209 (by decide)]; exact h209 j hj) (fun j hj => by omega)
  have E1 : L_M_rowBy_22 LF (v : Int) 0 s4 = some s := E1
  have w4 : Fr [200, 229] μ s := (f0.w (by decide)).tr (q2.w (by decide))
  have s200 : s 200 = s4 200 := q2 200 (by decide)
  have w5 : ∀ i, i ≠ 48 → i ≠ 49 → s 200 i = μ 200 i := fun i h1 h2 => by rw [s200, w0, if_neg h2, if_neg h1]
  have w2 : s 200 48 = (p : Int) := by rw [s200, w0]; rfl
  have w3 : s 200 49 = m := by rw [s200, w0]; rfl
  rw [EM1, E1, b0M_some]
  unfold F_A_row
  by_cases hc : 12 ≤ σ 1 4
  · rw [if_pos hc]
    refine ⟨-1, σ, s, rfl, ?_, h.askM (QM.f0 w4 (by simp) (fun i hi => w5 i (by omega) (by omega))), rfl⟩
    unfold F_M_addsRow
    rw [if_pos (by rw [w4 201 (by decide)]; omega), b1M_some]
    rfl
  · rw [if_neg hc]
    rcases canBe_ok a b c d m with ⟨E2, -⟩ | ⟨-, hno⟩
    · have er : (σ 1 4).toNat = r := by omega
      rw [E2, b1_some, if_neg (by decide), if_pos (by omega), er]
      unfold F_W_clear
      simp only [bindM_eq, b0M_some]
      have hcl : ∀ τ, τ = st2 (st2 (st2 (st2 σ (10 + r) 3 0) (10 + r) 4 0) (10 + r) 5 0) (10 + r) 6 0 → RowP τ (10 + r) 0 m (fun k => if k < p then xs4 a b c d k else 0) ∧ Fr [10 + r] σ τ := fun τ hτ => by
        subst hτ
        refine ⟨⟨?_, ?_, ?_, ?_, fun k hk => by omega, trivial⟩, (((Fr.rf.st (by simp)).st (by simp)).st (by simp)).st (by simp)⟩
        · simp [st2_f]
        · simp [st2_f, drw]
        · simp [st2_f]
        · simp [st2_f, trs]
      generalize st2 (st2 (st2 (st2 σ (10 + r) 3 0) (10 + r) 4 0) (10 + r) 5 0) (10 + r) 6 0 = τ0 at hcl
      obtain ⟨p0, p1⟩ := hcl τ0 rfl
      have H := puts_ok (σ := τ0) (r := r) (p := p) (m := m) (a := a) (b := b) (c := c) (d := d) (by omega) hA p0 (P := fun x : Int × Mm => ∃ u, (b1M (F_M_addsRow s) fun v8 s8 => if v8 = (-1) then some ((0 : Int), s8) else some (1, s8)) = some (if x.1 = -1 then 0 else 1, u) ∧ Rel x.2 u B R ∧ x.2 0 = σ 0) (f := fun s11 => if r32 ((s11 1 4) + 1) then bindM (st2 s11 1 4 ((s11 1 4) + 1)) fun s14 => if r32 ((s14 1 4) - 1) then some ((s14 1 4) - 1, s14) else none else none) (fun τ hC hF => by
        have t14 : τ 1 4 = (r : Int) := by rw [hF 1 (by simp; omega), p1 1 (by simp; omega)]; exact r2
        have u14 : st2 τ 1 4 ((r : Int) + 1) 1 4 = (r : Int) + 1 := st2_ss _ _ _ _
        rw [t14, if_pos (show r32 ((r : Int) + 1) from ⟨by omega, by omega⟩), bindM_eq, u14, if_pos (show r32 ((r : Int) + 1 - 1) from ⟨by omega, by omega⟩)]
        refine Ok.ret ?_
        obtain ⟨⟨v, u⟩, E3, v1, v2, v3, v4, v5⟩ := adds_ok (σ := s) (r := r) (p := p) (mn := m) (by omega) hA.1 hA.2.1 hA.2.2.2.2 (by rw [w4 201 (by decide)]; exact r3) w2 w3 (fun k hk => by rw [q1 k hk]; exact hA.2.2.1 k hk)
        have v1 : v = (r : Int) := v1
        have v5 : Fr [201] s u := v5
        have hM : RowM (u 201) r p m (fun k => if k < p then xs4 a b c d k else 0) := by
          have e : (fun k => if k < p then s 229 k else 0) = (fun k => if k < p then xs4 a b c d k else 0) := by
            funext k
            by_cases hk : k < p
            · rw [if_pos hk, if_pos hk, q1 k hk]
            · rw [if_neg hk, if_neg hk]
          rw [← e]; exact v2
        have FC1 : Fr [1, 10 + r, 22 + r, 34 + r, 46 + r] σ (st2 τ 1 4 ((r : Int) + 1)) := ((p1.w (by simp)).tr (hF.w (by simp))).st (by simp)
        refine ⟨u, ?_, ?_, ?_⟩
        · rw [E3, b1M_some, v1, if_neg (show ¬ (r : Int) = -1 by omega), if_neg (show ¬ (r : Int) + 1 - 1 = -1 by omega)]
        · refine h.more (r := r) (by omega) r2 (hC.fr2 (st2_ne (by omega)) (st2_ne (by omega)) (st2_ne (by omega)) (st2_ne (by omega))) hM ?_ v3 FC1 ?_ ?_ ?_
          · show st2 τ 1 4 ((r : Int) + 1) 1 4 = _
            rw [u14]; omega
          · exact fun i h1 h2 h3 => (v5 i (by simp; omega)).trans (w4 i (by simp; omega))
          · exact fun i h1 h2 => (congrFun (v5 200 (by decide)) i).trans (w5 i h1 h2)
          · exact fun j j1 j2 j3 j4 => (v4 j j1 j2 j3 j4).trans (by rw [w4 201 (by decide)])
        · exact FC1 0 (by simp; omega))
      obtain ⟨⟨x, s'⟩, E4, u, E5, hRel, h0⟩ := H
      exact ⟨x, s', u, E4, E5, hRel, h0⟩
    · exact absurd ⟨p, hA⟩ hno
theorem one_day {s u : Mm} {G O M : Law} {B R : Int} (h : Now s u G O M B R) (hB0 : 0 ≤ B) (hB : B + 400 ≤ 90000000) (hR : R + 12 < 2147483647) (hd : s 3 40 < 999) : ∃ s1 v s2 w u2, F_S_keep 58 s = some s1 ∧ F_H_passDay s1 = some (v, s2) ∧ F_M_day 1 u = some (w, u2) ∧ ¬ w = -10000000 ∧ Now s2 u2 G O M B (R + 12) ∧ FrC s s2 ∧ FrM u u2 := by
  obtain ⟨s1, E1, u1, E2, hn, k1, k2, k3⟩ := keep_now h
  obtain ⟨⟨v, s2⟩, E3, ⟨w, u2⟩, E4, -, hn2, q1, q2, -⟩ := dayDone_rel hn hB0 hB hR (by rw [k1 3 (by decide) (by omega)]; exact hd)
  have hn2 : Now s2 u2 G O M B (R + 12) := hn2
  have e40 : s 3 40 = u 201 180 := h.snap.1 40 (by omega)
  have h40 := h.ok.1.2.2.2.2
  have e41 : s2 3 41 = u2 201 181 := hn2.snap.1 41 (by omega)
  have b41 := hn2.ok.2.1
  refine ⟨s1, v, s2, u2 201 181, u2, E1, E3, ?_, by omega, hn2, FrC.tr ⟨fun i i1 i2 i3 => k1 i i2 i3, by rw [k1 2 (by decide) (by omega)]⟩ q1, FrM.tr ⟨fun i i1 i2 i3 => k2 i (by simp; omega), fun s a b c d e => by rw [k2 200 (by decide)], fun k h1 h2 => k3 k (by omega) h2⟩ q2⟩
  unfold F_M_day
  rw [in_ok, b1_some, if_pos (show (1 : Int) ≤ 1 ∧ (1 : Int) ≤ 60 by decide), if_neg ne10, ← e40, if_pos (show r32 (s 3 40 + 1) from ⟨by omega, by omega⟩), if_pos (show s 3 40 + 1 ≤ 999 by omega), show LF = (LF - 2) + 1 + 1 by decide, L_M_day_32, if_neg (by decide), E2, b0M_some, E4, b1M_some, if_pos (show r32 (0 + 1) from ⟨by omega, by omega⟩), L_M_day_32, if_pos (by decide), b0M_some]
theorem passDays_rel {G O M : Law} {B : Int} {x : Nat} (hB0 : 0 ≤ B) (hB : B + 400 ≤ 90000000) (hx : x ≤ 60) : ∀ (m N N' i : Nat) (s u : Mm) (R : Int), i + m = x → m < N → m < N' → Now s u G O M B R → R + 12 * m < 2147483647 → ∃ v s2 u2, b0MS (L_A_passDays_2 N (x : Int) (i : Int) s) (fun y => some y) (fun s4 => some (1, s4)) = some (v, s2) ∧ b0MS (L_M_days_2 N' (x : Int) (i : Int) u) (fun y => some y) (fun s4 => some (1, s4)) = some (v, u2) ∧ Now s2 u2 G O M B (R + 12 * m) ∧ FrC s s2 ∧ FrM u u2 := by
  intro m
  induction m with
  | zero =>
    intro N N' i s u R hi hN hN' h hR
    match N, N', hN, hN' with
    | N + 1, N' + 1, _, _ =>
      rw [L_A_passDays_2, L_M_days_2, if_pos (by omega), if_pos (by omega)]
      exact ⟨1, s, u, rfl, rfl, h.w (by omega) (by omega), FrC.rf, FrM.rf⟩
  | succ m ih =>
    intro N N' i s u R hi hN hN' h hR
    match N, N', hN, hN' with
    | N + 1, N' + 1, hN, hN' =>
      have e2 : (i : Int) + 1 = ((i + 1 : Nat) : Int) := by omega
      have next : r32 ((i + 1 : Nat) : Int) := r32_nat (by omega)
      rw [L_A_passDays_2, L_M_days_2, if_neg (show ¬ (x : Int) ≤ (i : Int) by omega), if_neg (show ¬ (x : Int) ≤ (i : Int) by omega)]
      by_cases hd : s 3 40 < 999
      · obtain ⟨s1, v, s2, w, u2, E1, E3, E4, hw, hn2, q1, q2⟩ := one_day h hB0 hB (by omega) hd
        obtain ⟨v', s3, u3, F1, F2, hn3, g1, g2⟩ := ih N N' (i + 1) s2 u2 (R + 12) (by omega) (by omega) (by omega) hn2 (by omega)
        rw [if_pos hd, E1, b0M_some, E3, b1M_some, E4, b1M_some, if_neg hw, e2, if_pos next, if_pos next]
        exact ⟨v', s3, u3, F1, F2, hn3.w (by omega) (by omega), q1.tr g1, q2.tr g2⟩
      · have e40 : s 3 40 = u 201 180 := h.snap.1 40 (by omega)
        have h40 := h.ok.1.2.2.2.2
        have E4 : F_M_day 1 u = some (-10000000, u) := by
          unfold F_M_day
          rw [in_ok, b1_some, if_pos (show (1 : Int) ≤ 1 ∧ (1 : Int) ≤ 60 by decide), if_neg ne10, ← e40, if_pos (show r32 (s 3 40 + 1) from ⟨by omega, by omega⟩), if_neg (show ¬ s 3 40 + 1 ≤ 999 by omega)]
        rw [if_neg hd, E4, b1M_some, if_pos rfl, b0MS_l, b0MS_l]
        exact ⟨0, s, u, rfl, rfl, h.w (by omega) (by omega), FrC.rf, FrM.rf⟩
