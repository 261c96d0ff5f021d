-- `fits`
theorem fit_data {σ μ : Mm} {B R : Int} (h : Rel σ μ B R) : ∃ (G O M : Law) (c S : Nat) (P : Nat → Nat) (Mn : Nat → Int) (NU : Nat → Nat → Int) (rw : Nat → Nat) (ow : Nat → Int), Now σ μ G O M B R ∧ c ≤ 12 ∧ σ 1 4 = (c : Int) ∧ μ 201 0 = (c : Int) ∧ (∀ r, r < c → RowC σ r (P r) (Mn r) (NU r) ∧ RowM (μ 201) r (P r) (Mn r) (NU r)) ∧ S ≤ 6 ∧ σ 121 2 = (S : Int) ∧ μ 201 4 = (S : Int) ∧ (∀ k, k < S → rw k < 12 ∧ σ 122 k = ((rw k : Nat) : Int) ∧ σ 123 k = ow k ∧ RowC σ (rw k) (P (rw k)) (Mn (rw k)) (NU (rw k))) ∧ (∀ k, k < S → rw k < 12 ∧ μ 201 (82 + 2 * k) = ((rw k : Nat) : Int) ∧ μ 201 (83 + 2 * k) = ow k ∧ RowM (μ 201) (rw k) (P (rw k)) (Mn (rw k)) (NU (rw k))) := by
  obtain ⟨G, O, M, hN, hE⟩ := id h
  obtain ⟨c, c1, c2, c3, c4⟩ := hN.rows
  obtain ⟨c', d1, S, d2, d3, d4, d5⟩ := hE.seen
  have ec : c' = c := by omega
  subst ec
  have H : ∀ r, ∃ q : Nat × Int × (Nat → Int), r < c' → RowC σ r q.1 q.2.1 q.2.2 ∧ RowM (μ 201) r q.1 q.2.1 q.2.2 := fun r => by
    by_cases hr : r < c'
    · obtain ⟨p, mn, nums, h1⟩ := c4 r hr
      exact ⟨(p, mn, nums), fun _ => h1⟩
    · exact ⟨(0, 0, fun _ => 0), fun q => absurd q hr⟩
  obtain ⟨f, hf⟩ := Classical.axiomOfChoice H
  have rk : ∀ k, k < S → (σ 122 k).toNat < c' ∧ σ 122 k = (((σ 122 k).toNat : Nat) : Int) := fun k hk => by
    obtain ⟨e1, e2, e3, e4, e5, e6⟩ := d5 k hk
    exact ⟨by omega, by omega⟩
  refine ⟨G, O, M, c', S, fun r => (f r).1, fun r => (f r).2.1, fun r => (f r).2.2, fun k => (σ 122 k).toNat, fun k => σ 123 k, hN, c1, c2, c3, hf, d2, d3, d4, fun k hk => ⟨Nat.lt_of_lt_of_le (rk k hk).1 c1, (rk k hk).2, rfl, (hf _ (rk k hk).1).1⟩, fun k hk => ?_⟩
  obtain ⟨e1, e2, e3, e4, e5, e6⟩ := d5 k hk
  exact ⟨Nat.lt_of_lt_of_le (rk k hk).1 c1, by rw [← e1]; exact (rk k hk).2, e2.symm, (hf _ (rk k hk).1).2⟩
theorem figures_M {x : Int} {ν : Mm} : (¬ (1 ≤ x ∧ x ≤ 1023 ∧ ((mem x 10).length : Int) ≤ 3) → F_M_laysFigures x ν = some (-1, ν)) ∧ ((1 ≤ x ∧ x ≤ 1023 ∧ ((mem x 10).length : Int) ≤ 3) → ∃ s, F_M_laysFigures x ν = some (((mem x 10).length : Int), s) ∧ LiesAt (s 236) (mem x 10) ∧ Fr [236] ν s) := by
  unfold F_M_laysFigures
  rw [in_ok, b1_some]
  by_cases hx : 1 ≤ x ∧ x ≤ 1023
  · obtain ⟨k, rfl⟩ := Int.eq_ofNat_of_zero_le (show 0 ≤ x by omega)
    rw [if_pos hx, if_neg ne10, many_ok (by omega), b1_some, popmem (by omega), mem10 (by omega)]
    by_cases h3 : ((mem (k : Int) 10).length : Int) ≤ 3
    · rw [if_pos h3]
      refine ⟨fun q => absurd ⟨hx.1, hx.2, h3⟩ q, fun _ => ?_⟩
      obtain ⟨s, E, s1, s2⟩ := figs_M (x := (k : Int)) (ν := ν) ⟨by omega, by omega⟩ (by omega)
      rw [E, b1M_some]
      exact ⟨s, rfl, s1, s2⟩
    · rw [if_neg h3]
      exact ⟨fun _ => rfl, fun q => absurd q.2.2 h3⟩
  · rw [if_neg hx, if_pos rfl]
    exact ⟨fun _ => rfl, fun q => absurd ⟨q.1, q.2.1⟩ hx⟩
theorem b1MS_l {R α : Type} {y : R} {g : R → Option α} {f : Int → Mm → Option α} : b1MS (some (Sum.inl y : R ⊕ (Int × Mm))) g f = g y := rfl
theorem b1MS_r {R α : Type} {a : Int} {s : Mm} {g : R → Option α} {f : Int → Mm → Option α} : b1MS (some (Sum.inr (a, s) : R ⊕ (Int × Mm))) g f = f a s := rfl
theorem nthF_lt {f : Nat → Int} {d : Nat} : ∀ {m c i : Nat}, nthF f m c i = some d → i + cntF f c < cntF f (c + m)
  | 0, c, i, h => by simp [nthF] at h
  | m + 1, c, i, h => by
    rw [nthF] at h
    have e : c + (m + 1) = c + 1 + m := by omega
    rw [e]
    have s1 : cntF f (c + 1) = cntF f c + (if f c = 0 then 0 else 1) := rfl
    by_cases hz : f c = 0
    · rw [if_pos hz] at s1 h
      have := nthF_lt h
      omega
    · rw [if_neg hz] at s1 h
      by_cases hi : i = 0
      · have := cntF_top (f := f) (c := c + 1) (m := m)
        omega
      · rw [if_neg hi] at h
        have := nthF_lt h
        omega
theorem EM_10 {ν : Mm} {E : Nat → Int} (h : Eq40 E (EM ν)) {k : Nat} (hk : k < 10) : ν 225 k = E k := by
  have := h k (by omega)
  unfold EM at this
  rw [if_pos hk] at this; exact this
theorem fits50 {μ : Mm} {G O M : Law} {x x2 x3 : Int} {E : Nat → Int} {S : Nat} {P : Nat → Nat} {Mn : Nat → Int} {NU : Nat → Nat → Int} {rw : Nat → Nat} {ow : Nat → Int} (hE : EnvOK E) (h3 : (mem x 10).length ≤ 3) (hS : S ≤ 6) (hs : μ 201 4 = (S : Int)) (hrw : ∀ k, k < S → rw k < 12 ∧ μ 201 (82 + 2 * k) = ((rw k : Nat) : Int) ∧ μ 201 (83 + 2 * k) = ow k ∧ RowM (μ 201) (rw k) (P (rw k)) (Mn (rw k)) (NU (rw k))) (hg : 0 ≤ x2 → 0 ≤ x3 ∧ x3 < 10) :
    ∀ (m n c : Nat) (t : Mm) (F : Nat → Int), c + m = 10 ^ (mem x 10).length → m < n → MJ μ t G O M F → AgX x E F → LiesAt (t 236) (mem x 10) → (x2 = -1 ∨ ((cntF (fun c => fz (Xf G O (Ex x E c) P Mn NU rw ow) S) c : Nat) : Int) ≤ x2) →
    (∃ d u, nthF (fun c => fz (Xf G O (Ex x E c) P Mn NU rw ow) S) m c (x2.toNat - cntF (fun c => fz (Xf G O (Ex x E c) P Mn NU rw ow) S) c) = some d ∧ 0 ≤ x2 ∧ L_M_fits_50 n x2 x3 ((mem x 10).length : Int) ((cntF (fun c => fz (Xf G O (Ex x E c) P Mn NU rw ow) S) c : Nat) : Int) (c : Int) t = some (.inl (Ex x E d x3.toNat, u)) ∧ MJ μ u G O M (Ex x E d)) ∨ (∃ u F, L_M_fits_50 n x2 x3 ((mem x 10).length : Int) ((cntF (fun c => fz (Xf G O (Ex x E c) P Mn NU rw ow) S) c : Nat) : Int) (c : Int) t = some (.inr (((cntF (fun c => fz (Xf G O (Ex x E c) P Mn NU rw ow) S) (10 ^ (mem x 10).length) : Nat) : Int), u)) ∧ MJ μ u G O M F ∧ (x2 = -1 ∨ ((cntF (fun c => fz (Xf G O (Ex x E c) P Mn NU rw ow) S) (10 ^ (mem x 10).length) : Nat) : Int) ≤ x2)) := by
  generalize hφ : (fun c => fz (Xf G O (Ex x E c) P Mn NU rw ow) S) = φ
  have hv : ∀ c, fz (Xf G O (Ex x E c) P Mn NU rw ow) S = φ c := fun c => by rw [← hφ]
  have pw : ∀ k : Nat, k ≤ 3 → 10 ^ k ≤ 1000 := by decide
  have b0 := pw _ h3
  intro m
  induction m with
  | zero =>
    intro n c t F hc hn hM hA hL hx2
    match n, hn with
    | n + 1, _ =>
      have e : c = 10 ^ (mem x 10).length := by omega
      rw [L_M_fits_50, tens_ok h3, b1_some, ← e, if_pos (Int.le_refl _)]
      exact Or.inr ⟨t, F, rfl, hM, hx2⟩
  | succ m ih =>
    intro n c t F hc hn hM hA hL hx2
    match n, hn with
    | n + 1, hn =>
      have e2 : (c : Int) + 1 = ((c + 1 : Nat) : Int) := by omega
      have lt : ¬ ((10 ^ (mem x 10).length : Nat) : Int) ≤ (c : Int) := by
        intro q
        have := Int.ofNat_le.mp q
        omega
      have s1 : cntF φ (c + 1) = cntF φ c + (if φ c = 0 then 0 else 1) := rfl
      have le := cntF_le (f := φ) (c + 1)
      obtain ⟨t1, E1, m1, f1⟩ := tempers_M hM hA hE hL h3 (c := c) (by omega)
      obtain ⟨t2, E2, m2, f2⟩ := isAsSeen_ok (P := P) (Mn := Mn) (NU := NU) (rw := rw) (ow := ow) m1 hS hs hrw
      have hL2 : LiesAt (t2 236) (mem x 10) := by rw [f2 236 (by decide), f1 236 (by decide)]; exact hL
      rw [L_M_fits_50, tens_ok h3, b1_some, if_neg lt, E1, b0M_some, E2, b1M_some, bindM_eq, hv, nthF]
      by_cases hz : φ c = 0
      · rw [if_pos hz] at s1 ⊢
        rw [if_pos hz]
        dsimp only
        rw [e2, if_pos (r32_nat (show c + 1 < 2147483648 by omega))]
        have s2 : cntF φ (c + 1) = cntF φ c := s1
        rw [← s2]
        exact ih n (c + 1) t2 _ (by omega) (by omega) m2 AgX.ex hL2 (by rw [s2]; exact hx2)
      · rw [if_neg hz] at s1 ⊢
        rw [if_neg hz]
        by_cases hx : ((cntF φ c : Nat) : Int) = x2
        · have h0 : 0 ≤ x2 := by omega
          rw [if_pos hx, if_pos (hg h0), if_pos (show x2.toNat - cntF φ c = 0 by omega)]
          have g10 : x3.toNat < 10 := by have := hg h0; omega
          rw [EM_10 m2.2.1 g10]
          exact Or.inl ⟨c, t2, rfl, h0, rfl, m2⟩
        · have e3 : ((cntF φ c : Nat) : Int) + 1 = ((cntF φ (c + 1) : Nat) : Int) := by omega
          rw [if_neg hx, e3, if_pos (r32_nat (show cntF φ (c + 1) < 2147483648 by omega))]
          dsimp only
          rw [e2, if_pos (r32_nat (show c + 1 < 2147483648 by omega))]
          have hx2' : x2 = -1 ∨ ((cntF φ (c + 1) : Nat) : Int) ≤ x2 := by
            rcases hx2 with q | q
            · exact Or.inl q
            · exact Or.inr (by omega)
          rcases ih n (c + 1) t2 _ (by omega) (by omega) m2 AgX.ex hL2 hx2' with ⟨d, u, q1, q2, q3, q4⟩ | q
          · rw [if_neg (show ¬ x2.toNat - cntF φ c = 0 by omega), show x2.toNat - cntF φ c - 1 = x2.toNat - cntF φ (c + 1) by omega]
            exact Or.inl ⟨d, u, q1, q2, q3, q4⟩
          · exact Or.inr q
theorem fits_rel {σ μ : Mm} {B R : Int} (h : Rel σ μ B R) (hB : B + 400 ≤ 90000000) (hR : R + 20000 < 2147483647) (x y z : Int) : Op (F_A_fits x y z σ) (F_M_fits x y z μ) B (R + 20000) := by
  obtain ⟨G, O, M, c, S, P, Mn, NU, rw, ow, hN, c1, c2, c3, c4, S6, S1, S2, rC, rM⟩ := fit_data h
  have hr := hN.round
  have out : Rel σ μ B (R + 20000) := h.w (Int.le_refl _) (by omega)
  unfold F_A_fits F_M_fits
  rw [isSet_A, b1_some]
  by_cases hx : 1 ≤ x ∧ x ≤ 1023 ∧ ((mem x 10).length : Int) ≤ 3
  · have hx0 : 0 ≤ x ∧ x < 2147483648 := by omega
    have h3 : (mem x 10).length ≤ 3 := by omega
    have pw : ∀ k : Nat, k ≤ 3 → 10 ^ k ≤ 1000 ∧ 1 ≤ 10 ^ k := by decide
    have b0 := pw _ h3
    obtain ⟨ν1, E1, l1, f1⟩ := (figures_M (x := x) (ν := μ)).2 hx
    have q1 : QM μ ν1 := QM.of f1 (by decide)
    have r1 : Rel σ ν1 B (R + 20000) := out.askM q1
    rw [if_pos hx, if_neg ne10, E1, b1M_some, if_neg (show ¬ ((mem x 10).length : Int) = -1 by omega)]
    by_cases hy : -1 ≤ y
    · rw [if_pos hy, if_neg (show ¬ y < -1 by omega), bindM_eq, bindM_eq]
      obtain ⟨t, T1, cb, t9, t124, t125⟩ := find_ok (x := x) (P := P) (Mn := Mn) (NU := NU) (rw := rw) (ow := ow) (σ := σ) (G := G) (O := O) (M := M) ⟨hN.laws, hN.ok.1, hN.memo⟩ hx0 h3 S6 S1 rC ⟨hr.1, by omega⟩
      have hN1 : Now σ ν1 G O M B R := hN.ask QC.rf q1 hN.memo hr
      obtain ⟨ν2, E2, mj2, g2, -⟩ := hN1.lays
      have mj2 : MJ μ ν2 G O M (σ 3) := ⟨mj2.1, mj2.2.1, q1.tr mj2.2.2⟩
      have l2 : LiesAt (ν2 236) (mem x 10) := by rw [g2 236 (by decide)]; exact l1
      have fit : ∀ (hg : 0 ≤ y → 0 ≤ z ∧ z < 10), _ := fun hg => fits50 (x := x) (x2 := y) (x3 := z) (P := P) (Mn := Mn) (NU := NU) (rw := rw) (ow := ow) hN.ok.1 h3 S6 S2 rM hg (10 ^ (mem x 10).length) LF 0 ν2 (σ 3) (by omega) (by unfold LF; omega) mj2 AgX.rf l2 (by
        by_cases e : y = -1
        · exact Or.inl e
        · exact Or.inr (by simp [cntF]; omega))
      rw [T1, b1M_some, E2, b0M_some]
      generalize hφ : (fun c => fz (Xf G O (Ex x (σ 3) c) P Mn NU rw ow) S) = φ at T1 fit
      have t125 : ∀ c, c < 10 ^ (mem x 10).length → t 125 c = φ c := fun c hc => by rw [t125 c hc, ← hφ]
      have shut : ∀ {u : Mm} {F : Nat → Int}, MJ μ u G O M F → Rel t u B (R + 20000) := fun m => cb.rel h m.2.2 ⟨by have := cb.2.2.2.2; omega, by have := cb.2.2.2.2; omega⟩
      have c0 : ((cntF φ 0 : Nat) : Int) = 0 := rfl
      have c00 : ((0 : Nat) : Int) = 0 := rfl
      by_cases y1 : y = -1
      · rw [if_pos y1, if_pos y1, if_pos y1]
        rcases fit (fun q => by omega) with ⟨d, u, -, q, -⟩ | ⟨u, F, q1, q2, -⟩
        · omega
        · rw [c0, c00] at q1
          rw [q1, b1MS_r, if_pos y1]
          exact Op.ret rfl (shut q2)
      · rw [if_neg y1, if_neg y1, if_neg y1, fig_A, fig_M, b1_some, b1_some]
        by_cases hz : 0 ≤ z ∧ z < 10
        · obtain ⟨g, rfl⟩ := Int.eq_ofNat_of_zero_le hz.1
          obtain ⟨i, rfl⟩ := Int.eq_ofNat_of_zero_le (show 0 ≤ y by omega)
          rw [if_pos hz, if_neg ne10, if_neg ne10, hasM_ok hx0.1 hx0.2 (by omega) (by omega), b1_some, bit_of hx0.1 hx0.2 (by omega) (by omega)]
          rcases bitI_01 x (g : Int) with hb | hb
          · rw [if_pos hb, if_pos hb]; exact Op.ret rfl r1
          · have nb : ¬ bitI x (g : Int) = 0 := by omega
            rw [if_neg nb, if_neg nb]
            have g10 : g < 10 := by omega
            rcases fit (fun q => hz) with ⟨d, u, q0, -, q1, q2⟩ | ⟨u, F, q1, q2, q3⟩
            · rw [c0, c00] at q1
              rw [q1, b1MS_l]
              have e0 : ((i : Int)).toNat - cntF φ 0 = i := by simp [cntF]
              rw [e0] at q0
              have hi : i < cntF φ (10 ^ (mem x 10).length) := by
                have := nthF_lt q0
                rw [Nat.zero_add] at this
                exact this
              obtain ⟨d', d1, d2, d3⟩ := temperIn_ok (x := x) (g := g) (i := i) (t := t) (f := φ) b0.1 g10 hb t9 t124 t125 hi
              rw [q0] at d1
              have ed : d = d' := Option.some.inj d1
              subst ed
              rw [if_neg (show ¬ ((cntF φ (10 ^ (mem x 10).length) : Nat) : Int) ≤ (i : Int) by omega), d3, b1_some]
              refine Op.ret ?_ (shut q2)
              rw [show ((g : Int)).toNat = g by omega]
              unfold Ex
              rw [if_pos ⟨g10, hb⟩]
            · rw [c0, c00] at q1
              rw [q1, b1MS_r, if_pos (show ((cntF φ (10 ^ (mem x 10).length) : Nat) : Int) ≤ (i : Int) by omega), if_neg y1]
              exact Op.ret rfl (shut q2)
        · rw [if_neg hz, if_pos rfl, if_pos rfl]; exact Op.ret rfl r1
    · rw [if_neg hy, if_pos (show y < -1 by omega)]
      exact Op.ret rfl r1
  · rw [if_neg hx, if_pos rfl, (figures_M (x := x) (ν := μ)).1 hx, b1M_some, if_pos rfl]
    exact Op.ret rfl out
