-- `reckon` on both sides
theorem close_now {τ ν x2 ν2 : Mm} {G O M : Law} {B R C S : Int} (h : Now τ ν G O M B R) (hm : Mid x2 ν2 G O M C) (hD : ∀ j, j < 30 → SnapOK (τ (60 + j)) C) (f1 : Fr [2, 3, 4, 5, 6, 7] τ x2) (hr : 0 ≤ x2 2 5 ∧ x2 2 5 ≤ S) (f2 : ∀ k, (k < 183 ∨ 304 ≤ k) → ν2 201 k = ν 201 k) (hk : ∀ k, k < 10 → x2 3 (30 + k) = τ 3 (30 + k)) (hday : x2 3 40 ≤ 999 ∧ 0 ≤ x2 3 42 ∧ x2 3 42 ≤ 40000) : Ok (F_M_keepsNow ν2) (fun ζ => Now x2 ζ G O M C S ∧ Fr [201] ν2 ζ ∧ ∀ k, (k < 140 ∨ 304 ≤ k) → ζ 201 k = ν 201 k) := by
  refine (keeps_snap hm (fun k hk2 => ?_)).mono (fun ζ hζ => ?_)
  · rw [hk k hk2, f2 (170 + k) (by omega), h.snap.1 (30 + k) (by omega)]; congr 1; omega
  obtain ⟨s1, s2, s3⟩ := hζ
  obtain ⟨m1, m2, m3, m4, m5, m6, m7, m8⟩ := hm
  have g : ∀ k, (k < 140 ∨ 304 ≤ k) → ζ 201 k = ν 201 k := fun k hk => (s3 k hk).trans (f2 k (by omega))
  have hi : ∀ j, 8 ≤ j → x2 j = τ j := fun j hj => f1 j (by simp; omega)
  refine ⟨⟨m1.1, m2.1.fr s2 (s3 2 (by omega)) (by decide), m1.2.2, hr, s1, ⟨m1.2.1, m6, m7, hday⟩, ?_, ?_, fun j hj => ?_⟩, s2, g⟩
  · obtain ⟨r, r1, r2, r3, r4⟩ := h.rows
    exact ⟨r, r1, by rw [f1 1 (by decide)]; exact r2, by rw [g 0 (by omega)]; exact r3, r4.fr r1 (fun j j1 _ => hi j (by omega)) (fun k hk => g k (by omega))⟩
  · exact h.steps.fr (fun i i1 _ => hi i (by omega)) (fun k hk => g k (by omega))
  · rw [hi (60 + j) (by omega)]; exact hD j hj
theorem has_row {σ μ : Mm} {c : Nat} (hc : c ≤ 12) (h1 : σ 1 4 = (c : Int)) (h2 : μ 201 0 = (c : Int)) (x : Int) : F_H_has x σ = some (if 0 ≤ x ∧ x < c then 1 else 0) ∧ F_M_isRow x μ = some (if 0 ≤ x ∧ x < c then 1 else 0) := by
  unfold F_H_has F_M_isRow F_M_in
  rw [h1, h2, if_pos (show r32 ((c : Int) - 1) from ⟨by omega, by omega⟩)]
  by_cases a : x < 0
  · rw [if_pos a, if_pos a, if_neg (show ¬ (0 ≤ x ∧ x < (c : Int)) by omega)]; exact ⟨rfl, rfl⟩
  · rw [if_neg a, if_neg a]
    by_cases b : (c : Int) ≤ x
    · rw [if_pos b, if_pos (show (c : Int) - 1 < x by omega), if_neg (show ¬ (0 ≤ x ∧ x < (c : Int)) by omega)]; exact ⟨rfl, rfl⟩
    · rw [if_neg b, if_neg (show ¬ (c : Int) - 1 < x by omega), if_pos (show 0 ≤ x ∧ x < (c : Int) by omega)]; exact ⟨rfl, rfl⟩
theorem reckon_rel {σ μ : Mm} {G O M : Law} {B R : Int} (h : Now σ μ G O M B R) (hB : B + 32 ≤ 90000000) (hR : R < 2147483647) (x : Int) : Ok (F_A_reckon x σ) (fun y => Ok (F_M_reckon x μ) (fun z => z.1 = y.1 ∧ Now y.2 z.2 G O M (B + 32) (R + 1) ∧ FrC σ y.2 ∧ FrM μ z.2)) := by
  obtain ⟨c, c1, c2, c3, -⟩ := h.rows
  obtain ⟨e1, e2⟩ := has_row c1 c2 c3 x
  unfold F_A_reckon F_M_reckon
  rw [e1, e2, b1_some, b1_some]
  by_cases hx : 0 ≤ x ∧ x < (c : Int)
  · rw [if_pos hx, if_neg (show ¬ (1 : Int) = 0 by decide), if_neg (show ¬ (1 : Int) = 0 by decide)]
    obtain ⟨r, rfl⟩ := Int.eq_ofNat_of_zero_le hx.1
    obtain ⟨τ, E1, hk⟩ := keep_now h
    obtain ⟨ν, E2, hN, k1, k2, k3⟩ := hk
    rw [E1, E2, b0M_some, b0M_some]
    obtain ⟨ξ, E3, hm, l1, l2⟩ := lays_mid hN.laws hN.lawsM hN.memo hN.snap hN.ok
    rw [E3, b0M_some]
    have x201 : ξ 201 = ν 201 := l1 201 (by decide)
    obtain ⟨c', d1, d2, d3, d4⟩ := hN.rows
    have hcc : c' = c := by
      have : τ 1 4 = σ 1 4 := by rw [k1 1 (by decide) (by omega)]
      omega
    subst hcc
    obtain ⟨p, mn, nums, hC, hMr⟩ := d4 r (by omega)
    have hr1 := hN.round
    have hmr := mid_row hm (r := r) (by omega) hC (by rw [x201]; exact hMr) hB ⟨by omega, by omega⟩
    obtain ⟨⟨v1, s1⟩, E4, hmr⟩ := hmr
    obtain ⟨⟨v2, u1⟩, E5, hv, -, hmr⟩ := hmr
    obtain ⟨u2, E6, hMid2, f1, r5, r6, f2, g1, g2, g3, g4⟩ := hmr
    have hv : v2 = v1 := hv
    subst hv
    have f1 : Fr [2, 3, 4, 5, 6, 7] τ s1 := f1
    have r5 : s1 2 5 = τ 2 5 + 1 := r5
    have r6 : s1 2 6 = τ 2 6 := r6
    have g4 : ∀ k, 30 ≤ k → k < 43 → k ≠ 41 → s1 3 k = τ 3 k := g4
    have hMid2 : Mid s1 u2 G O M (B + 32) := hMid2
    rw [E4, E5, b1M_some, b1M_some, E6, b0M_some]
    obtain ⟨ζ, E7, hN2, t1, t2⟩ := close_now (S := R + 1) hN hMid2 (fun j hj => (hN.oks j hj).w (by omega)) f1 ⟨by omega, by omega⟩ (fun k hk => by rw [g1 k hk, x201]) (fun k hk => g4 (30 + k) (by omega) (by omega) (by omega)) (by rw [g4 40 (by omega) (by omega) (by omega), g4 42 (by omega) (by omega) (by omega)]; exact hN.ok.2.2.2)
    rw [E7, b0M_some]
    refine Ok.ret (Ok.ret ⟨rfl, hN2, ⟨fun i i1 i2 i3 => ?_, ?_⟩, fun i i1 i2 i3 => ?_, fun s a1 a2 a3 a4 a5 => ?_, fun k j1 j2 => ?_⟩)
    · show s1 i = σ i
      rw [f1 i (by simp; omega), k1 i i2 i3]
    · show s1 2 6 = σ 2 6
      rw [r6, k1 2 (by decide) (by omega)]
    · show ζ i = μ i
      rw [t1 i (by simp; omega), f2 i (by simp; omega), l1 i (by simp; omega), k2 i (by simp; omega)]
    · show ζ 200 s = μ 200 s
      rw [t1 200 (by decide), g2 s a2 a3 a4 a5, l2 s a1 a2, k2 200 (by decide)]
    · show ζ 201 k = μ 201 k
      rw [t2 k (by omega), k3 k (by omega) j2]
  · rw [if_neg hx, if_pos rfl, if_pos rfl]
    exact Ok.ret (Ok.ret ⟨rfl, h.w (by omega) (by omega), FrC.rf, FrM.rf⟩)
