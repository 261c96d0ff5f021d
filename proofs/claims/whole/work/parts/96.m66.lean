-- days to come: `foretold`, `firstOff`
def MidF (σ μ : Mm) (G O M : Law) (B : Int) : Prop := JB σ G O M ∧ MOK μ G O M ∧ Eq40 (σ 3) (EM μ) ∧ σ 3 41 = μ 200 46 ∧ (-9999999 ≤ σ 3 41 ∧ σ 3 41 ≤ 9999999) ∧ QB (σ 3) B ∧ ∃ w b, BookC (σ 3) w b
abbrev MFF : List Nat := [200, 223, 224, 226, 227, 229, 230, 231, 232]
theorem midF_row {σ μ : Mm} {G O M : Law} {B : Int} (h : MidF σ μ G O M B) {r p : Nat} {mn : Int} {nums : Nat → Int} (hr : r < 12) (hC : RowC σ r p mn nums) (hM : RowM (μ 201) r p mn nums) (hB : B + 32 ≤ 90000000) (hs5 : -2147483648 ≤ σ 2 5 ∧ σ 2 5 < 2147483647) :
    ∃ v s u, F_H_reckonRow (r : Int) σ = some (v, s) ∧ F_M_reckons (r : Int) μ = some (v, u) ∧ (Laid u p mn ∧ ∀ j, j < 4 → u 229 j = nums j) ∧ MidF s u G O M (B + 32) ∧ Fr [2, 3, 4, 5, 6, 7] σ s ∧ s 2 5 = σ 2 5 + 1 ∧ s 2 6 = σ 2 6 ∧ Fr MFF μ u ∧ (∀ k, k ≠ 46 → k ≠ 48 → k ≠ 49 → k ≠ 53 → u 200 k = μ 200 k) ∧ s 3 40 = σ 3 40 := by
  obtain ⟨hJ, hMO, h40, h41, hb, hQ, w, b, hw⟩ := h
  have hK := hC.2.2.2.2.2.2.2.2.2.2.2.2.2
  have hQM : QB (EM μ) B := fun k hk => by rw [h40 (20 + k) (by omega)]; exact hQ k hk
  obtain ⟨⟨v, s⟩, E1, x1, x2, x3, x4, x5, x6, x7, x8, x9⟩ := reckonRow_ok hJ hr hC hb hQ hB hw hs5
  obtain ⟨⟨v2, u⟩, E2, y1, y2, y3, y4, y5, y6, y7, y8⟩ := reckons_ok hMO hr hM (by rw [← h41]; exact hb) hQM hB
  have e1 : v2 = v := by
    have y1 : v2 = _ := y1
    have x1 : v = _ := x1
    rw [y1, x1, offL_T (EqT_40 h40) hK]
  subst e1
  have eU : Eq40 (useD (drw nums p) (incL (tw G O (σ 3)) (drw nums p) (σ 3))) (EM u) := by
    have y2 : EM u = _ := y2
    rw [y2]; exact useD_40 (incL_T (EqT_40 h40) hK h40)
  have EU : EqU (incL (tw G O (σ 3)) (drw nums p) (σ 3)) (useD (drw nums p) (incL (tw G O (σ 3)) (drw nums p) (σ 3))) := useD_eqU _ hK
  have EQ : EqQ (σ 3) (incL (tw G O (σ 3)) (drw nums p) (σ 3)) := incL_eqQ hK
  have x2 : ∀ k, k < 43 → k ≠ 41 → s 3 k = _ := x2
  have x3 : s 3 41 = max (-9999999) (min 9999999 (σ 3 41 + v2)) := x3
  have y3 : u 200 46 = max (-9999999) (min 9999999 (μ 200 46 + v2)) := y3
  refine ⟨v2, s, u, E1, E2, y4, ⟨x9, y8, fun k hk => ?_, ?_, ?_, x8, pushW w, _, x4⟩, x5, x6, x7, y5, y6, ?_⟩
  · rw [x2 k (by omega) (by omega)]; exact eU k hk
  · rw [x3, y3, h41]
  · rw [x3]; omega
  · rw [x2 40 (by omega) (by omega), EU 40 (by omega), EQ 40 (by omega)]
theorem dayF_loop {G O M : Law} {c : Nat} (hc : c ≤ 12) : ∀ (m n n2 x mask : Nat) (B : Int) (σ μ : Mm), x + m = c → m < n → m < n2 → mask < 2 ^ x → MidF σ μ G O M B → B + 32 * m ≤ 90000000 → σ 1 4 = (c : Int) → μ 201 0 = (c : Int) → RowsR σ μ c → (-2147483648 ≤ σ 2 5 ∧ σ 2 5 + m < 2147483647) →
    ∃ (k : Nat) (s u : Mm), k < 2 ^ c ∧ L_H_passDay_4 n (mask : Int) (x : Int) σ = some ((k : Int), s) ∧ L_M_dayGoes_4 n2 0 (mask : Int) (x : Int) μ = some ((k : Int), u) ∧ MidF s u G O M (B + 32 * m) ∧ Fr [2, 3, 4, 5, 6, 7] σ s ∧ s 2 5 = σ 2 5 + m ∧ s 2 6 = σ 2 6 ∧ Fr MFF μ u ∧ (∀ k, k ≠ 46 → k ≠ 48 → k ≠ 49 → k ≠ 53 → u 200 k = μ 200 k) ∧ s 3 40 = σ 3 40 := by
  intro m
  induction m with
  | zero =>
    intro n n2 x mask B σ μ hx hn hn2 hmask hMid hB h14 h20 hR hs5
    match n, n2, hn, hn2 with
    | n + 1, n2 + 1, _, _ =>
      rw [L_H_passDay_4, L_M_dayGoes_4]
      have : x = c := by omega
      subst this
      rw [h14, h20, if_pos (Int.le_refl _), if_pos (Int.le_refl _)]
      exact ⟨mask, σ, μ, hmask, rfl, rfl, by simpa using hMid, Fr.rf, by simp, rfl, Fr.rf, fun _ _ _ _ _ => rfl, rfl⟩
  | succ m ih =>
    intro n n2 x mask B σ μ hx hn hn2 hmask hMid hB h14 h20 hR hs5
    match n, n2, hn, hn2 with
    | n + 1, n2 + 1, hn, hn2 =>
      rw [L_H_passDay_4, L_M_dayGoes_4]
      have lx : x < 12 := by omega
      have e2 : (x : Int) + 1 = ((x + 1 : Nat) : Int) := by omega
      obtain ⟨p, mn, nums, hC, hM⟩ := hR x (by omega)
      have hb := ior_bit hmask lx
      have p1 : (2 : Nat) ^ x ≤ 2 ^ 12 := Nat.pow_le_pow_right (by omega) (by omega)
      have p2 : (2 : Nat) ^ (x + 1) = 2 ^ x * 2 := Nat.pow_succ ..
      obtain ⟨v, s1, u1, E1, E2, ⟨hL, hn4⟩, hMid2, f1, r5, r6, f2, g2, g40⟩ := midF_row hMid lx hC hM (by omega) ⟨by omega, by omega⟩
      have hp := hC.2.1
      have ht : F_M_trueNow u1 = some (trs mn nums p) := by
        rw [trueNow_ok ⟨hL.2.2.1, hL.2.2.2.1⟩ hL.1 hL.2.2.2.2.2.2 hL.2.2.2.2.1 hL.2.2.2.2.2.1]
        rw [trs_cong (f := u1 229) (g := nums) (fun i hi => hn4 i (by omega))]
      have h6 : s1 (10 + x) 6 = trs mn nums p := by
        rw [f1 (10 + x) (by simp; omega)]; exact hC.2.2.2.2.2.2.1
      have e201 : u1 201 = μ 201 := f2 201 (by decide)
      have go : ∀ mask2 : Nat, mask2 < 2 ^ (x + 1) → ∃ (k : Nat) (s u : Mm), k < 2 ^ c ∧ L_H_passDay_4 n (mask2 : Int) ((x + 1 : Nat) : Int) s1 = some ((k : Int), s) ∧ L_M_dayGoes_4 n2 0 (mask2 : Int) ((x + 1 : Nat) : Int) u1 = some ((k : Int), u) ∧ MidF s u G O M (B + 32 * ((m + 1 : Nat) : Int)) ∧ Fr [2, 3, 4, 5, 6, 7] σ s ∧ s 2 5 = σ 2 5 + ((m + 1 : Nat) : Int) ∧ s 2 6 = σ 2 6 ∧ Fr MFF μ u ∧ (∀ k, k ≠ 46 → k ≠ 48 → k ≠ 49 → k ≠ 53 → u 200 k = μ 200 k) ∧ s 3 40 = σ 3 40 := fun mask2 hm2 => by
        obtain ⟨k, s, u, a0, a1, a2, a3, a4, a5, a6, a7, a8, a9⟩ := ih n n2 (x + 1) mask2 (B + 32) s1 u1 (by omega) (by omega) (by omega) hm2 hMid2 (by omega) (by rw [f1 1 (by decide)]; exact h14) (by rw [e201]; exact h20) (hR.fr hc (fun j j1 _ => f1 j (by simp; omega)) (fun k hk => by rw [e201])) (by omega)
        have eB : B + 32 + 32 * (m : Int) = B + 32 * ((m + 1 : Nat) : Int) := by omega
        rw [eB] at a3
        exact ⟨k, s, u, a0, a1, a2, a3, f1.tr a4, by rw [a5, r5]; omega, a6.trans r6, f2.tr a7, fun k q1 q2 q3 q4 => (a8 k q1 q2 q3 q4).trans (g2 k q1 q2 q3 q4), a9.trans g40⟩
      have tx : ((x : Int)).toNat = x := by omega
      have next : r32 ((x + 1 : Nat) : Int) := ⟨by omega, by omega⟩
      rw [h14, h20, if_neg (by omega), if_neg (by omega), E1, E2, b1M_some, b1M_some, if_pos (show 0 ≤ (x : Int) ∧ (x : Int) < 12 by omega), tx, h6, ht, b1_some, bindM_eq]
      by_cases hvt : v = trs mn nums p
      · rw [if_pos hvt, bindM_eq, if_pos hvt]
        dsimp only
        rw [bindM_eq, if_pos rfl]
        dsimp only
        rw [ior_zero (by omega), e2, if_pos next, if_pos next]
        exact go mask (by omega)
      · rw [if_neg hvt, bindM_eq, bindM_eq, if_neg hvt]
        dsimp only
        rw [bindM_eq, if_pos rfl]
        dsimp only
        rw [hb.1, e2, if_pos next, if_pos next]
        exact go (mask + 2 ^ x) hb.2
theorem passDayF {σ μ : Mm} {G O M : Law} {B : Int} {c : Nat} (hc : c ≤ 12) (hMid : MidF σ μ G O M B) (hB : B + 400 ≤ 90000000) (h14 : σ 1 4 = (c : Int)) (h20 : μ 201 0 = (c : Int)) (hR : RowsR σ μ c) (hs5 : -2147483648 ≤ σ 2 5 ∧ σ 2 5 + 12 < 2147483647) (hday : σ 3 40 < 2000) :
    ∃ (k : Nat) (s u : Mm), k < 2 ^ c ∧ F_H_passDay σ = some ((k : Int), s) ∧ F_M_dayGoes 0 μ = some ((k : Int), u) ∧ MidF s u G O M 0 ∧ Fr [2, 3, 4, 5, 6, 7] σ s ∧ (σ 2 5 ≤ s 2 5 ∧ s 2 5 ≤ σ 2 5 + 12) ∧ s 2 6 = σ 2 6 ∧ Fr (225 :: 233 :: MFF) μ u ∧ (∀ k, k ≠ 45 → k ≠ 46 → k ≠ 48 → k ≠ 49 → k ≠ 53 → u 200 k = μ 200 k) ∧ s 3 40 = σ 3 40 + 1 := by
  unfold F_H_passDay F_M_dayGoes
  obtain ⟨k, s1, u1, z0, E1, E2, z3, z4, z5, z6, z7, z9, z40⟩ := dayF_loop hc c LF LF 0 0 B σ μ (by omega) (by unfold LF; omega) (by unfold LF; omega) (by omega) hMid (by omega) h14 h20 hR ⟨by omega, by omega⟩
  rw [show ((0 : Nat) : Int) = 0 from rfl] at E1 E2
  rw [E1, E2, b1M_some, b1M_some]
  obtain ⟨m1, m2, m3, m4, m6, m7, w, b, m8⟩ := z3
  have hEs : EnvOK (s1 3) := m1.2.1
  obtain ⟨s2, E3, c1, c2⟩ := moodsC_loop hEs 10 LF 0 s1 (by omega) (by unfold LF; omega) m1.1 (fun k => by
    unfold dayU
    by_cases k1 : k < 10
    · rw [if_pos k1, if_neg (by omega)]
    · rw [if_neg k1, if_neg (by omega)])
  rw [show ((0 : Nat) : Int) = 0 from rfl] at E3
  have c40 : s2 3 40 = σ 3 40 := by
    rw [c1]; unfold dayE; rw [if_neg (by omega), if_neg (by omega)]; exact z40
  have hd0 := hEs.2.2.2.2
  rw [z40] at hd0
  obtain ⟨u2, E4, g2, g3⟩ := moodsM_ok m2
  have d45 : u2 200 45 = σ 3 40 := by
    have := m3 40 (by omega)
    rw [EM_5, z40] at this
    rw [g3 200 (by decide)]; exact this
  rw [E3, b0M_some, c40, if_pos (show r32 (σ 3 40 + 1) from ⟨by omega, by omega⟩), bindM_eq, E4, b0M_some, d45, if_pos (show r32 (σ 3 40 + 1) from ⟨by omega, by omega⟩), bindM_eq]
  have V3 : ∀ k, st2 s2 3 40 (σ 3 40 + 1) 3 k = if k = 40 then σ 3 40 + 1 else dayE M (s1 3) k := fun k => by rw [st2_sk, c1]
  have F3 : Fr [3, 4, 5] s1 (st2 s2 3 40 (σ 3 40 + 1)) := c2.st (by decide)
  have f4 : Fr [200] u2 (st2 u2 200 45 (σ 3 40 + 1)) := Fr.rf.st (by decide)
  have v4 : ∀ k, st2 u2 200 45 (σ 3 40 + 1) 200 k = if k = 45 then σ 3 40 + 1 else u2 200 k := fun k => st2_sk _ _ _ _ _
  generalize st2 s2 3 40 (σ 3 40 + 1) = s3 at V3 F3
  generalize st2 u2 200 45 (σ 3 40 + 1) = u3 at f4 v4
  have E3 : ∀ k, k < 40 → EM u3 k = dayE M (EM u1) k := fun k hk => by
    rw [← g2]
    unfold EM
    rw [f4 225 (by decide), f4 226 (by decide), f4 227 (by decide), f4 228 (by decide)]
    by_cases k1 : k < 10
    · rw [if_pos k1, if_pos k1]
    · rw [if_neg k1, if_neg k1]
      by_cases k2 : k < 20
      · rw [if_pos k2, if_pos k2]
      · rw [if_neg k2, if_neg k2]
        by_cases k3 : k < 30
        · rw [if_pos k3, if_pos k3]
        · rw [if_neg k3, if_neg k3, if_pos hk, if_pos hk]
  have E40 : EM u3 40 = σ 3 40 + 1 := by rw [EM_5, v4, if_pos rfl]
  have A : Eq40 (s3 3) (EM u3) := fun k hk => by
    by_cases k40 : k = 40
    · rw [k40, E40, V3, if_pos rfl]
    · rw [E3 k (by omega), V3, if_neg k40]
      unfold dayE
      by_cases k1 : k < 10
      · rw [if_pos k1, if_pos k1]
        exact mv_cong (m3 k (by omega)) (m3 (10 + k) (by omega)) (m3 (20 + k) (by omega)) (m3 40 (by omega))
      · rw [if_neg k1, if_neg k1, m3 k hk]
  have Env3 : EnvOK (s3 3) := by
    obtain ⟨a1, a2, a3, a4, a5⟩ := dayE_env (M := M) hEs
    refine ⟨fun k hk => ?_, fun k hk => ?_, fun k hk => ?_, fun k hk => ?_, ?_⟩
    · rw [V3, if_neg (by omega)]; exact a1 k hk
    · rw [V3, if_neg (by omega)]; exact a2 k hk
    · rw [V3, if_neg (by omega)]; exact a3 k hk
    · rw [V3, if_neg (by omega)]; exact a4 k hk
    · rw [V3, if_pos rfl]; omega
  have hi : ∀ k, 30 ≤ k → k ≠ 40 → s3 3 k = s1 3 k := fun k k1 k2 => by
    rw [V3, if_neg k2]; unfold dayE; rw [if_neg (by omega), if_neg (by omega)]
  have e201 : u3 201 = u1 201 := by rw [f4 201 (by decide), g3 201 (by decide)]
  have G3 : Fr [200, 223, 224, 225, 227, 233] u1 u3 := (g3.w (by decide)).tr (f4.w (by decide))
  have MN : MOK u3 G O M := ⟨m2.1.fr G3 (by rw [e201]) (by decide), m2.2.1, m2.2.2.1, m2.2.2.2.1, Env3.ext A⟩
  have h46 : u3 200 46 = u1 200 46 := by rw [v4, if_neg (by decide), g3 200 (by decide)]
  refine ⟨k, s3, u3, z0, rfl, rfl, ⟨⟨m1.1.fr F3 (congrFun (F3 2 (by decide)) 6) (by decide), Env3, fun k hk => ?_⟩, MN, A, ?_, ?_, fun k hk => ?_, w, b, ?_⟩, (z4.tr (F3.w (by decide))), ?_, ?_, ?_, fun k a0 a1 a2 a3 a4 => ?_, ?_⟩
  · rw [F3 6 (by decide), F3 2 (by decide)]; exact m1.2.2 k hk
  · rw [hi 41 (by omega) (by omega), h46]; exact m4
  · rw [hi 41 (by omega) (by omega)]; exact m6
  · rw [V3, if_neg (by omega)]; unfold dayE; rw [if_neg (by omega), if_pos (by omega)]; omega
  · exact m8.cong (fun k k1 _ => hi k (by omega) (by omega))
  · rw [F3 2 (by decide), z5]; omega
  · rw [F3 2 (by decide)]; exact z6
  · exact (z7.w (by decide)).tr (G3.w (by decide))
  · rw [v4, if_neg a0, g3 200 (by decide)]; exact z9 k a1 a2 a3 a4
  · rw [V3, if_pos rfl]
