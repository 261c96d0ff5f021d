-- `day` on both sides
def pop : Nat → Nat → Int
  | 0, _ => 0
  | j + 1, k => ((k % 2 : Nat) : Int) + pop j (k / 2)
theorem pop_bd : ∀ (j k : Nat), 0 ≤ pop j k ∧ pop j k ≤ (j : Int)
  | 0, _ => by simp [pop]
  | j + 1, k => by
    have := pop_bd j (k / 2)
    simp only [pop]
    omega
theorem many_loop : ∀ (j n k : Nat) (a : Int), j < n → k < 2 ^ j → j ≤ 30 → 0 ≤ a ∧ a + j ≤ 100 → L_M_many_4 n a (k : Int) = some (a + pop j k) := by
  intro j
  induction j with
  | zero =>
    intro n k a hn hk hj ha
    match n, hn with
    | n + 1, _ =>
      have : k = 0 := by simp at hk; omega
      subst this
      rw [L_M_many_4, if_pos (by rfl)]
      simp [pop]
  | succ j ih =>
    intro n k a hn hk hj ha
    match n, hn with
    | n + 1, hn =>
      have p2 : (2 : Nat) ^ (j + 1) = 2 ^ j * 2 := Nat.pow_succ ..
      have p3 : (2 : Nat) ^ (j + 1) ≤ 2 ^ 30 := Nat.pow_le_pow_right (by omega) (by omega)
      have h1 : iand (k : Int) 1 = ((k % 2 : Nat) : Int) := by
        have := iand_nat (a := k) (b := 1) (by omega)
        rw [and1] at this; exact this
      have h2 : ishr (k : Int) 1 = ((k / 2 : Nat) : Int) := by
        have := ishr_nat (a := k) (k := 1) (by omega) (by omega)
        simpa using this
      rw [L_M_many_4]
      by_cases k0 : (k : Int) = 0
      · rw [if_pos k0]
        have : k = 0 := by omega
        subst this
        have z : ∀ j, pop j 0 = 0 := fun j => by
          induction j with
          | zero => rfl
          | succ j ih => simp [pop, ih]
        rw [z]; simp
      · rw [if_neg k0, bindM_eq, h1, h2, if_pos (show r32 _ from ⟨by omega, by omega⟩), ih n (k / 2) _ (by omega) (by omega) (by omega) (by omega)]
        simp only [pop]
        congr 1; omega
theorem many_ok {k : Nat} (hk : k < 2 ^ 12) : F_M_many (k : Int) = some (pop 12 k) := by
  unfold F_M_many
  rw [many_loop 12 LF k 0 (by unfold LF; omega) hk (by omega) (by omega), b1_some]
  simp
theorem Mid.w {σ μ : Mm} {G O M : Law} {B C : Int} (h : Mid σ μ G O M B) (hb : B ≤ C) : Mid σ μ G O M C :=
  ⟨h.1, h.2.1, h.2.2.1, h.2.2.2.1, h.2.2.2.2.1, h.2.2.2.2.2.1, fun k hk => by have := h.2.2.2.2.2.2.1 k hk; omega, h.2.2.2.2.2.2.2⟩
/-- one day: class `passDay`, reference `dayDone` -/
theorem dayDone_rel {τ ν : Mm} {G O M : Law} {B R : Int} (hN : Now τ ν G O M B R) (hB0 : 0 ≤ B) (hB : B + 400 ≤ 90000000) (hR : R + 12 < 2147483647) (hday : τ 3 40 < 999) : Ok (F_H_passDay τ) (fun y => Ok (F_M_dayDone ν) (fun z => (∃ k : Nat, y.1 = (k : Int) ∧ k < 2 ^ 12 ∧ z.1 = pop 12 k) ∧ Now y.2 z.2 G O M B (R + 12) ∧ FrC τ y.2 ∧ FrM ν z.2 ∧ y.2 3 40 = τ 3 40 + 1 ∧ (∀ k, 30 ≤ k → k < 43 → k ≠ 40 → k ≠ 41 → y.2 3 k = τ 3 k) ∧ (∀ k, 304 ≤ k → z.2 201 k = ν 201 k) ∧ (∀ i, 58 ≤ i → y.2 i = τ i))) := by
  unfold F_M_dayDone
  obtain ⟨ξ, E3, hm, l1, l2⟩ := lays_mid hN.laws hN.lawsM hN.memo hN.snap hN.ok
  have x201 : ξ 201 = ν 201 := l1 201 (by decide)
  obtain ⟨c, d1, d2, d3, d4⟩ := hN.rows
  have hr1 := hN.round
  have hp := passDay_rel d1 hm hB d2 (by rw [x201]; exact d3) (d4.fr d1 (fun _ _ _ => rfl) (fun k _ => by rw [x201])) ⟨by omega, by omega⟩ (by omega)
  obtain ⟨⟨v1, s1⟩, E4, hp⟩ := hp
  obtain ⟨⟨v2, u2⟩, E5, hv, hmask, hMid2, f1, r5, r6, f2, g1, g2, g3, g4⟩ := hp
  have hv : v2 = v1 := hv
  subst hv
  obtain ⟨k, hk1, hk2⟩ := hmask
  have hk1 : v2 = (k : Int) := hk1
  have f1 : Fr [2, 3, 4, 5, 6, 7] τ s1 := f1
  have r5 : τ 2 5 ≤ s1 2 5 ∧ s1 2 5 ≤ τ 2 5 + 12 := r5
  have r6 : s1 2 6 = τ 2 6 := r6
  have g3 : s1 3 40 = τ 3 40 + 1 := g3
  have g4 : ∀ k, 30 ≤ k → k < 43 → k ≠ 40 → k ≠ 41 → s1 3 k = τ 3 k := g4
  have hMid2 : Mid s1 u2 G O M 0 := hMid2
  have g1 : ∀ k, (k < 183 ∨ 304 ≤ k) → u2 201 k = ξ 201 k := g1
  have f2 : Fr (225 :: 233 :: MF) ξ u2 := f2
  have g2 : ∀ s, s ≠ 45 → s ≠ 46 → s ≠ 48 → s ≠ 49 → s ≠ 53 → u2 200 s = ξ 200 s := g2
  have hk3 : k < 2 ^ 12 := Nat.lt_of_lt_of_le hk2 (Nat.pow_le_pow_right (by omega) d1)
  obtain ⟨ζ, E7, hN2, t1, t2⟩ := close_now (S := R + 12) hN (hMid2.w hB0) hN.oks f1 ⟨by omega, by omega⟩ (fun k hk => by rw [g1 k hk, x201]) (fun k hk => g4 (30 + k) (by omega) (by omega) (by omega) (by omega)) (by have := hN.ok.2.2.2; rw [g4 42 (by omega) (by omega) (by omega) (by omega)]; omega)
  rw [E4]
  refine Ok.ret ?_
  rw [E3, b0M_some, E5, b1M_some, E7, b0M_some, hk1, many_ok hk3, b1_some]
  refine Ok.ret ⟨⟨k, rfl, hk3, rfl⟩, hN2, ⟨fun i i1 i2 i3 => ?_, r6⟩, ⟨fun i i1 i2 i3 => ?_, fun s a1 a2 a3 a4 a5 => ?_, fun k j1 j2 => ?_⟩, g3, g4, fun k hk => ?_, fun i hi => f1 i (by simp; omega)⟩
  · show s1 i = τ i
    exact f1 i (by simp; omega)
  · show ζ i = ν i
    rw [t1 i (by simp; omega), f2 i (by simp; omega), l1 i (by simp; omega)]
  · show ζ 200 s = ν 200 s
    rw [t1 200 (by decide), g2 s a1 a2 a3 a4 a5, l2 s a1 a2]
  · show ζ 201 k = ν 201 k
    rw [t2 k (by omega)]
  · show ζ 201 k = ν 201 k
    rw [t2 k (by omega)]
theorem days_loop {G O M : Law} {B : Int} (hB0 : 0 ≤ B) (hB : B + 400 ≤ 90000000) {x1 : Int} (hx1 : x1 ≤ 60) : ∀ (m n n2 x : Nat) (σ μ : Mm) (R : Int), (x : Int) + m = x1 → m < n → m < n2 → Now σ μ G O M B R → R + 12 * m < 2147483647 → σ 3 40 + m ≤ 999 →
    Ok (L_A_passDays_2 n x1 (x : Int) σ) (fun y => ∃ s, y = .inr s ∧ Ok (L_M_day_32 n2 x1 (x : Int) μ) (fun z => Now s z G O M B (R + 12 * m) ∧ FrC σ s ∧ FrM μ z)) := by
  intro m
  induction m with
  | zero =>
    intro n n2 x σ μ R hx hn hn2 hN hR hd
    match n, n2, hn, hn2 with
    | n + 1, n2 + 1, _, _ =>
      rw [L_A_passDays_2, L_M_day_32]
      exact Ok.it (by omega) (Ok.ret ⟨σ, rfl, Ok.it (by omega) (Ok.ret ⟨by simpa using hN, FrC.rf, FrM.rf⟩)⟩)
  | succ m ih =>
    intro n n2 x σ μ R hx hn hn2 hN hR hd
    match n, n2, hn, hn2 with
    | n + 1, n2 + 1, hn, hn2 =>
      rw [L_A_passDays_2, L_M_day_32]
      have e2 : (x : Int) + 1 = ((x + 1 : Nat) : Int) := by omega
      have hr1 : r32 ((x + 1 : Nat) : Int) := ⟨by omega, by omega⟩
      obtain ⟨τ, E1, hk⟩ := keep_now hN
      obtain ⟨ν, E2, hN1, k1, k2, k3⟩ := hk
      have t40 : τ 3 40 = σ 3 40 := by rw [k1 3 (by decide) (by omega)]
      obtain ⟨⟨v, s⟩, E3, hd2⟩ := dayDone_rel hN1 hB0 hB (by omega) (by omega)
      obtain ⟨⟨v2, u⟩, E4, -, hN2, q1, q2, q3, -⟩ := hd2
      have hN2 : Now s u G O M B (R + 12) := hN2
      have q1 : FrC τ s := q1
      have q2 : FrM ν u := q2
      have q3 : s 3 40 = τ 3 40 + 1 := q3
      refine Ok.ie (by omega) (Ok.it (by omega) ?_)
      rw [E1, b0M_some, E3, b1M_some, e2]
      refine Ok.ck hr1 ?_
      refine (ih n n2 (x + 1) s u (R + 12) (by omega) (by omega) (by omega) hN2 (by omega) (by omega)).mono (fun y hy => ?_)
      obtain ⟨s9, h9, hy⟩ := hy
      refine ⟨s9, h9, Ok.ie (by omega) ?_⟩
      rw [E2, b0M_some, E4, b1M_some]
      refine Ok.ck hr1 (hy.mono (fun z hz => ⟨?_, ?_, ?_⟩))
      · have := hz.1
        have e : R + 12 + 12 * (m : Int) = R + 12 * ((m + 1 : Nat) : Int) := by omega
        rw [e] at this; exact this
      · exact FrC.tr (FrC.tr ⟨fun i i1 i2 i3 => k1 i i2 i3, by rw [k1 2 (by decide) (by omega)]⟩ q1) hz.2.1
      · exact FrM.tr (FrM.tr ⟨fun i i1 i2 i3 => k2 i (by simp; omega), fun s a b c d e => by rw [k2 200 (by decide)], fun k h1 h2 => k3 k (by omega) h2⟩ q2) hz.2.2
theorem day_rel {σ μ : Mm} {G O M : Law} {B R : Int} (h : Now σ μ G O M B R) (hB0 : 0 ≤ B) (hB : B + 400 ≤ 90000000) (hR : R + 1000 < 2147483647) {x : Int} (hx : r32 x) : Ok (F_A_day x σ) (fun y => Ok (F_M_day x μ) (fun z => z.1 = y.1 ∧ Now y.2 z.2 G O M B (R + 1000) ∧ FrC σ y.2 ∧ FrM μ z.2)) := by
  unfold F_A_day F_M_day F_M_in F_A_passDays
  have e40 : σ 3 40 = μ 201 180 := h.snap.1 40 (by omega)
  have hd := h.ok.1.2.2.2.2
  by_cases x1 : x < 1
  · rw [if_pos x1, if_pos x1, b1_some, if_pos rfl]
    exact Ok.ret (Ok.ret ⟨rfl, h.w (by omega) (by omega), FrC.rf, FrM.rf⟩)
  · rw [if_neg x1, if_neg x1]
    by_cases x2 : 60 < x
    · rw [if_pos x2, if_pos x2, b1_some, if_pos rfl]
      exact Ok.ret (Ok.ret ⟨rfl, h.w (by omega) (by omega), FrC.rf, FrM.rf⟩)
    · rw [if_neg x2, if_neg x2, b1_some, if_neg (show ¬ (1 : Int) = 0 by decide), ← e40]
      have hr : r32 (σ 3 40 + x) := ⟨by omega, by omega⟩
      rw [if_pos hr, if_pos hr]
      by_cases x3 : σ 3 40 + x ≤ 999
      · rw [if_pos x3, if_pos x3]
        obtain ⟨m, rfl⟩ := Int.eq_ofNat_of_zero_le (show 0 ≤ x by omega)
        obtain ⟨y, E1, s, hs, hl⟩ := days_loop hB0 hB (x1 := (m : Int)) (by omega) m LF LF 0 σ μ R (by omega) (by unfold LF; omega) (by unfold LF; omega) h (by omega) (by omega)
        obtain ⟨z, E2, hN, q1, q2⟩ := hl
        subst hs
        have E1 : L_A_passDays_2 LF (m : Int) 0 σ = some (.inr s) := E1
        have E2 : L_M_day_32 LF (m : Int) 0 μ = some z := E2
        rw [E1, E2, b0M_some]
        exact Ok.ret (Ok.ret ⟨(hN.snap.1 41 (by omega)).symm, hN.w (by omega) (by omega), q1, q2⟩)
      · rw [if_neg x3, if_neg x3]
        exact Ok.ret (Ok.ret ⟨rfl, h.w (by omega) (by omega), FrC.rf, FrM.rf⟩)
