-- a day on both sides
def RowsR (σ μ : Mm) (c : Nat) : Prop := ∀ r, r < c → ∃ p mn nums, RowC σ r p mn nums ∧ RowM (μ 201) r p mn nums
theorem RowC.fr {σ τ : Mm} {r p : Nat} {mn : Int} {nums : Nat → Int} (h : RowC σ r p mn nums) (hf : ∀ j, 10 ≤ j → j < 58 → τ j = σ j) (hr : r < 12) : RowC τ r p mn nums := by
  obtain ⟨a1, a2, a3, a4, a5, a6, a7, a8, a9, b1, b2, b3, b4, b5⟩ := h
  refine ⟨a1, a2, a3, a4, ?_, ?_, ?_, ?_, a9, ?_, b2, b3, ?_, b5⟩
  · rw [hf (10 + r) (by omega) (by omega)]; exact a5
  · rw [hf (10 + r) (by omega) (by omega)]; exact a6
  · rw [hf (10 + r) (by omega) (by omega)]; exact a7
  · rw [hf (22 + r) (by omega) (by omega)]; exact a8
  · rw [hf (10 + r) (by omega) (by omega)]; exact b1
  · rw [hf (10 + r + 24) (by omega) (by omega), hf (10 + r + 36) (by omega) (by omega)]; exact b4
theorem RowM.fr {a c : Nat → Int} {r p : Nat} {mn : Int} {nums : Nat → Int} (h : RowM a r p mn nums) (hf : ∀ k, k < 140 → c k = a k) (hr : r < 12) : RowM c r p mn nums := by
  obtain ⟨a1, a2, a3, a4, a5, a6, a7, a8⟩ := h
  refine ⟨a1, a2, a3, a4, ?_, ?_, fun k hk => ?_, a8⟩
  · rw [hf _ (by omega)]; exact a5
  · rw [hf _ (by omega)]; exact a6
  · rw [hf _ (by omega)]; exact a7 k hk
theorem RowsR.fr {σ τ μ ν : Mm} {c : Nat} (h : RowsR σ μ c) (hc : c ≤ 12) (hf : ∀ j, 10 ≤ j → j < 58 → τ j = σ j) (hg : ∀ k, k < 140 → ν 201 k = μ 201 k) : RowsR τ ν c := fun r hr => by
  obtain ⟨p, mn, nums, h1, h2⟩ := h r hr
  exact ⟨p, mn, nums, h1.fr hf (by omega), h2.fr hg (by omega)⟩
theorem ior_bit {m : Nat} {x : Nat} (hm : m < 2 ^ x) (hx : x < 12) : ior (m : Int) (ishl 1 (x : Int)) = ((m + 2 ^ x : Nat) : Int) ∧ m + 2 ^ x < 2 ^ (x + 1) := by
  have p1 : (2 : Nat) ^ x ≤ 2 ^ 12 := Nat.pow_le_pow_right (by omega) (by omega)
  have p2 : (2 : Nat) ^ (x + 1) = 2 ^ x * 2 := Nat.pow_succ ..
  have e1 : ishl 1 (x : Int) = ((2 ^ x : Nat) : Int) := by
    have := ishl_nat (a := 1) (k := x) (by omega) (by omega)
    rw [Nat.one_mul] at this
    exact this
  have e2 : m ||| 2 ^ x = m + 2 ^ x := by
    have := Nat.two_pow_add_eq_or_of_lt hm 1
    rw [Nat.mul_one] at this
    rw [Nat.or_comm, ← this]; omega
  refine ⟨?_, by omega⟩
  rw [e1, ior_nat (by rw [e2]; omega), e2]
theorem ior_zero {m : Nat} (hm : m < 2147483648) : ior (m : Int) 0 = (m : Int) := by
  have := ior_nat (a := m) (b := 0) (by simpa using hm)
  simpa using this
theorem b1M_some {α : Type} {a : Int} {s : Mm} {f : Int → Mm → Option α} : b1M (some (a, s)) f = f a s := rfl
theorem b0M_some {α : Type} {s : Mm} {f : Mm → Option α} : b0M (some s) f = f s := rfl
theorem b1_some {α : Type} {a : Int} {f : Int → Option α} : b1 (some a) f = f a := rfl
theorem bindM_eq {α β : Type} {v : β} {f : β → Option α} : bindM v f = f v := rfl
theorem day_loop {G O M : Law} {c : Nat} (hc : c ≤ 12) : ∀ (m n n2 x mask : Nat) (B : Int) (σ μ : Mm), x + m = c → m < n → m < n2 → mask < 2 ^ x → Mid σ μ G O M B → B + 32 * m ≤ 90000000 → σ 1 4 = (c : Int) → μ 201 0 = (c : Int) → RowsR σ μ c → (-2147483648 ≤ σ 2 5 ∧ σ 2 5 + m < 2147483647) →
    Ok (L_H_passDay_4 n (mask : Int) (x : Int) σ) (fun y => Ok (L_M_dayGoes_4 n2 1 (mask : Int) (x : Int) μ) (fun z => z.1 = y.1 ∧ (∃ k : Nat, y.1 = (k : Int) ∧ k < 2 ^ c) ∧ Mid y.2 z.2 G O M (B + 32 * m) ∧ Fr [2, 3, 4, 5, 6, 7] σ y.2 ∧ y.2 2 5 = σ 2 5 + m ∧ y.2 2 6 = σ 2 6 ∧ Fr MF μ z.2 ∧ (∀ k, (k < 183 ∨ 304 ≤ k) → z.2 201 k = μ 201 k) ∧ (∀ s, s ≠ 46 → s ≠ 48 → s ≠ 49 → s ≠ 53 → z.2 200 s = μ 200 s) ∧ (∀ k, k < 10 → y.2 3 k = σ 3 k) ∧ (∀ k, 30 ≤ k → k < 43 → k ≠ 41 → y.2 3 k = σ 3 k))) := by
  intro m
  induction m with
  | zero =>
    intro n n2 x mask B σ μ hx hn hn2 hmask hMid hB h14 h20 hR hs5
    match n, n2, hn, hn2 with
    | n + 1, n2 + 1, _, _ =>
      rw [L_H_passDay_4, L_M_dayGoes_4]
      have : x = c := by omega
      subst this
      refine Ok.it (by omega) (Ok.ret (Ok.it (by omega) (Ok.ret ⟨rfl, ⟨mask, rfl, hmask⟩, ?_, Fr.rf, by simp, rfl, Fr.rf, fun _ _ => rfl, fun _ _ _ _ _ => rfl, fun _ _ => rfl, fun _ _ _ _ => rfl⟩)))
      simpa using hMid
  | succ m ih =>
    intro n n2 x mask B σ μ hx hn hn2 hmask hMid hB h14 h20 hR hs5
    match n, n2, hn, hn2 with
    | n + 1, n2 + 1, hn, hn2 =>
      rw [L_H_passDay_4, L_M_dayGoes_4]
      have lx : x < 12 := by omega
      have e2 : (x : Int) + 1 = ((x + 1 : Nat) : Int) := by omega
      obtain ⟨p, mn, nums, hC, hM⟩ := hR x (by omega)
      have hb := ior_bit hmask lx
      have p1 : (2 : Nat) ^ x ≤ 2 ^ 12 := Nat.pow_le_pow_right (by omega) (by omega)
      have p2 : (2 : Nat) ^ (x + 1) = 2 ^ x * 2 := Nat.pow_succ ..
      refine Ok.ie (by omega) ?_
      have hmr := mid_row hMid lx hC hM (by omega) ⟨by omega, by omega⟩
      obtain ⟨⟨v1, s1⟩, E1, hmr⟩ := hmr
      rw [E1, b1M_some]
      obtain ⟨⟨v2, u1⟩, E2, hv, ⟨hL, hn4⟩, hmr⟩ := hmr
      obtain ⟨u2, E3, hMid2, f1, r5, r6, f2, g1, g2, g3, g4⟩ := hmr
      have hv : v2 = v1 := hv
      subst hv
      have f1 : Fr [2, 3, 4, 5, 6, 7] σ s1 := f1
      have hMid2 : Mid s1 u2 G O M (B + 32) := hMid2
      have hL : Laid u1 p mn := hL
      have hn4 : ∀ j, j < 4 → u1 229 j = nums j := hn4
      have hp := hC.2.1
      have ht : F_M_trueNow u1 = some (trs mn nums p) := by
        rw [trueNow_ok ⟨hL.2.2.1, hL.2.2.2.1⟩ hL.1 hL.2.2.2.2.2.2 hL.2.2.2.2.1 hL.2.2.2.2.2.1]
        rw [trs_cong (f := u1 229) (g := nums) (fun i hi => hn4 i (by omega))]
      have h6 : s1 (10 + x) 6 = trs mn nums p := by
        rw [f1 (10 + x) (by simp; omega)]; exact hC.2.2.2.2.2.2.1
      have go : ∀ mask2 : Nat, mask2 < 2 ^ (x + 1) → Ok (L_H_passDay_4 n (mask2 : Int) ((x + 1 : Nat) : Int) s1) (fun y => Ok (L_M_dayGoes_4 n2 1 (mask2 : Int) ((x + 1 : Nat) : Int) u2) (fun z => z.1 = y.1 ∧ (∃ k : Nat, y.1 = (k : Int) ∧ k < 2 ^ c) ∧ Mid y.2 z.2 G O M (B + 32 * ((m + 1 : Nat) : Int)) ∧ Fr [2, 3, 4, 5, 6, 7] σ y.2 ∧ y.2 2 5 = σ 2 5 + ((m + 1 : Nat) : Int) ∧ y.2 2 6 = σ 2 6 ∧ Fr MF μ z.2 ∧ (∀ k, (k < 183 ∨ 304 ≤ k) → z.2 201 k = μ 201 k) ∧ (∀ s, s ≠ 46 → s ≠ 48 → s ≠ 49 → s ≠ 53 → z.2 200 s = μ 200 s) ∧ (∀ k, k < 10 → y.2 3 k = σ 3 k) ∧ (∀ k, 30 ≤ k → k < 43 → k ≠ 41 → y.2 3 k = σ 3 k))) := by
        intro mask2 hm2
        have r5 : s1 2 5 = σ 2 5 + 1 := r5
        refine (ih n n2 (x + 1) mask2 (B + 32) s1 u2 (by omega) (by omega) (by omega) hm2 hMid2 (by omega) (by rw [f1 1 (by decide)]; exact h14) (by rw [g1 0 (by omega)]; exact h20) (hR.fr hc (fun j j1 _ => f1 j (by simp; omega)) (fun k hk => g1 k (by omega))) (by omega)).mono (fun y hy => hy.mono (fun z hz => ?_))
        obtain ⟨z1, z2, z3, z4, z5, z6, z7, z8, z9, z10, z11⟩ := hz
        have eB : B + 32 + 32 * (m : Int) = B + 32 * ((m + 1 : Nat) : Int) := by omega
        rw [eB] at z3
        exact ⟨z1, z2, z3, f1.tr z4, by rw [z5, r5]; omega, z6.trans r6, f2.tr z7, fun k hk => (z8 k hk).trans (g1 k hk), fun s a b c d => (z9 s a b c d).trans (g2 s a b c d), fun k hk => (z10 k hk).trans (g3 k hk), fun k a b c => (z11 k a b c).trans (g4 k a b c)⟩
      refine Ok.ck (by omega) (Ok.bM ?_)
      simp only [Int.toNat_natCast]
      rw [h6]
      by_cases hvt : v2 = trs mn nums p
      · refine Ok.it hvt (Ok.ck ⟨by omega, by omega⟩ ?_)
        rw [e2]
        refine (go mask (by omega)).mono (fun y hy => Ok.ie (by omega) ?_)
        have hr1 : r32 ((x + 1 : Nat) : Int) := ⟨by omega, by omega⟩
        rw [E2, b1M_some, ht, b1_some, bindM_eq, if_pos hvt]
        dsimp only
        rw [bindM_eq, if_neg (show ¬ (1 : Int) = 0 by decide), E3, b0M_some]
        dsimp only
        rw [ior_zero (by omega)]
        exact Ok.ck hr1 hy
      · refine Ok.ie hvt (Ok.bM ?_)
        rw [hb.1]
        refine Ok.ck ⟨by omega, by omega⟩ ?_
        rw [e2]
        refine (go (mask + 2 ^ x) hb.2).mono (fun y hy => Ok.ie (by omega) ?_)
        have hr1 : r32 ((x + 1 : Nat) : Int) := ⟨by omega, by omega⟩
        rw [E2, b1M_some, ht, b1_some, bindM_eq, if_neg hvt]
        dsimp only
        rw [bindM_eq, if_neg (show ¬ (1 : Int) = 0 by decide), E3, b0M_some]
        dsimp only
        rw [hb.1]
        exact Ok.ck hr1 hy
