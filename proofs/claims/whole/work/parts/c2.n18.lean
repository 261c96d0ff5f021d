-- `text`
theorem MCode.sh {f g f2 g2 : Nat → Int} {a O : Nat} : ∀ {cs : List Int} {i : Nat}, MCode f g i cs → i + cs.length < O → (∀ j, j < O → f2 (a + j) = f j ∧ g2 (a + j) = g j) → MCode f2 g2 (a + i) cs
  | [], i, h, hl, k => (k i (by simpa using hl)).1.trans h
  | c :: cs, i, h, hl, k => by
    rw [List.length_cons] at hl
    obtain ⟨k1, k2⟩ := k i (by omega)
    exact ⟨k1.trans h.1, fun q => k2.trans (h.2.1 q), MCode.sh (i := i + 1) h.2.2 (by omega) k⟩
theorem LawM.new {v ν : Mm} {t0 w K Om : Nat} {L : Law} (h : LwY v w K Om L) (hO : Om ≤ 400) (h4 : ν 204 t0 = (K : Int)) (h5 : ∀ k, k < K → ν 205 (24 * t0 + k) = v 216 k ∧ ν 206 (24 * t0 + k) = 400 * (t0 : Int) + v 217 k) (h10 : ∀ j, j < Om → ν 210 (400 * t0 + j) = v 221 j ∧ ν 211 (400 * t0 + j) = v 222 j) : LawM ν t0 w L := by
  match L, h with
  | none, h =>
    intro k hk
    rw [h4] at hk
    rw [(h5 k (by omega)).1]; exact h k (by omega)
  | some cs, ⟨i, ⟨k, k1, k2⟩, a, b, c⟩ =>
    refine ⟨400 * t0 + i, ⟨k, by rw [h4]; omega, by rw [(h5 k k1).1]; exact k2⟩, fun j hj hw => ?_, b.sh c h10, by omega⟩
    rw [h4] at hj
    rw [(h5 j (by omega)).1] at hw
    rw [(h5 j (by omega)).2, a j (by omega) hw]; omega
theorem LawM.keep {μ ν : Mm} {t t0 w : Nat} {L : Law} (h : LawM μ t w L) (ht : t < t0) (h24 : μ 204 t ≤ 24) (m4 : ν 204 t = μ 204 t) (m5 : ∀ x, x < 24 * t0 → ν 205 x = μ 205 x ∧ ν 206 x = μ 206 x ∧ ν 207 x = μ 207 x ∧ ν 208 x = μ 208 x) (m10 : ∀ x, x < 400 * t0 → ν 210 x = μ 210 x ∧ ν 211 x = μ 211 x) : LawM ν t w L := by
  match L, h with
  | none, h =>
    intro k hk
    rw [m4] at hk
    rw [(m5 _ (by omega)).1]; exact h k hk
  | some cs, ⟨i, ⟨k, k1, k2⟩, a, b, c⟩ =>
    refine ⟨i, ⟨k, by rw [m4]; exact k1, by rw [(m5 _ (by omega)).1]; exact k2⟩, fun j hj hw => ?_, b.on (fun x _ hx => m10 x (by omega)), c⟩
    rw [m4] at hj
    rw [(m5 _ (by omega)).1] at hw
    rw [(m5 _ (by omega)).2.1]; exact a j hj hw
theorem TextR.keep {σ τ μ ν : Mm} {t t0 : Nat} (h : TextR σ μ t) (ht : t < t0) (ht0 : t0 < 4) (hc : ∀ i, 94 ≤ i → i < 114 → i ≠ 94 + t0 → i ≠ 98 + t0 → i ≠ 102 + t0 → i ≠ 106 + t0 → i ≠ 110 + t0 → τ i = σ i) (m4 : ν 204 t = μ 204 t) (m5 : ∀ x, x < 24 * t0 → ν 205 x = μ 205 x ∧ ν 206 x = μ 206 x ∧ ν 207 x = μ 207 x ∧ ν 208 x = μ 208 x) (m9 : ∀ x, x < 96 * t0 → ν 209 x = μ 209 x) (m10 : ∀ x, x < 400 * t0 → ν 210 x = μ 210 x ∧ ν 211 x = μ 211 x) : TextR τ ν t := by
  obtain ⟨⟨n, n1, n2, n3, n4⟩, G, O, M, l1, ⟨a1, a2, a3⟩, b1, b2, b3⟩ := h
  have e : ∀ j, (j = 94 + t ∨ j = 98 + t ∨ j = 102 + t ∨ j = 106 + t ∨ j = 110 + t) → τ j = σ j := fun j hj => hc j (by omega) (by omega) (by omega) (by omega) (by omega) (by omega) (by omega)
  have h24 : μ 204 t ≤ 24 := by rw [n3]; omega
  refine ⟨⟨n, n1, by rw [e _ (by omega)]; exact n2, by rw [m4]; exact n3, fun k hk => ?_⟩, G, O, M, l1, ⟨a1.e (e _ (by omega)) (e _ (by omega)) (e _ (by omega)), a2.e (e _ (by omega)) (e _ (by omega)) (e _ (by omega)), a3.e (e _ (by omega)) (e _ (by omega)) (e _ (by omega))⟩, b1.keep ht h24 m4 m5 m10, b2.keep ht h24 m4 m5 m10, b3.keep ht h24 m4 m5 m10⟩
  obtain ⟨q1, q2, q3, q4⟩ := m5 (24 * t + k) (by omega)
  rw [q1, q3, q4]
  exact (n4 k hk).cong (fun j hj => by show τ (110 + t) (6 * k + j) = σ (110 + t) (6 * k + j); rw [e _ (by omega)]) (fun i hi => by show ν 209 (96 * t + 4 * k + i) = μ 209 (96 * t + 4 * k + i); exact m9 _ (by omega))
theorem Ln_t : ∀ t : Nat, t < 4 → Ln (94 + t + 8) = 3 ∧ Ln (94 + t + 12) = 3 := by decide +kernel
/-- where the reference's reader begins -/
def mu0 (μ : Mm) : Mm := st2 (st2 (st2 (st2 (st2 (st2 (st2 (st2 (st2 (st2 (st2 μ 200 14 (μ 200 3)) 200 3 0) 200 15 0) 200 19 0) 200 20 (-1)) 200 21 0) 200 22 0) 200 25 0) 200 28 4) 200 29 0) 200 36 0
theorem mu0_k (μ : Mm) (k : Nat) : mu0 μ 200 k = if k = 36 then 0 else if k = 29 then 0 else if k = 28 then 4 else if k = 25 then 0 else if k = 22 then 0 else if k = 21 then 0 else if k = 20 then -1 else if k = 19 then 0 else if k = 15 then 0 else if k = 3 then 0 else if k = 14 then μ 200 3 else μ 200 k := by
  unfold mu0
  rw [st2_sk, st2_sk, st2_sk, st2_sk, st2_sk, st2_sk, st2_sk, st2_sk, st2_sk, st2_sk, st2_sk]
theorem mu0_i {μ : Mm} {i : Nat} (h : i ≠ 200) : mu0 μ i = μ i := by
  unfold mu0
  rw [st2_ne h, st2_ne h, st2_ne h, st2_ne h, st2_ne h, st2_ne h, st2_ne h, st2_ne h, st2_ne h, st2_ne h, st2_ne h]
theorem read_ok {σ μ : Mm} {t0 : Nat} (ht : t0 < 4) (hT : TapeR σ μ) : ∃ (n : Nat) (u23 t v : Mm) (m : Nat), F_M_next (mu0 μ) = some u23 ∧ MT u23 v m ∧ m ≤ 20000 ∧ F_R_read (94 + t0) σ = some (if t 90 3 = 0 then 1 else 0, st2 t 90 1 0) ∧ (∀ i, i ≠ 90 → i ≠ 92 → i ≠ 94 + t0 → i ≠ 98 + t0 → i ≠ 102 + t0 → i ≠ 106 + t0 → i ≠ 110 + t0 → t i = σ i) ∧ t 90 2 = 1 ∧ (∀ i, i ≠ 200 → (i < 212 ∨ 222 < i) → v i = μ i) ∧ (∀ k, (k < 3 ∨ k = 4 ∨ k = 5 ∨ 36 < k) → v 200 k = μ 200 k) ∧ v 200 3 = 0 ∧ (ErrR t v ∨ ∃ K S Om e c Ls, PS t v (94 + t0) n K S Om e c Ls ∧ v 200 17 = 0) := by
  obtain ⟨n, n1, n2, n3, n4⟩ := hT
  have q := isO94 t0 ht
  obtain ⟨L1, L2⟩ := Ln_t t0 ht
  -- the program clears
  have a15 : st2 σ 90 15 ((94 + t0 : Nat) : Int) 90 15 = ((94 + t0 : Nat) : Int) := st2_ss _ _ _ _
  obtain ⟨s4, F1, f1, f2⟩ := fill_ok (r0 := 94 + t0 + 8) (v := 0) (s := st2 (st2 (st2 σ 90 15 ((94 + t0 : Nat) : Int)) (94 + t0) 4 0) (94 + t0) 5 0) (by omega)
  obtain ⟨s5, F2, f3, f4⟩ := fill_ok (r0 := 94 + t0 + 12) (v := 0) (s := s4) (by omega)
  have s5i : ∀ i, i ≠ 94 + t0 + 8 → i ≠ 94 + t0 + 12 → s5 i = st2 (st2 (st2 σ 90 15 ((94 + t0 : Nat) : Int)) (94 + t0) 4 0) (94 + t0) 5 0 i := fun i h1 h2 => by rw [f4 i (by simpa using h2), f2 i (by simpa using h1)]
  have s590 : ∀ k, s5 90 k = if k = 15 then ((94 + t0 : Nat) : Int) else σ 90 k := fun k => by rw [s5i 90 (by omega) (by omega), st2_ne (by omega), st2_ne (by omega), st2_sk]
  have z : ∀ k, st2 (st2 (st2 (st2 s5 90 2 1) 90 3 0) 90 4 (-1)) 90 5 0 90 k = if k = 5 then 0 else if k = 4 then -1 else if k = 3 then 0 else if k = 2 then 1 else s5 90 k := fun k => by rw [st2_sk, st2_sk, st2_sk, st2_sk]
  have zi : ∀ i, i ≠ 90 → st2 (st2 (st2 (st2 s5 90 2 1) 90 3 0) 90 4 (-1)) 90 5 0 i = s5 i := fun i hi => by rw [st2_ne hi, st2_ne hi, st2_ne hi, st2_ne hi]
  have eC : F_R_read (94 + t0) σ = b0M (F_R_step (st2 (st2 (st2 (st2 s5 90 2 1) 90 3 0) 90 4 (-1)) 90 5 0)) fun s11 => b0M (L_R_read_38 LF 0 s11) fun s14 => bindM (st2 s14 90 1 0) fun s16 => if s16 90 3 = 0 then some (1, s16) else some (0, s16) := by
    unfold F_R_read F_T_clear
    rw [bindM_eq, a15, if_pos (show 0 ≤ ((94 + t0 : Nat) : Int) ∧ IsO 0 9 (((94 + t0 : Nat) : Int)).toNat from ⟨by omega, q⟩), Int.toNat_natCast, bindM_eq, bindM_eq, F1, b0M_some, F2, b0M_some, b0M_some, bindM_eq, bindM_eq, bindM_eq, bindM_eq]
  generalize hs10 : st2 (st2 (st2 (st2 s5 90 2 1) 90 3 0) 90 4 (-1)) 90 5 0 = s10 at *
  have s91 : s10 91 = σ 91 := by rw [zi 91 (by decide), s5i 91 (by omega) (by omega), st2_ne (by omega), st2_ne (by omega), st2_ne (by decide)]
  have TP : TpR s10 (mu0 μ) n := by
    refine ⟨n1, ?_, ?_, fun i hi => ?_⟩
    · rw [z 1, if_neg (by decide), if_neg (by decide), if_neg (by decide), if_neg (by decide), s590, if_neg (by decide)]; exact n2
    · rw [mu0_k]; exact n3
    · rw [s91, mu0_i (by decide)]; exact n4 i hi
  obtain ⟨e, p, s11, u23, E1, E2, T2, g1, g2, e1, e2, e3, e4, e5, e6, e7, e8, e9⟩ := step_ok TP (Nat.zero_le n) (by rw [z 5, if_pos rfl]; rfl) (by rw [mu0_k]; rfl)
  have tok : TokR s11 u23 n e := ⟨T2, ⟨e1, e2, e3⟩, ⟨⟨p, e5, e6⟩, by rw [g1.1 4 (by omega), g2.1 20 (by omega), z 4, mu0_k]; rfl⟩, e8⟩
  have w0 : ∀ k, (k < 15 ∨ 18 < k) → u23 200 k = mu0 μ 200 k := fun k hk => g2.1 k hk
  have sT : ∀ i, i ≠ 90 → s11 i = s5 i := fun i hi => by rw [g1.2 i (by simpa using hi)]; exact zi i hi
  have sTT : s11 (94 + t0) 4 = 0 ∧ s11 (94 + t0) 5 = 0 := by
    rw [sT _ (by omega), s5i _ (by omega) (by omega)]
    exact ⟨by rw [st2_sk, if_neg (by decide), st2_ss], by rw [st2_ss]⟩
  have P0 : PS s11 u23 (94 + t0) n 0 0 0 e 0 (fun _ => none) := by
    refine ⟨tok, ⟨?_, ?_⟩, ⟨?_, sTT.1, sTT.2, by decide⟩, ⟨?_, ?_, by decide⟩, ⟨?_, ?_, ?_, ?_⟩, ⟨?_, by decide⟩, fun k hk => absurd hk (by omega), fun w hw => ⟨(fun _ q => nomatch q), ?_, (fun k hk => absurd hk (by omega))⟩⟩
    · rw [g1.1 3 (by omega), z 3]; rfl
    · rw [w0 19 (by omega), mu0_k]; rfl
    · rw [g1.1 15 (by omega), z 15, if_neg (by decide), if_neg (by decide), if_neg (by decide), if_neg (by decide), s590, if_pos rfl]
    · rw [w0 29 (by omega), mu0_k]; rfl
    · rw [w0 36 (by omega), mu0_k]; rfl
    · rw [w0 22 (by omega), mu0_k]; rfl
    · rw [w0 25 (by omega), mu0_k]; rfl
    · rw [w0 21 (by omega), mu0_k]; rfl
    · rw [w0 28 (by omega), mu0_k]; rfl
    · rcases e9 with r | r
      · exact Or.inl (by omega)
      · exact Or.inr ⟨r, Nat.zero_le _⟩
    · show s11 (94 + t0 + 12) w ≤ s11 (94 + t0 + 8) w
      rw [sT _ (by omega), sT _ (by omega), f3 w (by omega), f4 (94 + t0 + 8) (by simp), f1 w (by omega)]
      exact Int.le_refl _
  obtain ⟨t, v, m, E3, mt, hm, tc, tm, fin⟩ := read_loop q 24 LF 0 0 0 e 0 (fun _ => none) s11 u23 rfl (by unfold LF; omega) P0
  have E3 : L_R_read_38 LF 0 s11 = some t := E3
  refine ⟨n, u23, t, v, m, E2, mt, by omega, ?_, fun i h1 h2 h3 h4 h5 h6 h7 => ?_, ?_, fun i h1 h2 => ?_, fun k hk => ?_, ?_, ?_⟩
  · rw [eC, E1, b0M_some, E3, b0M_some, bindM_eq, show st2 t 90 1 0 90 3 = t 90 3 by rw [st2_sk, if_neg (by decide)]]
    by_cases c : t 90 3 = 0
    · rw [if_pos c, if_pos c]
    · rw [if_neg c, if_neg c]
  · rw [tc.1 i h1 h2 h3 (by omega) (by omega) (by omega) (by omega), sT i h1, s5i i (by omega) (by omega), st2_ne h3, st2_ne h3, st2_ne h1]
  · rw [tc.2 2 (by omega), g1.1 2 (by omega), z 2]; rfl
  · rw [tm.1 i (by omega), g2.2 i (by simpa using h1)]; exact mu0_i h1
  · rw [tm.2 k (by omega), w0 k (by omega), mu0_k, if_neg (by omega), if_neg (by omega), if_neg (by omega), if_neg (by omega), if_neg (by omega), if_neg (by omega), if_neg (by omega), if_neg (by omega), if_neg (by omega), if_neg (by omega), if_neg (by omega)]
  · rw [tm.2 3 (by omega), w0 3 (by omega), mu0_k]; rfl
  · rcases fin with fin | ⟨K2, S2, Om2, e2', c2, Ls2, h1, h2⟩
    · exact Or.inl fin
    · exact Or.inr ⟨K2, S2, Om2, e2', c2, Ls2, h1, h2⟩
