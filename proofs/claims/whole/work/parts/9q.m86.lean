-- tokens: the two readers move alike
def TpR (s u : Mm) (n : Nat) : Prop := n ≤ 300 ∧ s 90 1 = (n : Int) ∧ u 200 14 = (n : Int) ∧ ∀ i, i < n → 0 ≤ s 91 i ∧ s 91 i ≤ 255 ∧ (u 203 i = s 91 i ∧ s 91 i < 128 ∨ u 203 i = s 91 i - 256 ∧ 128 ≤ s 91 i)
/-- only the place and the number change -/
def MvC (s t : Mm) (p : Nat) : Prop := t 90 5 = (p : Int) ∧ (∀ k, k ≠ 5 → k ≠ 8 → t 90 k = s 90 k) ∧ Fr [90] s t
def MvM (u v : Mm) (p : Nat) : Prop := v 200 15 = (p : Int) ∧ (∀ k, k ≠ 15 → k ≠ 18 → v 200 k = u 200 k) ∧ Fr [200] u v
theorem MvC.tr {s t w : Mm} {p q : Nat} (h : MvC s t p) (k : MvC t w q) : MvC s w q := ⟨k.1, fun i a b => (k.2.1 i a b).trans (h.2.1 i a b), h.2.2.tr k.2.2⟩
theorem MvM.tr {s t w : Mm} {p q : Nat} (h : MvM s t p) (k : MvM t w q) : MvM s w q := ⟨k.1, fun i a b => (k.2.1 i a b).trans (h.2.1 i a b), h.2.2.tr k.2.2⟩
theorem TpR.mv {s t u v : Mm} {n p q : Nat} (h : TpR s u n) (hc : MvC s t p) (hm : MvM u v q) : TpR t v n := by
  obtain ⟨h1, h2, h3, h4⟩ := h
  refine ⟨h1, by rw [hc.2.1 1 (by decide) (by decide)]; exact h2, by rw [hm.2.1 14 (by decide) (by decide)]; exact h3, fun i hi => ?_⟩
  rw [hc.2.2 91 (by decide), hm.2.2 203 (by decide)]; exact h4 i hi
theorem mvC_one {s : Mm} {p : Nat} (h : s 90 5 = (p : Int)) : MvC s (st2 s 90 5 (s 90 5 + 1)) (p + 1) := ⟨by rw [st2_ss, h]; rfl, fun k a _ => by rw [st2_sk, if_neg a], Fr.rf.st (by decide)⟩
theorem mvM_one {u : Mm} {p : Nat} (h : u 200 15 = (p : Int)) : MvM u (st2 u 200 15 (u 200 15 + 1)) (p + 1) := ⟨by rw [st2_ss, h]; rfl, fun k a _ => by rw [st2_sk, if_neg a], Fr.rf.st (by decide)⟩
/-- spaces -/
theorem skip_ok {n : Nat} : ∀ (d N N' p : Nat) (s u : Mm), p + d = n → d < N → d < N' → TpR s u n → s 90 5 = (p : Int) → u 200 15 = (p : Int) → ∃ (e : Nat) (t v : Mm), L_R_step_0 N s = some t ∧ L_M_next_0 N' u = some v ∧ MvC s t e ∧ MvM u v e ∧ e ≤ n ∧ p ≤ e ∧ (e < n → ¬ s 91 e = 32 ∧ ¬ s 91 e = 10) := by
  intro d
  induction d with
  | zero =>
    intro N N' p s u hp hN hN' hT hs hu
    match N, N', hN, hN' with
    | N + 1, N' + 1, _, _ =>
      obtain ⟨h1, h2, h3, h4⟩ := hT
      rw [L_R_step_0, L_M_next_0, h2, h3, hs, hu, if_pos (by omega), if_pos (by omega)]
      exact ⟨p, s, u, rfl, rfl, ⟨hs, fun _ _ _ => rfl, Fr.rf⟩, ⟨hu, fun _ _ _ => rfl, Fr.rf⟩, by omega, Nat.le_refl _, fun q => by omega⟩
  | succ d ih =>
    intro N N' p s u hp hN hN' hT hs hu
    match N, N', hN, hN' with
    | N + 1, N' + 1, hN, hN' =>
      obtain ⟨h1, h2, h3, h4⟩ := id hT
      have hc := h4 p (by omega)
      have c300 : 0 ≤ (p : Int) ∧ (p : Int) < 300 := by omega
      have next : r32 ((p : Int) + 1) := ⟨by omega, by omega⟩
      have m1 := mvC_one hs
      have m2 := mvM_one hu
      rw [hs] at m1
      rw [hu] at m2
      have ep : ((p : Int) + 1) = ((p + 1 : Nat) : Int) := by omega
      rw [L_R_step_0, L_M_next_0, h2, h3, hs, hu, if_neg (show ¬ (n : Int) ≤ (p : Int) by omega), if_pos c300, if_neg (show ¬ (n : Int) ≤ (p : Int) by omega), if_pos c300, if_pos next, bindM_eq, bindM_eq, if_pos next, bindM_eq, bindM_eq, Int.toNat_natCast]
      have go : ∃ (e : Nat) (t v : Mm), L_R_step_0 N (st2 s 90 5 ((p : Int) + 1)) = some t ∧ L_M_next_0 N' (st2 u 200 15 ((p : Int) + 1)) = some v ∧ MvC s t e ∧ MvM u v e ∧ e ≤ n ∧ p ≤ e ∧ (e < n → ¬ s 91 e = 32 ∧ ¬ s 91 e = 10) := by
        obtain ⟨e, t, v, E1, E2, k1, k2, k3, k4, k5⟩ := ih N N' (p + 1) (st2 s 90 5 ((p : Int) + 1)) (st2 u 200 15 ((p : Int) + 1)) (by omega) (by omega) (by omega) (hT.mv m1 m2) m1.1 m2.1
        exact ⟨e, t, v, E1, E2, m1.tr k1, m2.tr k2, k3, by omega, fun q => by have := k5 q; rw [m1.2.2 91 (by decide)] at this; exact this⟩
      by_cases a : s 91 p = 32
      · rw [if_pos a, if_pos (show u 203 p = 32 by omega)]
        exact go
      · rw [if_neg a, if_neg (show ¬ u 203 p = 32 by omega)]
        by_cases b : s 91 p = 10
        · rw [if_pos c300, if_pos b, if_pos c300, if_pos (show u 203 p = 10 by omega)]
          exact go
        · rw [if_pos c300, if_neg b, if_pos c300, if_neg (show ¬ u 203 p = 10 by omega)]
          exact ⟨p, s, u, rfl, rfl, ⟨hs, fun _ _ _ => rfl, Fr.rf⟩, ⟨hu, fun _ _ _ => rfl, Fr.rf⟩, by omega, Nat.le_refl _, fun _ => ⟨a, b⟩⟩
theorem dig_C (c : Int) : F_R_isDigit c = some (if 48 ≤ c ∧ c ≤ 57 then 1 else 0) := by
  unfold F_R_isDigit
  by_cases h1 : c < 48
  · rw [if_pos h1, if_neg (by omega)]
  · rw [if_neg h1]
    by_cases h2 : 57 < c
    · rw [if_pos h2, if_neg (by omega)]
    · rw [if_neg h2, if_pos (by omega)]
theorem let_C (c : Int) : ∃ v, F_R_isLetter c = some v ∧ (ltr c → v = 1) ∧ (¬ ltr c → v = 0) := by
  unfold F_R_isLetter ltr
  rw [bindM_eq]
  by_cases h1 : c < 97
  · rw [if_pos h1]
    by_cases h2 : c < 65
    · rw [if_pos h2]; exact ⟨0, rfl, fun q => by omega, fun _ => rfl⟩
    · rw [if_neg h2]
      by_cases h3 : 90 < c
      · rw [if_pos h3]; exact ⟨0, rfl, fun q => by omega, fun _ => rfl⟩
      · rw [if_neg h3]; exact ⟨1, rfl, fun _ => rfl, fun q => by omega⟩
  · rw [if_neg h1]
    by_cases h2 : c ≤ 122
    · rw [if_pos h2]; exact ⟨1, rfl, fun _ => rfl, fun q => by omega⟩
    · rw [if_neg h2, if_neg (by omega), if_pos (by omega)]; exact ⟨0, rfl, fun q => by omega, fun _ => rfl⟩
theorem let_M (c : Int) : ∃ v, F_M_isLetter c = some v ∧ (ltr c → v = 1) ∧ (¬ ltr c → v = 0) := by
  unfold F_M_isLetter ltr
  rw [in_ok, b1_some]
  by_cases h1 : 97 ≤ c ∧ c ≤ 122
  · rw [if_pos h1, if_neg ne10]; exact ⟨1, rfl, fun _ => rfl, fun q => by omega⟩
  · rw [if_neg h1, if_pos rfl, in_ok, b1_some]
    by_cases h2 : 65 ≤ c ∧ c ≤ 90
    · rw [if_pos h2, if_neg ne10]; exact ⟨1, rfl, fun _ => rfl, fun q => by omega⟩
    · rw [if_neg h2, if_pos rfl]; exact ⟨0, rfl, fun q => by omega, fun _ => rfl⟩
/-- what a number is read as on both sides -/
def NumR (a b : Int) : Prop := 0 ≤ a ∧ 0 ≤ b ∧ b ≤ 1999999 ∧ ((a = b ∧ b ≤ 9999) ∨ (a = 10000 ∧ 10000 ≤ b))
theorem digits_ok {n : Nat} : ∀ (d N N' p : Nat) (s u : Mm), p + d = n → d < N → d < N' → TpR s u n → s 90 5 = (p : Int) → u 200 15 = (p : Int) → NumR (s 90 8) (u 200 18) → ∃ (e : Nat) (t v : Mm), L_R_step_99 N s = some t ∧ L_M_next_232 N' u = some v ∧ MvC s t e ∧ MvM u v e ∧ e ≤ n ∧ p ≤ e ∧ NumR (t 90 8) (v 200 18) ∧ (p < n → 48 ≤ s 91 p ∧ s 91 p ≤ 57 → p < e) := by
  intro d
  induction d with
  | zero =>
    intro N N' p s u hp hN hN' hT hs hu hR
    match N, N', hN, hN' with
    | N + 1, N' + 1, _, _ =>
      obtain ⟨h1, h2, h3, h4⟩ := hT
      rw [L_R_step_99, L_M_next_232, h2, h3, hs, hu, if_pos (by omega), if_pos (by omega)]
      exact ⟨p, s, u, rfl, rfl, ⟨hs, fun _ _ _ => rfl, Fr.rf⟩, ⟨hu, fun _ _ _ => rfl, Fr.rf⟩, by omega, Nat.le_refl _, hR, fun q => by omega⟩
  | succ d ih =>
    intro N N' p s u hp hN hN' hT hs hu hR
    match N, N', hN, hN' with
    | N + 1, N' + 1, hN, hN' =>
      obtain ⟨h1, h2, h3, h4⟩ := id hT
      obtain ⟨hc1, hc2, hc3⟩ := h4 p (by omega)
      obtain ⟨r1, r2, r3, r4⟩ := hR
      have c300 : 0 ≤ (p : Int) ∧ (p : Int) < 300 := by omega
      rw [L_R_step_99, L_M_next_232, h2, h3, hs, hu, if_neg (show ¬ (n : Int) ≤ (p : Int) by omega), if_pos c300, if_neg (show ¬ (n : Int) ≤ (p : Int) by omega), if_pos c300, Int.toNat_natCast, dig_C, in_ok, b1_some, b1_some]
      by_cases a : 48 ≤ s 91 p ∧ s 91 p ≤ 57
      · have eu : u 203 p = s 91 p := by omega
        rw [if_pos a, if_neg ne10, eu, if_pos a, if_neg ne10, if_pos c300, if_pos (show r32 ((s 90 8) * 10 + s 91 p - 48) from ⟨by omega, by omega⟩), bindM_eq, bindM_eq, bindM_eq]
        have go : ∀ y : Int, NumR (min 10000 ((s 90 8) * 10 + s 91 p - 48)) y → ∃ (e : Nat) (t v : Mm), (if r32 ((st2 s 90 8 (min 10000 ((s 90 8) * 10 + s 91 p - 48)) 90 5) + 1) then bindM (st2 (st2 s 90 8 (min 10000 ((s 90 8) * 10 + s 91 p - 48))) 90 5 ((st2 s 90 8 (min 10000 ((s 90 8) * 10 + s 91 p - 48)) 90 5) + 1)) fun s42 => L_R_step_99 N s42 else none) = some t ∧ (bindM (st2 u 200 18 y) fun s38 => if r32 ((s38 200 15) + 1) then bindM (st2 s38 200 15 ((s38 200 15) + 1)) fun s41 => L_M_next_232 N' s41 else none) = some v ∧ MvC s t e ∧ MvM u v e ∧ e ≤ n ∧ p ≤ e ∧ NumR (t 90 8) (v 200 18) ∧ (p < n → 48 ≤ s 91 p ∧ s 91 p ≤ 57 → p < e) := fun y hy => by
          have z1 : MvC s (st2 s 90 8 (min 10000 ((s 90 8) * 10 + s 91 p - 48))) p := ⟨by rw [st2_sk, if_neg (by decide)]; exact hs, fun k _ b => by rw [st2_sk, if_neg b], Fr.rf.st (by decide)⟩
          have z2 : MvM u (st2 u 200 18 y) p := ⟨by rw [st2_sk, if_neg (by decide)]; exact hu, fun k _ b => by rw [st2_sk, if_neg b], Fr.rf.st (by decide)⟩
          have z3 : st2 s 90 8 (min 10000 ((s 90 8) * 10 + s 91 p - 48)) 90 8 = min 10000 ((s 90 8) * 10 + s 91 p - 48) := st2_ss _ _ _ _
          have z4 : st2 u 200 18 y 200 18 = y := st2_ss _ _ _ _
          rw [bindM_eq]
          generalize st2 s 90 8 (min 10000 ((s 90 8) * 10 + s 91 p - 48)) = s' at z1 z3
          generalize st2 u 200 18 y = u' at z2 z4
          have m1 := mvC_one z1.1
          have m2 := mvM_one z2.1
          have w1 : st2 s' 90 5 (s' 90 5 + 1) 90 8 = s' 90 8 := by rw [st2_sk, if_neg (by decide)]
          have w2 : st2 u' 200 15 (u' 200 15 + 1) 200 18 = u' 200 18 := by rw [st2_sk, if_neg (by decide)]
          obtain ⟨e, t, v, E1, E2, k1, k2, k3, k4, k5, -⟩ := ih N N' (p + 1) _ _ (by omega) (by omega) (by omega) (hT.mv (z1.tr m1) (z2.tr m2)) m1.1 m2.1 (by rw [w1, w2, z3, z4]; exact hy)
          rw [if_pos (show r32 (s' 90 5 + 1) by rw [z1.1]; exact ⟨by omega, by omega⟩), bindM_eq, if_pos (show r32 (u' 200 15 + 1) by rw [z2.1]; exact ⟨by omega, by omega⟩), bindM_eq]
          exact ⟨e, t, v, E1, E2, (z1.tr m1).tr k1, (z2.tr m2).tr k2, k3, by omega, k5, fun _ _ => by omega⟩
        by_cases b : u 200 18 ≤ 99999
        · rw [if_pos b, if_pos c300, if_pos (show r32 (10 * (u 200 18) + s 91 p - 48) from ⟨by omega, by omega⟩)]
          exact go _ ⟨by omega, by omega, by omega, by omega⟩
        · rw [if_neg b]
          exact go _ ⟨by omega, by omega, by omega, by omega⟩
      · rw [if_neg a, if_neg (show ¬ (48 ≤ u 203 p ∧ u 203 p ≤ 57) by omega), if_pos (show (0 : Int) = 0 from rfl), if_pos (show (0 : Int) = 0 from rfl)]
        refine ⟨p, s, u, ?_, ?_, ⟨hs, fun _ _ _ => rfl, Fr.rf⟩, ⟨hu, fun _ _ _ => rfl, Fr.rf⟩, by omega, Nat.le_refl _, ⟨r1, r2, r3, r4⟩, fun _ q => absurd q a⟩
        · rfl
        · rw [if_pos c300]
