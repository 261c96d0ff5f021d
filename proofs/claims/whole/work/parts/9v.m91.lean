-- tokens: `step` and `next`
theorem step_ok {n p : Nat} {s u : Mm} (hT : TpR s u n) (hp : p ≤ n) (hs : s 90 5 = (p : Int)) (hu : u 200 15 = (p : Int)) : ∃ (e q : Nat) (t v : Mm), F_R_step s = some t ∧ F_M_next u = some v ∧ TpR t v n ∧ StC s t ∧ StM u v ∧ t 90 5 = (e : Int) ∧ v 200 15 = (e : Int) ∧ e ≤ n ∧ p ≤ e ∧ t 90 6 = (q : Int) ∧ v 200 16 = (q : Int) ∧ q ≤ n ∧ KindR (t 90 7) (t 90 8) (v 200 17) (v 200 18) ∧ (p < e ∨ t 90 7 = 0) := by
  obtain ⟨n3, -, -, -⟩ := id hT
  obtain ⟨e, s5, u5, E1, E2, m1, m2, k1, k2, k3⟩ := skip_ok (n := n) (n - p) LF LF p s u (by omega) (by unfold LF; omega) (by unfold LF; omega) hT hs hu
  have a6 : StC s (st2 s5 90 6 (e : Int)) := m1.st.put (by omega)
  have b6 : StM u (st2 u5 200 16 (e : Int)) := m2.st.put (by omega)
  have a5 : st2 s5 90 6 (e : Int) 90 5 = (e : Int) := by rw [st2_sk, if_neg (by decide)]; exact m1.1
  have b5 : st2 u5 200 16 (e : Int) 200 15 = (e : Int) := by rw [st2_sk, if_neg (by decide)]; exact m2.1
  have a66 : st2 s5 90 6 (e : Int) 90 6 = (e : Int) := st2_ss _ _ _ _
  have b66 : st2 u5 200 16 (e : Int) 200 16 = (e : Int) := st2_ss _ _ _ _
  have T7 := hT.st a6 b6
  unfold F_R_step F_M_next
  rw [E1, E2, b0M_some, b0M_some]
  simp only [bindM_eq, m1.1, m2.1]
  generalize st2 s5 90 6 (e : Int) = s7 at a6 a5 a66 T7
  generalize st2 u5 200 16 (e : Int) = u7 at b6 b5 b66 T7
  obtain ⟨-, g1, g2, g3⟩ := id T7
  by_cases hend : e = n
  · rw [a5, g1, if_neg (show ¬ (e : Int) < (n : Int) by omega), b5, g2, if_pos (show (e : Int) = (n : Int) by omega)]
    refine ⟨e, e, _, _, rfl, rfl, T7.st (StC.put ⟨fun _ _ => rfl, Fr.rf⟩ (by omega)) (StM.put ⟨fun _ _ => rfl, Fr.rf⟩ (by omega)), a6.put (by omega), b6.put (by omega), ?_, ?_, k1, k2, ?_, ?_, k1, ?_, Or.inr (st2_ss _ _ _ _)⟩
    · rw [st2_sk, if_neg (by decide)]; exact a5
    · rw [st2_sk, if_neg (by decide)]; exact b5
    · rw [st2_sk, if_neg (by decide)]; exact a66
    · rw [st2_sk, if_neg (by decide)]; exact b66
    · exact Or.inl ⟨st2_ss _ _ _ _, st2_ss _ _ _ _⟩
  · obtain ⟨c1, c2, c3⟩ := g3 e (by omega)
    have c300 : 0 ≤ (e : Int) ∧ (e : Int) < 300 := by omega
    have l1 : s7 90 5 < s7 90 1 := by rw [a5, g1]; omega
    have l2 : ¬ u7 200 15 = u7 200 14 := by rw [b5, g2]; omega
    have cs : 0 ≤ s7 90 5 ∧ s7 90 5 < 300 := by rw [a5]; exact c300
    have cu : 0 ≤ u7 200 15 ∧ u7 200 15 < 300 := by rw [b5]; exact c300
    have es : s7 91 ((s7 90 5).toNat) = s7 91 e := by rw [a5]; rfl
    have eu : u7 203 ((u7 200 15).toNat) = u7 203 e := by rw [b5]; rfl
    have fin : ∀ (X Y : Option Mm), (∃ (q : Nat) (t v : Mm), X = some t ∧ Y = some v ∧ StC s7 t ∧ StM u7 v ∧ e < q ∧ q ≤ n ∧ t 90 5 = (q : Int) ∧ v 200 15 = (q : Int) ∧ t 90 6 = s7 90 6 ∧ v 200 16 = u7 200 16 ∧ KindR (t 90 7) (t 90 8) (v 200 17) (v 200 18)) → ∃ (e q : Nat) (t v : Mm), X = some t ∧ Y = some v ∧ TpR t v n ∧ StC s t ∧ StM u v ∧ t 90 5 = (e : Int) ∧ v 200 15 = (e : Int) ∧ e ≤ n ∧ p ≤ e ∧ t 90 6 = (q : Int) ∧ v 200 16 = (q : Int) ∧ q ≤ n ∧ KindR (t 90 7) (t 90 8) (v 200 17) (v 200 18) ∧ (p < e ∨ t 90 7 = 0) := fun X Y ⟨q, t, v, x1, x2, x3, x4, x5, x6, x7, x8, x9, y1, y2⟩ =>
      ⟨q, e, t, v, x1, x2, T7.st x3 x4, a6.tr x3, b6.tr x4, x7, x8, x6, by omega, by rw [x9]; exact a66, by rw [y1]; exact b66, k1, y2, Or.inl (by omega)⟩
    obtain ⟨v1, V1, V2, V3⟩ := let_C (s7 91 e)
    obtain ⟨w1, W1, W2, W3⟩ := let_M (u7 203 e)
    rw [if_pos l1, if_pos cs, es, dig_C, b1_some, if_neg l2, if_pos cu, eu, W1, b1_some]
    by_cases hd : 48 ≤ s7 91 e ∧ s7 91 e ≤ 57
    · have nl : ¬ ltr (u7 203 e) := by unfold ltr; omega
      rw [if_pos hd, if_neg ne10, if_pos (W3 nl), in_ok, b1_some, if_pos (show 48 ≤ u7 203 e ∧ u7 203 e ≤ 57 by omega), if_neg ne10]
      refine fin _ _ ?_
      have SA : StC s7 (st2 s7 90 8 0) := StC.put ⟨fun _ _ => rfl, Fr.rf⟩ (by omega)
      have SB : StM u7 (st2 (st2 u7 200 17 2) 200 18 0) := (StM.put ⟨fun _ _ => rfl, Fr.rf⟩ (by omega)).put (by omega)
      have x5 : st2 s7 90 8 0 90 5 = (e : Int) := by rw [st2_sk, if_neg (by decide)]; exact a5
      have y5 : st2 (st2 u7 200 17 2) 200 18 0 200 15 = (e : Int) := by rw [st2_sk, if_neg (by decide), st2_sk, if_neg (by decide)]; exact b5
      have x6 : st2 s7 90 8 0 90 6 = s7 90 6 := by rw [st2_sk, if_neg (by decide)]
      have y6 : st2 (st2 u7 200 17 2) 200 18 0 200 16 = u7 200 16 := by rw [st2_sk, if_neg (by decide), st2_sk, if_neg (by decide)]
      have y7 : st2 (st2 u7 200 17 2) 200 18 0 200 17 = 2 := by rw [st2_sk, if_neg (by decide), st2_ss]
      have x91 : st2 s7 90 8 0 91 = s7 91 := st2_ne (by decide)
      obtain ⟨q, t, v, D1, D2, d1, d2, d3, d4, d5, d6⟩ := digits_ok (n := n) (n - e) LF LF e (st2 s7 90 8 0) (st2 (st2 u7 200 17 2) 200 18 0) (by omega) (by unfold LF; omega) (by unfold LF; omega) (T7.st SA SB) x5 y5 (by rw [st2_ss, st2_ss]; exact ⟨by omega, by omega, by omega, Or.inl ⟨rfl, by omega⟩⟩)
      rw [D1, D2, b0M_some, b0M_some]
      have lt := d6 (by omega) (by rw [x91]; exact hd)
      refine ⟨q, _, _, rfl, rfl, (SA.tr d1.st).put (by omega), SB.tr d2.st, lt, d3, ?_, d2.1, ?_, ?_, ?_⟩
      · rw [st2_sk, if_neg (by decide)]; exact d1.1
      · rw [st2_sk, if_neg (by decide), d1.2.1 6 (by decide) (by decide)]; exact x6
      · rw [d2.2.1 16 (by decide) (by decide)]; exact y6
      · have e1 : st2 t 90 7 2 90 7 = 2 := st2_ss _ _ _ _
        have e2 : st2 t 90 7 2 90 8 = t 90 8 := by rw [st2_sk, if_neg (by decide)]
        rw [e1, e2, d2.2.1 17 (by decide) (by decide), y7]
        exact Or.inr (Or.inl ⟨rfl, rfl, d5⟩)
    · by_cases hl : ltr (s7 91 e)
      · have eq : u7 203 e = s7 91 e := by unfold ltr at hl; omega
        rw [if_neg hd, if_pos rfl, if_pos cs, V1, b1_some, if_neg (show ¬ v1 = 0 by have := V2 hl; omega), if_neg (show ¬ w1 = 0 by have := W2 (by rw [eq]; exact hl); omega)]
        exact fin _ _ (word_ok T7 (by omega) a5 a66 b5 hl)
      · have nl : ¬ ltr (u7 203 e) := by unfold ltr at hl ⊢; omega
        rw [if_neg hd, if_pos rfl, if_pos cs, V1, b1_some, if_pos (V3 hl), if_pos (W3 nl), in_ok, b1_some, if_neg (show ¬ (48 ≤ u7 203 e ∧ u7 203 e ≤ 57) by omega), if_pos rfl]
        have Q := sign_ok T7 (show e < n by omega) a5 b5
        rw [es] at Q
        exact fin _ _ Q
