-- tokens: the sign branch of both readers
/-- after `<` or `>` comes `=` or not -/
theorem sign_ok {n e : Nat} {s u : Mm} (hT : TpR s u n) (he : e < n) (hs : s 90 5 = (e : Int)) (hu : u 200 15 = (e : Int)) :
    ∃ (p : Nat) (t v : Mm), (if 0 ≤ s 90 5 ∧ s 90 5 < 300 then bindM (s 91 ((s 90 5).toNat)) fun v10 => if r32 ((s 90 5) + 1) then bindM (st2 s 90 5 ((s 90 5) + 1)) fun s13 => bindM ((if sixI 1 (i2cI v10) < 0 then 1 else v10 : Int)) fun v15 => bindM (st2 s13 90 7 v15) fun s17 => bindM (if s17 90 1 ≤ s17 90 5 then some s17 else if 0 ≤ s17 90 5 ∧ s17 90 5 < 300 then if s17 91 ((s17 90 5).toNat) = 61 then if r32 ((s17 90 5) + 1) then bindM (st2 s17 90 5 ((s17 90 5) + 1)) fun s21 => bindM ((if v10 = 60 then 3 else 4 : Int)) fun v22 => bindM (st2 s21 90 7 v22) fun s24 => some s24 else none else some s17 else none) fun J18 => if v10 = 60 then J18 else if v10 = 62 then J18 else some s17 else none else none) = some t ∧
      (if r32 ((u 200 15) + 1) then bindM (st2 u 200 15 ((u 200 15) + 1)) fun s15 => bindM (st2 s15 200 18 (u 203 e)) fun s17 => b1 (F_M_in (u 203 e) 59 62) fun v18 => bindM (fun (y19 : Int) => bindM (st2 s17 200 17 y19) fun s21 => bindM (if s21 200 14 ≤ s21 200 15 then some s21 else if 0 ≤ s21 200 15 ∧ s21 200 15 < 300 then if s21 203 ((s21 200 15).toNat) = 61 then bindM ((if (u 203 e) = 60 then 300 else 301 : Int)) fun v23 => bindM (st2 s21 200 18 v23) fun s25 => if r32 ((s25 200 15) + 1) then bindM (st2 s25 200 15 ((s25 200 15) + 1)) fun s28 => some s28 else none else some s21 else none) fun J22 => if (u 203 e) = 60 then J22 else if (u 203 e) = 62 then J22 else some s21) fun J19 => bindM (J19 3) fun J29 => if v18 = 0 then b1 (F_M_in (u 203 e) 40 45) fun v30 => if v30 = 0 then if (u 203 e) = 47 then J29 else if (u 203 e) = 35 then J29 else if (u 203 e) = 37 then J29 else J19 4 else J29 else J29 else none) = some v ∧
      StC s t ∧ StM u v ∧ e < p ∧ p ≤ n ∧ t 90 5 = (p : Int) ∧ v 200 15 = (p : Int) ∧ t 90 6 = s 90 6 ∧ v 200 16 = u 200 16 ∧ KindR (t 90 7) (t 90 8) (v 200 17) (v 200 18) := by
  obtain ⟨n3, h1, h2, h3⟩ := id hT
  obtain ⟨c1, c2, c3⟩ := h3 e he
  have e1 : (e : Int) + 1 = ((e + 1 : Nat) : Int) := by omega
  have next : r32 ((e + 1 : Nat) : Int) := r32_nat (by omega)
  rw [hs, hu, if_pos (show 0 ≤ (e : Int) ∧ (e : Int) < 300 by omega), Int.toNat_natCast, e1, if_pos next, bindM_eq, if_pos next, bindM_eq, bindM_eq, bindM_eq, bindM_eq, bindM_eq, bindM_eq]
  generalize hc : s 91 e = c at c1 c2 c3
  generalize hm : u 203 e = m at c3
  have sc : sgn m → m = c := fun q => by unfold sgn at q; omega
  have sk := six_kind (c := c) ⟨c1, c2⟩
  generalize hv : (if sixI 1 (i2cI c) < 0 then 1 else c) = v15 at sk
  obtain ⟨w, hw, hJ⟩ := sgn_M (v := m) (J := fun (y19 : Int) => bindM (st2 (st2 (st2 u 200 15 ((e + 1 : Nat) : Int)) 200 18 m) 200 17 y19) fun s21 => bindM (if s21 200 14 ≤ s21 200 15 then some s21 else if 0 ≤ s21 200 15 ∧ s21 200 15 < 300 then if s21 203 ((s21 200 15).toNat) = 61 then bindM ((if m = 60 then 300 else 301 : Int)) fun v23 => bindM (st2 s21 200 18 v23) fun s25 => if r32 ((s25 200 15) + 1) then bindM (st2 s25 200 15 ((s25 200 15) + 1)) fun s28 => some s28 else none else some s21 else none) fun J22 => if m = 60 then J22 else if m = 62 then J22 else some s21)
  -- where both stand
  have S1 : StC s (st2 (st2 s 90 5 ((e + 1 : Nat) : Int)) 90 7 v15) := (StC.put ⟨fun _ _ => rfl, Fr.rf⟩ (by omega)).put (by omega)
  have U1 : StM u (st2 (st2 (st2 u 200 15 ((e + 1 : Nat) : Int)) 200 18 m) 200 17 w) := ((StM.put ⟨fun _ _ => rfl, Fr.rf⟩ (by omega)).put (by omega)).put (by omega)
  have S5 : st2 (st2 s 90 5 ((e + 1 : Nat) : Int)) 90 7 v15 90 5 = ((e + 1 : Nat) : Int) := by rw [st2_sk, if_neg (by decide), st2_ss]
  have S6 : st2 (st2 s 90 5 ((e + 1 : Nat) : Int)) 90 7 v15 90 6 = s 90 6 := by rw [st2_sk, if_neg (by decide), st2_sk, if_neg (by decide)]
  have S7 : st2 (st2 s 90 5 ((e + 1 : Nat) : Int)) 90 7 v15 90 7 = v15 := st2_ss _ _ _ _
  have U5 : st2 (st2 (st2 u 200 15 ((e + 1 : Nat) : Int)) 200 18 m) 200 17 w 200 15 = ((e + 1 : Nat) : Int) := by rw [st2_sk, if_neg (by decide), st2_sk, if_neg (by decide), st2_ss]
  have U6 : st2 (st2 (st2 u 200 15 ((e + 1 : Nat) : Int)) 200 18 m) 200 17 w 200 16 = u 200 16 := by rw [st2_sk, if_neg (by decide), st2_sk, if_neg (by decide), st2_sk, if_neg (by decide)]
  have U7 : st2 (st2 (st2 u 200 15 ((e + 1 : Nat) : Int)) 200 18 m) 200 17 w 200 17 = w := st2_ss _ _ _ _
  have U8 : st2 (st2 (st2 u 200 15 ((e + 1 : Nat) : Int)) 200 18 m) 200 17 w 200 18 = m := by rw [st2_sk, if_neg (by decide), st2_ss]
  have T1 := hT.st S1 U1
  have plain : KindR v15 (s 90 8) w m ∧ ∀ b, KindR v15 b w m := by
    have : ∀ b, KindR v15 b w m := fun b => by
      rcases hw with ⟨q1, q2⟩ | ⟨q1, q2⟩
      · have := sc q1
        subst this
        rcases sk with ⟨q3, q4⟩ | ⟨q3, q4⟩
        · exact Or.inr (Or.inr (Or.inr (Or.inl ⟨q2, Or.inl ⟨q4, q1⟩⟩)))
        · exact absurd q1 q3
      · rcases sk with ⟨q3, q4⟩ | ⟨q3, q4⟩
        · exact absurd (show sgn m by unfold sgn at q3 ⊢; omega) q1
        · exact Or.inr (Or.inr (Or.inr (Or.inr ⟨q4, q2⟩)))
    exact ⟨this _, this⟩
  generalize hs' : st2 (st2 s 90 5 ((e + 1 : Nat) : Int)) 90 7 v15 = s' at S1 S5 S6 S7 T1
  generalize hu' : st2 (st2 (st2 u 200 15 ((e + 1 : Nat) : Int)) 200 18 m) 200 17 w = u' at hJ U1 U5 U6 U7 U8 T1
  obtain ⟨-, g1, g2, g3⟩ := id T1
  have done : ∀ X Y : Option Mm, X = some s' → Y = some u' → ∃ (p : Nat) (t v : Mm), X = some t ∧ Y = some v ∧ StC s t ∧ StM u v ∧ e < p ∧ p ≤ n ∧ t 90 5 = (p : Int) ∧ v 200 15 = (p : Int) ∧ t 90 6 = s 90 6 ∧ v 200 16 = u 200 16 ∧ KindR (t 90 7) (t 90 8) (v 200 17) (v 200 18) := fun X Y hX hY => ⟨e + 1, s', u', hX, hY, S1, U1, by omega, by omega, S5, U5, S6, U6, by rw [S7, U7, U8]; exact plain.2 _⟩
  have key : ∀ X Y : Option Mm, X = (if c = 60 then (if s' 90 1 ≤ s' 90 5 then some s' else if 0 ≤ s' 90 5 ∧ s' 90 5 < 300 then if s' 91 ((s' 90 5).toNat) = 61 then if r32 ((s' 90 5) + 1) then bindM (st2 s' 90 5 ((s' 90 5) + 1)) fun s21 => bindM ((if c = 60 then 3 else 4 : Int)) fun v22 => bindM (st2 s21 90 7 v22) fun s24 => some s24 else none else some s' else none) else if c = 62 then (if s' 90 1 ≤ s' 90 5 then some s' else if 0 ≤ s' 90 5 ∧ s' 90 5 < 300 then if s' 91 ((s' 90 5).toNat) = 61 then if r32 ((s' 90 5) + 1) then bindM (st2 s' 90 5 ((s' 90 5) + 1)) fun s21 => bindM ((if c = 60 then 3 else 4 : Int)) fun v22 => bindM (st2 s21 90 7 v22) fun s24 => some s24 else none else some s' else none) else some s') → Y = (if m = 60 then (if u' 200 14 ≤ u' 200 15 then some u' else if 0 ≤ u' 200 15 ∧ u' 200 15 < 300 then if u' 203 ((u' 200 15).toNat) = 61 then bindM ((if m = 60 then 300 else 301 : Int)) fun v23 => bindM (st2 u' 200 18 v23) fun s25 => if r32 ((s25 200 15) + 1) then bindM (st2 s25 200 15 ((s25 200 15) + 1)) fun s28 => some s28 else none else some u' else none) else if m = 62 then (if u' 200 14 ≤ u' 200 15 then some u' else if 0 ≤ u' 200 15 ∧ u' 200 15 < 300 then if u' 203 ((u' 200 15).toNat) = 61 then bindM ((if m = 60 then 300 else 301 : Int)) fun v23 => bindM (st2 u' 200 18 v23) fun s25 => if r32 ((s25 200 15) + 1) then bindM (st2 s25 200 15 ((s25 200 15) + 1)) fun s28 => some s28 else none else some u' else none) else some u') → ∃ (p : Nat) (t v : Mm), X = some t ∧ Y = some v ∧ StC s t ∧ StM u v ∧ e < p ∧ p ≤ n ∧ t 90 5 = (p : Int) ∧ v 200 15 = (p : Int) ∧ t 90 6 = s 90 6 ∧ v 200 16 = u 200 16 ∧ KindR (t 90 7) (t 90 8) (v 200 17) (v 200 18) := fun X Y hX hY => by
    by_cases hop : c = 60 ∨ c = 62
    · have hmc : m = c := by omega
      have w3 : w = 3 := by
        rcases hw with ⟨_, q⟩ | ⟨q, _⟩
        · exact q
        · exact absurd (show sgn m by unfold sgn; omega) q
      have hX2 : X = (if s' 90 1 ≤ s' 90 5 then some s' else if 0 ≤ s' 90 5 ∧ s' 90 5 < 300 then if s' 91 ((s' 90 5).toNat) = 61 then if r32 ((s' 90 5) + 1) then bindM (st2 s' 90 5 ((s' 90 5) + 1)) fun s21 => bindM ((if c = 60 then 3 else 4 : Int)) fun v22 => bindM (st2 s21 90 7 v22) fun s24 => some s24 else none else some s' else none) := by
        rw [hX]
        rcases hop with q | q
        · rw [if_pos q]
        · by_cases q2 : c = 60
          · rw [if_pos q2]
          · rw [if_neg q2, if_pos q]
      have hY2 : Y = (if u' 200 14 ≤ u' 200 15 then some u' else if 0 ≤ u' 200 15 ∧ u' 200 15 < 300 then if u' 203 ((u' 200 15).toNat) = 61 then bindM ((if m = 60 then 300 else 301 : Int)) fun v23 => bindM (st2 u' 200 18 v23) fun s25 => if r32 ((s25 200 15) + 1) then bindM (st2 s25 200 15 ((s25 200 15) + 1)) fun s28 => some s28 else none else some u' else none) := by
        rw [hY]
        rcases hop with q | q
        · rw [if_pos (hmc.trans q)]
        · by_cases q2 : m = 60
          · rw [if_pos q2]
          · rw [if_neg q2, if_pos (hmc.trans q)]
      rw [g1, S5] at hX2
      rw [g2, U5] at hY2
      by_cases hend : (n : Int) ≤ ((e + 1 : Nat) : Int)
      · rw [if_pos hend] at hX2 hY2
        exact done X Y hX2 hY2
      · have c300 : 0 ≤ ((e + 1 : Nat) : Int) ∧ ((e + 1 : Nat) : Int) < 300 := by omega
        obtain ⟨d1, d2, d3⟩ := g3 (e + 1) (by omega)
        rw [if_neg hend, if_pos c300, Int.toNat_natCast] at hX2 hY2
        by_cases h61 : s' 91 (e + 1) = 61
        · have e2 : ((e + 1 : Nat) : Int) + 1 = ((e + 2 : Nat) : Int) := by omega
          have z : st2 u' 200 18 (if m = 60 then 300 else 301) 200 15 = ((e + 1 : Nat) : Int) := by rw [st2_sk, if_neg (by decide)]; exact U5
          rw [if_pos h61, e2, if_pos (r32_nat (by omega)), bindM_eq, bindM_eq, bindM_eq] at hX2
          rw [if_pos (show u' 203 (e + 1) = 61 by omega), bindM_eq, bindM_eq, z, e2, if_pos (r32_nat (by omega)), bindM_eq] at hY2
          refine ⟨e + 2, _, _, hX2, hY2, (S1.put (by omega)).put (by omega), (U1.put (by omega)).put (by omega), by omega, by omega, ?_, ?_, ?_, ?_, ?_⟩
          · rw [st2_sk, if_neg (by decide), st2_ss]
          · rw [st2_ss]
          · rw [st2_sk, if_neg (by decide), st2_sk, if_neg (by decide)]; exact S6
          · rw [st2_sk, if_neg (by decide), st2_sk, if_neg (by decide)]; exact U6
          · have a1 : st2 (st2 s' 90 5 ((e + 2 : Nat) : Int)) 90 7 (if c = 60 then 3 else 4) 90 7 = if c = 60 then 3 else 4 := st2_ss _ _ _ _
            have a2 : st2 (st2 u' 200 18 (if m = 60 then 300 else 301)) 200 15 ((e + 2 : Nat) : Int) 200 17 = w := by rw [st2_sk, if_neg (by decide), st2_sk, if_neg (by decide)]; exact U7
            have a3 : st2 (st2 u' 200 18 (if m = 60 then 300 else 301)) 200 15 ((e + 2 : Nat) : Int) 200 18 = if m = 60 then 300 else 301 := by rw [st2_sk, if_neg (by decide), st2_ss]
            rw [a1, a2, a3, w3, hmc]
            by_cases q : c = 60
            · rw [if_pos q, if_pos q]; exact Or.inr (Or.inr (Or.inr (Or.inl ⟨rfl, Or.inr (Or.inl ⟨rfl, rfl⟩)⟩)))
            · rw [if_neg q, if_neg q]; exact Or.inr (Or.inr (Or.inr (Or.inl ⟨rfl, Or.inr (Or.inr ⟨rfl, rfl⟩)⟩)))
        · rw [if_neg h61] at hX2
          rw [if_neg (show ¬ u' 203 (e + 1) = 61 by omega)] at hY2
          exact done X Y hX2 hY2
    · rw [if_neg (show ¬ c = 60 by omega), if_neg (show ¬ c = 62 by omega)] at hX
      rw [if_neg (show ¬ m = 60 by omega), if_neg (show ¬ m = 62 by omega)] at hY
      exact done X Y hX hY
  refine key _ _ ?_ (hJ.trans ?_)
  · rw [← hs']; rfl
  · rfl
