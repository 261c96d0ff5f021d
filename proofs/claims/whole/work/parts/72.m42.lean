-- small calls that change something
theorem end_rel {σ μ : Mm} {B R : Int} (h : Rel σ μ B R) (x : Int) : Op (F_A_end x σ) (F_M_end x μ) B R := by
  obtain ⟨G, O, M, hN, hE⟩ := h
  have h : Rel σ μ B R := ⟨G, O, M, hN, hE⟩
  obtain ⟨⟨n, n1, n2, n3, n4⟩, hF, ⟨T, t1, t2, t3, t4, t5⟩, ⟨c, hS1, hS2⟩, hD, hI⟩ := hE
  have out : Op (some ((-1 : Int), σ)) (some (-1, μ)) B R := Ok.ret (Ok.ret ⟨rfl, h⟩)
  unfold F_A_end F_M_end
  rw [n2, n3, in_ok, b1_some, bindM_eq, bindM_eq]
  by_cases h1 : x < 0
  · rw [if_pos h1, if_neg (show ¬ (0 ≤ x ∧ x ≤ (n : Int)) by omega), if_pos rfl]; exact out
  · rw [if_neg h1]
    by_cases h2 : x ≤ (n : Int)
    · rw [if_pos h2, if_pos (show 0 ≤ x ∧ x ≤ (n : Int) by omega), if_neg (by decide)]
      obtain ⟨k, rfl⟩ := Int.eq_ofNat_of_zero_le (show 0 ≤ x by omega)
      have e : ∀ i, i ≠ 90 → st2 σ 90 1 (k : Int) i = σ i := fun i hi => st2_ne hi
      have m : ∀ i, i ≠ 200 → st2 μ 200 3 (k : Int) i = μ i := fun i hi => st2_ne hi
      refine Op.ret rfl ⟨G, O, M, hN.cells (hN.laws.fr (S := [90]) (Fr.rf.st (by decide)) (by rw [e 2 (by decide)]) (by decide)) (hN.lawsM.fr (S := [200]) (Fr.rf.st (by decide)) (by rw [m 201 (by decide)]) (by decide)) (fun i i1 i2 => e i (by omega)) (by rw [e 2 (by decide)]) (fun k _ => by rw [m 201 (by decide)]), ?_, ?_, ⟨T, t1, by rw [e 0 (by decide)]; exact t2, by rw [m 201 (by decide)]; exact t3, fun t ht => (t4 t ht).fr (by omega) (fun i hi => e i (by omega)) (fun i hi => m i (by omega)), by rw [e 0 (by decide), m 201 (by decide), e 2 (by decide)]; exact t5⟩, ⟨c, by rw [e 1 (by decide)]; exact hS1, by rw [e 121 (by decide), e 122 (by decide), e 123 (by decide), m 201 (by decide)]; exact hS2⟩, by rw [e 130 (by decide), m 201 (by decide)]; exact hD, hI.fr2 (fun i hi => e i (by omega)) (by rw [e 1 (by decide)]) (by rw [e 0 (by decide)]; exact Int.le_refl _) (m 202 (by decide))⟩
      · exact ⟨k, by omega, by rw [st2_ss], by rw [st2_ss], fun i hi => by rw [e 91 (by decide), m 203 (by decide)]; exact n4 i (by omega)⟩
      · exact hF.fr (fun s s1 s2 => by rw [st2_sk, if_neg (by omega)]) (by rw [st2_sk, if_neg (by decide)]) (by rw [st2_sk, if_neg (by decide)])
    · rw [if_neg h2, if_neg (show ¬ (0 ≤ x ∧ x ≤ (n : Int)) by omega), if_pos rfl]; exact out
theorem bank_A (x : Int) : F_A_isBank x = some (if 0 ≤ x ∧ x ≤ 5 then 1 else 0) := by
  unfold F_A_isBank
  by_cases a : x < 0
  · rw [if_pos a, if_neg (by omega)]
  · rw [if_neg a]
    by_cases b : 6 ≤ x
    · rw [if_pos b, if_neg (by omega)]
    · rw [if_neg b, if_pos (by omega)]
theorem bank_M (x : Int) : F_M_isBank x = some (if 0 ≤ x ∧ x ≤ 5 then 1 else 0) := by
  unfold F_M_isBank
  rw [in_ok, b1_some]
/-- cells beside `Now` change on both sides -/
theorem Rel.side {σ τ μ ν : Mm} {B R : Int} (h : Rel σ μ B R) (hc : ∀ i, i < 121 ∨ 133 ≤ i → τ i = σ i) (hm : ∀ i, i ≠ 201 → ν i = μ i) (h1 : ∀ k, (k < 4 ∨ (10 ≤ k ∧ k < 82) ∨ 140 ≤ k) → ν 201 k = μ 201 k)
    (hS : ∃ c : Nat, σ 1 4 = (c : Int) ∧ SeenR (τ 121 2) (τ 122) (τ 123) (ν 201) c) (hD : DebtR (τ 130) (ν 201)) : Rel τ ν B R := by
  obtain ⟨G, O, M, hN, hT, hF, ⟨T, t1, t2, t3, t4, t5⟩, -, -, hI⟩ := h
  obtain ⟨c, c1, c2⟩ := hS
  have e : ∀ i, i < 121 ∨ 133 ≤ i → τ i = σ i := hc
  refine ⟨G, O, M, hN.cells (hN.laws.fr (S := [121, 122, 123, 124, 125, 126, 127, 128, 129, 130, 131, 132]) (fun i hi => e i (by simp at hi; omega)) (by rw [e 2 (by decide)]) (by decide)) (hN.lawsM.fr (S := [201]) (fun i hi => hm i (by simpa using hi)) (h1 2 (by decide)) (by decide)) (fun i i1 i2 => e i (by omega)) (by rw [e 2 (by decide)]) (fun k hk => h1 k (by omega)), hT.fr (by rw [e 90 (by decide)]) (e 91 (by decide)) (by rw [hm 200 (by decide)]) (hm 203 (by decide)), hF.fr (fun s _ _ => by rw [e 90 (by decide)]) (by rw [hm 200 (by decide)]) (by rw [hm 200 (by decide)]), ⟨T, t1, by rw [e 0 (by decide)]; exact t2, by rw [h1 1 (by decide)]; exact t3, fun t ht => (t4 t ht).fr (by omega) (fun i hi => e i (by omega)) (fun i hi => hm i (by omega)), by rw [e 0 (by decide), h1 2 (by decide), e 2 (by decide)]; exact t5⟩, ⟨c, by rw [e 1 (by decide)]; exact c1, c2⟩, hD, hI.fr2 (fun i hi => e i (by omega)) (by rw [e 1 (by decide)]) (by rw [e 0 (by decide)]; exact Int.le_refl _) (hm 202 (by decide))⟩
theorem debt_rel {σ μ : Mm} {B R : Int} (h : Rel σ μ B R) (x y z : Int) : Op (F_A_debt x y z σ) (F_M_debt x y z μ) B R := by
  have out : Op (some ((0 : Int), σ)) (some (0, μ)) B R := Ok.ret (Ok.ret ⟨rfl, h⟩)
  unfold F_A_debt F_M_debt
  rw [bank_A, bank_A, bank_M, bank_M, num_A, in_ok]
  simp only [b1_some, bindM_eq]
  by_cases hx : 0 ≤ x ∧ x ≤ 5
  · rw [if_pos hx, if_neg ne10, if_neg ne10]
    by_cases hy : 0 ≤ y ∧ y ≤ 5
    · rw [if_pos hy, if_neg ne10, if_neg ne10]
      by_cases hxy : x = y
      · rw [if_pos hxy, if_pos hxy]; exact out
      · rw [if_neg hxy, if_neg hxy]
        by_cases hz : 0 ≤ z ∧ z ≤ 9999
        · rw [if_pos hz, if_neg ne10, if_neg ne10, if_pos (show 0 ≤ x * 6 + y ∧ x * 6 + y < 36 by omega), if_pos (show 0 ≤ 94 + 6 * x + y ∧ 94 + 6 * x + y < 5240 by omega)]
          obtain ⟨a, rfl⟩ := Int.eq_ofNat_of_zero_le hx.1
          obtain ⟨b, rfl⟩ := Int.eq_ofNat_of_zero_le hy.1
          have e1 : ((a : Int) * 6 + (b : Int)).toNat = 6 * a + b := by omega
          have e2 : ((94 : Int) + 6 * (a : Int) + (b : Int)).toNat = 94 + (6 * a + b) := by omega
          rw [e1, e2]
          obtain ⟨G, O, M, hN, hT, hF, hR, ⟨c, hS1, s, s1, s2, s3, s4⟩, hD, hI⟩ := id h
          refine Op.ret rfl (h.side (fun i hi => st2_ne (by omega)) (fun i hi => st2_ne hi) (fun k hk => by rw [st2_sk, if_neg (by omega)]) ⟨c, hS1, s, s1, by rw [st2_ne (by decide)]; exact s2, by rw [st2_sk, if_neg (by omega)]; exact s3, fun k hk => ?_⟩ (fun i hi => ?_))
          · rw [show st2 σ 130 (6 * a + b) z 122 = σ 122 from st2_ne (by decide), show st2 σ 130 (6 * a + b) z 123 = σ 123 from st2_ne (by decide), st2_sk, if_neg (by omega), st2_sk, if_neg (by omega)]; exact s4 k hk
          · rw [st2_sk, st2_sk]
            by_cases he : i = 6 * a + b
            · rw [if_pos he, if_pos (by omega)]; exact ⟨rfl, hz⟩
            · rw [if_neg he, if_neg (by omega)]; exact hD i hi
        · rw [if_neg hz, if_pos rfl, if_pos rfl]; exact out
    · rw [if_neg hy, if_pos rfl, if_pos rfl]; exact out
  · rw [if_neg hx, if_pos rfl, if_pos rfl]; exact out
theorem seen_rel {σ μ : Mm} {B R : Int} (h : Rel σ μ B R) (x y : Int) : Op (F_A_seen x y σ) (F_M_seen x y μ) B R := by
  have out : Op (some ((-2 : Int), σ)) (some (-2, μ)) B R := Ok.ret (Ok.ret ⟨rfl, h⟩)
  obtain ⟨G, O, M, hN, hT, hF, hR, ⟨c, hS1, s, s1, s2, s3, s4⟩, hD, hI⟩ := id h
  obtain ⟨c', c1, c2, c3, -⟩ := hN.rows
  have ec : c' = c := by omega
  subst ec
  obtain ⟨e1, e2⟩ := has_row c1 c2 c3 x
  unfold F_A_seen F_M_seen
  rw [e1, e2, in_ok]
  simp only [b1_some, bindM_eq]
  by_cases hx : x = -1
  · rw [if_pos hx, if_pos hx]
    refine Op.ret rfl (h.side (fun i hi => st2_ne (by omega)) (fun i hi => st2_ne hi) (fun k hk => by rw [st2_sk, if_neg (by omega)]) ⟨c', hS1, 0, by omega, by rw [st2_ss]; rfl, by rw [st2_ss]; rfl, fun k hk => by omega⟩ (fun i hi => ?_))
    rw [st2_ne (by decide), st2_sk, if_neg (by omega)]; exact hD i hi
  · rw [if_neg hx, if_neg hx]
    by_cases hr : 0 ≤ x ∧ x < (c' : Int)
    · rw [if_pos hr, if_neg ne10, if_neg ne10]
      by_cases hy : -99999 ≤ y ∧ y ≤ 99999
      · rw [if_neg (by omega), if_neg (by omega), if_pos hy, if_neg ne10, s2, s3]
        by_cases h6 : s = 6
        · rw [if_neg (by omega), if_pos (by omega)]; exact out
        · have es : ((s : Int)).toNat = s := by omega
          have u1 : ((82 : Int) + 2 * (s : Int)).toNat = 82 + 2 * s := by omega
          have u2 : ((82 : Int) + 2 * (s : Int) + 1).toNat = 83 + 2 * s := by omega
          have z1 : st2 σ 122 s x 121 2 = (s : Int) := by rw [st2_ne (by decide)]; exact s2
          have z2 : st2 (st2 σ 122 s x) 123 s y 121 2 = (s : Int) := by rw [st2_ne (by decide)]; exact z1
          have z3 : st2 μ 201 (82 + 2 * s) x 201 4 = (s : Int) := by rw [st2_sk, if_neg (by omega)]; exact s3
          have z4 : st2 (st2 μ 201 (82 + 2 * s) x) 201 (83 + 2 * s) y 201 4 = (s : Int) := by rw [st2_sk, if_neg (by omega)]; exact z3
          rw [if_pos (show (s : Int) < 6 by omega), if_pos (show 0 ≤ (s : Int) ∧ (s : Int) < 6 by omega), es, if_neg (show ¬ (s : Int) = 6 by omega), if_pos (show 0 ≤ 82 + 2 * (s : Int) ∧ 82 + 2 * (s : Int) < 5240 by omega), u1]
          simp only [z1, z3, es, u2]
          rw [if_pos (show 0 ≤ (s : Int) ∧ (s : Int) < 6 by omega), if_pos (show 0 ≤ 82 + 2 * (s : Int) + 1 ∧ 82 + 2 * (s : Int) + 1 < 5240 by omega)]
          simp only [z2, z4]
          rw [if_pos (show r32 ((s : Int) + 1) from ⟨by omega, by omega⟩)]
          have k : ((s : Int) + 1) = ((s + 1 : Nat) : Int) := by omega
          have key : ∀ τ ν : Mm, τ = st2 (st2 (st2 σ 122 s x) 123 s y) 121 2 ((s : Int) + 1) → ν = st2 (st2 (st2 μ 201 (82 + 2 * s) x) 201 (83 + 2 * s) y) 201 4 ((s : Int) + 1) → Op (some (τ 121 2, τ)) (some (ν 201 4, ν)) B R := fun τ ν hτ hν => by
            have c1 : ∀ i, i < 121 ∨ 124 ≤ i → τ i = σ i := fun i hi => by rw [hτ, st2_ne (by omega), st2_ne (by omega), st2_ne (by omega)]
            have c2 : τ 121 2 = ((s + 1 : Nat) : Int) := by rw [hτ, st2_ss]; exact k
            have c3 : ∀ j, τ 122 j = if j = s then x else σ 122 j := fun j => by rw [hτ, st2_ne (by decide), st2_ne (by decide), st2_sk]
            have c4 : ∀ j, τ 123 j = if j = s then y else σ 123 j := fun j => by rw [hτ, st2_ne (by decide), st2_sk, st2_ne (by decide)]
            have m1 : ∀ i, i ≠ 201 → ν i = μ i := fun i hi => by rw [hν, st2_ne hi, st2_ne hi, st2_ne hi]
            have m2 : ∀ j, ν 201 j = if j = 4 then ((s + 1 : Nat) : Int) else if j = 83 + 2 * s then y else if j = 82 + 2 * s then x else μ 201 j := fun j => by rw [hν, st2_sk, st2_sk, st2_sk, k]
            refine Op.ret (by rw [c2, m2, if_pos rfl]) (h.side (fun i hi => c1 i (by omega)) m1 (fun j hj => by rw [m2, if_neg (by omega), if_neg (by omega), if_neg (by omega)]) ⟨c', hS1, s + 1, by omega, c2, by rw [m2, if_pos rfl], fun j hj => ?_⟩ (fun i hi => ?_))
            · rw [c3, c4, m2, m2, if_neg (show ¬ 82 + 2 * j = 4 by omega), if_neg (show ¬ 82 + 2 * j = 83 + 2 * s by omega), if_neg (show ¬ 83 + 2 * j = 4 by omega)]
              by_cases he : j = s
              · subst he
                simp only [if_true]
                exact ⟨trivial, trivial, hr.1, hr.2, hy⟩
              · rw [if_neg he, if_neg he, if_neg (show ¬ 82 + 2 * j = 82 + 2 * s by omega), if_neg (show ¬ 83 + 2 * j = 83 + 2 * s by omega), if_neg (show ¬ 83 + 2 * j = 82 + 2 * s by omega)]
                exact s4 j (by omega)
            · rw [c1 130 (by omega), m2, if_neg (by omega), if_neg (by omega), if_neg (by omega)]; exact hD i hi
          rw [if_pos (show r32 ((s : Int) + 1) from ⟨by omega, by omega⟩)]
          exact key _ _ rfl rfl
      · rw [if_neg hy, if_pos rfl]
        by_cases h3 : y < -99999
        · rw [if_pos h3]; exact out
        · rw [if_neg h3, if_pos (by omega)]; exact out
    · rw [if_neg hr, if_pos rfl, if_pos rfl]; exact out
