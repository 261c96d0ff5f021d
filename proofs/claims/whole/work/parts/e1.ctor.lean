-- the memories before the constructors' last calls
def sg1 : Mm := fun i k => if i = 3 ∧ k < 10 then 5 else if i = 3 ∧ k = 42 then 53 else if (i = 0 ∧ k = 9) ∨ (i = 2 ∧ k = 6) ∨ (i = 90 ∧ k = 15) then -1 else 0
def mg1 : Mm := fun i k => if i = 200 ∧ (k = 4 ∨ k = 5) then -1 else if i = 201 ∧ k = 2 then -1 else if i = 201 ∧ 140 ≤ k ∧ k < 150 then 5 else if i = 201 ∧ k = 182 then 53 else 0
theorem copies_eq : ∀ (m N k : Nat) (σ : Mm), k + m = 5240 → m < N → L_M_copies_2 N 1 (k : Int) σ = some (fun i j => if i = 202 ∧ k ≤ j ∧ j < 5240 then σ 201 j else σ i j) := by
  intro m
  induction m with
  | zero =>
    intro N k σ hk hN
    match N, hN with
    | N + 1, _ =>
      rw [L_M_copies_2, if_pos (by omega)]
      refine congrArg some (funext fun i => funext fun j => ?_)
      rw [if_neg (by omega)]
  | succ m ih =>
    intro N k σ hk hN
    match N, hN with
    | N + 1, hN =>
      have e1 : ((k : Int)).toNat = k := by omega
      have e2 : (k : Int) + 1 = ((k + 1 : Nat) : Int) := by omega
      have c1 : (0 : Int) ≤ (k : Int) ∧ (k : Int) < 5240 := by omega
      rw [L_M_copies_2, if_neg (by omega)]
      simp only [bindM_eq, if_neg ne10, if_pos c1, e1, e2, if_pos (show r32 ((k + 1 : Nat) : Int) from ⟨by omega, by omega⟩)]
      rw [ih N (k + 1) _ (by omega) (by omega)]
      refine congrArg some (funext fun i => funext fun j => ?_)
      by_cases a : i = 202 ∧ k + 1 ≤ j ∧ j < 5240
      · rw [if_pos a, if_pos (by omega), st2_ne (by decide)]
      · rw [if_neg a]
        by_cases b : i = 202 ∧ k ≤ j ∧ j < 5240
        · have : j = k := by omega
          rw [if_pos b, b.1, this, st2_ss]
        · rw [if_neg b]
          unfold st2
          by_cases c : i = 202
          · rw [if_pos c, if_neg (by omega)]
          · rw [if_neg c]
theorem mg_copies : F_M_copies 1 mg1 = some mg0 := by
  unfold F_M_copies
  have e := copies_eq 5240 LF 0 mg1 (by omega) (by unfold LF; omega)
  rw [show ((0 : Nat) : Int) = 0 from rfl] at e
  rw [e, b0M_some]
  refine congrArg some (funext fun i => funext fun j => ?_)
  unfold mg1 mg0
  by_cases a : i = 202
  · by_cases b : j < 5240
    · rw [if_pos ⟨a, Nat.zero_le _, b⟩]
      simp only [a]
      simp
    · rw [if_neg (by omega)]
      simp only [a]
      simp
      omega
  · rw [if_neg (by omega)]
    simp only [a]
    simp
theorem sg_image : F_A_image sg1 = some (0, sg0) := by
  unfold F_A_image F_S_copy
  simp only [bindM_eq]
  have z : sg1 58 1 = 0 ∧ sg1 58 2 = 0 := ⟨by decide +kernel, by decide +kernel⟩
  generalize hs1 : stR sg1 134 (cpyI (sg1 3) (sg1 134) 0 0 165) = s1
  have e1 : ∀ i j, s1 i j = if (i = 3 ∨ i = 134) ∧ j < 10 then 5 else if (i = 3 ∨ i = 134) ∧ j = 42 then 53 else if (i = 0 ∧ j = 9) ∨ (i = 2 ∧ j = 6) ∨ (i = 90 ∧ j = 15) then -1 else 0 := by
    intro i j
    rw [← hs1]
    unfold stR cpyI sg1
    by_cases a : i = 134
    · rw [if_pos a]
      simp only [a]
      by_cases b : j < 165
      · rw [if_pos (show (0 : Int).toNat ≤ j ∧ j < (0 : Int).toNat + (165 : Int).toNat from ⟨Nat.zero_le _, by show j < 0 + 165; omega⟩)]
        simp
      · rw [if_neg (show ¬ ((0 : Int).toNat ≤ j ∧ j < (0 : Int).toNat + (165 : Int).toNat) from fun q => b (by have := q.2; show j < 165; have e : (0 : Int).toNat + (165 : Int).toNat = 165 := rfl; omega))]
        simp
        omega
    · rw [if_neg a]
      simp only [a, or_false]
  have z0 : s1 58 1 = 0 ∧ s1 58 2 = 0 ∧ s1 135 1 = 0 ∧ s1 135 2 = 0 := by
    refine ⟨?_, ?_, ?_, ?_⟩ <;> (rw [e1]; decide)
  have e2 : st2 (st2 s1 135 1 (s1 58 1)) 135 2 (st2 s1 135 1 (s1 58 1) 58 2) = s1 := by
    funext i j
    rw [st2_ne (show (58 : Nat) ≠ 135 by decide), z0.1, z0.2.1]
    unfold st2
    by_cases a : i = 135
    · rw [if_pos a]
      by_cases b : j = 2
      · rw [if_pos b, a, b, z0.2.2.2]
      · rw [if_neg b, if_pos a]
        by_cases c : j = 1
        · rw [if_pos c, a, c, z0.2.2.1]
        · rw [if_neg c]
    · rw [if_neg a, if_neg a]
  rw [e2]
  have e3 : L_S_copy_18 LF 135 58 1 s1 = some s1 := by
    show L_S_copy_18 (999999 + 1) 135 58 1 s1 = some s1
    rw [L_S_copy_18, if_pos (by rw [z0.2.2.2]; decide)]
  rw [e3, b0M_some, b0M_some]
  refine congrArg some (Prod.ext ?_ ?_)
  · dsimp only
    rw [st2_ne (by decide), st2_ne (by decide), st2_ne (by decide), st2_ne (by decide), stR_off (by decide), stR_off (by decide), stR_off (by decide), e1]
    decide
  · funext i j
    dsimp only
    by_cases a : i = 133
    · subst a
      by_cases b8 : j = 8
      · subst b8; simp [st2, stR, e1, sg0]
      · by_cases b7 : j = 7
        · subst b7; simp [st2, stR, e1, sg0]
        · by_cases b6 : j = 6
          · subst b6; simp [st2, stR, e1, sg0]
          · by_cases b5 : j = 5
            · subst b5; simp [st2, stR, e1, sg0]
            · simp [st2, stR, e1, sg0, b8, b7, b6, b5]
    · by_cases c : i = 167 ∨ i = 168 ∨ i = 169
      · rcases c with c | c | c <;> (subst c; simp [st2, stR, cpyI, e1, sg0])
      · have c1 : ¬ i = 167 := fun q => c (Or.inl q)
        have c2 : ¬ i = 168 := fun q => c (Or.inr (Or.inl q))
        have c3 : ¬ i = 169 := fun q => c (Or.inr (Or.inr q))
        simp [st2, stR, e1, sg0, a, c1, c2, c3]
