-- the first memory: what stands when both have been made
def sg0 : Mm := fun i k => if (i = 3 ∨ i = 134) ∧ k < 10 then 5 else if (i = 3 ∨ i = 134) ∧ k = 42 then 53 else if (i = 0 ∧ k = 9) ∨ (i = 133 ∧ k = 8) ∨ (i = 2 ∧ k = 6) ∨ (i = 90 ∧ k = 15) then -1 else 0
def mg0 : Mm := fun i k => if i = 200 ∧ (k = 4 ∨ k = 5) then -1 else if (i = 201 ∨ i = 202) ∧ k = 2 then -1 else if (i = 201 ∨ i = 202) ∧ 140 ≤ k ∧ k < 150 then 5 else if (i = 201 ∨ i = 202) ∧ k = 182 then 53 else 0
theorem sg0_z {i k : Nat} (h : ¬ ((i = 3 ∨ i = 134) ∧ k < 10)) (h2 : ¬ ((i = 3 ∨ i = 134) ∧ k = 42)) (h3 : ¬ ((i = 0 ∧ k = 9) ∨ (i = 133 ∧ k = 8) ∨ (i = 2 ∧ k = 6) ∨ (i = 90 ∧ k = 15))) : sg0 i k = 0 := by
  unfold sg0
  rw [if_neg h, if_neg h2, if_neg h3]
theorem sg0_c {i k : Nat} (h : i = 3 ∨ i = 134) : sg0 i k = if k < 10 then 5 else if k = 42 then 53 else 0 := by
  unfold sg0
  by_cases a : k < 10
  · rw [if_pos ⟨h, a⟩, if_pos a]
  · rw [if_neg (fun q => a q.2), if_neg a]
    by_cases b : k = 42
    · rw [if_pos ⟨h, b⟩, if_pos b]
    · rw [if_neg (fun q => b q.2), if_neg b, if_neg (by omega)]
theorem mg0_z {i k : Nat} (h : ¬ (i = 200 ∧ (k = 4 ∨ k = 5))) (h2 : ¬ ((i = 201 ∨ i = 202) ∧ k = 2)) (h3 : ¬ ((i = 201 ∨ i = 202) ∧ 140 ≤ k ∧ k < 150)) (h4 : ¬ ((i = 201 ∨ i = 202) ∧ k = 182)) : mg0 i k = 0 := by
  unfold mg0
  rw [if_neg h, if_neg h2, if_neg h3, if_neg h4]
theorem mg0_a {i k : Nat} (h : i = 201 ∨ i = 202) (hk : 140 ≤ k) : mg0 i k = if k < 150 then 5 else if k = 182 then 53 else 0 := by
  unfold mg0
  rw [if_neg (by omega), if_neg (by omega)]
  by_cases a : k < 150
  · rw [if_pos ⟨h, hk, a⟩, if_pos a]
  · rw [if_neg (fun q => a q.2.2), if_neg a]
    by_cases b : k = 182
    · rw [if_pos ⟨h, b⟩, if_pos b]
    · rw [if_neg (fun q => b q.2), if_neg b]
theorem snap0 {i j : Nat} (hi : i = 3 ∨ i = 134) (hj : j = 201 ∨ j = 202) : Snap (sg0 i) (mg0 j) 140 := by
  refine ⟨fun k hk => ?_, 0, fun _ _ => 0, ⟨by decide, ?_, 0, by decide, ?_, fun i j hi => absurd hi (by omega)⟩, ?_⟩
  · rw [sg0_c hi, mg0_a hj (by omega)]
    by_cases a : k < 10
    · rw [if_pos a, if_pos (show 140 + k < 150 by omega)]
    · rw [if_neg a, if_neg (show ¬ 140 + k < 150 by omega)]
      by_cases b : k = 42
      · rw [if_pos b, if_pos (show 140 + k = 182 by omega)]
      · rw [if_neg b, if_neg (show ¬ 140 + k = 182 by omega)]
  · rw [sg0_c hi]; rfl
  · rw [sg0_c hi]; rfl
  · refine ⟨by decide, ?_, fun i j hi => absurd hi (by omega)⟩
    rw [mg0_a hj (by omega)]; rfl
theorem env0 {f : Nat → Int} (h : (∀ k, k < 10 → 0 ≤ f k ∧ f k ≤ 9) ∧ (∀ k, 10 ≤ k → k < 42 → f k = 0) ∧ 0 ≤ f 42 ∧ f 42 ≤ 40000) : SnapOK f 0 := by
  obtain ⟨a, b, c, d⟩ := h
  refine ⟨⟨a, fun k hk => ?_, fun k hk => ?_, fun k hk => ?_, ?_⟩, ?_, fun k hk => ?_, ?_⟩
  · rw [b _ (by omega) (by omega)]; decide
  · rw [b _ (by omega) (by omega)]; decide
  · rw [b _ (by omega) (by omega)]; decide
  · rw [b _ (by omega) (by omega)]; decide
  · rw [b _ (by omega) (by omega)]; decide
  · rw [b _ (by omega) (by omega)]; decide
  · rw [b 40 (by omega) (by omega)]; exact ⟨by decide, c, d⟩
theorem env1 {i : Nat} (hi : i = 3 ∨ i = 134) : SnapOK (sg0 i) 0 := by
  refine env0 ⟨fun k hk => ?_, fun k h1 h2 => ?_, ?_⟩
  · rw [sg0_c hi, if_pos hk]; decide
  · rw [sg0_c hi, if_neg (by omega), if_neg (by omega)]
  · rw [sg0_c hi, if_neg (by omega), if_pos rfl]; decide
theorem env2 {i : Nat} (hi : ¬ i = 3 ∧ ¬ i = 134 ∧ ¬ i = 0 ∧ ¬ i = 133 ∧ ¬ i = 2 ∧ ¬ i = 90) : SnapOK (sg0 i) 0 := by
  have z : ∀ k, sg0 i k = 0 := fun k => sg0_z (by omega) (by omega) (by omega)
  refine env0 ⟨fun k hk => ?_, fun k h1 h2 => z k, ?_⟩
  · rw [z]; decide
  · rw [z]; decide
/-- THE RELATION holds at the beginning -/
theorem rel0 : Rel sg0 mg0 0 0 := by
  refine ⟨none, none, none, ⟨⟨(fun _ q => nomatch q), (fun _ q => nomatch q), (fun _ q => nomatch q), Or.inl ⟨by decide, rfl, rfl, rfl⟩⟩, Or.inl ⟨by decide, rfl, rfl, rfl⟩, fun k hk => ?_, by decide, snap0 (Or.inl rfl) (Or.inl rfl), env1 (Or.inl rfl), ⟨0, by decide, by decide, by decide, fun r hr => absurd hr (by omega)⟩, ⟨0, 0, by decide, by decide, by decide, by decide, by decide, fun i hi => absurd hi (by omega)⟩, fun j hj => env2 (by omega)⟩, ⟨0, by decide, by decide, by decide, fun i hi => absurd hi (by omega)⟩, Or.inl ⟨by decide, by decide, by decide⟩, ⟨0, by decide, by decide, by decide, fun t ht => absurd ht (by omega), Or.inl ⟨by decide, by decide, by decide⟩⟩, ⟨0, by decide, 0, by decide, by decide, by decide, fun k hk => absurd hk (by omega)⟩, fun i hi => ?_, ⟨snap0 (Or.inr rfl) (Or.inr rfl), env1 (Or.inr rfl), ⟨0, 0, by decide, by decide, by decide, by decide, by decide, fun i hi => absurd hi (by omega)⟩, fun j hj => env2 (by omega), 0, 0, by decide, ⟨by decide, by decide, by decide, by decide, by decide, by decide⟩, fun r hr => absurd hr (by omega), Or.inl ⟨by decide, by decide⟩, ⟨0, by decide, by decide, by decide, fun k hk => absurd hk (by omega)⟩, fun i hi => ?_⟩⟩
  · rw [sg0_z (by omega) (by omega) (by omega), sg0_z (by omega) (by omega) (by omega)]; exact Int.le_refl _
  · rw [sg0_z (by omega) (by omega) (by omega), mg0_z (by omega) (by omega) (by omega) (by omega)]; decide
  · rw [sg0_z (by omega) (by omega) (by omega), mg0_z (by omega) (by omega) (by omega) (by omega)]; decide
