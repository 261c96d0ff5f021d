-- tokens: signs
theorem six_ok : ∀ c : Nat, c < 256 → (sixI 1 (i2cI (c : Int)) < 0 ∧ ¬ ((c : Int) = 35 ∨ (c : Int) = 37 ∨ (40 ≤ (c : Int) ∧ (c : Int) ≤ 45) ∨ (c : Int) = 47 ∨ (59 ≤ (c : Int) ∧ (c : Int) ≤ 62))) ∨ (¬ sixI 1 (i2cI (c : Int)) < 0 ∧ ((c : Int) = 35 ∨ (c : Int) = 37 ∨ (40 ≤ (c : Int) ∧ (c : Int) ≤ 45) ∨ (c : Int) = 47 ∨ (59 ≤ (c : Int) ∧ (c : Int) ≤ 62))) := by decide +kernel
/-- the class's kind of a sign -/
theorem six_kind {c : Int} (h : 0 ≤ c ∧ c ≤ 255) : (sgn c ∧ (if sixI 1 (i2cI c) < 0 then 1 else c) = c) ∨ (¬ sgn c ∧ (if sixI 1 (i2cI c) < 0 then 1 else c) = 1) := by
  obtain ⟨k, rfl⟩ := Int.eq_ofNat_of_zero_le h.1
  rcases six_ok k (by omega) with ⟨h1, h2⟩ | ⟨h1, h2⟩
  · exact Or.inr ⟨h2, by rw [if_pos h1]⟩
  · exact Or.inl ⟨h2, by rw [if_neg h1]⟩
/-- the reference's kind of a sign, and what it goes on with -/
theorem sgn_M {v : Int} {J : Int → Option Mm} : ∃ w, ((sgn v ∧ w = 3) ∨ (¬ sgn v ∧ w = 4)) ∧ (b1 (F_M_in v 59 62) fun v18 => bindM (J 3) fun J29 => if v18 = 0 then b1 (F_M_in v 40 45) fun v30 => if v30 = 0 then if v = 47 then J29 else if v = 35 then J29 else if v = 37 then J29 else J 4 else J29 else J29) = J w := by
  rw [in_ok, in_ok, b1_some, bindM_eq]
  unfold sgn
  by_cases h1 : 59 ≤ v ∧ v ≤ 62
  · rw [if_pos h1, if_neg ne10]; exact ⟨3, Or.inl ⟨by omega, rfl⟩, rfl⟩
  · rw [if_neg h1, if_pos rfl, b1_some]
    by_cases h2 : 40 ≤ v ∧ v ≤ 45
    · rw [if_pos h2, if_neg ne10]; exact ⟨3, Or.inl ⟨by omega, rfl⟩, rfl⟩
    · rw [if_neg h2, if_pos rfl]
      by_cases h3 : v = 47
      · rw [if_pos h3]; exact ⟨3, Or.inl ⟨by omega, rfl⟩, rfl⟩
      · rw [if_neg h3]
        by_cases h4 : v = 35
        · rw [if_pos h4]; exact ⟨3, Or.inl ⟨by omega, rfl⟩, rfl⟩
        · rw [if_neg h4]
          by_cases h5 : v = 37
          · rw [if_pos h5]; exact ⟨3, Or.inl ⟨by omega, rfl⟩, rfl⟩
          · rw [if_neg h5]; exact ⟨4, Or.inr ⟨by omega, rfl⟩, rfl⟩
