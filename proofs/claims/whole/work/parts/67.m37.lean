-- `row` on both sides
abbrev NN (x : Int) : Prop := 0 ≤ x ∧ x ≤ 9999
theorem num_A (x : Int) : F_A_isNumber x = some (if NN x then 1 else 0) := by
  unfold F_A_isNumber
  by_cases a : x < 0
  · rw [if_pos a, if_neg (show ¬ NN x from fun q => by omega)]
  · rw [if_neg a]
    by_cases b : 9999 < x
    · rw [if_pos b, if_neg (show ¬ NN x from fun q => by omega)]
    · rw [if_neg b, if_pos (show NN x from ⟨by omega, by omega⟩)]
/-- so many NUMBERS, each in range, nothing behind them -/
def Args (xs : Nat → Int) (mn : Int) (p : Nat) : Prop := 1 ≤ p ∧ p ≤ 4 ∧ (∀ j, j < p → NN (xs j)) ∧ (∀ j, p ≤ j → j < 4 → xs j = -1) ∧ 0 ≤ mn ∧ mn < 2 ^ p
def xs4 (a b c d : Int) (k : Nat) : Int := if k = 0 then a else if k = 1 then b else if k = 2 then c else d
theorem ishl1 : ishl 1 1 = 2 ∧ ishl 1 2 = 4 ∧ ishl 1 3 = 8 ∧ ishl 1 4 = 16 := by decide +kernel
theorem canBe_ok (a b c d m : Int) : (F_W_canBe a b c d m = some 1 ∧ ∃ p, Args (xs4 a b c d) m p) ∨ (F_W_canBe a b c d m = some 0 ∧ ¬ ∃ p, Args (xs4 a b c d) m p) := by
  have mk : ∀ p : Nat, 1 ≤ p → p ≤ 4 → (∀ j, j < p → NN (xs4 a b c d j)) → (∀ j, p ≤ j → j < 4 → xs4 a b c d j = -1) → 0 ≤ m → m < 2 ^ p → ∃ p, Args (xs4 a b c d) m p := fun p h1 h2 h3 h4 h5 h6 => ⟨p, h1, h2, h3, h4, h5, h6⟩
  have un : ∀ p, Args (xs4 a b c d) m p → NN a ∧ (b = -1 → p = 1) ∧ (b = -1 → c = -1 ∧ d = -1) ∧ (c = -1 → d = -1) ∧ (b ≠ -1 → NN b) ∧ (c ≠ -1 → NN c) ∧ (d ≠ -1 → NN d) ∧ (b ≠ -1 → c = -1 → p = 2) ∧ (c ≠ -1 → d = -1 → p = 3) ∧ (d ≠ -1 → p = 4) ∧ 0 ≤ m ∧ m < 2 ^ p := by
    rintro p ⟨h1, h2, h3, h4, h5, h6⟩
    have hp : p = 1 ∨ p = 2 ∨ p = 3 ∨ p = 4 := by omega
    have g3 := h3
    rcases hp with rfl | rfl | rfl | rfl
    · have q0 := h3 0 (by omega); have r1 := h4 1 (by omega) (by omega); have r2 := h4 2 (by omega) (by omega); have r3 := h4 3 (by omega) (by omega)
      simp only [xs4, reduceIte] at q0 r1 r2 r3
      simp at r1 r2 r3
      exact ⟨q0, by omega, by omega, by omega, by omega, by omega, by omega, by omega, by omega, by omega, by omega, h6⟩
    · have q0 := h3 0 (by omega); have q1 := h3 1 (by omega); have r2 := h4 2 (by omega) (by omega); have r3 := h4 3 (by omega) (by omega)
      simp [xs4] at q0 q1 r2 r3
      exact ⟨q0, by omega, by omega, by omega, fun _ => q1, by omega, by omega, by omega, by omega, by omega, by omega, h6⟩
    · have q0 := h3 0 (by omega); have q1 := h3 1 (by omega); have q2 := h3 2 (by omega); have r3 := h4 3 (by omega) (by omega)
      simp [xs4] at q0 q1 q2 r3
      exact ⟨q0, by omega, by omega, by omega, fun _ => q1, fun _ => q2, by omega, by omega, by omega, by omega, by omega, h6⟩
    · have q0 := h3 0 (by omega); have q1 := h3 1 (by omega); have q2 := h3 2 (by omega); have q3 := h3 3 (by omega)
      simp [xs4] at q0 q1 q2 q3
      exact ⟨q0, by omega, by omega, by omega, fun _ => q1, fun _ => q2, fun _ => q3, by omega, by omega, by omega, by omega, h6⟩
  obtain ⟨s1, s2, s3, s4⟩ := ishl1
  unfold F_W_canBe
  simp only [num_A, b1_some, bindM_eq]
  by_cases na : NN a
  · simp only [if_pos na, show ¬ (1 : Int) = 0 from by decide, if_false]
    by_cases eb : b = -1
    · by_cases ec : c = -1
      · by_cases ed : d = -1
        · subst eb; subst ec; subst ed
          simp only [if_true, show (1 : Int) + 0 + 0 + 0 = 1 from rfl, s1, if_pos (show r32 1 from by decide), show (1 : Int) < 2 from by decide, show (1 : Int) < 3 from by decide, show (1 : Int) < 4 from by decide, show ¬ (1 : Int) = 0 from by decide, if_false]
          by_cases m0 : m < 0
          · exact Or.inr ⟨by rw [if_pos m0], fun ⟨p, hp⟩ => by have := un p hp; omega⟩
          · rw [if_neg m0]
            by_cases m1 : 2 ≤ m
            · exact Or.inr ⟨by rw [if_pos m1], fun ⟨p, hp⟩ => by
                have h := un p hp
                have e := h.2.1 rfl
                subst e
                have := h.2.2.2.2.2.2.2.2.2.2.2
                omega⟩
            · exact Or.inl ⟨by rw [if_neg m1], mk 1 (by omega) (by omega) (fun j hj => by
                  have : j = 0 := by omega
                  rw [this]; exact na) (fun j h1 h2 => by
                  have : j = 1 ∨ j = 2 ∨ j = 3 := by omega
                  rcases this with rfl | rfl | rfl <;> simp [xs4]) (by omega) (by omega)⟩
        · refine Or.inr ⟨?_, fun ⟨p, hp⟩ => ed ((un p hp).2.2.1 eb).2⟩
          subst eb; subst ec
          simp only [if_true, if_neg ed, show (1 : Int) + 0 + 0 + 1 = 2 from rfl, if_pos (show r32 2 from by decide), show ¬ (2 : Int) < 2 from by decide, show (2 : Int) < 3 from by decide, if_neg (show ¬ NN (-1) from by decide), if_false]
      · refine Or.inr ⟨?_, fun ⟨p, hp⟩ => ec ((un p hp).2.2.1 eb).1⟩
        subst eb
        by_cases ed : d = -1
        · simp only [if_true, if_pos ed, if_neg ec, show (1 : Int) + 0 + 1 + 0 = 2 from rfl, if_pos (show r32 2 from by decide), show ¬ (2 : Int) < 2 from by decide, if_neg (show ¬ NN (-1) from by decide), if_false]
        · simp only [if_true, if_neg ed, if_neg ec, show (1 : Int) + 0 + 1 + 1 = 3 from rfl, if_pos (show r32 3 from by decide), show ¬ (3 : Int) < 2 from by decide, if_neg (show ¬ NN (-1) from by decide), if_false]
    · by_cases nb : NN b
      · by_cases ec : c = -1
        · by_cases ed : d = -1
          · simp only [if_neg eb, if_pos ec, if_pos ed, if_pos nb, show (1 : Int) + 1 + 0 + 0 = 2 from rfl, s2, if_pos (show r32 2 from by decide), show ¬ (2 : Int) < 2 from by decide, show (2 : Int) < 3 from by decide, show (2 : Int) < 4 from by decide, show ¬ (1 : Int) = 0 from by decide, if_true, if_false]
            by_cases m0 : m < 0
            · exact Or.inr ⟨by rw [if_pos m0], fun ⟨p, hp⟩ => by have := un p hp; omega⟩
            · rw [if_neg m0]
              by_cases m1 : 4 ≤ m
              · exact Or.inr ⟨by rw [if_pos m1], fun ⟨p, hp⟩ => by
                  have h := un p hp
                  have e := h.2.2.2.2.2.2.2.1 eb ec
                  subst e
                  have := h.2.2.2.2.2.2.2.2.2.2.2
                  omega⟩
              · exact Or.inl ⟨by rw [if_neg m1], mk 2 (by omega) (by omega) (fun j hj => by
                    have : j = 0 ∨ j = 1 := by omega
                    rcases this with rfl | rfl
                    · exact na
                    · exact nb) (fun j h1 h2 => by
                    have : j = 2 ∨ j = 3 := by omega
                    rcases this with rfl | rfl <;> simp [xs4, ec, ed]) (by omega) (by omega)⟩
          · refine Or.inr ⟨?_, fun ⟨p, hp⟩ => ed ((un p hp).2.2.2.1 ec)⟩
            subst ec
            simp only [if_neg eb, if_neg ed, if_pos nb, if_true, show (1 : Int) + 1 + 0 + 1 = 3 from rfl, if_pos (show r32 3 from by decide), show ¬ (3 : Int) < 2 from by decide, show ¬ (3 : Int) < 3 from by decide, if_neg (show ¬ NN (-1) from by decide), show ¬ (1 : Int) = 0 from by decide, if_false]
        · by_cases nc : NN c
          · by_cases ed : d = -1
            · simp only [if_neg eb, if_neg ec, if_pos ed, if_pos nb, if_pos nc, show (1 : Int) + 1 + 1 + 0 = 3 from rfl, s3, if_pos (show r32 3 from by decide), show ¬ (3 : Int) < 2 from by decide, show ¬ (3 : Int) < 3 from by decide, show (3 : Int) < 4 from by decide, show ¬ (1 : Int) = 0 from by decide, if_true, if_false]
              by_cases m0 : m < 0
              · exact Or.inr ⟨by rw [if_pos m0], fun ⟨p, hp⟩ => by have := un p hp; omega⟩
              · rw [if_neg m0]
                by_cases m1 : 8 ≤ m
                · exact Or.inr ⟨by rw [if_pos m1], fun ⟨p, hp⟩ => by
                    have h := un p hp
                    have e := h.2.2.2.2.2.2.2.2.1 ec ed
                    subst e
                    have := h.2.2.2.2.2.2.2.2.2.2.2
                    omega⟩
                · exact Or.inl ⟨by rw [if_neg m1], mk 3 (by omega) (by omega) (fun j hj => by
                      have : j = 0 ∨ j = 1 ∨ j = 2 := by omega
                      rcases this with rfl | rfl | rfl
                      · exact na
                      · exact nb
                      · exact nc) (fun j h1 h2 => by
                      have : j = 3 := by omega
                      subst this; simp [xs4, ed]) (by omega) (by omega)⟩
            · by_cases nd : NN d
              · simp only [if_neg eb, if_neg ec, if_neg ed, if_pos nb, if_pos nc, if_pos nd, show (1 : Int) + 1 + 1 + 1 = 4 from rfl, s4, if_pos (show r32 4 from by decide), show ¬ (4 : Int) < 2 from by decide, show ¬ (4 : Int) < 3 from by decide, show ¬ (4 : Int) < 4 from by decide, show ¬ (1 : Int) = 0 from by decide, if_true, if_false]
                by_cases m0 : m < 0
                · exact Or.inr ⟨by rw [if_pos m0], fun ⟨p, hp⟩ => by have := un p hp; omega⟩
                · rw [if_neg m0]
                  by_cases m1 : 16 ≤ m
                  · exact Or.inr ⟨by rw [if_pos m1], fun ⟨p, hp⟩ => by
                      have h := un p hp
                      have e := h.2.2.2.2.2.2.2.2.2.1 ed
                      subst e
                      have := h.2.2.2.2.2.2.2.2.2.2.2
                      omega⟩
                  · exact Or.inl ⟨by rw [if_neg m1], mk 4 (by omega) (by omega) (fun j hj => by
                        have : j = 0 ∨ j = 1 ∨ j = 2 ∨ j = 3 := by omega
                        rcases this with rfl | rfl | rfl | rfl
                        · exact na
                        · exact nb
                        · exact nc
                        · exact nd) (fun j h1 h2 => by omega) (by omega) (by omega)⟩
              · refine Or.inr ⟨?_, fun ⟨p, hp⟩ => nd ((un p hp).2.2.2.2.2.2.1 ed)⟩
                simp only [if_neg eb, if_neg ec, if_neg ed, if_pos nb, if_pos nc, if_neg nd, show (1 : Int) + 1 + 1 + 1 = 4 from rfl, if_pos (show r32 4 from by decide), show ¬ (4 : Int) < 2 from by decide, show ¬ (4 : Int) < 3 from by decide, show ¬ (4 : Int) < 4 from by decide, show ¬ (1 : Int) = 0 from by decide, if_true, if_false]
          · refine Or.inr ⟨?_, fun ⟨p, hp⟩ => nc ((un p hp).2.2.2.2.2.1 ec)⟩
            by_cases ed : d = -1
            · simp only [if_neg eb, if_neg ec, if_pos ed, if_pos nb, if_neg nc, show (1 : Int) + 1 + 1 + 0 = 3 from rfl, if_pos (show r32 3 from by decide), show ¬ (3 : Int) < 2 from by decide, show ¬ (3 : Int) < 3 from by decide, show ¬ (1 : Int) = 0 from by decide, if_true, if_false]
            · simp only [if_neg eb, if_neg ec, if_neg ed, if_pos nb, if_neg nc, show (1 : Int) + 1 + 1 + 1 = 4 from rfl, if_pos (show r32 4 from by decide), show ¬ (4 : Int) < 2 from by decide, show ¬ (4 : Int) < 3 from by decide, show ¬ (1 : Int) = 0 from by decide, if_true, if_false]
      · refine Or.inr ⟨?_, fun ⟨p, hp⟩ => nb ((un p hp).2.2.2.2.1 eb)⟩
        have : ∀ z : Int, 0 ≤ z → z ≤ 2 → r32 (1 + 1 + z) ∧ ¬ (1 + 1 + z < 2) := fun z h1 h2 => ⟨⟨by omega, by omega⟩, by omega⟩
        by_cases ec : c = -1
        · by_cases ed : d = -1
          · simp only [if_neg eb, if_pos ec, if_pos ed, if_neg nb, show (1 : Int) + 1 + 0 + 0 = 2 from rfl, if_pos (show r32 2 from by decide), show ¬ (2 : Int) < 2 from by decide, if_true, if_false]
          · simp only [if_neg eb, if_pos ec, if_neg ed, if_neg nb, show (1 : Int) + 1 + 0 + 1 = 3 from rfl, if_pos (show r32 3 from by decide), show ¬ (3 : Int) < 2 from by decide, if_true, if_false]
        · by_cases ed : d = -1
          · simp only [if_neg eb, if_neg ec, if_pos ed, if_neg nb, show (1 : Int) + 1 + 1 + 0 = 3 from rfl, if_pos (show r32 3 from by decide), show ¬ (3 : Int) < 2 from by decide, if_true, if_false]
          · simp only [if_neg eb, if_neg ec, if_neg ed, if_neg nb, show (1 : Int) + 1 + 1 + 1 = 4 from rfl, if_pos (show r32 4 from by decide), show ¬ (4 : Int) < 2 from by decide, if_true, if_false]
  · refine Or.inr ⟨?_, fun ⟨p, hp⟩ => na (un p hp).1⟩
    rw [if_neg na, if_pos rfl]
