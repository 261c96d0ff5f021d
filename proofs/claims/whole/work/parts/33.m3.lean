/-! the reference's laws -/
def encO (c : Int) : Int := if c < 10000 then 400 else if c < 20000 then 401 else if c = 20000 then 42 else if c = 20001 then 47 else if c = 20002 then 37 else if c = 20003 then 43 else if c = 20004 then 45 else if c = 20005 then 60 else if c = 20006 then 300 else if c = 20007 then 62 else if c = 20008 then 301 else if c = 20009 then 61 else if c = 20010 then 35 else if c = 20011 then 406 else if c = 20012 then 407 else if c = 20013 then 404 else if c = 20014 then 403 else if c = 20015 then 402 else 405
def MCode (f g : Nat → Int) : Nat → List Int → Prop
  | i, [] => f i = 408
  | i, c :: cs => f i = encO c ∧ (c < 20000 → g i = if c < 10000 then c else c - 10000) ∧ MCode f g (i + 1) cs
theorem lcmp_eq {x y : Int} : lcmpI x y = 0 ↔ x = y := by unfold lcmpI; repeat' split <;> omega
theorem lcmp_le {x y : Int} : lcmpI x y ≤ 0 ↔ x ≤ y := by unfold lcmpI; repeat' split <;> omega
theorem lcmp_ge {x y : Int} : 0 ≤ lcmpI x y ↔ y ≤ x := by unfold lcmpI; repeat' split <;> omega
theorem lcmp_lt {x y : Int} : lcmpI x y < 0 ↔ x < y := by unfold lcmpI; repeat' split <;> omega
theorem lcmp_gt {x y : Int} : 0 < lcmpI x y ↔ y < x := by unfold lcmpI; repeat' split <;> omega
theorem bound_eq (x : Int) : F_M_bound x = some (max (-1000000) (min 1000000 x)) := by
  unfold F_M_bound
  simp only [lcmp_le, lcmp_ge]
  repeat' split
  all_goals (congr 1; omega)
theorem worked_n {c a b : Int} (ha : -100000000 ≤ a ∧ a ≤ 100000000) (hb : -100000000 ≤ b ∧ b ≤ 100000000) (hc : 20000 ≤ c) (hc2 : c ≤ 20014) (h2 : ¬ (c = 20011 ∨ c = 20012)) : F_M_worked (encO c) a b = some (comb c a b) := by
  have d1 := tdiv_le (y := b) 100000000 ha
  have d2 := tmod_le (y := b) 100000000 ha
  have d3 := mul_r64 ha hb
  have key : c = 20000 ∨ c = 20001 ∨ c = 20002 ∨ c = 20003 ∨ c = 20004 ∨ c = 20005 ∨ c = 20006 ∨ c = 20007 ∨ c = 20008 ∨ c = 20009 ∨ c = 20010 ∨ c = 20013 ∨ c = 20014 := by omega
  unfold F_M_worked
  simp only [lcmp_eq, lcmp_le, lcmp_ge, lcmp_lt, lcmp_gt, bound_eq]
  rcases key with rfl | rfl | rfl | rfl | rfl | rfl | rfl | rfl | rfl | rfl | rfl | rfl | rfl
  all_goals (simp (config := { decide := true }) only [encO, comb, if_true, if_false])
  · rw [if_pos d3]; rfl
  · by_cases e : b = 0
    · simp only [e, if_true]
    · rw [if_neg e, if_neg e, if_pos e, if_pos ⟨by omega, by omega⟩]
  · by_cases e : b = 0
    · simp only [e, if_true]
    · rw [if_neg e, if_neg e, if_pos e, if_pos ⟨by omega, by omega⟩]
  · rw [if_pos ⟨by omega, by omega⟩]; rfl
  · rw [if_pos ⟨by omega, by omega⟩]; rfl
  all_goals (repeat' split)
  all_goals first | rfl | (congr 1; omega) | (exfalso; omega)
theorem worked_b {c a b : Int} (ha : a = 0 ∨ a = 1) (hb : b = 0 ∨ b = 1) (h2 : c = 20011 ∨ c = 20012) : F_M_worked (encO c) a b = some (comb c a b) := by
  rcases h2 with rfl | rfl <;> rcases ha with rfl | rfl <;> rcases hb with rfl | rfl <;> decide +kernel
