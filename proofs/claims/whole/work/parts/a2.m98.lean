-- a law under way: how both look at a token where a ONE or an ASK may begin
theorem isW {x : Int} {u : Mm} : F_M_isWord x u = some (if u 200 17 = 1 ∧ u 200 18 = x then 1 else 0) := by
  unfold F_M_isWord
  by_cases a : u 200 17 = 1
  · by_cases c : u 200 18 = x
    · rw [if_pos a, if_pos c, if_pos ⟨a, c⟩]
    · rw [if_pos a, if_neg c, if_neg (fun q => c q.2)]
  · rw [if_neg a, if_neg (fun q => a q.1)]
theorem isS {x : Int} {u : Mm} : F_M_isSign x u = some (if u 200 17 = 3 ∧ u 200 18 = x then 1 else 0) := by
  unfold F_M_isSign
  by_cases a : u 200 17 = 3
  · by_cases c : u 200 18 = x
    · rw [if_pos a, if_pos c, if_pos ⟨a, c⟩]
    · rw [if_pos a, if_neg c, if_neg (fun q => c q.2)]
  · rw [if_neg a, if_neg (fun q => a q.1)]
/-- what becomes of a word that opens -/
def jO (v5 : Int) (σ : Mm) : Option (Int × Mm) :=
  b1 (F_R_openingBy v5 σ) fun v19 =>
  if v19 = (-1) then
    b1M (F_R_fail 1 σ) fun v20 s20 =>
    some (v20, s20)
  else
    if σ 90 11 < 8 then
      if r32 ((σ 90 11) + 1) then
        bindM (st2 σ 90 11 ((σ 90 11) + 1)) fun s23 =>
        bindM ((if v19 < 20017 then 0 else 1 : Int)) fun v24 =>
        if r32 ((s23 90 12) + v24) then
          bindM (st2 s23 90 12 ((s23 90 12) + v24)) fun s27 =>
          b0M (F_R_hold v19 s27) fun s28 =>
          b0M (F_R_step  s28) fun s29 =>
          bindM (
            if s29 90 7 = 40 then
              b0M (F_R_step  s29) fun s31 =>
              some (0, s31)
            else
              b1M (F_R_fail 1 s29) fun v32 s32 =>
              some (v32, s32)) fun J30 =>
          if v19 = 20018 then
            J30
          else
            if v19 = 20019 then
              J30
            else
              some (0, s29)
        else none
      else none
    else
      b1M (F_R_fail 3 σ) fun v33 s33 =>
      some (v33, s33)
/-- what becomes of a NAME -/
def jN (v8 : Int) (σ : Mm) : Option (Int × Mm) :=
  bindM (
    if 0 ≤ σ 90 15 ∧ IsO 0 9 (σ 90 15).toNat then
      if r32 (10000 + v8) then
        b0M (F_T_emit ((σ 90 15).toNat) (10000 + v8) σ) fun s12 =>
        b0M (F_R_step  s12) fun s14 =>
        some (1, s14)
      else none
    else none) fun J10 =>
  if v8 = 0 then
    J10
  else
    bindM ((if v8 < 9 then 0 else 1 : Int)) fun v15 =>
    bindM ((if σ 90 14 = 2 then 1 else 0 : Int)) fun v16 =>
    if v15 = v16 then
      J10
    else
      b1M (F_R_fail 5 σ) fun v17 s17 =>
      some (v17, s17)
theorem rdo_open {s : Mm} {x : Int} (h7 : s 90 7 = x) (h2 : ¬ x = 2) (hr : -1000 ≤ x ∧ x ≤ 1000) (hv : ¬ x - 300 = 9) (hv2 : x - 300 < 15 ∨ 26 < x - 300) : F_R_readOne s = jO (x - 300) s := by
  unfold F_R_readOne jO
  rw [h7, if_neg h2, bindM_eq, if_pos (show r32 (x - 300) from ⟨by omega, by omega⟩), bindM_eq, if_neg hv, bindM_eq]
  by_cases q : x - 300 < 15
  · rw [if_pos q]
  · rw [if_neg q, if_pos (show 26 < x - 300 by omega)]
theorem rdo_name {s : Mm} {x v8 : Int} (h7 : s 90 7 = x) (hv : (x = 309 ∧ v8 = 0) ∨ (315 ≤ x ∧ x ≤ 326 ∧ v8 = x - 314)) : F_R_readOne s = jN v8 s := by
  have e : (if x - 300 = 9 then 0 else ((x - 300 - 15) + 1) : Int) = v8 := by
    rcases hv with ⟨a, c⟩ | ⟨a, a2, c⟩
    · rw [if_pos (by omega), c]
    · rw [if_neg (by omega), c]; omega
  unfold F_R_readOne jN
  rw [h7, if_neg (show ¬ x = 2 by omega), bindM_eq, if_pos (show r32 (x - 300) from ⟨by omega, by omega⟩), bindM_eq, e, bindM_eq, if_pos (show r32 v8 from ⟨by omega, by omega⟩)]
  rcases hv with ⟨a, c⟩ | ⟨a, a2, c⟩
  · rw [if_pos (show x - 300 = 9 by omega)]
  · rw [if_neg (show ¬ x - 300 = 9 by omega), bindM_eq, if_neg (show ¬ x - 300 < 15 by omega), if_neg (show ¬ 26 < x - 300 by omega)]
theorem opb_par {s : Mm} {v : Int} (h : s 90 7 = 40) : F_R_openingBy v s = some 20017 := by
  unfold F_R_openingBy
  rw [if_pos h]
theorem opb_neg {s : Mm} {v : Int} (h : s 90 7 = 45) : F_R_openingBy v s = some 20015 := by
  unfold F_R_openingBy
  rw [if_neg (by omega), if_pos h]
theorem opb_two {s : Mm} {v : Int} (h : v = 13 ∨ v = 14) (h1 : ¬ s 90 7 = 40) (h2 : ¬ s 90 7 = 45) : F_R_openingBy v s = some (if v = 13 then 20018 else 20019) := by
  unfold F_R_openingBy
  rw [if_neg h1, if_neg h2]
  by_cases c : v = 13
  · rw [if_pos c, if_pos c]
  · rw [if_neg c, if_neg c, if_pos (by omega)]
theorem opb_none {s : Mm} {T S : Nat} {w cs : List Int} {v : Int} (hL : LwC s T w cs S) (h : ¬ v = 13 ∧ ¬ v = 14 ∧ ¬ v = 12) (h1 : ¬ s 90 7 = 40) (h2 : ¬ s 90 7 = 45) : F_R_openingBy v s = some (-1) := by
  unfold F_R_openingBy
  rw [if_neg h1, if_neg h2, if_neg h.1, if_neg h.2.1, outer_ok hL, b1_some]
  simp only [bindM_eq, if_neg h.2.2, ite_self]
theorem opb_not {s : Mm} {T S : Nat} {w cs : List Int} (hL : LwC s T w cs S) (h1 : ¬ s 90 7 = 40) (h2 : ¬ s 90 7 = 45) (hl : s 90 14 = 0) (hw : w.headD (-1) = -1 ∨ w.headD (-1) = 20011 ∨ w.headD (-1) = 20012 ∨ w.headD (-1) = 20016) : F_R_openingBy 12 s = some 20016 := by
  unfold F_R_openingBy
  rw [if_neg h1, if_neg h2, if_neg (by decide), if_neg (by decide), outer_ok hL, b1_some, hl]
  rcases hw with q | q | q | q
  all_goals
    rw [q]
    rfl
theorem opb_nn {s : Mm} {T S : Nat} {w cs : List Int} (hL : LwC s T w cs S) (h1 : ¬ s 90 7 = 40) (h2 : ¬ s 90 7 = 45) (hw : ¬ s 90 14 = 0 ∨ ¬ (w.headD (-1) = -1 ∨ w.headD (-1) = 20011 ∨ w.headD (-1) = 20012 ∨ w.headD (-1) = 20016)) : F_R_openingBy 12 s = some (-1) := by
  unfold F_R_openingBy
  rw [if_neg h1, if_neg h2, if_neg (by decide), if_neg (by decide), outer_ok hL, b1_some]
  by_cases hl : s 90 14 = 0
  · have hw2 : ¬ (w.headD (-1) = -1 ∨ w.headD (-1) = 20011 ∨ w.headD (-1) = 20012 ∨ w.headD (-1) = 20016) := by
      rcases hw with q | q
      · exact absurd hl q
      · exact q
    rw [bindM_eq, bindM_eq, if_neg (fun q => hw2 (Or.inl q)), if_neg (fun q => hw2 (Or.inr (Or.inl q))), if_neg (fun q => hw2 (Or.inr (Or.inr (Or.inl q)))), if_neg (fun q => hw2 (Or.inr (Or.inr (Or.inr q))))]
    show (if (12 : Int) = 12 then (if s 90 14 = 0 then (if (0 : Int) = 0 then some (-1) else some 20016) else some (-1)) else some (-1)) = some (-1)
    rw [if_pos rfl, if_pos hl, if_pos rfl]
  · simp only [bindM_eq, if_neg hl, ite_self]
/-- the reference where a ONE may begin -/
theorem beg_err {u : Mm} (h19 : u 200 19 = 0) (h2 : ¬ u 200 17 = 2) (hn : F_M_nameNow u = some (-1)) (h13 : ¬ (u 200 17 = 1 ∧ u 200 18 = 13)) (h14 : ¬ (u 200 17 = 1 ∧ u 200 18 = 14)) (h40 : ¬ (u 200 17 = 3 ∧ u 200 18 = 40)) (h45 : ¬ (u 200 17 = 3 ∧ u 200 18 = 45)) : F_M_begins u = some (st2 (st2 u 200 19 1) 200 20 (u 200 16)) := by
  unfold F_M_begins
  rw [hn, b1_some, if_neg h2, if_pos rfl, isW, b1_some, if_neg h13, bindM_eq, if_pos rfl, isW, b1_some, if_neg h14, if_pos rfl, isS, b1_some, if_neg h40, if_pos rfl, isS, b1_some, if_neg h45, if_pos rfl, err_M h19, b0M_some]
theorem beg_neg {u : Mm} (h17 : u 200 17 = 3) (h18 : u 200 18 = 45) : F_M_begins u = b1M (F_M_opensSign 7 u) fun v14 s14 => some s14 := by
  have hn : F_M_nameNow u = some (-1) := by unfold F_M_nameNow; rw [if_neg (by omega)]
  unfold F_M_begins
  rw [hn, b1_some, if_neg (show ¬ u 200 17 = 2 by omega), if_pos rfl, isW, b1_some, if_neg (show ¬ (u 200 17 = 1 ∧ u 200 18 = 13) by omega), bindM_eq, if_pos rfl, isW, b1_some, if_neg (show ¬ (u 200 17 = 1 ∧ u 200 18 = 14) by omega), if_pos rfl, isS, b1_some, if_neg (show ¬ (u 200 17 = 3 ∧ u 200 18 = 40) by omega), if_pos rfl, isS, b1_some, if_pos (show u 200 17 = 3 ∧ u 200 18 = 45 from ⟨h17, h18⟩), if_neg ne10]
theorem beg_par {u : Mm} (h17 : u 200 17 = 3) (h18 : u 200 18 = 40) : F_M_begins u = b1M (F_M_opensSign 6 u) fun v14 s14 => some s14 := by
  have hn : F_M_nameNow u = some (-1) := by unfold F_M_nameNow; rw [if_neg (by omega)]
  unfold F_M_begins
  rw [hn, b1_some, if_neg (show ¬ u 200 17 = 2 by omega), if_pos rfl, isW, b1_some, if_neg (show ¬ (u 200 17 = 1 ∧ u 200 18 = 13) by omega), bindM_eq, if_pos rfl, isW, b1_some, if_neg (show ¬ (u 200 17 = 1 ∧ u 200 18 = 14) by omega), if_pos rfl, isS, b1_some, if_pos (show u 200 17 = 3 ∧ u 200 18 = 40 from ⟨h17, h18⟩), if_neg ne10]
theorem beg_two {u : Mm} (h17 : u 200 17 = 1) (h18 : u 200 18 = 13 ∨ u 200 18 = 14) : F_M_begins u = b0M (F_M_opensTwo (if u 200 18 = 13 then 8 else 9) u) fun s9 => some s9 := by
  have hn : F_M_nameNow u = some (-1) := by unfold F_M_nameNow; rw [if_pos h17, if_neg (by omega), if_pos (by omega)]
  unfold F_M_begins
  rw [hn, b1_some, if_neg (show ¬ u 200 17 = 2 by omega), if_pos rfl, isW, b1_some, bindM_eq, bindM_eq]
  by_cases c : u 200 18 = 13
  · rw [if_pos (show u 200 17 = 1 ∧ u 200 18 = 13 from ⟨h17, c⟩), if_neg ne10]
  · rw [if_neg (show ¬ (u 200 17 = 1 ∧ u 200 18 = 13) from fun q => c q.2), if_pos rfl, isW, b1_some, if_pos (show u 200 17 = 1 ∧ u 200 18 = 14 from ⟨h17, by omega⟩), if_neg ne10]
theorem hd_t {b : Int} {g : List Int} (h : Gk b g true) : g.headD (-1) = -1 ∨ g.headD (-1) = 20011 ∨ g.headD (-1) = 20012 ∨ g.headD (-1) = 20016 := by
  match g, h with
  | [], _ => exact Or.inl rfl
  | x :: g, h =>
    rw [Gk] at h
    show x = -1 ∨ x = 20011 ∨ x = 20012 ∨ x = 20016
    omega
theorem hd_f {g : List Int} (h : Gk 2 g false) (hh : ∀ h, g ≠ 1 :: h) : ¬ ((stk g).headD (-1) = -1 ∨ (stk g).headD (-1) = 20011 ∨ (stk g).headD (-1) = 20012 ∨ (stk g).headD (-1) = 20016) := by
  match g, h, hh with
  | [], h, _ => exact absurd (show false = decide ((2 : Int) = 2) from h) (by decide)
  | x :: g, h, hh =>
    have c : ¬ x = 1 := fun q => hh g (by rw [q])
    rw [stk_n c]
    rw [Gk] at h
    show ¬ (x = -1 ∨ x = 20011 ∨ x = 20012 ∨ x = 20016)
    omega
