-- a law under way: the reference behind a ONE
def goJ2 (v1 : Int) (σ : Mm) : Option (Mm) :=
  bindM (
    bindM (
      bindM (
        bindM (
          if v1 = 5 then
            b0M (F_M_works 3 σ) fun s7 =>
            if 0 ≤ s7 200 22 ∧ s7 200 22 < 41 then
              bindM (s7 213 ((s7 200 22).toNat)) fun v8 =>
              if r32 ((s7 200 22) - 1) then
                bindM (st2 s7 200 22 ((s7 200 22) - 1)) fun s11 =>
                b0M (F_M_emits v8 0 s11) fun s12 =>
                b0M (F_M_askIsOver  s12) fun s13 =>
                some s13
              else none
            else none
          else
            bindM (
              b0M (F_M_errs 1 σ) fun s15 =>
              some s15) fun J14 =>
            if v1 = 1 then
              b1 (F_M_isSign 59 σ) fun v16 =>
              if v16 = 0 then
                J14
              else
                b0M (F_M_clauseIsOver  σ) fun s17 =>
                some s17
            else
              J14) fun J6 =>
        if v1 = 4 then
          if σ 200 17 = 3 then
            b1 (F_M_isAsking (σ 200 18)) fun v18 =>
            if v18 = 0 then
              J6
            else
              b0M (F_M_works 3 σ) fun s19 =>
              if 0 ≤ s19 200 22 ∧ s19 200 22 < 41 then
                bindM (st2 s19 213 ((s19 200 22).toNat) (s19 200 18)) fun s20 =>
                if 0 ≤ (s20 200 22) - 1 ∧ (s20 200 22) - 1 < 40 then
                  bindM (st2 s20 212 (((s20 200 22) - 1).toNat) 5) fun s21 =>
                  b0M (F_M_next  s21) fun s22 =>
                  bindM (st2 s22 200 28 1) fun s24 =>
                  some s24
                else none
              else none
          else
            J6
        else
          J6) fun J5 =>
      bindM (
        b1 (F_M_isSign 41 σ) fun v26 =>
        if v26 = 0 then
          J5
        else
          b0M (F_M_works 3 σ) fun s27 =>
          if r32 ((s27 200 22) - 1) then
            bindM (st2 s27 200 22 ((s27 200 22) - 1)) fun s30 =>
            if r32 ((s30 200 21) - 1) then
              bindM (st2 s30 200 21 ((s30 200 21) - 1)) fun s33 =>
              bindM ((if v1 = 10 then 404 else 403 : Int)) fun v34 =>
              b0M (F_M_emits v34 0 s33) fun s35 =>
              b0M (F_M_next  s35) fun s36 =>
              b0M (F_M_oneIsOver  s36) fun s37 =>
              some s37
            else none
          else none) fun J25 =>
      if v1 = 10 then
        J25
      else
        if v1 = 11 then
          J25
        else
          J5) fun J4 =>
    bindM (
      b1 (F_M_isSign 44 σ) fun v39 =>
      if v39 = 0 then
        J4
      else
        b0M (F_M_works 3 σ) fun s40 =>
        bindM ((if v1 = 8 then 10 else 11 : Int)) fun v41 =>
        if 0 ≤ (s40 200 22) - 1 ∧ (s40 200 22) - 1 < 40 then
          bindM (st2 s40 212 (((s40 200 22) - 1).toNat) v41) fun s42 =>
          b0M (F_M_next  s42) fun s43 =>
          bindM (st2 s43 200 28 1) fun s45 =>
          some s45
        else none) fun J38 =>
    if v1 = 8 then
      J38
    else
      if v1 = 9 then
        J38
      else
        J4) fun J3 =>
  if v1 = 6 then
    b1 (F_M_isSign 41 σ) fun v46 =>
    if v46 = 0 then
      J3
    else
      b0M (F_M_works 3 σ) fun s47 =>
      if r32 ((s47 200 22) - 1) then
        bindM (st2 s47 200 22 ((s47 200 22) - 1)) fun s50 =>
        if r32 ((s50 200 21) - 1) then
          bindM (st2 s50 200 21 ((s50 200 21) - 1)) fun s53 =>
          b0M (F_M_next  s53) fun s54 =>
          b0M (F_M_oneIsOver  s54) fun s55 =>
          some s55
        else none
      else none
  else
    J3
def gP (σ : Mm) : Option (Mm) :=
  b0M (F_M_works 3 σ) fun s47 =>
  if r32 ((s47 200 22) - 1) then
    bindM (st2 s47 200 22 ((s47 200 22) - 1)) fun s50 =>
    if r32 ((s50 200 21) - 1) then
      bindM (st2 s50 200 21 ((s50 200 21) - 1)) fun s53 =>
      b0M (F_M_next  s53) fun s54 =>
      b0M (F_M_oneIsOver  s54) fun s55 =>
      some s55
    else none
  else none
def gC (v1 : Int) (σ : Mm) : Option (Mm) :=
  b0M (F_M_works 3 σ) fun s40 =>
  bindM ((if v1 = 8 then 10 else 11 : Int)) fun v41 =>
  if 0 ≤ (s40 200 22) - 1 ∧ (s40 200 22) - 1 < 40 then
    bindM (st2 s40 212 (((s40 200 22) - 1).toNat) v41) fun s42 =>
    b0M (F_M_next  s42) fun s43 =>
    bindM (st2 s43 200 28 1) fun s45 =>
    some s45
  else none
def gT (v1 : Int) (σ : Mm) : Option (Mm) :=
  b0M (F_M_works 3 σ) fun s27 =>
  if r32 ((s27 200 22) - 1) then
    bindM (st2 s27 200 22 ((s27 200 22) - 1)) fun s30 =>
    if r32 ((s30 200 21) - 1) then
      bindM (st2 s30 200 21 ((s30 200 21) - 1)) fun s33 =>
      bindM ((if v1 = 10 then 404 else 403 : Int)) fun v34 =>
      b0M (F_M_emits v34 0 s33) fun s35 =>
      b0M (F_M_next  s35) fun s36 =>
      b0M (F_M_oneIsOver  s36) fun s37 =>
      some s37
    else none
  else none
def gA (σ : Mm) : Option (Mm) :=
  b0M (F_M_works 3 σ) fun s19 =>
  if 0 ≤ s19 200 22 ∧ s19 200 22 < 41 then
    bindM (st2 s19 213 ((s19 200 22).toNat) (s19 200 18)) fun s20 =>
    if 0 ≤ (s20 200 22) - 1 ∧ (s20 200 22) - 1 < 40 then
      bindM (st2 s20 212 (((s20 200 22) - 1).toNat) 5) fun s21 =>
      b0M (F_M_next  s21) fun s22 =>
      bindM (st2 s22 200 28 1) fun s24 =>
      some s24
    else none
  else none
def gRt (σ : Mm) : Option (Mm) :=
  b0M (F_M_works 3 σ) fun s7 =>
  if 0 ≤ s7 200 22 ∧ s7 200 22 < 41 then
    bindM (s7 213 ((s7 200 22).toNat)) fun v8 =>
    if r32 ((s7 200 22) - 1) then
      bindM (st2 s7 200 22 ((s7 200 22) - 1)) fun s11 =>
      b0M (F_M_emits v8 0 s11) fun s12 =>
      b0M (F_M_askIsOver  s12) fun s13 =>
      some s13
    else none
  else none
def arM (u : Mm) : Prop := u 200 17 = 3 ∧ (u 200 18 = 43 ∨ u 200 18 = 45 ∨ u 200 18 = 42 ∨ u 200 18 = 47 ∨ u 200 18 = 37)
theorem go_na {u : Mm} {f : Int} (h : F_M_top u = some f) (ha : ¬ arM u) : F_M_goesOn u = goJ2 f u := by
  unfold F_M_goesOn goJ2
  rw [h, b1_some, bindM_eq]
  by_cases c : u 200 17 = 3
  · have n : ¬ (u 200 18 = 43 ∨ u 200 18 = 45 ∨ u 200 18 = 42 ∨ u 200 18 = 47 ∨ u 200 18 = 37) := fun q => ha ⟨c, q⟩
    rw [if_pos c, bindM_eq, if_neg (show ¬ u 200 18 = 43 by omega), if_neg (show ¬ u 200 18 = 45 by omega), if_neg (show ¬ u 200 18 = 42 by omega), if_neg (show ¬ u 200 18 = 47 by omega), if_neg (show ¬ u 200 18 = 37 by omega)]
  · rw [if_neg c]
theorem go_ar {u : Mm} {f : Int} (h : F_M_top u = some f) (ha : arM u) : F_M_goesOn u = b0M (F_M_waitsFor (u 200 18) u) fun s57 => bindM (st2 s57 200 28 1) fun s59 => some s59 := by
  obtain ⟨h3, ha⟩ := ha
  unfold F_M_goesOn
  rw [h, b1_some, bindM_eq, if_pos h3, bindM_eq]
  by_cases c1 : u 200 18 = 43
  · rw [if_pos c1]
  · rw [if_neg c1]
    by_cases c2 : u 200 18 = 45
    · rw [if_pos c2]
    · rw [if_neg c2]
      by_cases c3 : u 200 18 = 42
      · rw [if_pos c3]
      · rw [if_neg c3]
        by_cases c4 : u 200 18 = 47
        · rw [if_pos c4]
        · rw [if_neg c4, if_pos (by omega)]
theorem go6 {u : Mm} (h : u 200 17 = 3 ∧ u 200 18 = 41) : goJ2 6 u = gP u := by
  unfold goJ2 gP
  rw [bindM_eq, if_pos rfl, isS, b1_some, if_pos h, if_neg ne10]
theorem go8 {u : Mm} (h : u 200 17 = 3 ∧ u 200 18 = 44) : goJ2 8 u = gC 8 u := by
  unfold goJ2 gC
  rw [bindM_eq, if_neg (show ¬ (8 : Int) = 6 by decide), bindM_eq, bindM_eq, if_pos rfl, isS, b1_some, if_pos h, if_neg ne10]
theorem go9 {u : Mm} (h : u 200 17 = 3 ∧ u 200 18 = 44) : goJ2 9 u = gC 9 u := by
  unfold goJ2 gC
  rw [bindM_eq, if_neg (show ¬ (9 : Int) = 6 by decide), bindM_eq, bindM_eq, if_neg (show ¬ (9 : Int) = 8 by decide), if_pos rfl, isS, b1_some, if_pos h, if_neg ne10]
theorem go10 {u : Mm} (h : u 200 17 = 3 ∧ u 200 18 = 41) : goJ2 10 u = gT 10 u := by
  unfold goJ2 gT
  rw [bindM_eq, if_neg (show ¬ (10 : Int) = 6 by decide), bindM_eq, bindM_eq, if_neg (show ¬ (10 : Int) = 8 by decide), if_neg (show ¬ (10 : Int) = 9 by decide), bindM_eq, bindM_eq, if_pos rfl, isS, b1_some, if_pos h, if_neg ne10]
theorem go11 {u : Mm} (h : u 200 17 = 3 ∧ u 200 18 = 41) : goJ2 11 u = gT 11 u := by
  unfold goJ2 gT
  rw [bindM_eq, if_neg (show ¬ (11 : Int) = 6 by decide), bindM_eq, bindM_eq, if_neg (show ¬ (11 : Int) = 8 by decide), if_neg (show ¬ (11 : Int) = 9 by decide), bindM_eq, bindM_eq, if_neg (show ¬ (11 : Int) = 10 by decide), if_pos rfl, isS, b1_some, if_pos h, if_neg ne10]
theorem go4 {u : Mm} (h3 : u 200 17 = 3) (h : F_M_isAsking (u 200 18) = some 1) : goJ2 4 u = gA u := by
  unfold goJ2 gA
  rw [bindM_eq, if_neg (show ¬ (4 : Int) = 6 by decide), bindM_eq, bindM_eq, if_neg (show ¬ (4 : Int) = 8 by decide), if_neg (show ¬ (4 : Int) = 9 by decide), bindM_eq, bindM_eq, if_neg (show ¬ (4 : Int) = 10 by decide), if_neg (show ¬ (4 : Int) = 11 by decide), bindM_eq, if_pos (show (4 : Int) = 4 from rfl), if_pos h3, h, b1_some, if_neg ne10]
theorem go5 {u : Mm} : goJ2 5 u = gRt u := by
  unfold goJ2 gRt
  rw [bindM_eq, if_neg (show ¬ (5 : Int) = 6 by decide), bindM_eq, bindM_eq, if_neg (show ¬ (5 : Int) = 8 by decide), if_neg (show ¬ (5 : Int) = 9 by decide), bindM_eq, bindM_eq, if_neg (show ¬ (5 : Int) = 10 by decide), if_neg (show ¬ (5 : Int) = 11 by decide), bindM_eq, if_neg (show ¬ (5 : Int) = 4 by decide), if_pos (show (5 : Int) = 5 from rfl)]
theorem go1 {u : Mm} (h : u 200 17 = 3 ∧ u 200 18 = 59) : goJ2 1 u = b0M (F_M_clauseIsOver u) fun s17 => some s17 := by
  unfold goJ2
  rw [bindM_eq, if_neg (show ¬ (1 : Int) = 6 by decide), bindM_eq, bindM_eq, if_neg (show ¬ (1 : Int) = 8 by decide), if_neg (show ¬ (1 : Int) = 9 by decide), bindM_eq, bindM_eq, if_neg (show ¬ (1 : Int) = 10 by decide), if_neg (show ¬ (1 : Int) = 11 by decide), bindM_eq, if_neg (show ¬ (1 : Int) = 4 by decide), if_neg (show ¬ (1 : Int) = 5 by decide), bindM_eq, if_pos (show (1 : Int) = 1 from rfl), isS, b1_some, if_pos h, if_neg ne10]
/-- what stands behind all of them: a FAULT -/
theorem go_J5 {u : Mm} {f : Int} (h19 : u 200 19 = 0) (h5 : ¬ f = 5) (h4 : f = 4 → ¬ (u 200 17 = 3 ∧ F_M_isAsking (u 200 18) = some 1)) (h1 : f = 1 → ¬ (u 200 17 = 3 ∧ u 200 18 = 59)) (h6 : f = 6 → ¬ (u 200 17 = 3 ∧ u 200 18 = 41)) (h8 : f = 8 ∨ f = 9 → ¬ (u 200 17 = 3 ∧ u 200 18 = 44)) (h10 : f = 10 ∨ f = 11 → ¬ (u 200 17 = 3 ∧ u 200 18 = 41)) (hA : F_M_isAsking (u 200 18) = some 1 ∨ F_M_isAsking (u 200 18) = some 0) : goJ2 f u = some (st2 (st2 u 200 19 1) 200 20 (u 200 16)) := by
  have e := err_M (f := 1) h19
  generalize st2 (st2 u 200 19 1) 200 20 (u 200 16) = w at *
  have J14 : ∀ X : Option Mm, (if f = 1 then b1 (F_M_isSign 59 u) fun v16 => if v16 = 0 then (b0M (F_M_errs 1 u) fun s15 => some s15) else X else (b0M (F_M_errs 1 u) fun s15 => some s15)) = some w := fun X => by
    rw [e, b0M_some, isS, b1_some]
    by_cases c : f = 1
    · rw [if_pos c, if_neg (h1 c), if_pos rfl]
    · rw [if_neg c]
  unfold goJ2
  rw [bindM_eq, bindM_eq, bindM_eq, bindM_eq, bindM_eq, bindM_eq, if_neg h5, bindM_eq, J14]
  have J6 : ∀ X : Option Mm, (if f = 4 then if u 200 17 = 3 then b1 (F_M_isAsking (u 200 18)) fun v18 => if v18 = 0 then some w else X else some w else some w) = some w := fun X => by
    by_cases c : f = 4
    · by_cases c3 : u 200 17 = 3
      · rcases hA with q | q
        · exact absurd ⟨c3, q⟩ (h4 c)
        · rw [if_pos c, if_pos c3, q, b1_some, if_pos rfl]
      · rw [if_pos c, if_neg c3]
    · rw [if_neg c]
  rw [J6]
  have J5 : ∀ X : Option Mm, (if f = 10 then (b1 (F_M_isSign 41 u) fun v26 => if v26 = 0 then some w else X) else if f = 11 then (b1 (F_M_isSign 41 u) fun v26 => if v26 = 0 then some w else X) else some w) = some w := fun X => by
    rw [isS, b1_some]
    by_cases c : f = 10
    · rw [if_pos c, if_neg (h10 (Or.inl c)), if_pos rfl]
    · by_cases c2 : f = 11
      · rw [if_neg c, if_pos c2, if_neg (h10 (Or.inr c2)), if_pos rfl]
      · rw [if_neg c, if_neg c2]
  rw [J5]
  have J4 : ∀ X : Option Mm, (if f = 8 then (b1 (F_M_isSign 44 u) fun v39 => if v39 = 0 then some w else X) else if f = 9 then (b1 (F_M_isSign 44 u) fun v39 => if v39 = 0 then some w else X) else some w) = some w := fun X => by
    rw [isS, b1_some]
    by_cases c : f = 8
    · rw [if_pos c, if_neg (h8 (Or.inl c)), if_pos rfl]
    · by_cases c2 : f = 9
      · rw [if_neg c, if_pos c2, if_neg (h8 (Or.inr c2)), if_pos rfl]
      · rw [if_neg c, if_neg c2]
  rw [J4]
  by_cases c : f = 6
  · rw [if_pos c, isS, b1_some, if_neg (h6 c), if_pos rfl]
  · rw [if_neg c]
theorem ask_in {x : Int} : F_M_isAsking x = some (if x = 60 ∨ x = 62 ∨ x = 61 ∨ x = 35 ∨ x = 300 ∨ x = 301 then 1 else 0) := by
  unfold F_M_isAsking
  by_cases a : x = 60
  · rw [if_pos a, if_pos (by omega)]
  · by_cases b : x = 62
    · rw [if_neg a, if_pos b, if_pos (by omega)]
    · by_cases c : x = 61
      · rw [if_neg a, if_neg b, if_pos c, if_pos (by omega)]
      · by_cases d : x = 35
        · rw [if_neg a, if_neg b, if_neg c, if_pos d, if_pos (by omega)]
        · by_cases e : x = 300
          · rw [if_neg a, if_neg b, if_neg c, if_neg d, if_pos e, if_pos (by omega)]
          · by_cases f : x = 301
            · rw [if_neg a, if_neg b, if_neg c, if_neg d, if_neg e, if_pos f, if_pos (by omega)]
            · rw [if_neg a, if_neg b, if_neg c, if_neg d, if_neg e, if_neg f, if_neg (by omega)]
/-- asking on -/
theorem on_join {u : Mm} {x : Int} (h : u 200 17 = 1) (hx : (u 200 18 = 10 ∧ x = 407) ∨ (u 200 18 = 11 ∧ x = 406)) : F_M_asksOn u = b0M (F_M_waitsFor x u) fun s5 => bindM (st2 s5 200 28 0) fun s7 => some s7 := by
  unfold F_M_asksOn
  rw [isW, b1_some, bindM_eq, b1_some, bindM_eq]
  rcases hx with ⟨a, rfl⟩ | ⟨a, rfl⟩
  · rw [if_pos (show u 200 17 = 1 ∧ u 200 18 = 10 from ⟨h, a⟩), if_neg ne10, if_neg ne10]
  · rw [if_neg (show ¬ (u 200 17 = 1 ∧ u 200 18 = 10) by omega), if_pos rfl, if_pos rfl, isW, b1_some, if_pos (show u 200 17 = 1 ∧ u 200 18 = 11 from ⟨h, a⟩), if_neg ne10]
theorem on_end {u : Mm} (h : u 200 17 = 3 ∧ u 200 18 = 59) (ht : F_M_top u = some 2) : F_M_asksOn u = b0M (F_M_clauseIsOver u) fun s13 => some s13 := by
  unfold F_M_asksOn
  rw [isW, b1_some, bindM_eq, if_neg (show ¬ (u 200 17 = 1 ∧ u 200 18 = 10) by omega), if_pos rfl, isW, b1_some, if_neg (show ¬ (u 200 17 = 1 ∧ u 200 18 = 11) by omega), if_pos rfl, ht, b1_some, bindM_eq, if_pos rfl, isS, b1_some, if_pos h, if_neg ne10]
theorem on_err {u : Mm} {f : Int} (h19 : u 200 19 = 0) (h1 : ¬ (u 200 17 = 1 ∧ (u 200 18 = 10 ∨ u 200 18 = 11))) (h : ¬ (u 200 17 = 3 ∧ u 200 18 = 59)) (ht : F_M_top u = some f) : F_M_asksOn u = some (st2 (st2 u 200 19 1) 200 20 (u 200 16)) := by
  unfold F_M_asksOn
  rw [isW, b1_some, bindM_eq, if_neg (show ¬ (u 200 17 = 1 ∧ u 200 18 = 10) by omega), if_pos rfl, isW, b1_some, if_neg (show ¬ (u 200 17 = 1 ∧ u 200 18 = 11) by omega), if_pos rfl, ht, b1_some, bindM_eq, err_M h19, b0M_some]
  by_cases c : f = 2
  · rw [if_pos c, isS, b1_some, if_neg h, if_pos rfl]
  · rw [if_neg c]
