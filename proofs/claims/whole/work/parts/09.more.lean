/-! ranges -/
theorem r_iand (x y : Int) : r32 (iand x y) := r32_of _
theorem r_ior (x y : Int) : r32 (ior x y) := r32_of _
theorem r_ixor (x y : Int) : r32 (ixor x y) := r32_of _
theorem r_ishl (x y : Int) : r32 (ishl x y) := r32_of _
theorem r_ishr (x y : Int) : r32 (ishr x y) := r32_of _
theorem r_iushr (x y : Int) : r32 (iushr x y) := r32_of _
theorem r_i2b (x : Int) : r32 (i2bI x) := r32_of _
theorem r_i2c (x : Int) : r32 (i2cI x) := r32_of _
theorem r_l2i (x : Int) : r32 (l2iI x) := r32_of _
theorem r_lcmp (x y : Int) : r32 (lcmpI x y) := by
  unfold lcmpI
  split
  · exact ⟨by omega, by omega⟩
  · split <;> exact ⟨by omega, by omega⟩
theorem r_i2l {x : Int} (h : r32 x) : r64 x := ⟨by have := h.1; omega, by have := h.2; omega⟩
theorem r_zo {x : Int} (h : x = 0 ∨ x = 1) : r32 x := by rcases h with q | q <;> (rw [q]; exact ⟨by omega, by omega⟩)
theorem tdiv_abs {x y : Int} (hy : 0 < y) : -(x.natAbs : Int) ≤ x.tdiv y ∧ x.tdiv y ≤ x.natAbs := by
  rcases Int.le_total 0 x with h | h
  · rw [Int.tdiv_eq_ediv_of_nonneg h]
    have h1 : 0 ≤ x / y := Int.ediv_nonneg h (by omega)
    have h2 : x / y ≤ x := Int.ediv_le_self y h
    omega
  · have e : x.tdiv y = -((-x).tdiv y) := by rw [Int.neg_tdiv, Int.neg_neg]
    rw [e, Int.tdiv_eq_ediv_of_nonneg (by omega)]
    have h1 : 0 ≤ -x / y := Int.ediv_nonneg (by omega) (by omega)
    have h2 : -x / y ≤ -x := Int.ediv_le_self y (by omega)
    omega
theorem r_tdiv {x y : Int} (h : r32 x) (hy : 0 < y) : r32 (x.tdiv y) := by
  have h1 := h.1
  have h2 := h.2
  rcases Int.le_total 0 x with q | q
  · rw [Int.tdiv_eq_ediv_of_nonneg q]
    have h3 : 0 ≤ x / y := Int.ediv_nonneg q (by omega)
    have h4 : x / y ≤ x := Int.ediv_le_self y q
    exact ⟨by omega, by omega⟩
  · have e : x.tdiv y = -((-x).tdiv y) := by rw [Int.neg_tdiv, Int.neg_neg]
    rw [e, Int.tdiv_eq_ediv_of_nonneg (by omega)]
    have h3 : 0 ≤ -x / y := Int.ediv_nonneg (by omega) (by omega)
    have h4 : -x / y ≤ -x := Int.ediv_le_self y (by omega)
    exact ⟨by omega, by omega⟩
theorem r_tmod {x y : Int} (h : r32 x) (hy : 0 < y) : r32 (x.tmod y) := by
  have h1 := h.1
  have h2 := h.2
  rcases Int.le_total 0 x with q | q
  · rw [Int.tmod_eq_emod_of_nonneg q]
    have h3 := Int.emod_nonneg x (by omega : y ≠ 0)
    have h4 : x % y ≤ x := by
      rw [Int.emod_def]
      have := Int.mul_nonneg (show 0 ≤ y by omega) (Int.ediv_nonneg q (show 0 ≤ y by omega))
      omega
    exact ⟨by omega, by omega⟩
  · have e : x.tmod y = -((-x).tmod y) := by rw [Int.neg_tmod, Int.neg_neg]
    rw [e, Int.tmod_eq_emod_of_nonneg (by omega)]
    have h3 := Int.emod_nonneg (-x) (by omega : y ≠ 0)
    have h4 : -x % y ≤ -x := by
      rw [Int.emod_def]
      have := Int.mul_nonneg (show 0 ≤ y by omega) (Int.ediv_nonneg (show 0 ≤ -x by omega) (show 0 ≤ y by omega))
      omega
    exact ⟨by omega, by omega⟩
theorem r_max {x y : Int} (h : r32 x) (k : r32 y) : r32 (max x y) := by
  have := h.1; have := h.2; have := k.1; have := k.2
  exact ⟨by omega, by omega⟩
theorem r_min {x y : Int} (h : r32 x) (k : r32 y) : r32 (min x y) := by
  have := h.1; have := h.2; have := k.1; have := k.2
  exact ⟨by omega, by omega⟩
theorem r_lmax {x y : Int} (h : r64 x) (k : r64 y) : r64 (max x y) := by
  have := h.1; have := h.2; have := k.1; have := k.2
  exact ⟨by omega, by omega⟩
theorem r_lmin {x y : Int} (h : r64 x) (k : r64 y) : r64 (min x y) := by
  have := h.1; have := h.2; have := k.1; have := k.2
  exact ⟨by omega, by omega⟩
theorem r_abs {x : Int} (h : r32 x) (k : ¬ x = -2147483648) : r32 (x.natAbs : Int) := by
  have := h.1; have := h.2
  exact ⟨by omega, by omega⟩
theorem r_len {w kt n i : Nat} (p : IsA w kt n i) : r32 (n : Int) := by
  have h := Ln_lt i
  rw [p.2.2] at h
  exact ⟨by omega, by omega⟩
/-! joins -/
theorem bJ {α ρ : Type} {g : α} {t : α → Option ρ} {r : ρ} (hf : bindM g t = some r) {P : Prop} (k : ∀ J : α, J = g → t J = some r → P) : P := k g rfl hf
theorem bT {ρ : Type} {x : Int} {f : Int → Option ρ} {r : ρ} (hf : bindM x f = some r) {P : Prop} (k : ∀ g : Int → Option ρ, g = f → bindM x g = some r → P) : P := k f rfl hf
theorem bIte {ρ : Type} {c : Prop} {i : Decidable c} {x y : Int} {f : Int → Option ρ} {r : ρ} (hf : bindM (@ite _ c i x y) f = some r) : (@ite _ c i (bindM x f) (bindM y f)) = some r := by
  by_cases q : c
  · rw [if_pos q] at hf ⊢; exact hf
  · rw [if_neg q] at hf ⊢; exact hf
/-! the cells that are found by number -/
theorem Kt_lt {i : Nat} (h : Kt i = 7) : i < 260 := by
  by_cases q : i < 260
  · exact q
  · have e : KtL.length = 260 := by decide +kernel
    unfold Kt at h
    rw [List.getD_eq_getElem?_getD, List.getElem?_eq_none (by rw [e]; omega)] at h
    simp at h
theorem lt_of_isO {w ci i : Nat} (p : IsO w ci i) : i < 1000 := by have := Kt_lt p.2.1; omega
theorem dy6_0 {r : Nat} (p : IsO 0 6 r) : Rf r 0 = r + 12 ∧ IsA 0 0 4 (r + 12) := (show ∀ r, r < 260 → IsO 0 6 r → Rf r 0 = r + 12 ∧ IsA 0 0 4 (r + 12) by decide +kernel) r (Kt_lt p.2.1) p
theorem dy6_1 {r : Nat} (p : IsO 0 6 r) : Rf r 1 = r + 24 ∧ IsA 0 0 16 (r + 24) := (show ∀ r, r < 260 → IsO 0 6 r → Rf r 1 = r + 24 ∧ IsA 0 0 16 (r + 24) by decide +kernel) r (Kt_lt p.2.1) p
theorem dy6_2 {r : Nat} (p : IsO 0 6 r) : Rf r 2 = r + 36 ∧ IsA 0 0 16 (r + 36) := (show ∀ r, r < 260 → IsO 0 6 r → Rf r 2 = r + 36 ∧ IsA 0 0 16 (r + 36) by decide +kernel) r (Kt_lt p.2.1) p
theorem dy9_0 {r : Nat} (p : IsO 0 9 r) : Rf r 0 = r + 4 ∧ IsA 0 0 300 (r + 4) := (show ∀ r, r < 260 → IsO 0 9 r → Rf r 0 = r + 4 ∧ IsA 0 0 300 (r + 4) by decide +kernel) r (Kt_lt p.2.1) p
theorem dy9_1 {r : Nat} (p : IsO 0 9 r) : Rf r 1 = r + 8 ∧ IsA 0 0 3 (r + 8) := (show ∀ r, r < 260 → IsO 0 9 r → Rf r 1 = r + 8 ∧ IsA 0 0 3 (r + 8) by decide +kernel) r (Kt_lt p.2.1) p
theorem dy9_2 {r : Nat} (p : IsO 0 9 r) : Rf r 2 = r + 12 ∧ IsA 0 0 3 (r + 12) := (show ∀ r, r < 260 → IsO 0 9 r → Rf r 2 = r + 12 ∧ IsA 0 0 3 (r + 12) by decide +kernel) r (Kt_lt p.2.1) p
theorem dy9_3 {r : Nat} (p : IsO 0 9 r) : Rf r 3 = r + 16 ∧ IsA 0 0 144 (r + 16) := (show ∀ r, r < 260 → IsO 0 9 r → Rf r 3 = r + 16 ∧ IsA 0 0 144 (r + 16) by decide +kernel) r (Kt_lt p.2.1) p
theorem dy8_0 {r : Nat} (p : IsO 0 8 r) : Rf r 0 = r + 1 ∧ IsA 0 6 30 (r + 1) := (show ∀ r, r < 260 → IsO 0 8 r → Rf r 0 = r + 1 ∧ IsA 0 6 30 (r + 1) by decide +kernel) r (Kt_lt p.2.1) p
theorem mk_row {x : Int} (h : 0 ≤ x ∧ x < 12) : IsO 0 6 (10 + x.toNat) := (show ∀ k, k < 12 → IsO 0 6 (10 + k) by decide +kernel) x.toNat (by omega)
theorem mk_text {x : Int} (h : 0 ≤ x ∧ x < 4) : IsO 0 9 (94 + x.toNat) := (show ∀ k, k < 4 → IsO 0 9 (94 + k) by decide +kernel) x.toNat (by omega)
theorem Kt_lt6 {i : Nat} (h : Kt i = 6) : i < 260 := by
  by_cases q : i < 260
  · exact q
  · have e : KtL.length = 260 := by decide +kernel
    unfold Kt at h
    rw [List.getD_eq_getElem?_getD, List.getElem?_eq_none (by rw [e]; omega)] at h
    simp at h
theorem dy_ah {a : Nat} {x : Int} (p : IsA 0 6 30 a) : Rf a x.toNat = a + 1 + x.toNat := by
  have h := (show ∀ a, a < 260 → IsA 0 6 30 a → BsL.getD a 0 = a + 1 by decide +kernel) a (Kt_lt6 p.2.1) p
  unfold Rf
  rw [if_neg (by rw [p.2.1]; decide), h]
theorem mk_ah {a : Nat} {x : Int} (p : IsA 0 6 30 a) (h : 0 ≤ x ∧ x < 30) : IsA 0 0 165 (a + 1 + x.toNat) := (show ∀ a, a < 260 → IsA 0 6 30 a → ∀ k, k < 30 → IsA 0 0 165 (a + 1 + k) by decide +kernel) a (Kt_lt6 p.2.1) p x.toNat (by omega)
section SWjdk
variable {X : Cx} {w nL pc d : Nat} {cc : ByteArray} {own : String} {ret : Option FieldType} {lv : List (Option Value)} {st : List Value} {σ : Mm}
theorem SW_lc0 (h : CX X w cc nL d ret own) (dd : decode cc pc = .ok (.lconst 0, 1)) (k : SW X w nL (pc + 1) lv (.long (i64 0) :: st) σ) : SW X w nL pc lv st σ := SW_lconst h dd k
theorem SW_lc1 (h : CX X w cc nL d ret own) (dd : decode cc pc = .ok (.lconst 1, 1)) (k : SW X w nL (pc + 1) lv (.long (i64 1) :: st) σ) : SW X w nL pc lv st σ := SW_lconst h dd k
theorem m_max : Cond.static Lib.Math.max.name ∈ lw_g ∧ Cond.initialized "java/lang/Math" ∈ lw_g ∧ Cond.code Lib.Math.max.name Lib.Math.max.code 2 (some .int) ∈ lw_g := ⟨lw_gm 607 (by decide +kernel) rfl, lw_gm 121 (by decide +kernel) rfl, lw_gm 608 (by decide +kernel) rfl⟩
theorem SW_max (h : CX X w cc nL d ret own) {idx : Nat} {x y : Int} (hl : Cond.methodLink own idx Lib.Math.max.name ∈ lw_g) (hx : r32 x) (hy : r32 y) (hr : (st.map fun v => v.category).sum + 20 ≤ 60 * d) (dd : decode cc pc = .ok (.invokestatic idx, 3)) (k : SW X w nL (pc + 3) lv (.int (i32 (max x y)) :: st) σ) : SW X w nL pc lv (.int (i32 y) :: .int (i32 x) :: st) σ := by
  obtain ⟨p, l, e, R, s, m, args, below, meth, c, Q, A, D, cs, ad, sK, sV⟩ := X
  intro H locs ls hP hD hS hlv ho
  obtain ⟨g1, g2, g3, g4, hts, g6, g7, g8, hR, g10, g11⟩ := h
  subst hR
  have kk := k H locs ls hP hD hS hlv ho
  refine va_mmax g1 g2 (by rw [hlv.1]; exact g3) g4 (hts _ hl) (hts _ m_max.1) (hts _ m_max.2.1) (hts _ m_max.2.2) (show 1 ≤ d by omega) (show _ ≤ 60 * d by omega) (Nat.zero_le _) (Nat.zero_le _) dd ?_
  first
    | (rw [show (if i32 x < i32 y then i32 y else i32 x) = i32 (max x y) from ?_]; exact kk)
    | exact kk
  rw [show (max x y : Int) = if x < y then y else x by split <;> omega]
  by_cases q : x < y
  · rw [if_pos ((i32_lt hx hy).mpr q), if_pos q]
  · rw [if_neg (fun z => q ((i32_lt hx hy).mp z)), if_neg q]
theorem m_min : Cond.static Lib.Math.min.name ∈ lw_g ∧ Cond.initialized "java/lang/Math" ∈ lw_g ∧ Cond.code Lib.Math.min.name Lib.Math.min.code 2 (some .int) ∈ lw_g := ⟨lw_gm 570 (by decide +kernel) rfl, lw_gm 121 (by decide +kernel) rfl, lw_gm 571 (by decide +kernel) rfl⟩
theorem SW_min (h : CX X w cc nL d ret own) {idx : Nat} {x y : Int} (hl : Cond.methodLink own idx Lib.Math.min.name ∈ lw_g) (hx : r32 x) (hy : r32 y) (hr : (st.map fun v => v.category).sum + 20 ≤ 60 * d) (dd : decode cc pc = .ok (.invokestatic idx, 3)) (k : SW X w nL (pc + 3) lv (.int (i32 (min x y)) :: st) σ) : SW X w nL pc lv (.int (i32 y) :: .int (i32 x) :: st) σ := by
  obtain ⟨p, l, e, R, s, m, args, below, meth, c, Q, A, D, cs, ad, sK, sV⟩ := X
  intro H locs ls hP hD hS hlv ho
  obtain ⟨g1, g2, g3, g4, hts, g6, g7, g8, hR, g10, g11⟩ := h
  subst hR
  have kk := k H locs ls hP hD hS hlv ho
  refine va_mmin g1 g2 (by rw [hlv.1]; exact g3) g4 (hts _ hl) (hts _ m_min.1) (hts _ m_min.2.1) (hts _ m_min.2.2) (show 1 ≤ d by omega) (show _ ≤ 60 * d by omega) (Nat.zero_le _) (Nat.zero_le _) dd ?_
  first
    | (rw [show (if i32 y < i32 x then i32 y else i32 x) = i32 (min x y) from ?_]; exact kk)
    | exact kk
  rw [show (min x y : Int) = if y < x then y else x by split <;> omega]
  by_cases q : y < x
  · rw [if_pos ((i32_lt hy hx).mpr q), if_pos q]
  · rw [if_neg (fun z => q ((i32_lt hy hx).mp z)), if_neg q]
theorem m_abs : Cond.static Lib.Math.abs.name ∈ lw_g ∧ Cond.initialized "java/lang/Math" ∈ lw_g ∧ Cond.code Lib.Math.abs.name Lib.Math.abs.code 1 (some .int) ∈ lw_g := ⟨lw_gm 1104 (by decide +kernel) rfl, lw_gm 121 (by decide +kernel) rfl, lw_gm 1105 (by decide +kernel) rfl⟩
theorem m_lmax : Cond.static Lib.MathLoose.max_long.x ∈ lw_g ∧ Cond.initialized "java/lang/Math" ∈ lw_g ∧ Cond.code Lib.MathLoose.max_long.x Lib.MathLoose.max_long.code 4 (some .long) ∈ lw_g := ⟨lw_gm 601 (by decide +kernel) rfl, lw_gm 121 (by decide +kernel) rfl, lw_gm 602 (by decide +kernel) rfl⟩
theorem SW_lmax (h : CX X w cc nL d ret own) {idx : Nat} {x y : Int} (hl : Cond.methodLink own idx Lib.MathLoose.max_long.x ∈ lw_g) (hx : r64 x) (hy : r64 y) (hr : (st.map fun v => v.category).sum + 20 ≤ 60 * d) (dd : decode cc pc = .ok (.invokestatic idx, 3)) (k : SW X w nL (pc + 3) lv (.long (i64 (max x y)) :: st) σ) : SW X w nL pc lv (.long (i64 y) :: .long (i64 x) :: st) σ := by
  obtain ⟨p, l, e, R, s, m, args, below, meth, c, Q, A, D, cs, ad, sK, sV⟩ := X
  intro H locs ls hP hD hS hlv ho
  obtain ⟨g1, g2, g3, g4, hts, g6, g7, g8, hR, g10, g11⟩ := h
  subst hR
  have kk := k H locs ls hP hD hS hlv ho
  refine va_mmax_long g1 g2 (by rw [hlv.1]; exact g3) g4 (hts _ hl) (hts _ m_lmax.1) (hts _ m_lmax.2.1) (hts _ m_lmax.2.2) (show 1 ≤ d by omega) (show _ ≤ 60 * d by omega) (Nat.zero_le _) (Nat.zero_le _) dd ?_
  first
    | (rw [show (if i64 y < i64 x then i64 x else i64 y) = i64 (max x y) from ?_]; exact kk)
    | exact kk
  rw [show (max x y : Int) = if y < x then x else y by split <;> omega]
  by_cases q : y < x
  · rw [if_pos ((i64_lt hy hx).mpr q), if_pos q]
  · rw [if_neg (fun z => q ((i64_lt hy hx).mp z)), if_neg q]
theorem m_lmin : Cond.static Lib.MathLoose.min_long.x ∈ lw_g ∧ Cond.initialized "java/lang/Math" ∈ lw_g ∧ Cond.code Lib.MathLoose.min_long.x Lib.MathLoose.min_long.code 4 (some .long) ∈ lw_g := ⟨lw_gm 598 (by decide +kernel) rfl, lw_gm 121 (by decide +kernel) rfl, lw_gm 599 (by decide +kernel) rfl⟩
theorem SW_lmin (h : CX X w cc nL d ret own) {idx : Nat} {x y : Int} (hl : Cond.methodLink own idx Lib.MathLoose.min_long.x ∈ lw_g) (hx : r64 x) (hy : r64 y) (hr : (st.map fun v => v.category).sum + 20 ≤ 60 * d) (dd : decode cc pc = .ok (.invokestatic idx, 3)) (k : SW X w nL (pc + 3) lv (.long (i64 (min x y)) :: st) σ) : SW X w nL pc lv (.long (i64 y) :: .long (i64 x) :: st) σ := by
  obtain ⟨p, l, e, R, s, m, args, below, meth, c, Q, A, D, cs, ad, sK, sV⟩ := X
  intro H locs ls hP hD hS hlv ho
  obtain ⟨g1, g2, g3, g4, hts, g6, g7, g8, hR, g10, g11⟩ := h
  subst hR
  have kk := k H locs ls hP hD hS hlv ho
  refine va_mmin_long g1 g2 (by rw [hlv.1]; exact g3) g4 (hts _ hl) (hts _ m_lmin.1) (hts _ m_lmin.2.1) (hts _ m_lmin.2.2) (show 1 ≤ d by omega) (show _ ≤ 60 * d by omega) (Nat.zero_le _) (Nat.zero_le _) dd ?_
  first
    | (rw [show (if i64 y < i64 x then i64 y else i64 x) = i64 (min x y) from ?_]; exact kk)
    | exact kk
  rw [show (min x y : Int) = if y < x then y else x by split <;> omega]
  by_cases q : y < x
  · rw [if_pos ((i64_lt hy hx).mpr q), if_pos q]
  · rw [if_neg (fun z => q ((i64_lt hy hx).mp z)), if_neg q]
theorem SW_abs (h : CX X w cc nL d ret own) {idx : Nat} {x : Int} (hl : Cond.methodLink own idx Lib.Math.abs.name ∈ lw_g) (hx : r32 x) (hm : ¬ x = -2147483648) (hr : (st.map fun v => v.category).sum + 20 ≤ 60 * d) (dd : decode cc pc = .ok (.invokestatic idx, 3)) (k : SW X w nL (pc + 3) lv (.int (i32 (x.natAbs : Int)) :: st) σ) : SW X w nL pc lv (.int (i32 x) :: st) σ := by
  obtain ⟨p, l, e, R, s, m, args, below, meth, c, Q, A, D, cs, ad, sK, sV⟩ := X
  intro H locs ls hP hD hS hlv ho
  obtain ⟨g1, g2, g3, g4, hts, g6, g7, g8, hR, g10, g11⟩ := h
  subst hR
  have kk := k H locs ls hP hD hS hlv ho
  refine va_mabs g1 g2 (by rw [hlv.1]; exact g3) g4 (hts _ hl) (hts _ m_abs.1) (hts _ m_abs.2.1) (hts _ m_abs.2.2) (show 1 ≤ d by omega) (show _ ≤ 60 * d by omega) (Nat.zero_le _) (Nat.zero_le _) dd ?_
  have e1 : (if 0 ≤ i32 x then i32 x else 0 - i32 x) = i32 (x.natAbs : Int) := by
    show (if i32 0 ≤ i32 x then i32 x else i32 0 - i32 x) = _
    by_cases q : 0 ≤ x
    · rw [if_pos ((i32_le (show r32 0 from ⟨by omega, by omega⟩) hx).mpr q)]
      have e2 : (x.natAbs : Int) = x := by omega
      rw [e2]
    · rw [if_neg (fun z => q ((i32_le (show r32 0 from ⟨by omega, by omega⟩) hx).mp z))]
      have e2 : (x.natAbs : Int) = 0 - x := by omega
      rw [e2, i32_sub]
  rw [e1]; exact kk
theorem m_copy : Cond.native arraycopyName ∈ lw_g ∧ Cond.static arraycopyName ∈ lw_g ∧ Cond.initialized "java/lang/System" ∈ lw_g := ⟨lw_gm 501 (by decide +kernel) rfl, lw_gm 500 (by decide +kernel) rfl, lw_gm 119 (by decide +kernel) rfl⟩
theorem nfw : nativeFrameWords "java/lang/System" "arraycopy" 5 ≤ 60 := by decide +kernel
theorem cpy_eq {f g : Nat → Int} {sp dp n : Int} : va_cpy (fun k => i32 (f k)) (fun k => i32 (g k)) sp.toNat dp.toNat n.toNat = fun k => i32 (cpyI f g sp dp n k) := by
  funext k
  unfold va_cpy cpyI
  split <;> rfl
theorem okM_cpy {i0 i1 : Nat} {sp dp n : Int} (ho : okM σ) (h0 : ¬ Kt i0 = 3) (h1 : ¬ Kt i1 = 3) : okM (stR σ i1 (cpyI (σ i0) (σ i1) sp dp n)) := by
  intro a b
  unfold stR
  by_cases ha : a = i1
  · subst ha
    simp only [if_true]
    refine ⟨fun q => absurd q h1, fun _ => ?_⟩
    unfold cpyI
    split
    · exact (ho i0 _).2 h0
    · exact (ho a b).2 h1
  · simp only [ha, if_false]
    exact ho a b
theorem stR_row {i : Nat} {f : Nat → Int} : stR σ i f i = f := by funext j; simp [stR]
theorem SW_copy (h : CX X w cc nL d ret own) {idx i0 i1 n0 n1 : Nat} (hl : Cond.methodLink own idx arraycopyName ∈ lw_g) (p0 : IsA w 0 n0 i0) (p1 : IsA w 0 n1 i1) {sp dp n : Int} (h1 : 0 ≤ sp) (h2 : 0 ≤ dp) (h3 : 0 ≤ n) (h4 : sp + n ≤ n0) (h5 : dp + n ≤ n1) (hr : (st.map fun v => v.category).sum + 80 ≤ 60 * d) (dd : decode cc pc = .ok (.invokestatic idx, 3)) (k : SW X w nL (pc + 3) lv st (stR σ i1 (cpyI (σ i0) (σ i1) sp dp n))) : SW X w nL pc lv (.int (i32 n) :: .int (i32 dp) :: .ref (xad X i1) :: .int (i32 sp) :: .ref (xad X i0) :: st) σ := by
  obtain ⟨p, l, e, R, s, m, args, below, meth, c, Q, A, D, cs, ad, sK, sV⟩ := X
  intro H locs ls hP hD hS hlv ho
  obtain ⟨g1, g2, g3, g4, hts, g6, g7, g8, hR, g10, g11⟩ := h
  subst hR
  have l0 := Ln_lt i0
  have l1 := Ln_lt i1
  rw [p0.2.2] at l0
  rw [p1.2.2] at l1
  have rs : r32 sp := ⟨by omega, by omega⟩
  have rd : r32 dp := ⟨by omega, by omega⟩
  have rn : r32 n := ⟨by omega, by omega⟩
  have z0 : r32 0 := ⟨by omega, by omega⟩
  have c0 : (wsOf cs ad σ w)[i0 - wlo w]? = some (ad i0, .inl (cs 0, n0, .inl (fun k => i32 (σ i0 k)))) := by rw [ws_at p0.1, cell_int (by rw [p0.2.1]; omega), p0.2.1, p0.2.2]
  have c1 : (wsOf cs ad σ w)[i1 - wlo w]? = some (ad i1, .inl (cs 0, n1, .inl (fun k => i32 (σ i1 k)))) := by rw [ws_at p1.1, cell_int (by rw [p1.2.1]; omega), p1.2.1, p1.2.2]
  refine va_copyi (D := D) g1 g2 (by rw [hlv.1]; exact g3) g4 (hts _ hl) (hts _ m_copy.1) (hts _ m_copy.2.1) (hts _ m_copy.2.2) g6.1 hP hD hS (i0 - wlo w) (i1 - wlo w) 0 0 c0 c1 rfl rfl rfl (fun q => by have := (i32_lt rs z0).mp q; omega) (fun q => by have := (i32_lt rd z0).mp q; omega) (fun q => by have := (i32_lt rn z0).mp q; omega) (by rw [i32_clamp rs h1, i32_clamp rn h3]; omega) (by rw [i32_clamp rd h2, i32_clamp rn h3]; omega) (fun _ _ => rfl) (show 1 ≤ d by omega) (by have := nfw; show _ ≤ 60 * d; omega) dd ?_
  rw [i32_clamp rs h1, i32_clamp rn h3, i32_clamp rd h2, cpy_eq]
  intro H1 locs1 hP1 hD1 hS1
  have e1 : (wsOf cs ad σ w).set (i1 - wlo w) (ad i1, .inl (cs 0, n1, .inl (fun k => i32 (cpyI (σ i0) (σ i1) sp dp n k)))) = wsOf cs ad (stR σ i1 (cpyI (σ i0) (σ i1) sp dp n)) w := by
    have e2 : cellOf cs ad (stR σ i1 (cpyI (σ i0) (σ i1) sp dp n)) i1 = .inl (cs 0, n1, .inl (fun k => i32 (cpyI (σ i0) (σ i1) sp dp n k))) := by
      rw [cell_int (by rw [p1.2.1]; omega), p1.2.1, p1.2.2, stR_row]
    rw [← e2]
    exact ws_set p1.1 (fun q hq => cell_off (stR_off hq))
  exact k H1 locs1 ls (by rw [← e1]; exact hP1) (by rw [← e1]; exact hD1) hS1 hlv (okM_cpy ho (by rw [p0.2.1]; decide) (by rw [p1.2.1]; decide))
def xsk (X : Cx) : Nat → Nat := X.2.2.2.2.2.2.2.2.2.2.2.2.2.2.2.1
def schI (i k : Nat) : Int := ((bytJS.getD i []).getD k 0).toInt
def sixI (i : Nat) (c : Int) : Int := match (bytJS.getD i []).findIdx? (fun b => decide (b.toInt = c)) with
  | some k => (k : Int)
  | none => -1
theorem r_sch (i k : Nat) : r32 (schI i k) := r32_of _
end SWjdk
theorem b1_ex {ρ : Type} {o : Option (Int)} {f : Int → Option ρ} {r : ρ} (h : b1 o f = some r) : ∃ x, o = some x ∧ (∀ (a1 : Int), some a1 = some x → f a1 = some r) := by
  match o, h with
  | some q, h => exact ⟨q, rfl, fun a1 e => by cases e; exact h⟩
theorem b2_ex {ρ : Type} {o : Option (Int × Int)} {f : Int → Int → Option ρ} {r : ρ} (h : b2 o f = some r) : ∃ x, o = some x ∧ (∀ (a1 : Int) (a2 : Int), some (a1, a2) = some x → f a1 a2 = some r) := by
  match o, h with
  | some q, h => exact ⟨q, rfl, fun a1 a2 e => by cases e; exact h⟩
theorem b3_ex {ρ : Type} {o : Option (Int × Int × Int)} {f : Int → Int → Int → Option ρ} {r : ρ} (h : b3 o f = some r) : ∃ x, o = some x ∧ (∀ (a1 : Int) (a2 : Int) (a3 : Int), some (a1, a2, a3) = some x → f a1 a2 a3 = some r) := by
  match o, h with
  | some q, h => exact ⟨q, rfl, fun a1 a2 a3 e => by cases e; exact h⟩
theorem b4_ex {ρ : Type} {o : Option (Int × Int × Int × Int)} {f : Int → Int → Int → Int → Option ρ} {r : ρ} (h : b4 o f = some r) : ∃ x, o = some x ∧ (∀ (a1 : Int) (a2 : Int) (a3 : Int) (a4 : Int), some (a1, a2, a3, a4) = some x → f a1 a2 a3 a4 = some r) := by
  match o, h with
  | some q, h => exact ⟨q, rfl, fun a1 a2 a3 a4 e => by cases e; exact h⟩
theorem b5_ex {ρ : Type} {o : Option (Int × Int × Int × Int × Int)} {f : Int → Int → Int → Int → Int → Option ρ} {r : ρ} (h : b5 o f = some r) : ∃ x, o = some x ∧ (∀ (a1 : Int) (a2 : Int) (a3 : Int) (a4 : Int) (a5 : Int), some (a1, a2, a3, a4, a5) = some x → f a1 a2 a3 a4 a5 = some r) := by
  match o, h with
  | some q, h => exact ⟨q, rfl, fun a1 a2 a3 a4 a5 e => by cases e; exact h⟩
theorem b6_ex {ρ : Type} {o : Option (Int × Int × Int × Int × Int × Int)} {f : Int → Int → Int → Int → Int → Int → Option ρ} {r : ρ} (h : b6 o f = some r) : ∃ x, o = some x ∧ (∀ (a1 : Int) (a2 : Int) (a3 : Int) (a4 : Int) (a5 : Int) (a6 : Int), some (a1, a2, a3, a4, a5, a6) = some x → f a1 a2 a3 a4 a5 a6 = some r) := by
  match o, h with
  | some q, h => exact ⟨q, rfl, fun a1 a2 a3 a4 a5 a6 e => by cases e; exact h⟩
theorem b0M_ex {ρ : Type} {o : Option (Mm)} {f : Mm → Option ρ} {r : ρ} (h : b0M o f = some r) : ∃ x, o = some x ∧ (∀ (s : Mm), some s = some x → f s = some r) := by
  match o, h with
  | some q, h => exact ⟨q, rfl, fun s e => by cases e; exact h⟩
theorem b1M_ex {ρ : Type} {o : Option (Int × Mm)} {f : Int → Mm → Option ρ} {r : ρ} (h : b1M o f = some r) : ∃ x, o = some x ∧ (∀ (a1 : Int) (s : Mm), some (a1, s) = some x → f a1 s = some r) := by
  match o, h with
  | some q, h => exact ⟨q, rfl, fun a1 s e => by cases e; exact h⟩
theorem b2M_ex {ρ : Type} {o : Option (Int × Int × Mm)} {f : Int → Int → Mm → Option ρ} {r : ρ} (h : b2M o f = some r) : ∃ x, o = some x ∧ (∀ (a1 : Int) (a2 : Int) (s : Mm), some (a1, a2, s) = some x → f a1 a2 s = some r) := by
  match o, h with
  | some q, h => exact ⟨q, rfl, fun a1 a2 s e => by cases e; exact h⟩
theorem b3M_ex {ρ : Type} {o : Option (Int × Int × Int × Mm)} {f : Int → Int → Int → Mm → Option ρ} {r : ρ} (h : b3M o f = some r) : ∃ x, o = some x ∧ (∀ (a1 : Int) (a2 : Int) (a3 : Int) (s : Mm), some (a1, a2, a3, s) = some x → f a1 a2 a3 s = some r) := by
  match o, h with
  | some q, h => exact ⟨q, rfl, fun a1 a2 a3 s e => by cases e; exact h⟩
theorem b4M_ex {ρ : Type} {o : Option (Int × Int × Int × Int × Mm)} {f : Int → Int → Int → Int → Mm → Option ρ} {r : ρ} (h : b4M o f = some r) : ∃ x, o = some x ∧ (∀ (a1 : Int) (a2 : Int) (a3 : Int) (a4 : Int) (s : Mm), some (a1, a2, a3, a4, s) = some x → f a1 a2 a3 a4 s = some r) := by
  match o, h with
  | some q, h => exact ⟨q, rfl, fun a1 a2 a3 a4 s e => by cases e; exact h⟩
theorem b5M_ex {ρ : Type} {o : Option (Int × Int × Int × Int × Int × Mm)} {f : Int → Int → Int → Int → Int → Mm → Option ρ} {r : ρ} (h : b5M o f = some r) : ∃ x, o = some x ∧ (∀ (a1 : Int) (a2 : Int) (a3 : Int) (a4 : Int) (a5 : Int) (s : Mm), some (a1, a2, a3, a4, a5, s) = some x → f a1 a2 a3 a4 a5 s = some r) := by
  match o, h with
  | some q, h => exact ⟨q, rfl, fun a1 a2 a3 a4 a5 s e => by cases e; exact h⟩
theorem b6M_ex {ρ : Type} {o : Option (Int × Int × Int × Int × Int × Int × Mm)} {f : Int → Int → Int → Int → Int → Int → Mm → Option ρ} {r : ρ} (h : b6M o f = some r) : ∃ x, o = some x ∧ (∀ (a1 : Int) (a2 : Int) (a3 : Int) (a4 : Int) (a5 : Int) (a6 : Int) (s : Mm), some (a1, a2, a3, a4, a5, a6, s) = some x → f a1 a2 a3 a4 a5 a6 s = some r) := by
  match o, h with
  | some q, h => exact ⟨q, rfl, fun a1 a2 a3 a4 a5 a6 s e => by cases e; exact h⟩
theorem j0_0 : Rf 0 0 = 1 := by decide +kernel
theorem j0_1 : Rf 0 1 = 58 := by decide +kernel
theorem j0_2 : Rf 0 2 = 90 := by decide +kernel
theorem j0_3 : Rf 0 3 = 93 := by decide +kernel
theorem j0_4 : Rf 0 4 = 114 := by decide +kernel
theorem j0_5 : Rf 0 5 = 121 := by decide +kernel
theorem j0_6 : Rf 0 6 = 129 := by decide +kernel
theorem j0_7 : Rf 0 7 = 133 := by decide +kernel
theorem j1_0 : Rf 1 0 = 2 := by decide +kernel
theorem j1_1 : Rf 1 1 = 3 := by decide +kernel
theorem j1_2 : Rf 1 2 = 8 := by decide +kernel
theorem j1_3 : Rf 1 3 = 9 := by decide +kernel
theorem j2_0 : Rf 2 0 = 3 := by decide +kernel
theorem j2_1 : Rf 2 1 = 4 := by decide +kernel
theorem j2_2 : Rf 2 2 = 5 := by decide +kernel
theorem j2_3 : Rf 2 3 = 6 := by decide +kernel
theorem j2_4 : Rf 2 4 = 7 := by decide +kernel
theorem j90_0 : Rf 90 0 = 91 := by decide +kernel
theorem j90_9 : Rf 90 9 = 92 := by decide +kernel
theorem j114_0 : Rf 114 0 = 1 := by decide +kernel
theorem j114_1 : Rf 114 1 = 2 := by decide +kernel
theorem j114_2 : Rf 114 2 = 115 := by decide +kernel
theorem j114_3 : Rf 114 3 = 116 := by decide +kernel
theorem j114_4 : Rf 114 4 = 117 := by decide +kernel
theorem j114_5 : Rf 114 5 = 118 := by decide +kernel
theorem j114_6 : Rf 114 6 = 119 := by decide +kernel
theorem j114_7 : Rf 114 7 = 120 := by decide +kernel
theorem j121_0 : Rf 121 0 = 122 := by decide +kernel
theorem j121_1 : Rf 121 1 = 123 := by decide +kernel
theorem j121_3 : Rf 121 3 = 1 := by decide +kernel
theorem j121_4 : Rf 121 4 = 124 := by decide +kernel
theorem j121_5 : Rf 121 5 = 125 := by decide +kernel
theorem j121_6 : Rf 121 6 = 126 := by decide +kernel
theorem j121_7 : Rf 121 7 = 127 := by decide +kernel
theorem j121_8 : Rf 121 8 = 128 := by decide +kernel
theorem j129_0 : Rf 129 0 = 130 := by decide +kernel
theorem j129_1 : Rf 129 1 = 131 := by decide +kernel
theorem j129_2 : Rf 129 2 = 132 := by decide +kernel
theorem j129_3 : Rf 129 3 = 2 := by decide +kernel
theorem j133_0 : Rf 133 0 = 134 := by decide +kernel
theorem j133_1 : Rf 133 1 = 135 := by decide +kernel
theorem j133_2 : Rf 133 2 = 167 := by decide +kernel
theorem j133_3 : Rf 133 3 = 168 := by decide +kernel
theorem j133_4 : Rf 133 4 = 169 := by decide +kernel
theorem j200_0 : Rf 200 0 = 201 := by decide +kernel
theorem j200_1 : Rf 200 1 = 202 := by decide +kernel
theorem j200_2 : Rf 200 2 = 203 := by decide +kernel
theorem j200_6 : Rf 200 6 = 204 := by decide +kernel
theorem j200_7 : Rf 200 7 = 205 := by decide +kernel
theorem j200_8 : Rf 200 8 = 206 := by decide +kernel
theorem j200_9 : Rf 200 9 = 207 := by decide +kernel
theorem j200_10 : Rf 200 10 = 208 := by decide +kernel
theorem j200_11 : Rf 200 11 = 209 := by decide +kernel
theorem j200_12 : Rf 200 12 = 210 := by decide +kernel
theorem j200_13 : Rf 200 13 = 211 := by decide +kernel
theorem j200_23 : Rf 200 23 = 212 := by decide +kernel
theorem j200_24 : Rf 200 24 = 213 := by decide +kernel
theorem j200_26 : Rf 200 26 = 214 := by decide +kernel
theorem j200_27 : Rf 200 27 = 215 := by decide +kernel
theorem j200_31 : Rf 200 31 = 216 := by decide +kernel
theorem j200_32 : Rf 200 32 = 217 := by decide +kernel
theorem j200_33 : Rf 200 33 = 218 := by decide +kernel
theorem j200_34 : Rf 200 34 = 219 := by decide +kernel
theorem j200_35 : Rf 200 35 = 220 := by decide +kernel
theorem j200_37 : Rf 200 37 = 221 := by decide +kernel
theorem j200_38 : Rf 200 38 = 222 := by decide +kernel
theorem j200_39 : Rf 200 39 = 223 := by decide +kernel
theorem j200_40 : Rf 200 40 = 224 := by decide +kernel
theorem j200_41 : Rf 200 41 = 225 := by decide +kernel
theorem j200_42 : Rf 200 42 = 226 := by decide +kernel
theorem j200_43 : Rf 200 43 = 227 := by decide +kernel
theorem j200_44 : Rf 200 44 = 228 := by decide +kernel
theorem j200_47 : Rf 200 47 = 229 := by decide +kernel
theorem j200_50 : Rf 200 50 = 230 := by decide +kernel
theorem j200_51 : Rf 200 51 = 231 := by decide +kernel
theorem j200_52 : Rf 200 52 = 232 := by decide +kernel
theorem j200_54 : Rf 200 54 = 233 := by decide +kernel
theorem j200_55 : Rf 200 55 = 234 := by decide +kernel
theorem j200_56 : Rf 200 56 = 235 := by decide +kernel
theorem j200_57 : Rf 200 57 = 236 := by decide +kernel
theorem j200_58 : Rf 200 58 = 237 := by decide +kernel
theorem j200_59 : Rf 200 59 = 238 := by decide +kernel
theorem j200_60 : Rf 200 60 = 239 := by decide +kernel
theorem j200_61 : Rf 200 61 = 240 := by decide +kernel
theorem j200_63 : Rf 200 63 = 241 := by decide +kernel
theorem j200_64 : Rf 200 64 = 242 := by decide +kernel
