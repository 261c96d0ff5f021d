-- `carried` on both sides
theorem MJ.doQ {μ ν : Mm} {G O M : Law} {E : Nat → Int} (h : MJ μ ν G O M E) {l r : Nat} {ap la : Int} (hl : l < 10) (hr : r < 10) (ha : 0 ≤ ap ∧ ap ≤ 1) (hla : 0 ≤ la ∧ la ≤ 1) : ∃ t, F_M_doQuarrel (l : Int) (r : Int) ap la ν = some (qv G E l r ap la, t) ∧ MJ μ t G O M E ∧ Fr [223, 224] ν t := by
  obtain ⟨⟨v, t⟩, E1, v1, f, -⟩ := doQ_ok h.1.1 h.1.2.1 h.1.2.2.2.2 hl hr ha hla
  have v1 : v = qv G (EM ν) l r ap la := v1
  have f : Fr [223, 224] ν t := f
  refine ⟨t, ?_, h.fr f (by decide) (fun k _ => by rw [f 200 (by decide)]), f⟩
  rw [E1, v1, qv_40 h.2.1 ⟨by omega, by omega⟩ ⟨by omega, by omega⟩]
def cst (a b c : Int) : Int := if a % 10 + b % 10 + c < 10 then 0 else 1
def bothS (a b : Int) : Int := if a ≤ 0 then 0 else if b ≤ 0 then 0 else 1
def timesS : Nat → Int → Int → Int → Int
  | 0, _, _, _ => 0
  | m + 1, a, b, c => cst a b c + timesS m (a / 10) (b / 10) (cst a b c)
def talkS (T : TW) : Nat → Int → Int → Int → Int → Int
  | 0, _, _, _, _ => 0
  | m + 1, a, b, c, o => (if cst a b c = 1 ∧ o = 1 then q0 T (a % 10) (b % 10) 2 else 0) + talkS T m (a / 10) (b / 10) (cst a b c) (bothS (a / 10) (b / 10))
theorem cst01 (a b c : Int) : cst a b c = 0 ∨ cst a b c = 1 := by unfold cst; split <;> simp
theorem q001 {T : TW} {a b k : Int} : q0 T a b k = 0 ∨ q0 T a b k = 1 := by unfold q0; split <;> simp
theorem bothS01 (a b : Int) : bothS a b = 0 ∨ bothS a b = 1 := by
  unfold bothS
  by_cases h : a ≤ 0
  · rw [if_pos h]; exact Or.inl rfl
  · rw [if_neg h]
    by_cases h2 : b ≤ 0
    · rw [if_pos h2]; exact Or.inl rfl
    · rw [if_neg h2]; exact Or.inr rfl
theorem timesS_0 : ∀ (m : Nat) (c : Int), 0 ≤ c → c ≤ 1 → timesS m 0 0 c = 0
  | 0, _, _, _ => rfl
  | m + 1, c, h0, h1 => by
    have e : cst 0 0 c = 0 := by unfold cst; rw [if_pos (by omega)]
    simp only [timesS, e]
    have := timesS_0 m 0 (by omega) (by omega)
    simpa using this
theorem talkS_0 {T : TW} : ∀ (m : Nat) (c : Int), 0 ≤ c → c ≤ 1 → talkS T m 0 0 c 0 = 0
  | 0, _, _, _ => rfl
  | m + 1, c, h0, h1 => by
    have e : cst 0 0 c = 0 := by unfold cst; rw [if_pos (by omega)]
    simp only [talkS, e]
    have := talkS_0 (T := T) m 0 (by omega) (by omega)
    simpa [bothS] using this
theorem carried_C {σ : Mm} {G O M : Law} (g : Int) : ∀ (m N : Nat) (x c a b : Int) (s : Mm) (o : Int), m ≤ 4 → m < N → CJ σ s G O M 1 → (0 ≤ a ∧ a ≤ 9999) → (0 ≤ b ∧ b ≤ 9999) → (c = 0 ∨ c = 1) → (0 ≤ x ∧ x ≤ 4 - m) → (o = if m = 4 then 1 else bothS a b) →
    ∃ t, L_E_carriedOn_22 N g x c a b (4 - (m : Int)) s = some (x + (if g = 0 then timesS m a b c else talkS (tw G O (σ 3)) m a b c o), t) ∧ CJ σ t G O M 1 := by
  intro m
  induction m with
  | zero =>
    intro N x c a b s o hm hN hs ha hb hc hx ho
    match N, hN with
    | N + 1, _ =>
      rw [L_E_carriedOn_22, if_pos (by omega)]
      exact ⟨s, by simp [timesS, talkS], hs⟩
  | succ m ih =>
    intro N x c a b s o hm hN hs ha hb hc hx ho
    match N, hN with
    | N + 1, hN =>
      have t1 : a.tmod 10 = a % 10 := Int.tmod_eq_emod_of_nonneg ha.1
      have t2 : b.tmod 10 = b % 10 := Int.tmod_eq_emod_of_nonneg hb.1
      have t3 : a.tdiv 10 = a / 10 := Int.tdiv_eq_ediv_of_nonneg ha.1
      have t4 : b.tdiv 10 = b / 10 := Int.tdiv_eq_ediv_of_nonneg hb.1
      have e2 : (4 - ((m + 1 : Nat) : Int)) + 1 = 4 - (m : Int) := by omega
      have cc := cst01 a b c
      have ec : (if a % 10 + b % 10 + c < 10 then (0 : Int) else 1) = cst a b c := rfl
      have o01 : o = 0 ∨ o = 1 := by
        rw [ho]
        by_cases h4 : m + 1 = 4
        · rw [if_pos h4]; exact Or.inr rfl
        · rw [if_neg h4]; exact bothS01 a b
      -- what comes next, with the count so far
      have nextX : ∀ (x2 : Int) (s2 : Mm), CJ σ s2 G O M 1 → (0 ≤ x2 ∧ x2 ≤ 4 - m) → ∃ t, (if r32 ((4 - ((m + 1 : Nat) : Int)) + 1) then L_E_carriedOn_22 N g x2 (cst a b c) (a / 10) (b / 10) ((4 - ((m + 1 : Nat) : Int)) + 1) s2 else none) = some (x2 + (if g = 0 then timesS m (a / 10) (b / 10) (cst a b c) else talkS (tw G O (σ 3)) m (a / 10) (b / 10) (cst a b c) (bothS (a / 10) (b / 10))), t) ∧ CJ σ t G O M 1 := fun x2 s2 h2 hx2 => by
        rw [e2, if_pos (show r32 (4 - (m : Int)) from ⟨by omega, by omega⟩)]
        exact ih N x2 (cst a b c) (a / 10) (b / 10) s2 _ (by omega) (by omega) h2 (by omega) (by omega) cc hx2 (by rw [if_neg (by omega)])
      have J2 : ∀ y2 : Int, y2 = o → ∃ t, (if r32 (a % 10 + b % 10 + c) then bindM (cst a b c) fun v3 => bindM (fun (x4_5 : Int) (t5 : Mm) => if r32 ((4 - ((m + 1 : Nat) : Int)) + 1) then L_E_carriedOn_22 N g x4_5 v3 (a / 10) (b / 10) ((4 - ((m + 1 : Nat) : Int)) + 1) t5 else none) fun J5 => if v3 = 1 then bindM (fun (t7 : Mm) => if r32 (x + 1) then J5 (x + 1) t7 else none) fun J7 => if g = 0 then J7 s else if y2 = 0 then J5 x s else b1M (F_J_two (a % 10) (b % 10) 2 s) fun v9 s9 => if v9 = 1000 then J5 x s9 else J7 s9 else J5 x s else none) = some (x + (if g = 0 then timesS (m + 1) a b c else talkS (tw G O (σ 3)) (m + 1) a b c o), t) ∧ CJ σ t G O M 1 := fun y2 hy => by
        subst hy
        rw [if_pos (show r32 (a % 10 + b % 10 + c) from ⟨by omega, by omega⟩), bindM_eq, bindM_eq]
        simp only [timesS, talkS]
        rcases cc with e | e
        · rw [if_neg (show ¬ cst a b c = 1 by omega)]
          obtain ⟨t, E1, ht⟩ := nextX x s hs (by omega)
          rw [E1]
          refine ⟨t, ?_, ht⟩
          rw [if_neg (show ¬ (cst a b c = 1 ∧ y2 = 1) from fun q => by omega)]
          congr 2
          by_cases hg : g = 0
          · rw [if_pos hg, if_pos hg]; omega
          · rw [if_neg hg, if_neg hg]; omega
        · rw [if_pos e, bindM_eq]
          have r1 : r32 (x + 1) := ⟨by omega, by omega⟩
          by_cases hg : g = 0
          · rw [if_pos hg]
            dsimp only
            obtain ⟨t, E1, ht⟩ := nextX (x + 1) s hs (by omega)
            rw [if_pos r1, E1]
            refine ⟨t, ?_, ht⟩
            rw [if_pos hg, if_pos hg]
            congr 2; omega
          · rw [if_neg hg]
            by_cases hy0 : y2 = 0
            · rw [if_pos hy0]
              obtain ⟨t, E1, ht⟩ := nextX x s hs (by omega)
              rw [E1]
              refine ⟨t, ?_, ht⟩
              rw [if_neg hg, if_neg hg, if_neg (show ¬ (cst a b c = 1 ∧ y2 = 1) from fun q => by omega)]
              congr 2; omega
            · have hy1 : y2 = 1 := by rcases o01 with q | q; exact absurd q hy0; exact q
              obtain ⟨⟨v, s2⟩, E0, v0, -, c2⟩ := hs.two (d := a % 10) (e := b % 10) (m := 2) (by omega) (by omega) (by omega)
              have v0 : v = tw G O (σ 3) (a % 10) (b % 10) 2 := v0
              have c2 : CJ σ s2 G O M 1 := c2
              rw [if_neg hy0, E0, b1M_some, if_neg hg, if_pos (show cst a b c = 1 ∧ y2 = 1 from ⟨e, hy1⟩)]
              by_cases hv : v = 1000
              · have z : q0 (tw G O (σ 3)) (a % 10) (b % 10) 2 = 0 := by unfold q0; rw [← v0, if_pos hv]
                rw [if_pos hv]
                obtain ⟨t, E1, ht⟩ := nextX x s2 c2 (by omega)
                rw [E1, if_neg hg, z]
                exact ⟨t, by congr 2; omega, ht⟩
              · have z : q0 (tw G O (σ 3)) (a % 10) (b % 10) 2 = 1 := by unfold q0; rw [← v0, if_neg hv]
                rw [if_neg hv]
                dsimp only
                obtain ⟨t, E1, ht⟩ := nextX (x + 1) s2 c2 (by omega)
                rw [if_pos r1, E1, if_neg hg, z]
                exact ⟨t, by congr 2; omega, ht⟩
      rw [L_E_carriedOn_22, if_neg (by omega)]
      simp only [t1, t2, t3, t4, ec, bindM_eq]
      simp only [bindM_eq] at J2
      by_cases h4 : m + 1 = 4
      · rw [if_pos (show 4 - ((m + 1 : Nat) : Int) = 0 by omega)]
        exact J2 1 (by rw [ho, if_pos h4])
      · rw [if_neg (show ¬ 4 - ((m + 1 : Nat) : Int) = 0 by omega)]
        rw [if_neg h4] at ho
        unfold bothS at ho
        by_cases ha0 : a ≤ 0
        · rw [if_pos ha0] at ho ⊢
          exact J2 0 ho.symm
        · rw [if_neg ha0] at ho ⊢
          by_cases hb0 : b ≤ 0
          · rw [if_pos hb0] at ho ⊢
            exact J2 0 ho.symm
          · rw [if_neg hb0] at ho ⊢
            exact J2 1 ho.symm
theorem carried_M {μ : Mm} {G O M : Law} {E : Nat → Int} : ∀ (m N : Nat) (a b c x y o : Int) (s : Mm), m ≤ 4 → m < N → MJ μ s G O M E → (0 ≤ a ∧ a < 10 ^ m) → (0 ≤ b ∧ b < 10 ^ m) → (c = 0 ∨ c = 1) → (0 ≤ x ∧ x ≤ 4 - m) → (0 ≤ y ∧ y ≤ 4 - m) → (o = 0 ∨ o = 1) → (o = 1 → 1 ≤ m) →
    ∃ t, L_M_carried_46 N a b c x y o s = some (x + timesS m a b c, y + talkS (tw G O E) m a b c o, t) ∧ MJ μ t G O M E := by
  intro m
  induction m with
  | zero =>
    intro N a b c x y o s hm hN hs ha hb hc hx hy ho ho2
    match N, hN with
    | N + 1, _ =>
      simp at ha hb
      have o0 : o = 0 := by rcases ho with h | h; exact h; exact absurd (ho2 h) (by omega)
      rw [L_M_carried_46, bindM_eq, if_neg (by omega), if_neg (by omega), if_pos o0]
      exact ⟨s, by simp [timesS, talkS], hs⟩
  | succ m ih =>
    intro N a b c x y o s hm hN hs ha hb hc hx hy ho ho2
    match N, hN with
    | N + 1, hN =>
      have p10 : (10 : Int) ^ (m + 1) = 10 ^ m * 10 := Int.pow_succ _ _
      have p4 : (10 : Int) ^ (m + 1) ≤ 10000 := by
        have : m = 0 ∨ m = 1 ∨ m = 2 ∨ m = 3 := by omega
        rcases this with rfl | rfl | rfl | rfl <;> decide
      have t1 : a.tmod 10 = a % 10 := Int.tmod_eq_emod_of_nonneg ha.1
      have t2 : b.tmod 10 = b % 10 := Int.tmod_eq_emod_of_nonneg hb.1
      have t3 : a.tdiv 10 = a / 10 := Int.tdiv_eq_ediv_of_nonneg ha.1
      have t4 : b.tdiv 10 = b / 10 := Int.tdiv_eq_ediv_of_nonneg hb.1
      have t5 : (a % 10 + b % 10 + c).tdiv 10 = cst a b c := by
        rw [Int.tdiv_eq_ediv_of_nonneg (by omega)]
        unfold cst; split <;> omega
      have cc := cst01 a b c
      by_cases hz : a ≤ 0 ∧ b ≤ 0 ∧ o = 0
      · have a0 : a = 0 := by omega
        have b0 : b = 0 := by omega
        subst a0; subst b0
        rw [L_M_carried_46, bindM_eq, if_neg (by omega), if_neg (by omega), if_pos hz.2.2, hz.2.2, timesS_0 (m + 1) c (by omega) (by omega), talkS_0 (m + 1) c (by omega) (by omega)]
        exact ⟨s, by simp, hs⟩
      · -- what comes next
        have J7 : ∀ (y7 : Int) (s2 : Mm), MJ μ s2 G O M E → y7 = (if cst a b c = 1 ∧ o = 1 then q0 (tw G O E) (a % 10) (b % 10) 2 else 0) → ∃ t, (bindM (fun (y8 : Int) => if r32 (x + cst a b c) then if r32 (y + y7) then L_M_carried_46 N (a / 10) (b / 10) (cst a b c) (x + cst a b c) (y + y7) y8 s2 else none else none) fun J8 => bindM (J8 0) fun J11 => if a / 10 ≤ 0 then J11 else if b / 10 ≤ 0 then J11 else J8 1) = some (x + timesS (m + 1) a b c, y + talkS (tw G O E) (m + 1) a b c o, t) ∧ MJ μ t G O M E := fun y7 s2 h2 hy7 => by
          have hq := q001 (T := tw G O E) (a := a % 10) (b := b % 10) (k := 2)
          have y01 : y7 = 0 ∨ y7 = 1 := by
            rw [hy7]
            by_cases h : cst a b c = 1 ∧ o = 1
            · rw [if_pos h]; exact hq
            · rw [if_neg h]; exact Or.inl rfl
          obtain ⟨t, E1, ht⟩ := ih N (a / 10) (b / 10) (cst a b c) (x + cst a b c) (y + y7) (bothS (a / 10) (b / 10)) s2 (by omega) (by omega) h2 ⟨by omega, by omega⟩ ⟨by omega, by omega⟩ cc (by omega) (by omega) (bothS01 _ _) (fun h => by
            cases m with
            | zero =>
              exfalso
              unfold bothS at h
              simp at ha
              rw [if_pos (by omega)] at h
              exact absurd h (by decide)
            | succ m => omega)
          have fin : L_M_carried_46 N (a / 10) (b / 10) (cst a b c) (x + cst a b c) (y + y7) (bothS (a / 10) (b / 10)) s2 = some (x + timesS (m + 1) a b c, y + talkS (tw G O E) (m + 1) a b c o, t) := by
            rw [E1, hy7]
            simp only [timesS, talkS]
            congr 2
            · omega
            · congr 1; omega
          refine ⟨t, ?_, ht⟩
          simp only [bindM_eq, if_pos (show r32 (x + cst a b c) from ⟨by omega, by omega⟩), if_pos (show r32 (y + y7) from ⟨by omega, by omega⟩)]
          unfold bothS at fin
          by_cases ha0 : a / 10 ≤ 0
          · rw [if_pos ha0] at fin ⊢; exact fin
          · rw [if_neg ha0] at fin ⊢
            by_cases hb0 : b / 10 ≤ 0
            · rw [if_pos hb0] at fin ⊢; exact fin
            · rw [if_neg hb0] at fin ⊢; exact fin
        rw [L_M_carried_46, bindM_eq]
        have main : ∃ t, (if r32 (((a.tmod 10) + (b.tmod 10)) + c) then bindM ((((a.tmod 10) + (b.tmod 10)) + c).tdiv 10) fun v6 => bindM (fun (y7 : Int) (t7 : Mm) => bindM (fun (y8 : Int) => if r32 (x + v6) then if r32 (y + y7) then L_M_carried_46 N (a.tdiv 10) (b.tdiv 10) v6 (x + v6) (y + y7) y8 t7 else none else none) fun J8 => bindM (J8 0) fun J11 => if a.tdiv 10 ≤ 0 then J11 else if b.tdiv 10 ≤ 0 then J11 else J8 1) fun J7 => bindM (fun (t12 : Mm) => J7 0 t12) fun J12 => if v6 = 1 then if o = 0 then J12 s else b1M (F_M_doQuarrel (a.tmod 10) (b.tmod 10) 1 0 s) fun v13 s13 => if v13 = 0 then J12 s13 else J7 1 s13 else J12 s else none) = some (x + timesS (m + 1) a b c, y + talkS (tw G O E) (m + 1) a b c o, t) ∧ MJ μ t G O M E := by
          rw [t1, t2, t3, t4, if_pos (show r32 (a % 10 + b % 10 + c) from ⟨by omega, by omega⟩), t5, bindM_eq, bindM_eq, bindM_eq]
          by_cases e : cst a b c = 1
          · rw [if_pos e]
            by_cases o0 : o = 0
            · rw [if_pos o0]
              exact J7 0 s hs (by rw [if_neg (fun q => by omega)])
            · have o1 : o = 1 := by omega
              obtain ⟨u, hu⟩ := Int.eq_ofNat_of_zero_le (show 0 ≤ a % 10 by omega)
              obtain ⟨w, hw⟩ := Int.eq_ofNat_of_zero_le (show 0 ≤ b % 10 by omega)
              obtain ⟨s2, E1, m2, -⟩ := hs.doQ (l := u) (r := w) (ap := 1) (la := 0) (by omega) (by omega) (by omega) (by omega)
              have eq : qv G E (u : Int) (w : Int) 1 0 = q0 (tw G O E) (a % 10) (b % 10) 2 := by rw [q0_qv, hu, hw]; rfl
              rw [if_neg o0]
              rw [← hu, ← hw] at E1 eq
              rw [E1, b1M_some, eq]
              rcases q001 (T := tw G O E) (a := a % 10) (b := b % 10) (k := 2) with z | z
              · rw [z, if_pos rfl]
                exact J7 0 s2 m2 (by rw [if_pos ⟨e, o1⟩, z])
              · rw [z, if_neg ne10]
                exact J7 1 s2 m2 (by rw [if_pos ⟨e, o1⟩, z])
          · rw [if_neg e]
            exact J7 0 s hs (by rw [if_neg (fun q => e q.1)])
        by_cases ha0 : 0 < a
        · rw [if_pos ha0]; exact main
        · rw [if_neg ha0]
          by_cases hb0 : 0 < b
          · rw [if_pos hb0]; exact main
          · rw [if_neg hb0, if_neg (show ¬ o = 0 from fun q => hz ⟨by omega, by omega, q⟩)]; exact main
theorem carried_rel {σ μ : Mm} {B R : Int} (h : Rel σ μ B R) (hB : B + 400 ≤ 90000000) (hR : R + 1000 < 2147483647) (x y z : Int) : Op (F_A_carried x y z σ) (F_M_carried x y z μ) B (R + 1000) := by
  obtain ⟨G, O, M, hN, hE⟩ := id h
  have hr := hN.round
  have out : Rel σ μ B (R + 1000) := h.w (Int.le_refl _) (by omega)
  unfold F_A_carried F_M_carried
  rw [num_A, num_A, in_ok, in_ok]
  simp only [b1_some]
  by_cases hx : NN x
  · rw [if_pos hx, if_neg ne10, if_neg ne10]
    by_cases hy : NN y
    · rw [if_pos hy, if_neg ne10, if_neg ne10]
      unfold F_E_carriedOn
      obtain ⟨τ, T1, cj, -⟩ := hN.fresh (by omega) (by omega)
      obtain ⟨ν, E1, mj, -⟩ := hN.lays
      obtain ⟨t, E2, ht⟩ := carried_C z 4 LF 0 0 x y τ 1 (by omega) (by unfold LF; omega) cj hx hy (Or.inl rfl) (by omega) (by rw [if_pos rfl])
      obtain ⟨u, E3, hu⟩ := carried_M 4 LF x y 0 0 0 1 ν (by omega) (by unfold LF; omega) mj ⟨hx.1, by have := hx.2; simp; omega⟩ ⟨hy.1, by have := hy.2; simp; omega⟩ (Or.inl rfl) (by omega) (by omega) (Or.inr rfl) (fun _ => by omega)
      have E2 : L_E_carriedOn_22 LF z 0 0 x y 0 τ = _ := E2
      rw [T1, b0M_some, E2, b1M_some, b1M_some, E1, b0M_some, E3]
      have b2 : ∀ (a b : Int) (s : Mm) (f : Int → Int → Mm → Option (Int × Mm)), b2M (some (a, b, s)) f = f a b s := fun a b s f => rfl
      rw [b2, Int.zero_add, Int.zero_add, Int.zero_add]
      by_cases hz : z = 0
      · rw [if_pos hz, if_pos hz]; exact Op.ret rfl (h.shut (n := 1) (by omega) (by omega) ht hu)
      · rw [if_neg hz, if_neg hz]; exact Op.ret rfl (h.shut (n := 1) (by omega) (by omega) ht hu)
    · rw [if_neg hy, if_pos rfl, if_pos rfl]; exact Op.ret rfl out
  · rw [if_neg hx, if_pos rfl, if_pos rfl]; exact Op.ret rfl out
