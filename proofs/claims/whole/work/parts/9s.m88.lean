-- tokens: one step of both readers
def sgn (c : Int) : Prop := c = 35 ∨ c = 37 ∨ (40 ≤ c ∧ c ≤ 45) ∨ c = 47 ∨ (59 ≤ c ∧ c ≤ 62)
def KindR (a b c d : Int) : Prop := (a = 0 ∧ c = 0) ∨ (a = 2 ∧ c = 2 ∧ NumR b d) ∨ (∃ j : Nat, j < 27 ∧ a = ((300 + j : Nat) : Int) ∧ c = 1 ∧ d = ((wmap j : Nat) : Int)) ∨ (c = 3 ∧ ((a = d ∧ sgn d) ∨ (a = 3 ∧ d = 300) ∨ (a = 4 ∧ d = 301))) ∨ (a = 1 ∧ c = 4)
/-- what a token's reading may change -/
def StC (s t : Mm) : Prop := (∀ k, (k < 5 ∨ 8 < k) → t 90 k = s 90 k) ∧ Fr [90] s t
def StM (u v : Mm) : Prop := (∀ k, (k < 15 ∨ 18 < k) → v 200 k = u 200 k) ∧ Fr [200] u v
theorem StC.tr {a b c : Mm} (h : StC a b) (k : StC b c) : StC a c := ⟨fun i hi => (k.1 i hi).trans (h.1 i hi), h.2.tr k.2⟩
theorem StM.tr {a b c : Mm} (h : StM a b) (k : StM b c) : StM a c := ⟨fun i hi => (k.1 i hi).trans (h.1 i hi), h.2.tr k.2⟩
theorem MvC.st {s t : Mm} {p : Nat} (h : MvC s t p) : StC s t := ⟨fun k hk => h.2.1 k (by omega) (by omega), h.2.2⟩
theorem MvM.st {s t : Mm} {p : Nat} (h : MvM s t p) : StM s t := ⟨fun k hk => h.2.1 k (by omega) (by omega), h.2.2⟩
theorem StC.put {s t : Mm} {k : Nat} {x : Int} (h : StC s t) (hk : 5 ≤ k ∧ k ≤ 8) : StC s (st2 t 90 k x) := ⟨fun i hi => by rw [st2_sk, if_neg (by omega)]; exact h.1 i hi, h.2.st (by decide)⟩
theorem StM.put {s t : Mm} {k : Nat} {x : Int} (h : StM s t) (hk : 15 ≤ k ∧ k ≤ 18) : StM s (st2 t 200 k x) := ⟨fun i hi => by rw [st2_sk, if_neg (by omega)]; exact h.1 i hi, h.2.st (by decide)⟩
theorem TpR.st {s t u v : Mm} {n : Nat} (h : TpR s u n) (hc : StC s t) (hm : StM u v) : TpR t v n := by
  obtain ⟨h1, h2, h3, h4⟩ := h
  refine ⟨h1, by rw [hc.1 1 (by omega)]; exact h2, by rw [hm.1 14 (by omega)]; exact h3, fun i hi => ?_⟩
  rw [hc.2 91 (by decide), hm.2 203 (by decide)]; exact h4 i hi
/-- a word on both sides -/
theorem word_ok {n e : Nat} {s u : Mm} (hT : TpR s u n) (he : e < n) (hs : s 90 5 = (e : Int)) (hs6 : s 90 6 = (e : Int)) (hu : u 200 15 = (e : Int)) (hl : ltr (s 91 e)) :
    ∃ (p : Nat) (t v : Mm), (b0M (L_R_step_191 LF s) fun s29 => b1 (F_R_wordFrom (s29 90 6) (s29 90 5) s29) fun v30 => bindM (st2 s29 90 7 v30) fun s32 => some s32) = some t ∧
      (b2M (L_M_next_99 LF 0 0 u) fun x2_51 x4_51 s51 => bindM (fun (y52 : Int) => bindM (st2 s51 200 18 y52) fun s54 => bindM ((if 0 ≤ s54 200 18 then 1 else 4 : Int)) fun v55 => bindM (st2 s54 200 17 v55) fun s57 => some s57) fun J52 => if x4_51 ≤ 7 then b1 (F_M_wordOf x2_51) fun v58 => J52 v58 else J52 ((-1))) = some v ∧
      StC s t ∧ StM u v ∧ e < p ∧ p ≤ n ∧ t 90 5 = (p : Int) ∧ v 200 15 = (p : Int) ∧ t 90 6 = s 90 6 ∧ v 200 16 = u 200 16 ∧ KindR (t 90 7) (t 90 8) (v 200 17) (v 200 18) := by
  obtain ⟨k, t, v, x, E1, E2, m1, m2, k1, k2, k3, k4⟩ := letters_ok (n := n) (a := e) (n - e) LF LF 0 s u 0 (by omega) (by have := hT.1; unfold LF; omega) (by have := hT.1; unfold LF; omega) hT hs hu (fun j hj => by omega) (fun _ => rfl)
  have E2 : L_M_next_99 LF 0 0 u = some (x, (k : Int), v) := E2
  have n300 := hT.1
  -- at least one letter
  have kp : 0 < k := by
    by_cases h : 0 < k
    · exact h
    · exfalso
      have k0 : k = 0 := by omega
      subst k0
      have q1 : ∀ N, L_R_step_191 (N + 1) s = some t → False := fun N h => by
        obtain ⟨v1, V1, V2, V3⟩ := let_C (s 91 e)
        rw [L_R_step_191, hT.2.1, hs, if_neg (by omega), if_pos (by omega), Int.toNat_natCast, V1, b1_some, V2 hl, if_neg ne10, if_pos (show r32 ((e : Int) + 1) from ⟨by omega, by omega⟩), bindM_eq] at h
        have mono : ∀ (d N : Nat) (s : Mm), ∀ t, L_R_step_191 N s = some t → (s 90 5 ≤ t 90 5) := fun d N => by
          induction N with
          | zero => intro s t h; rw [L_R_step_191] at h; simp at h
          | succ N ih =>
            intro s t h
            rw [L_R_step_191] at h
            by_cases c1 : s 90 1 ≤ s 90 5
            · rw [if_pos c1] at h; rw [← Option.some.inj h]; exact Int.le_refl _
            · rw [if_neg c1] at h
              by_cases c2 : 0 ≤ s 90 5 ∧ s 90 5 < 300
              · rw [if_pos c2] at h
                obtain ⟨v1, V1, -, -⟩ := let_C (s 91 ((s 90 5).toNat))
                rw [V1, b1_some] at h
                by_cases c3 : v1 = 0
                · rw [if_pos c3] at h; rw [← Option.some.inj h]; exact Int.le_refl _
                · rw [if_neg c3] at h
                  by_cases c4 : r32 (s 90 5 + 1)
                  · rw [if_pos c4, bindM_eq] at h
                    have := ih _ _ h
                    rw [st2_ss] at this
                    omega
                  · rw [if_neg c4] at h; simp at h
              · rw [if_neg c2] at h; simp at h
        have := mono 0 N _ _ h
        rw [st2_ss] at this
        have := m1.1
        omega
      exact q1 (LF - 1) (by rw [show LF - 1 + 1 = LF by decide]; exact E1)
  obtain ⟨r, hr⟩ := firstW_ex (f := s 91) (a := e) (b := e + k) wds 0
  have t91 : t 91 = s 91 := m1.2.2 91 (by decide)
  have W := wordFrom_ok (a := e) (b := e + k) (s := t) (r := r) (by omega) (by omega) (by rw [t91]; exact hr)
  obtain ⟨w1, w2⟩ := word_same k3 hr
  have t6 : t 90 6 = (e : Int) := by rw [m1.2.1 6 (by decide) (by decide)]; exact hs6
  have fin : ∀ (a y : Int), KindR a (s 90 8) (if 0 ≤ y then 1 else 4) y → t 90 8 = s 90 8 ∨ True → (∀ b, KindR a b (if 0 ≤ y then 1 else 4) y) → ∀ X : Option Mm, X = (bindM (st2 v 200 18 y) fun s54 => bindM ((if 0 ≤ s54 200 18 then 1 else 4 : Int)) fun v55 => bindM (st2 s54 200 17 v55) fun s57 => some s57) → ∃ (p : Nat) (t' v' : Mm), some (st2 t 90 7 a) = some t' ∧ X = some v' ∧ StC s t' ∧ StM u v' ∧ e < p ∧ p ≤ n ∧ t' 90 5 = (p : Int) ∧ v' 200 15 = (p : Int) ∧ t' 90 6 = s 90 6 ∧ v' 200 16 = u 200 16 ∧ KindR (t' 90 7) (t' 90 8) (v' 200 17) (v' 200 18) := fun a y _ _ hk X hX => by
    have z : st2 v 200 18 y 200 18 = y := st2_ss _ _ _ _
    rw [bindM_eq, z, bindM_eq, bindM_eq] at hX
    refine ⟨e + k, _, _, rfl, hX, m1.st.put (by omega), (m2.st.put (by omega)).put (by omega), by omega, k1, ?_, ?_, ?_, ?_, ?_⟩
    · rw [st2_sk, if_neg (by decide)]; exact m1.1
    · rw [st2_sk, if_neg (by decide), st2_sk, if_neg (by decide)]; exact m2.1
    · rw [st2_sk, if_neg (by decide), t6, hs6]
    · rw [st2_sk, if_neg (by decide), st2_sk, if_neg (by decide)]; exact m2.2.1 16 (by decide) (by decide)
    · have e1 : st2 t 90 7 a 90 7 = a := st2_ss _ _ _ _
      have e2 : st2 (st2 v 200 18 y) 200 17 (if 0 ≤ y then 1 else 4) 200 17 = if 0 ≤ y then 1 else 4 := st2_ss _ _ _ _
      have e3 : st2 (st2 v 200 18 y) 200 17 (if 0 ≤ y then 1 else 4) 200 18 = y := by rw [st2_sk, if_neg (by decide)]; exact z
      rw [e1, e2, e3]
      exact hk _
  have E1' : L_R_step_191 LF s = some t := E1
  rw [E1', b0M_some, t6, m1.1, W, b1_some, bindM_eq, E2]
  match r, w1, w2 with
  | some j, w1, _ =>
    obtain ⟨j27, k7, E3⟩ := w1 j rfl
    have hK : ∀ b, KindR ((300 + j : Nat) : Int) b (if (0 : Int) ≤ ((wmap j : Nat) : Int) then 1 else 4) ((wmap j : Nat) : Int) := fun b => by
      rw [if_pos (Int.natCast_nonneg _)]
      exact Or.inr (Or.inr (Or.inl ⟨j, j27, rfl, rfl, rfl⟩))
    refine fin ((300 + j : Nat) : Int) ((wmap j : Nat) : Int) (hK _) (Or.inr trivial) hK _ ?_
    show (if (k : Int) ≤ 7 then b1 (F_M_wordOf x) fun v58 => _ else _) = _
    rw [if_pos (by omega), k4 (by omega), E3, b1_some]
  | none, _, w2 =>
    have E3 := w2 rfl
    have hK : ∀ b, KindR 1 b (if (0 : Int) ≤ -1 then 1 else 4) (-1) := fun b => by
      rw [if_neg (by decide)]
      exact Or.inr (Or.inr (Or.inr (Or.inr ⟨rfl, rfl⟩)))
    refine fin 1 (-1) (hK _) (Or.inr trivial) hK _ ?_
    show (if (k : Int) ≤ 7 then b1 (F_M_wordOf x) fun v58 => _ else _) = _
    by_cases k7 : (k : Int) ≤ 7
    · rw [if_pos k7, k4 (by omega), E3, b1_some]
    · rw [if_neg k7]
