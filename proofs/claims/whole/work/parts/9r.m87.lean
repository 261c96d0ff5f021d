-- tokens: letters
theorem hr_bd : ∀ {l : List Int}, (∀ c ∈ l, ltr c) → hr l < 64 ^ l.length
  | [], _ => by decide
  | c :: r, h => by
    have h1 := hr_bd (l := r) (fun d hd => h d (List.mem_cons_of_mem _ hd))
    have h2 := h c (List.mem_cons_self ..)
    unfold ltr at h2
    simp only [hr, List.length_cons]
    rw [Int.pow_succ]
    omega
theorem p64 : ∀ k : Nat, k < 8 → (64 : Int) ^ k ≤ 4398046511104 := by decide +kernel
theorem hsh_bd {f : Nat → Int} {a k : Nat} (h : ∀ j, j < k → ltr (f (a + j))) (hk : k < 8) : 0 ≤ hsh (sgm f a k) ∧ hsh (sgm f a k) < 4398046511104 := by
  have l := sgm_ltr h
  have l2 : ∀ c ∈ (sgm f a k).reverse, ltr c := fun c hc => l c (List.mem_reverse.mp hc)
  have h1 := (hr_nn l2).1
  have h2 := hr_bd l2
  rw [List.length_reverse, sgm_len] at h2
  have h3 := p64 k hk
  unfold hsh
  omega
theorem letters_ok {n a : Nat} : ∀ (d N N' k : Nat) (s u : Mm) (x2 : Int), a + k + d = n → d < N → d < N' → TpR s u n → s 90 5 = ((a + k : Nat) : Int) → u 200 15 = ((a + k : Nat) : Int) → (∀ j, j < k → ltr (s 91 (a + j))) → (k ≤ 8 → x2 = hsh (sgm (s 91) a k)) → ∃ (e : Nat) (t v : Mm) (x : Int), L_R_step_191 N s = some t ∧ L_M_next_99 N' x2 (k : Int) u = some (x, (e : Int), v) ∧ MvC s t (a + e) ∧ MvM u v (a + e) ∧ a + e ≤ n ∧ k ≤ e ∧ (∀ j, j < e → ltr (s 91 (a + j))) ∧ (e ≤ 8 → x = hsh (sgm (s 91) a e)) := by
  intro d
  induction d with
  | zero =>
    intro N N' k s u x2 hp hN hN' hT hs hu hl hx
    match N, N', hN, hN' with
    | N + 1, N' + 1, _, _ =>
      obtain ⟨h1, h2, h3, h4⟩ := hT
      rw [L_R_step_191, L_M_next_99, h2, h3, hs, hu, if_pos (by omega), if_pos (by omega)]
      exact ⟨k, s, u, x2, rfl, rfl, ⟨hs, fun _ _ _ => rfl, Fr.rf⟩, ⟨hu, fun _ _ _ => rfl, Fr.rf⟩, by omega, Nat.le_refl _, hl, hx⟩
  | succ d ih =>
    intro N N' k s u x2 hp hN hN' hT hs hu hl hx
    match N, N', hN, hN' with
    | N + 1, N' + 1, hN, hN' =>
      obtain ⟨h1, h2, h3, h4⟩ := id hT
      obtain ⟨hc1, hc2, hc3⟩ := h4 (a + k) (by omega)
      have c300 : 0 ≤ ((a + k : Nat) : Int) ∧ ((a + k : Nat) : Int) < 300 := by omega
      have nle : ¬ (n : Int) ≤ ((a + k : Nat) : Int) := by omega
      obtain ⟨v1, V1, V2, V3⟩ := let_C (s 91 (a + k))
      obtain ⟨w1, W1, W2, W3⟩ := let_M (u 203 (a + k))
      have EC1 : L_R_step_191 (N + 1) s = if v1 = 0 then some s else L_R_step_191 N (st2 s 90 5 (s 90 5 + 1)) := by
        rw [L_R_step_191, h2, hs, if_neg nle, if_pos c300, Int.toNat_natCast, V1, b1_some]
        by_cases hv : v1 = 0
        · rw [if_pos hv, if_pos hv]
        · rw [if_neg hv, if_neg hv, if_pos (show r32 (((a + k : Nat) : Int) + 1) from ⟨by omega, by omega⟩), bindM_eq]
      by_cases hlt : ltr (s 91 (a + k))
      · have eu : u 203 (a + k) = s 91 (a + k) := by
          unfold ltr at hlt
          omega
        have hv : v1 = 1 := V2 hlt
        have hw : w1 = 1 := W2 (by rw [eu]; exact hlt)
        have m1 := mvC_one hs
        have m2 := mvM_one hu
        have e4 : (k : Int) + 1 = ((k + 1 : Nat) : Int) := by omega
        have go : ∀ y : Int, (k + 1 ≤ 8 → y = hsh (sgm (s 91) a (k + 1))) → ∃ (e : Nat) (t v : Mm) (x : Int), L_R_step_191 N (st2 s 90 5 (s 90 5 + 1)) = some t ∧ L_M_next_99 N' y ((k + 1 : Nat) : Int) (st2 u 200 15 (u 200 15 + 1)) = some (x, (e : Int), v) ∧ MvC s t (a + e) ∧ MvM u v (a + e) ∧ a + e ≤ n ∧ k ≤ e ∧ (∀ j, j < e → ltr (s 91 (a + j))) ∧ (e ≤ 8 → x = hsh (sgm (s 91) a e)) := fun y hy => by
          have s91 : st2 s 90 5 (s 90 5 + 1) 91 = s 91 := st2_ne (by decide)
          obtain ⟨e, t, v, x, E1, E2, k1, k2, k3, k4, k5, k6⟩ := ih N N' (k + 1) _ _ y (by omega) (by omega) (by omega) (hT.mv m1 m2) (by rw [m1.1]; rfl) (by rw [m2.1]; rfl) (by
            rw [s91]
            intro j hj
            by_cases e : j = k
            · rw [e]; exact hlt
            · exact hl j (by omega)) (by rw [s91]; exact hy)
          rw [s91] at k5 k6
          exact ⟨e, t, v, x, E1, E2, m1.tr k1, m2.tr k2, k3, by omega, k5, k6⟩
        have nx : ∀ y : Int, (fun (y45 : Int) => if r32 ((u 200 15) + 1) then bindM (st2 u 200 15 ((u 200 15) + 1)) fun s48 => if r32 ((k : Int) + 1) then L_M_next_99 N' y45 ((k : Int) + 1) s48 else none else none) y = L_M_next_99 N' y ((k + 1 : Nat) : Int) (st2 u 200 15 (u 200 15 + 1)) := fun y => by
          dsimp only
          rw [if_pos (show r32 (u 200 15 + 1) by rw [hu]; exact ⟨by omega, by omega⟩), bindM_eq, e4, if_pos (r32_nat (by omega))]
        have EM1 : L_M_next_99 (N' + 1) x2 (k : Int) u = if 8 ≤ (k : Int) then L_M_next_99 N' x2 ((k + 1 : Nat) : Int) (st2 u 200 15 (u 200 15 + 1)) else L_M_next_99 N' (64 * x2 + s 91 (a + k) - 64) ((k + 1 : Nat) : Int) (st2 u 200 15 (u 200 15 + 1)) := by
          rw [L_M_next_99, h3]
          by_cases h8 : 8 ≤ (k : Int)
          · rw [if_pos h8, ← nx, hu, if_neg nle, if_pos c300, Int.toNat_natCast, W1, b1_some, if_neg (by omega), bindM_eq, if_pos h8]
          · have hb := hsh_bd hl (by omega)
            have ex := hx (by omega)
            have hlt2 := hlt
            unfold ltr at hlt2
            rw [if_neg h8, ← nx, hu, if_neg nle, if_pos c300, Int.toNat_natCast, W1, b1_some, if_neg (by omega), bindM_eq, if_neg h8, if_pos c300, eu, if_pos (show r64 (64 * x2 + s 91 (a + k) - 64) from ⟨by omega, by omega⟩)]
        rw [EC1, if_neg (by omega), EM1]
        by_cases h8 : 8 ≤ (k : Int)
        · rw [if_pos h8]
          exact go x2 (fun q => by omega)
        · rw [if_neg h8]
          exact go _ (fun q => by rw [sgm, hsh_s, ← hx (by omega)])
      · have hv : v1 = 0 := V3 hlt
        have hw : w1 = 0 := W3 (fun q => hlt (by unfold ltr at q ⊢; omega))
        rw [EC1, if_pos hv, L_M_next_99, h3, hu, if_neg nle, if_pos c300, Int.toNat_natCast, W1, b1_some, if_pos hw]
        exact ⟨k, s, u, x2, rfl, rfl, ⟨hs, fun _ _ _ => rfl, Fr.rf⟩, ⟨hu, fun _ _ _ => rfl, Fr.rf⟩, by omega, Nat.le_refl _, hl, hx⟩
