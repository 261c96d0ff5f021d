-- all clauses of a TEXT on both sides; the reference keeps them
theorem read_loop {T n : Nat} (q : IsO 0 9 T) : ∀ (d N K S Om e c : Nat) (Ls : Nat → Law) (s u : Mm), K + d = 24 → d + 1 < N → PS s u T n K S Om e c Ls → ∃ t v m, L_R_read_38 N (K : Int) s = some t ∧ MT u v m ∧ m ≤ 603 * (d + 1) ∧ TC s t T ∧ TM u v ∧ (ErrR t v ∨ ∃ K2 S2 Om2 e2 c2 Ls2, PS t v T n K2 S2 Om2 e2 c2 Ls2 ∧ v 200 17 = 0) := by
  intro d
  induction d with
  | zero =>
    intro N K S Om e c Ls s u hK hN h
    obtain ⟨N, rfl⟩ : ∃ k, N = k + 2 := ⟨N - 2, by omega⟩
    have h3 : s 90 3 = 0 := h.2.1.1
    have hK2 : (K : Int) + 1 = ((K + 1 : Nat) : Int) := by omega
    by_cases h0 : s 90 7 = 0
    · refine ⟨s, u, 0, ?_, MT.rf, by omega, TC.rf, TM.rf, Or.inr ⟨K, S, Om, e, c, Ls, h, (kind_0 h.1.2.2.2).mp h0⟩⟩
      rw [L_R_read_38, if_neg (show ¬ (24 : Int) < (K : Int) by omega), if_pos h0]
    · obtain ⟨t, v, m, E, mt, hm, tc, tm, fin⟩ := clause_ok q h h0
      rcases fin with fin | ⟨S2, Om2, e2, c2, Ls2, h2⟩
      · refine ⟨t, v, m, ?_, mt, by omega, tc, tm, Or.inl fin⟩
        have f3 : ¬ t 90 3 = 0 := by have := fin.1; have := fin.2.1; omega
        rw [show N + 2 = (N + 1) + 1 from rfl, L_R_read_38, if_neg (show ¬ (24 : Int) < (K : Int) by omega), if_neg h0, if_pos h3, E, b0M_some, hK2, if_pos (r32_nat (by omega)), L_R_read_38, if_neg f3, ite_self, ite_self]
      · have := h2.2.2.1.2.2.2
        omega
  | succ d ih =>
    intro N K S Om e c Ls s u hK hN h
    obtain ⟨N, rfl⟩ : ∃ k, N = k + 2 := ⟨N - 2, by omega⟩
    have h3 : s 90 3 = 0 := h.2.1.1
    have hK2 : (K : Int) + 1 = ((K + 1 : Nat) : Int) := by omega
    by_cases h0 : s 90 7 = 0
    · refine ⟨s, u, 0, ?_, MT.rf, by omega, TC.rf, TM.rf, Or.inr ⟨K, S, Om, e, c, Ls, h, (kind_0 h.1.2.2.2).mp h0⟩⟩
      rw [L_R_read_38, if_neg (show ¬ (24 : Int) < (K : Int) by omega), if_pos h0]
    · obtain ⟨t, v, m, E, mt, hm, tc, tm, fin⟩ := clause_ok q h h0
      have L1 : L_R_read_38 (N + 2) (K : Int) s = L_R_read_38 (N + 1) ((K + 1 : Nat) : Int) t := by
        rw [show N + 2 = (N + 1) + 1 from rfl, L_R_read_38, if_neg (show ¬ (24 : Int) < (K : Int) by omega), if_neg h0, if_pos h3, E, b0M_some, hK2, if_pos (r32_nat (by omega))]
      rcases fin with fin | ⟨S2, Om2, e2, c2, Ls2, h2⟩
      · refine ⟨t, v, m, ?_, mt, by omega, tc, tm, Or.inl fin⟩
        have f3 : ¬ t 90 3 = 0 := by have := fin.1; have := fin.2.1; omega
        rw [L1, L_R_read_38, if_neg f3, ite_self, ite_self]
      · obtain ⟨t2, v2, m2, E2, mt2, hm2, tc2, tm2, fin2⟩ := ih (N + 1) (K + 1) S2 Om2 e2 c2 Ls2 t v (by omega) (by omega) h2
        exact ⟨t2, v2, m + m2, by rw [L1, E2], mt.tr mt2, by omega, tc.tr tc2, tm.tr tm2, fin2⟩
theorem mt_err {v : Mm} (h : 0 < v 200 19) (N : Nat) : L_M_text_74 (N + 1) v = some v := by
  rw [L_M_text_74, if_neg (by omega)]
theorem mt_end {v : Mm} (h19 : v 200 19 = 0) (h28 : v 200 28 = 4) (h17 : v 200 17 = 0) (N : Nat) : L_M_text_74 (N + 1) v = some v := by
  rw [L_M_text_74, if_pos h19, bindM_eq, if_pos h28, if_pos h17]
theorem cp295 {X k : Nat} (hX : X < 4) (hk : k < 24) : ∀ (d N i : Nat) (s : Mm), i + d = 4 → d < N → ∃ s', L_M_text_295 N (X : Int) (k : Int) (i : Int) s = some s' ∧ (∀ j, i ≤ j → j < 4 → s' 209 (96 * X + 4 * k + j) = s 220 (4 * k + j)) ∧ (∀ x, (x < 96 * X + 4 * k + i ∨ 96 * X + 4 * k + 4 ≤ x) → s' 209 x = s 209 x) ∧ Fr [209] s s' := by
  intro d
  induction d with
  | zero =>
    intro N i s hi hN
    obtain ⟨N, rfl⟩ : ∃ k, N = k + 1 := ⟨N - 1, by omega⟩
    rw [L_M_text_295, if_pos (by omega)]
    exact ⟨s, rfl, fun j h1 h2 => by omega, fun _ _ => rfl, Fr.rf⟩
  | succ d ih =>
    intro N i s hi hN
    obtain ⟨N, rfl⟩ : ∃ k, N = k + 1 := ⟨N - 1, by omega⟩
    have e1 : 4 * (k : Int) + (i : Int) = ((4 * k + i : Nat) : Int) := by omega
    have e2 : 96 * (X : Int) + 4 * (k : Int) + (i : Int) = ((96 * X + 4 * k + i : Nat) : Int) := by omega
    have e3 : (i : Int) + 1 = ((i + 1 : Nat) : Int) := by omega
    obtain ⟨s', E, k1, k2, k3⟩ := ih N (i + 1) (st2 s 209 (96 * X + 4 * k + i) (s 220 (4 * k + i))) (by omega) (by omega)
    rw [L_M_text_295, if_neg (by omega), e1, e2, if_pos (show 0 ≤ ((4 * k + i : Nat) : Int) ∧ ((4 * k + i : Nat) : Int) < 96 by omega), if_pos (show 0 ≤ ((96 * X + 4 * k + i : Nat) : Int) ∧ ((96 * X + 4 * k + i : Nat) : Int) < 384 by omega), Int.toNat_natCast, Int.toNat_natCast, bindM_eq, e3, if_pos (r32_nat (by omega)), E]
    refine ⟨s', rfl, fun j h1 h2 => ?_, fun x hx => ?_, (Fr.rf.st (by decide)).tr k3⟩
    · by_cases c : j = i
      · rw [c, k2 _ (by omega), st2_ss]
      · rw [k1 j (by omega) h2, st2_ne (by decide)]
    · rw [k2 x (by omega), st2_sk, if_neg (by omega)]
theorem cp211 {X K : Nat} (hX : X < 4) (hK : K ≤ 24) : ∀ (d N k : Nat) (s : Mm), k + d = K → d < N → s 200 29 = (K : Int) → (∀ j, j < K → 0 ≤ s 217 j ∧ s 217 j ≤ 400) → ∃ s', L_M_text_211 N (X : Int) (k : Int) s = some s' ∧ (∀ j, k ≤ j → j < K → s' 205 (24 * X + j) = s 216 j ∧ s' 206 (24 * X + j) = 400 * (X : Int) + s 217 j ∧ s' 207 (24 * X + j) = s 218 j ∧ s' 208 (24 * X + j) = s 219 j ∧ ∀ i, i < 4 → s' 209 (96 * X + 4 * j + i) = s 220 (4 * j + i)) ∧ (∀ x, x < 24 * X + k → s' 205 x = s 205 x ∧ s' 206 x = s 206 x ∧ s' 207 x = s 207 x ∧ s' 208 x = s 208 x) ∧ (∀ x, x < 96 * X + 4 * k → s' 209 x = s 209 x) ∧ Fr [205, 206, 207, 208, 209] s s' := by
  intro d
  induction d with
  | zero =>
    intro N k s hk hN h29 _
    obtain ⟨N, rfl⟩ : ∃ k, N = k + 1 := ⟨N - 1, by omega⟩
    rw [L_M_text_211, h29, if_pos (by omega)]
    exact ⟨s, rfl, fun j h1 h2 => by omega, fun _ _ => ⟨rfl, rfl, rfl, rfl⟩, fun _ _ => rfl, Fr.rf⟩
  | succ d ih =>
    intro N k s hk hN h29 h17
    obtain ⟨N, rfl⟩ : ∃ k, N = k + 1 := ⟨N - 1, by omega⟩
    have ck : 0 ≤ (k : Int) ∧ (k : Int) < 24 := by omega
    have e1 : 24 * (X : Int) + (k : Int) = ((24 * X + k : Nat) : Int) := by omega
    have c96 : 0 ≤ ((24 * X + k : Nat) : Int) ∧ ((24 * X + k : Nat) : Int) < 96 := by omega
    have e3 : (k : Int) + 1 = ((k + 1 : Nat) : Int) := by omega
    have a1 : st2 s 205 (24 * X + k) (s 216 k) 217 k = s 217 k := by rw [st2_ne (by decide)]
    have b17 := h17 k (by omega)
    have k24 : k < 24 := by omega
    have rk : r32 ((k + 1 : Nat) : Int) := r32_nat (by omega)
    have a2 : st2 (st2 s 205 (24 * X + k) (s 216 k)) 206 (24 * X + k) (400 * (X : Int) + s 217 k) 218 k = s 218 k := by rw [st2_ne (by decide), st2_ne (by decide)]
    have a3 : st2 (st2 (st2 s 205 (24 * X + k) (s 216 k)) 206 (24 * X + k) (400 * (X : Int) + s 217 k)) 207 (24 * X + k) (s 218 k) 219 k = s 219 k := by rw [st2_ne (by decide), st2_ne (by decide), st2_ne (by decide)]
    have F4 : Fr [205, 206, 207, 208, 209] s (st2 (st2 (st2 (st2 s 205 (24 * X + k) (s 216 k)) 206 (24 * X + k) (400 * (X : Int) + s 217 k)) 207 (24 * X + k) (s 218 k)) 208 (24 * X + k) (s 219 k)) := (((Fr.rf.st (by decide)).st (by decide)).st (by decide)).st (by decide)
    have v5 : ∀ x, st2 (st2 (st2 (st2 s 205 (24 * X + k) (s 216 k)) 206 (24 * X + k) (400 * (X : Int) + s 217 k)) 207 (24 * X + k) (s 218 k)) 208 (24 * X + k) (s 219 k) 205 x = if x = 24 * X + k then s 216 k else s 205 x := fun x => by rw [st2_ne (by decide), st2_ne (by decide), st2_ne (by decide), st2_sk]
    have v6 : ∀ x, st2 (st2 (st2 (st2 s 205 (24 * X + k) (s 216 k)) 206 (24 * X + k) (400 * (X : Int) + s 217 k)) 207 (24 * X + k) (s 218 k)) 208 (24 * X + k) (s 219 k) 206 x = if x = 24 * X + k then 400 * (X : Int) + s 217 k else s 206 x := fun x => by rw [st2_ne (by decide), st2_ne (by decide), st2_sk, st2_ne (by decide)]
    have v7 : ∀ x, st2 (st2 (st2 (st2 s 205 (24 * X + k) (s 216 k)) 206 (24 * X + k) (400 * (X : Int) + s 217 k)) 207 (24 * X + k) (s 218 k)) 208 (24 * X + k) (s 219 k) 207 x = if x = 24 * X + k then s 218 k else s 207 x := fun x => by rw [st2_ne (by decide), st2_sk, st2_ne (by decide), st2_ne (by decide)]
    have v8 : ∀ x, st2 (st2 (st2 (st2 s 205 (24 * X + k) (s 216 k)) 206 (24 * X + k) (400 * (X : Int) + s 217 k)) 207 (24 * X + k) (s 218 k)) 208 (24 * X + k) (s 219 k) 208 x = if x = 24 * X + k then s 219 k else s 208 x := fun x => by rw [st2_sk, st2_ne (by decide), st2_ne (by decide), st2_ne (by decide)]
    have v9 : st2 (st2 (st2 (st2 s 205 (24 * X + k) (s 216 k)) 206 (24 * X + k) (400 * (X : Int) + s 217 k)) 207 (24 * X + k) (s 218 k)) 208 (24 * X + k) (s 219 k) 209 = s 209 := by rw [st2_ne (by decide), st2_ne (by decide), st2_ne (by decide), st2_ne (by decide)]
    have st : L_M_text_211 (N + 1) (X : Int) (k : Int) s = b0M (L_M_text_295 LF (X : Int) (k : Int) 0 (st2 (st2 (st2 (st2 s 205 (24 * X + k) (s 216 k)) 206 (24 * X + k) (400 * (X : Int) + s 217 k)) 207 (24 * X + k) (s 218 k)) 208 (24 * X + k) (s 219 k))) fun s47 => if r32 ((k + 1 : Nat) : Int) then L_M_text_211 N (X : Int) ((k + 1 : Nat) : Int) s47 else none := by
      rw [L_M_text_211, h29, if_neg (by omega), if_pos ck, e1, if_pos c96, Int.toNat_natCast, Int.toNat_natCast, bindM_eq, a1, if_pos ck, if_pos (show r32 (400 * (X : Int) + s 217 k) from ⟨by omega, by omega⟩), if_pos c96, bindM_eq, a2, if_pos ck, if_pos c96, bindM_eq, a3, if_pos ck, if_pos c96, bindM_eq, e3]
    generalize st2 (st2 (st2 (st2 s 205 (24 * X + k) (s 216 k)) 206 (24 * X + k) (400 * (X : Int) + s 217 k)) 207 (24 * X + k) (s 218 k)) 208 (24 * X + k) (s 219 k) = s4 at *
    obtain ⟨s5, E5, g1, g2, g3⟩ := cp295 hX k24 4 LF 0 s4 rfl (by unfold LF; omega)
    have E5 : L_M_text_295 LF (X : Int) (k : Int) 0 s4 = some s5 := E5
    have s5i : ∀ i, i ≠ 209 → s5 i = s4 i := fun i hi => g3 i (by simpa using hi)
    have s5s : ∀ i, i ∉ ([205, 206, 207, 208, 209] : List Nat) → s5 i = s i := fun i hi => (F4.tr (g3.w (by decide))) i hi
    obtain ⟨s', E, k1, k2, k3, k4⟩ := ih N (k + 1) s5 (by omega) (by omega) (by rw [s5s 200 (by decide)]; exact h29) (fun j hj => by rw [s5s 217 (by decide)]; exact h17 j hj)
    refine ⟨s', by rw [st, E5, b0M_some, if_pos rk, E], fun j h1 h2 => ?_, fun x hx => ?_, fun x hx => ?_, (F4.tr (g3.w (by decide))).tr k4⟩
    · by_cases c : j = k
      · subst c
        obtain ⟨q1, q2, q3, q4⟩ := k2 (24 * X + j) (by omega)
        rw [q1, q2, q3, q4, s5i 205 (by decide), s5i 206 (by decide), s5i 207 (by decide), s5i 208 (by decide), v5, v6, v7, v8, if_pos rfl, if_pos rfl, if_pos rfl, if_pos rfl]
        refine ⟨rfl, rfl, rfl, rfl, fun i hi => ?_⟩
        rw [k3 _ (by omega), g1 i (Nat.zero_le _) hi, F4 220 (by decide)]
      · obtain ⟨q1, q2, q3, q4, q5⟩ := k1 j (by omega) h2
        rw [s5s 216 (by decide), s5s 217 (by decide), s5s 218 (by decide), s5s 219 (by decide), s5s 220 (by decide)] at *
        exact ⟨q1, q2, q3, q4, q5⟩
    · obtain ⟨q1, q2, q3, q4⟩ := k2 x (by omega)
      rw [q1, q2, q3, q4, s5i 205 (by decide), s5i 206 (by decide), s5i 207 (by decide), s5i 208 (by decide), v5, v6, v7, v8, if_neg (by omega), if_neg (by omega), if_neg (by omega), if_neg (by omega)]
      exact ⟨rfl, rfl, rfl, rfl⟩
    · rw [k3 x (by omega), g2 x (by omega), v9]
theorem cp339 {X O : Nat} (hX : X < 4) (hO : O ≤ 400) : ∀ (d N k : Nat) (s : Mm), k + d = O → d < N → s 200 36 = (O : Int) → ∃ s', L_M_text_339 N (X : Int) (k : Int) s = some s' ∧ (∀ j, k ≤ j → j < O → s' 210 (400 * X + j) = s 221 j ∧ s' 211 (400 * X + j) = s 222 j) ∧ (∀ x, x < 400 * X + k → s' 210 x = s 210 x ∧ s' 211 x = s 211 x) ∧ Fr [210, 211] s s' := by
  intro d
  induction d with
  | zero =>
    intro N k s hk hN h36
    obtain ⟨N, rfl⟩ : ∃ k, N = k + 1 := ⟨N - 1, by omega⟩
    rw [L_M_text_339, h36, if_pos (by omega)]
    exact ⟨s, rfl, fun j h1 h2 => by omega, fun _ _ => ⟨rfl, rfl⟩, Fr.rf⟩
  | succ d ih =>
    intro N k s hk hN h36
    obtain ⟨N, rfl⟩ : ∃ k, N = k + 1 := ⟨N - 1, by omega⟩
    have ck : 0 ≤ (k : Int) ∧ (k : Int) < 400 := by omega
    have e1 : 400 * (X : Int) + (k : Int) = ((400 * X + k : Nat) : Int) := by omega
    have c16 : 0 ≤ ((400 * X + k : Nat) : Int) ∧ ((400 * X + k : Nat) : Int) < 1600 := by omega
    have e3 : (k : Int) + 1 = ((k + 1 : Nat) : Int) := by omega
    have a1 : st2 s 210 (400 * X + k) (s 221 k) 222 k = s 222 k := by rw [st2_ne (by decide)]
    have F2 : Fr [210, 211] s (st2 (st2 s 210 (400 * X + k) (s 221 k)) 211 (400 * X + k) (s 222 k)) := (Fr.rf.st (by decide)).st (by decide)
    obtain ⟨s', E, k1, k2, k4⟩ := ih N (k + 1) (st2 (st2 s 210 (400 * X + k) (s 221 k)) 211 (400 * X + k) (s 222 k)) (by omega) (by omega) (by rw [F2 200 (by decide)]; exact h36)
    refine ⟨s', ?_, fun j h1 h2 => ?_, fun x hx => ?_, F2.tr k4⟩
    · rw [L_M_text_339, h36, if_neg (by omega), if_pos ck, e1, if_pos c16, Int.toNat_natCast, Int.toNat_natCast, bindM_eq, if_pos ck, if_pos c16, a1, bindM_eq, e3, if_pos (r32_nat (by omega)), E]
    · by_cases c : j = k
      · subst c
        obtain ⟨q1, q2⟩ := k2 (400 * X + j) (by omega)
        rw [q1, q2, st2_ne (by decide), st2_ss, st2_ss]; exact ⟨rfl, rfl⟩
      · obtain ⟨q1, q2⟩ := k1 j (by omega) h2
        rw [q1, q2, F2 221 (by decide), F2 222 (by decide)]; exact ⟨rfl, rfl⟩
    · obtain ⟨q1, q2⟩ := k2 x (by omega)
      rw [q1, q2, st2_ne (by decide), st2_sk, if_neg (by omega), st2_sk, if_neg (by omega), st2_ne (by decide)]; exact ⟨rfl, rfl⟩
