-- a law, from its first token to its last
theorem rl_one {N i : Nat} {s : Mm} (hi : i ≤ 300) {y : Int} {t : Mm} (h : F_R_readOne s = some (y, t)) : L_R_readLaw_45 (N + 1) 0 (i : Int) s = L_R_readLaw_45 N y ((i + 1 : Nat) : Int) t := by
  have e : (i : Int) + 1 = ((i + 1 : Nat) : Int) := by omega
  rw [L_R_readLaw_45, if_neg (show ¬ (300 : Int) < (i : Int) by omega), if_neg (show ¬ (0 : Int) = 2 by decide), bindM_eq]
  dsimp only
  rw [bindM_eq, bindM_eq, bindM_eq, if_pos (show (0 : Int) = 0 from rfl), h, b1M_some, e]
  dsimp only
  rw [if_pos (r32_nat (by omega)), if_pos (show (0 : Int) = 0 from rfl), ite_self, ite_self, ite_self]
theorem rl_end {N i : Nat} {s : Mm} (hi : i ≤ 300) {y : Int} {t : Mm} (h : F_R_readEnd s = some (y, t)) (ht : s 90 7 = 41 ∨ s 90 7 = 44 ∨ s 90 7 = 59) : L_R_readLaw_45 (N + 1) 1 (i : Int) s = L_R_readLaw_45 N y ((i + 1 : Nat) : Int) t := by
  have e : (i : Int) + 1 = ((i + 1 : Nat) : Int) := by omega
  have key : ∀ A B : Option Mm, (if s 90 7 = 41 then A else if s 90 7 = 44 then A else if s 90 7 = 59 then A else B) = A := fun A B => by
    by_cases c1 : s 90 7 = 41
    · rw [if_pos c1]
    · by_cases c2 : s 90 7 = 44
      · rw [if_neg c1, if_pos c2]
      · rw [if_neg c1, if_neg c2, if_pos (by omega)]
  rw [L_R_readLaw_45, if_neg (show ¬ (300 : Int) < (i : Int) by omega), if_neg (show ¬ (1 : Int) = 2 by decide), bindM_eq]
  dsimp only
  rw [bindM_eq, key, bindM_eq, if_neg (show ¬ (1 : Int) = 0 by decide), if_neg (show ¬ (1 : Int) = 0 by decide), h, b1M_some, e]
  dsimp only
  rw [if_pos (r32_nat (by omega))]
theorem rl_beh {N i : Nat} {s : Mm} (hi : i ≤ 300) {y : Int} {t : Mm} (h : F_R_readBehind s = some (y, t)) (n41 : ¬ s 90 7 = 41) (n44 : ¬ s 90 7 = 44) (n59 : ¬ s 90 7 = 59) : L_R_readLaw_45 (N + 1) 1 (i : Int) s = L_R_readLaw_45 N y ((i + 1 : Nat) : Int) t := by
  have e : (i : Int) + 1 = ((i + 1 : Nat) : Int) := by omega
  rw [L_R_readLaw_45, if_neg (show ¬ (300 : Int) < (i : Int) by omega), if_neg (show ¬ (1 : Int) = 2 by decide), bindM_eq]
  dsimp only
  rw [bindM_eq, if_neg n41, if_neg n44, if_neg n59, bindM_eq, if_neg (show ¬ (1 : Int) = 0 by decide), if_pos (show (0 : Int) = 0 from rfl), h, b1M_some, e]
  dsimp only
  rw [if_pos (r32_nat (by omega))]
theorem rl_stop {N i : Nat} {s : Mm} : L_R_readLaw_45 (N + 1) 2 (i : Int) s = some s := by
  rw [L_R_readLaw_45, if_pos (show (2 : Int) = 2 from rfl), ite_self]
theorem law_loop {T law : Nat} {b : Int} {S O n K : Nat} (q : IsO 0 9 T) (hK : K < 1000) : ∀ (d N i c : Nat) (x2 : Int) (s u : Mm), i + d = 301 → d < N → i ≤ c → ((x2 = 0 ∧ ∃ g cs e, RunB s u T law b g cs S O n e c K) ∨ (x2 = 1 ∧ ∃ g cs e, RunH s u T law b g cs S O n e c K)) → ∃ t v m c2, L_R_readLaw_45 N x2 (i : Int) s = some t ∧ MT u v m ∧ m ≤ 2 * d ∧ GC s t T S ∧ GM u v O ∧ (ErrR t v ∨ Done t v T law S O n c2 K) := by
  intro d
  induction d with
  | zero =>
    intro N i c x2 s u hi hN hc h
    exfalso
    have key : ∀ g cs e, Run s u T law b g cs S O n e c K → False := fun g cs e r => by
      have h1 := r.1.1.1
      have h2 := r.1.2.1.2.2
      rcases r.2.2.2.2.2.1.1 with p | ⟨_, p⟩ <;> omega
    rcases h with ⟨_, g, cs, e, r⟩ | ⟨_, g, cs, e, r⟩
    · exact key g cs e r.1
    · exact key g cs e r.1
  | succ d ih =>
    intro N i c x2 s u hi hN hc h
    match N, hN with
    | N + 1, hN =>
      have step : ∀ o : Option (Int × Mm), Res s u T law b S O n K c o → (∀ y t, o = some (y, t) → L_R_readLaw_45 (N + 1) x2 (i : Int) s = L_R_readLaw_45 N y ((i + 1 : Nat) : Int) t) → ∃ t v m c2, L_R_readLaw_45 (N + 1) x2 (i : Int) s = some t ∧ MT u v m ∧ m ≤ 2 * (d + 1) ∧ GC s t T S ∧ GM u v O ∧ (ErrR t v ∨ Done t v T law S O n c2 K) := fun o hR hS => by
        obtain ⟨y, t, v, m, h1, h2, h3, h4, h5, h6⟩ := hR
        rw [hS y t h1]
        have next : ((y = 0 ∧ ∃ g cs e, RunB t v T law b g cs S O n e (c + 1) K) ∨ (y = 1 ∧ ∃ g cs e, RunH t v T law b g cs S O n e (c + 1) K)) → ∃ t' v' m' c2, L_R_readLaw_45 N y ((i + 1 : Nat) : Int) t = some t' ∧ MT u v' m' ∧ m' ≤ 2 * (d + 1) ∧ GC s t' T S ∧ GM u v' O ∧ (ErrR t' v' ∨ Done t' v' T law S O n c2 K) := fun hh => by
          obtain ⟨t', v', m', c2, k1, k2, k3, k4, k5, k6⟩ := ih N (i + 1) (c + 1) y t v (by omega) (by omega) (by omega) hh
          exact ⟨t', v', m + m', c2, k1, h2.tr k2, by omega, h4.tr k4, h5.tr k5, k6⟩
        rcases h6 with h6 | h6 | ⟨h6, h7⟩
        · exact next (Or.inl h6)
        · exact next (Or.inr h6)
        · subst h6
          obtain ⟨k, rfl⟩ : ∃ k, N = k + 1 := ⟨N - 1, by omega⟩
          exact ⟨t, v, m, c + 1, rl_stop, h2, by omega, h4, h5, h7⟩
      rcases h with ⟨rfl, g, cs, e, r⟩ | ⟨rfl, g, cs, e, r⟩
      · exact step _ (one_step q r) (fun y t E => rl_one (by omega) E)
      · by_cases ht : s 90 7 = 41 ∨ s 90 7 = 44 ∨ s 90 7 = 59
        · exact step _ (end_step q hK r ht) (fun y t E => rl_end (by omega) E ht)
        · exact step _ (beh_step q r (fun z => ht (Or.inl z)) (fun z => ht (Or.inr (Or.inl z))) (fun z => ht (Or.inr (Or.inr z)))) (fun y t E => rl_beh (by omega) E (fun z => ht (Or.inl z)) (fun z => ht (Or.inr (Or.inl z))) (fun z => ht (Or.inr (Or.inr z))))
/-- a law behind its first word: both begin with nothing that waits -/
theorem law_read {s u : Mm} {T law : Nat} {b : Int} {S O n e c K : Nat} (q : IsO 0 9 T) (hK : K < 1000) (tok : TokR s u n e) (z : s 90 3 = 0 ∧ u 200 19 = 0 ∧ u 200 29 = (K : Int)) (h15 : s 90 15 = (T : Int)) (hS : s T 4 = (S : Int)) (m22 : u 200 22 = 1) (m212 : u 212 0 = b) (m25 : u 200 25 = 0) (m21 : u 200 21 = 0) (m36 : u 200 36 = (O : Int)) (m30 : u 200 30 = (law : Int)) (m28 : u 200 28 = if law = 0 then 0 else 1) (pg : Pg s e c) (hc : S ≤ c) (hO : O ≤ S + 24) (hlaw : (law = 0 ∧ b = 2) ∨ ((law = 1 ∨ law = 2) ∧ b = 1)) :
    ∃ t v m c2, F_R_readLaw (law : Int) s = some (st2 t (T + 12) law (t T 4)) ∧ MT u v m ∧ m ≤ 602 ∧ (∃ s0, GC s0 t T S ∧ s0 = st2 (st2 (st2 (st2 (st2 (st2 s 90 14 (law : Int)) 90 10 0) 90 11 0) 90 12 0) 90 13 0) (T + 8) law (S : Int)) ∧ GM u v O ∧ t 90 15 = (T : Int) ∧ (ErrR t v ∨ Done t v T law S O n c2 K) := by
  have hq := isO9 q
  have hT := hq.1
  have hn : n ≤ 300 := tok.1.1
  have he : e ≤ n := tok.2.1.2.2
  have hc3 : c ≤ 300 := by
    rcases pg with p | ⟨_, p⟩ <;> omega
  have h4 : st2 (st2 (st2 (st2 (st2 s 90 14 (law : Int)) 90 10 0) 90 11 0) 90 12 0) 90 13 0 90 15 = (T : Int) := by
    rw [st2_sk, if_neg (by decide), st2_sk, if_neg (by decide), st2_sk, if_neg (by decide), st2_sk, if_neg (by decide), st2_sk, if_neg (by decide)]; exact h15
  have h5 : st2 (st2 (st2 (st2 (st2 s 90 14 (law : Int)) 90 10 0) 90 11 0) 90 12 0) 90 13 0 T 4 = (S : Int) := by
    rw [st2_ne (by omega), st2_ne (by omega), st2_ne (by omega), st2_ne (by omega), st2_ne (by omega)]; exact hS
  have r14 : st2 (st2 (st2 (st2 (st2 s 90 14 (law : Int)) 90 10 0) 90 11 0) 90 12 0) 90 13 0 90 14 = (law : Int) := by
    rw [st2_sk, if_neg (by decide), st2_sk, if_neg (by decide), st2_sk, if_neg (by decide), st2_sk, if_neg (by decide), st2_ss]
  have r10 : st2 (st2 (st2 (st2 (st2 s 90 14 (law : Int)) 90 10 0) 90 11 0) 90 12 0) 90 13 0 90 10 = 0 := by
    rw [st2_sk, if_neg (by decide), st2_sk, if_neg (by decide), st2_sk, if_neg (by decide), st2_ss]
  have r11 : st2 (st2 (st2 (st2 (st2 s 90 14 (law : Int)) 90 10 0) 90 11 0) 90 12 0) 90 13 0 90 11 = 0 := by
    rw [st2_sk, if_neg (by decide), st2_sk, if_neg (by decide), st2_ss]
  have r12 : st2 (st2 (st2 (st2 (st2 s 90 14 (law : Int)) 90 10 0) 90 11 0) 90 12 0) 90 13 0 90 12 = 0 := by
    rw [st2_sk, if_neg (by decide), st2_ss]
  have r13 : st2 (st2 (st2 (st2 (st2 s 90 14 (law : Int)) 90 10 0) 90 11 0) 90 12 0) 90 13 0 90 13 = 0 := st2_ss _ _ _ _
  have rk : ∀ k, k < 10 → st2 (st2 (st2 (st2 (st2 s 90 14 (law : Int)) 90 10 0) 90 11 0) 90 12 0) 90 13 0 90 k = s 90 k := fun k hk => by
    rw [st2_sk, if_neg (by omega), st2_sk, if_neg (by omega), st2_sk, if_neg (by omega), st2_sk, if_neg (by omega), st2_sk, if_neg (by omega)]
  have r91 : st2 (st2 (st2 (st2 (st2 s 90 14 (law : Int)) 90 10 0) 90 11 0) 90 12 0) 90 13 0 91 = s 91 := by
    rw [st2_ne (by decide), st2_ne (by decide), st2_ne (by decide), st2_ne (by decide), st2_ne (by decide)]
  have E0 : F_R_readLaw (law : Int) s = (b0M (L_R_readLaw_45 LF 0 0 (st2 (st2 (st2 (st2 (st2 (st2 s 90 14 (law : Int)) 90 10 0) 90 11 0) 90 12 0) 90 13 0) (T + 8) law (S : Int))) fun s20 => if 0 ≤ s20 90 15 ∧ IsO 0 9 (s20 90 15).toNat then if 0 ≤ s20 90 15 ∧ IsO 0 9 (s20 90 15).toNat then if 0 ≤ (law : Int) ∧ (law : Int) < 3 then bindM (st2 s20 (((s20 90 15).toNat) + 12) ((law : Int)).toNat (s20 ((s20 90 15).toNat) 4)) fun s23 => some s23 else none else none else none) := by
    unfold F_R_readLaw
    rw [bindM_eq, bindM_eq, bindM_eq, bindM_eq, bindM_eq, h4, if_pos (show 0 ≤ (T : Int) ∧ IsO 0 9 (T : Int).toNat from ⟨by omega, q⟩), if_pos (show 0 ≤ (T : Int) ∧ IsO 0 9 (T : Int).toNat from ⟨by omega, q⟩), if_pos (show 0 ≤ (law : Int) ∧ (law : Int) < 3 by omega), Int.toNat_natCast, Int.toNat_natCast, h5, bindM_eq]
  generalize hs8 : st2 (st2 (st2 (st2 (st2 s 90 14 (law : Int)) 90 10 0) 90 11 0) 90 12 0) 90 13 0 = s8 at *
  have t90 : st2 s8 (T + 8) law (S : Int) 90 = s8 90 := st2_ne (by omega)
  have tT : st2 s8 (T + 8) law (S : Int) T = s8 T := st2_ne (by omega)
  have t92 : st2 s8 (T + 8) law (S : Int) 92 = s8 92 := st2_ne (by omega)
  have t91 : st2 s8 (T + 8) law (S : Int) 91 = s8 91 := st2_ne (by omega)
  have tok1 : TokR (st2 s8 (T + 8) law (S : Int)) u n e := tok.mv (fun k hk => by rw [t90]; exact rk k (by omega)) (by rw [t91]; exact r91) (fun _ _ _ => rfl) rfl
  have R : RunB (st2 s8 (T + 8) law (S : Int)) u T law b [] [] S O n e c K := by
    refine ⟨⟨tok1, ⟨by rw [t90, rk 3 (by omega)]; exact z.1, z.2⟩, ⟨by rw [t90]; exact h4, ⟨by rw [t90]; exact r10, trivial⟩, ⟨by rw [t90]; exact r11, by rw [t90]; exact r12⟩, ⟨by rw [tT]; exact h5, trivial⟩, fun x hx => by simp [stk] at hx, by show S + 0 + 0 ≤ 300; omega⟩, ⟨by rw [t90]; exact r14, by rw [t90]; exact r13⟩, Nat.zero_le 8, ⟨?_, hc⟩, hO, hlaw⟩, ⟨m30, ⟨m22, ⟨m212, trivial⟩, trivial⟩, ⟨m25, trivial, trivial⟩, m21, m36, trivial⟩, ⟨decide (b = 2), rfl, ?_⟩, fun h k => by simp at k, rfl⟩
    · unfold Pg at *
      rw [t90, rk 7 (by omega)]; exact pg
    · rw [m28]
      rcases hlaw with ⟨h1, h2⟩ | ⟨h1, h2⟩
      · rw [if_pos h1, if_pos (decide_eq_true h2)]
      · rw [if_neg (by omega), if_neg (by rw [decide_eq_true_iff]; omega)]
  obtain ⟨t, v, m, c2, E1, mt, hm, g1, g2, fin⟩ := law_loop q hK 301 LF 0 c 0 _ _ rfl (by unfold LF; omega) (Nat.zero_le _) (Or.inl ⟨rfl, [], [], e, R⟩)
  have t15 : t 90 15 = (T : Int) := by rw [g1.2.1 15 (by omega), t90]; exact h4
  have E1 : L_R_readLaw_45 LF 0 0 (st2 s8 (T + 8) law (S : Int)) = some t := E1
  refine ⟨t, v, m, c2, ?_, mt, by omega, ⟨_, g1, rfl⟩, g2, t15, fin⟩
  rw [E0, E1, b0M_some, t15, if_pos (show 0 ≤ (T : Int) ∧ IsO 0 9 (T : Int).toNat from ⟨by omega, q⟩), if_pos (show 0 ≤ (T : Int) ∧ IsO 0 9 (T : Int).toNat from ⟨by omega, q⟩), if_pos (show 0 ≤ (law : Int) ∧ (law : Int) < 3 by omega), Int.toNat_natCast, Int.toNat_natCast, bindM_eq]
