-- a row on both sides
theorem shl1 : ∀ i : Nat, i < 4 → ishl 1 (i : Int) = ((2 ^ i : Nat) : Int) := by decide +kernel
theorem shl2 : ∀ i : Nat, i < 4 → ishl 2 (i : Int) = ((2 ^ (i + 1) : Nat) : Int) := by decide +kernel
theorem ior_p : ∀ i : Nat, i < 5 → ∀ r : Nat, r < 2 ^ i → ior (r : Int) ((2 ^ i : Nat) : Int) = ((r + 2 ^ i : Nat) : Int) := by decide +kernel
theorem ior_0 : ∀ r : Nat, r < 32 → ior (r : Int) 0 = (r : Int) := by decide +kernel
def Rw (s0 u0 s u : Mm) (T n e c K i : Nat) : Prop := TokR s u n e ∧ Pg s e c
  ∧ ((∀ j, j ≠ 90 → j ≠ T + 16 → s j = s0 j) ∧ (∀ k, (k < 5 ∨ 8 < k) → s 90 k = s0 90 k) ∧ ∀ k, k < 6 * K + 1 → s (T + 16) k = s0 (T + 16) k)
  ∧ ((∀ j, j ≠ 200 → j ≠ 220 → u j = u0 j) ∧ (∀ k, (k < 15 ∨ 18 < k) → u 200 k = u0 200 k) ∧ ∀ k, k < 4 * K → u 220 k = u0 220 k)
  ∧ (∀ j, j < i → s (T + 16) (6 * K + (1 + j)) = u 220 (4 * K + j) ∧ 0 ≤ u 220 (4 * K + j) ∧ u 220 (4 * K + j) ≤ 9999) ∧ ∀ j, i ≤ j → j < 5 → s (T + 16) (6 * K + (1 + j)) = -1
theorem Rw.tc {s0 u0 s u : Mm} {T n e c K i : Nat} (h : Rw s0 u0 s u T n e c K i) : TC s0 s T ∧ TM u0 u := ⟨⟨fun j a _ _ _ _ _ b => h.2.2.1.1 j a b, fun k hk => h.2.2.1.2.1 k (by omega)⟩, ⟨fun j hj => h.2.2.2.1.1 j (by omega) (by omega), fun k hk => h.2.2.2.1.2.1 k (by omega)⟩⟩
theorem pmin_k {a b c d : Int} (h : KindR a b c d) : (a = 43 ↔ (c = 3 ∧ d = 43)) ∧ (a = 45 ↔ (c = 3 ∧ d = 45)) := ⟨kind_s h (by unfold sgn; omega), kind_s h (by unfold sgn; omega)⟩
theorem rowL_ok {s0 u0 : Mm} {T n K : Nat} (q : IsO 0 9 T) (z : s0 90 3 = 0 ∧ u0 200 19 = 0) (h15 : s0 90 15 = (T : Int)) (h5 : s0 T 5 = ((K + 1 : Nat) : Int)) (hK : K < 24) (m29 : u0 200 29 = (K : Int)) :
    ∀ (d N N' i r l e c : Nat) (s u : Mm), i + d = 4 → d < N → d + 1 < N' → r < 2 ^ i → l ≤ 1 → Rw s0 u0 s u T n e c K i →
    (∃ t v e2 c2 p mn, L_R_readRow_19 N ((r + l * 2 ^ i : Nat) : Int) (i : Int) s = some (.inr (((mn : Nat) : Int), t)) ∧ L_M_rowTold_23 N' (i : Int) (r : Int) 1 (l : Int) u = some (((p : Nat) : Int), ((mn : Nat) : Int), v) ∧ Rw s0 u0 t v T n e2 c2 K p ∧ c ≤ c2 ∧ 1 ≤ p ∧ p ≤ 4 ∧ mn < 2 ^ p)
    ∨ (∃ t v a b, L_R_readRow_19 N ((r + l * 2 ^ i : Nat) : Int) (i : Int) s = some (.inl t) ∧ L_M_rowTold_23 N' (i : Int) (r : Int) 1 (l : Int) u = some (a, b, v) ∧ ErrR t v ∧ TC s0 t T ∧ TM u0 v ∧ v 200 29 = (K : Int)) := by
  have hq := isO9 q
  have hT := hq.1
  intro d
  induction d with
  | zero =>
    intro N N' i r l e c s u hi hN hN' hr hl h
    right
    have i4 : i = 4 := by omega
    subst i4
    obtain ⟨k, rfl⟩ : ∃ k, N = k + 1 := ⟨N - 1, by omega⟩
    obtain ⟨k', rfl⟩ : ∃ k', N' = k' + 2 := ⟨N' - 2, by omega⟩
    have TCM := h.tc
    obtain ⟨tok, pg, ⟨c1, c2, c3⟩, ⟨d1, d2, d3⟩, g1, g2⟩ := h
    have s3 : s 90 3 = 0 := by rw [c2 3 (by omega)]; exact z.1
    have u19 : u 200 19 = 0 := by rw [d2 19 (by omega)]; exact z.2
    have u29 : u 200 29 = (K : Int) := by rw [d2 29 (by omega)]; exact m29
    have kn := kind_n tok.2.2.2
    have fin : ∀ f : Int, 0 < f → L_R_readRow_19 (k + 1) ((r + l * 2 ^ 4 : Nat) : Int) ((4 : Nat) : Int) s = some (.inl (st2 (st2 s 90 3 f) 90 4 (s 90 6))) → (if u 200 17 = 2 then (if u 200 18 ≤ 9999 then (7 : Int) else 2) else 1) = f → ∃ t v a b, L_R_readRow_19 (k + 1) ((r + l * 2 ^ 4 : Nat) : Int) ((4 : Nat) : Int) s = some (.inl t) ∧ L_M_rowTold_23 (k' + 2) ((4 : Nat) : Int) (r : Int) 1 (l : Int) u = some (a, b, v) ∧ ErrR t v ∧ TC s0 t T ∧ TM u0 v ∧ v 200 29 = (K : Int) := fun f hf E hf2 => by
      have x19 : ¬ st2 (st2 u 200 19 f) 200 20 (u 200 16) 200 19 = 0 := by rw [st2_sk, if_neg (by decide), st2_ss]; omega
      have nx : ∀ a : Int, L_M_rowTold_23 (k' + 1) a (r : Int) 1 (l : Int) (st2 (st2 u 200 19 f) 200 20 (u 200 16)) = some (a, (r : Int), st2 (st2 u 200 19 f) 200 20 (u 200 16)) := fun a => by
        rw [L_M_rowTold_23, if_neg ne10, if_neg x19]
      refine ⟨_, _, ((4 : Nat) : Int), (r : Int), E, ?_, err_R tok hf, (TCM.1.p90 (by omega)).p90 (by omega), (TCM.2.p0 (by omega)).p0 (by omega), by rw [st2_sk, if_neg (by decide), st2_sk, if_neg (by decide)]; exact u29⟩
      rw [show k' + 2 = (k' + 1) + 1 from rfl, L_M_rowTold_23, if_neg ne10, if_pos u19, if_pos (show ((4 : Nat) : Int) = 4 from rfl), bindM_eq]
      by_cases a1 : u 200 17 = 2
      · rw [if_pos a1] at hf2 ⊢
        by_cases a2 : u 200 18 ≤ 9999
        · rw [if_pos a2] at hf2 ⊢
          subst hf2
          dsimp only
          rw [err_M u19, b0M_some]; exact nx _
        · rw [if_neg a2] at hf2 ⊢
          subst hf2
          dsimp only
          rw [err_M u19, b0M_some]; exact nx _
      · rw [if_neg a1] at hf2 ⊢
        subst hf2
        dsimp only
        rw [err_M u19, b0M_some]; exact nx _
    have TN : F_R_takeNumber (1 + ((4 : Nat) : Int)) 0 9999 s = if s 90 7 = 2 then (if s 90 8 < 0 then (b1M (F_R_fail 2 s) fun v2 s2 => some (0, s2)) else if s 90 8 ≤ 9999 then (if 0 ≤ s 90 15 ∧ IsO 0 9 (s 90 15).toNat then b0M (F_T_put ((s 90 15).toNat) (1 + ((4 : Nat) : Int)) (s 90 8) s) fun s4 => b0M (F_R_step s4) fun s5 => some (1, s5) else none) else (b1M (F_R_fail 2 s) fun v2 s2 => some (0, s2))) else b1M (F_R_fail 1 s) fun v6 s6 => some (0, s6) := by
      unfold F_R_takeNumber
      rw [bindM_eq]
    have LR : L_R_readRow_19 (k + 1) ((r + l * 2 ^ 4 : Nat) : Int) ((4 : Nat) : Int) s = (bindM (b1M (F_R_takeNumber (1 + ((4 : Nat) : Int)) 0 9999 s) fun v3 s3 => if v3 = 0 then some (.inl s3) else (bindM (bindM (fun (y6 : Int) => b0M (F_R_step s3) fun s7 => if r32 (((4 : Nat) : Int) + 1) then L_R_readRow_19 k (ior ((r + l * 2 ^ 4 : Nat) : Int) y6) (((4 : Nat) : Int) + 1) s7 else none) fun J6 => if s3 90 7 = 45 then J6 (ishl 2 ((4 : Nat) : Int)) else J6 0) fun J5 => if s3 90 7 = 43 then J5 else if s3 90 7 = 45 then J5 else some (.inr ((((r + l * 2 ^ 4 : Nat) : Int), s3))))) fun J2 => if s 90 7 = 2 then if 9999 < s 90 8 then J2 else if ((4 : Nat) : Int) = 4 then b1M (F_R_fail 7 s) fun v9 s9 => some (.inl s9) else J2 else J2) := by
      rw [L_R_readRow_19, if_neg (show ¬ (4 : Int) < ((4 : Nat) : Int) by decide), if_pos (show r32 (1 + ((4 : Nat) : Int)) from ⟨by decide, by decide⟩)]
    by_cases a1 : s 90 7 = 2
    · obtain ⟨r1, r2, r3, r4⟩ := kind_v tok.2.2.2 a1
      by_cases a2 : 9999 < s 90 8
      · refine fin 2 (by decide) ?_ (by rw [if_pos (kn.mp a1), if_neg (by omega)])
        rw [LR, bindM_eq, if_pos a1, if_pos a2, TN, if_pos a1, if_neg (by omega), if_neg (show ¬ s 90 8 ≤ 9999 by omega), err_C s3, b1M_some, b1M_some, if_pos rfl]
      · refine fin 7 (by decide) ?_ (by rw [if_pos (kn.mp a1), if_pos (by omega)])
        rw [LR, bindM_eq, if_pos a1, if_neg a2, if_pos (show ((4 : Nat) : Int) = 4 from rfl), err_C s3, b1M_some]
    · refine fin 1 (by decide) ?_ (by rw [if_neg (fun q => a1 (kn.mpr q))])
      rw [LR, bindM_eq, if_neg a1, TN, if_neg a1, err_C s3, b1M_some, b1M_some, if_pos rfl]
  | succ d ih =>
    intro N N' i r l e c s u hi hN hN' hr hl h
    have i4 : i < 4 := by omega
    obtain ⟨k, rfl⟩ : ∃ k, N = k + 1 := ⟨N - 1, by omega⟩
    obtain ⟨k', rfl⟩ : ∃ k', N' = k' + 2 := ⟨N' - 2, by omega⟩
    have TCM := h.tc
    obtain ⟨tok, pg, ⟨c1, c2, c3⟩, ⟨d1, d2, d3⟩, g1, g2⟩ := h
    have s3 : s 90 3 = 0 := by rw [c2 3 (by omega)]; exact z.1
    have u19 : u 200 19 = 0 := by rw [d2 19 (by omega)]; exact z.2
    have u29 : u 200 29 = (K : Int) := by rw [d2 29 (by omega)]; exact m29
    have sT5 : s T 5 = ((K + 1 : Nat) : Int) := by rw [c1 T (by omega) (by omega)]; exact h5
    have s15 : s 90 15 = (T : Int) := by rw [c2 15 (by omega)]; exact h15
    have hp2 : 2 ^ i ≤ 8 := by
      rcases (show i = 0 ∨ i = 1 ∨ i = 2 ∨ i = 3 by omega) with rfl | rfl | rfl | rfl <;> decide
    have hps : 2 ^ (i + 1) = 2 ^ i + 2 ^ i := by rw [Nat.pow_succ]; omega
    have hR : r + l * 2 ^ i < 2 ^ (i + 1) := by
      rcases (show l = 0 ∨ l = 1 by omega) with rfl | rfl <;> omega
    have y7 : ior (r : Int) (if (l : Int) = 0 then 0 else ishl 1 (i : Int)) = ((r + l * 2 ^ i : Nat) : Int) := by
      rcases (show l = 0 ∨ l = 1 by omega) with rfl | rfl
      · rw [if_pos (show ((0 : Nat) : Int) = 0 from rfl), ior_0 r (by omega), Nat.zero_mul, Nat.add_zero]
      · rw [if_neg (by decide), shl1 i i4, ior_p i (by omega) r hr, Nat.one_mul]
    have e1 : (1 : Int) + (i : Int) = ((1 + i : Nat) : Int) := by omega
    have ei : (i : Int) + 1 = ((i + 1 : Nat) : Int) := by omega
    have LR : L_R_readRow_19 (k + 1) ((r + l * 2 ^ i : Nat) : Int) (i : Int) s = (b1M (F_R_takeNumber ((1 + i : Nat) : Int) 0 9999 s) fun v3 s3 => if v3 = 0 then some (.inl s3) else (bindM (bindM (fun (y6 : Int) => b0M (F_R_step s3) fun s7 => if r32 ((i : Int) + 1) then L_R_readRow_19 k (ior ((r + l * 2 ^ i : Nat) : Int) y6) ((i : Int) + 1) s7 else none) fun J6 => if s3 90 7 = 45 then J6 (ishl 2 (i : Int)) else J6 0) fun J5 => if s3 90 7 = 43 then J5 else if s3 90 7 = 45 then J5 else some (.inr ((((r + l * 2 ^ i : Nat) : Int), s3))))) := by
      rw [L_R_readRow_19, if_neg (show ¬ (4 : Int) < (i : Int) by omega), e1, if_pos (r32_nat (by omega)), bindM_eq, if_neg (show ¬ (i : Int) = 4 by omega), ite_self, ite_self]
    have LM : L_M_rowTold_23 (k' + 2) (i : Int) (r : Int) 1 (l : Int) u = (b1M (F_M_number 0 9999 u) fun v5 s5 => if 0 ≤ (4 * (u 200 29)) + (i : Int) ∧ (4 * (u 200 29)) + (i : Int) < 96 then bindM (st2 s5 220 (((4 * (u 200 29)) + (i : Int)).toNat) v5) fun s6 => bindM (fun (y7 : Int) => b1 (F_M_isSign 43 s6) fun v8 => bindM (fun (y9 : Int) => b1 (F_M_isSign 45 s6) fun v10 => if y9 = 0 then if r32 ((i : Int) + 1) then L_M_rowTold_23 (k' + 1) ((i : Int) + 1) (ior (r : Int) y7) y9 v10 s6 else none else if s6 200 19 = 0 then b0M (F_M_next s6) fun s12 => if r32 ((i : Int) + 1) then L_M_rowTold_23 (k' + 1) ((i : Int) + 1) (ior (r : Int) y7) y9 v10 s12 else none else if r32 ((i : Int) + 1) then L_M_rowTold_23 (k' + 1) ((i : Int) + 1) (ior (r : Int) y7) y9 v10 s6 else none) fun J9 => bindM (J9 1) fun J15 => if v8 = 0 then b1 (F_M_isSign 45 s6) fun v16 => if v16 = 0 then J9 0 else J15 else J15) fun J7 => if (l : Int) = 0 then J7 0 else J7 (ishl 1 (i : Int)) else none) := by
      rw [show k' + 2 = (k' + 1) + 1 from rfl, L_M_rowTold_23, if_neg ne10, if_pos u19, if_neg (show ¬ (i : Int) = 4 by omega)]
    have e220 : 4 * (u 200 29) + (i : Int) = ((4 * K + i : Nat) : Int) := by rw [u29]; omega
    -- how the reference goes on behind a NUMBER
    have RM : ∀ (w : Int) (v1 : Mm), F_M_number 0 9999 u = some (w, v1) → L_M_rowTold_23 (k' + 2) (i : Int) (r : Int) 1 (l : Int) u = (if (st2 v1 220 (4 * K + i) w 200 17 = 3 ∧ (st2 v1 220 (4 * K + i) w 200 18 = 43 ∨ st2 v1 220 (4 * K + i) w 200 18 = 45)) then (if st2 v1 220 (4 * K + i) w 200 19 = 0 then b0M (F_M_next (st2 v1 220 (4 * K + i) w)) fun s12 => L_M_rowTold_23 (k' + 1) ((i + 1 : Nat) : Int) ((r + l * 2 ^ i : Nat) : Int) 1 (if st2 v1 220 (4 * K + i) w 200 17 = 3 ∧ st2 v1 220 (4 * K + i) w 200 18 = 45 then 1 else 0) s12 else L_M_rowTold_23 (k' + 1) ((i + 1 : Nat) : Int) ((r + l * 2 ^ i : Nat) : Int) 1 (if st2 v1 220 (4 * K + i) w 200 17 = 3 ∧ st2 v1 220 (4 * K + i) w 200 18 = 45 then 1 else 0) (st2 v1 220 (4 * K + i) w)) else L_M_rowTold_23 (k' + 1) ((i + 1 : Nat) : Int) ((r + l * 2 ^ i : Nat) : Int) 0 (if st2 v1 220 (4 * K + i) w 200 17 = 3 ∧ st2 v1 220 (4 * K + i) w 200 18 = 45 then 1 else 0) (st2 v1 220 (4 * K + i) w)) := fun w v1 E => by
      rw [LM, E, b1M_some, e220, if_pos (show 0 ≤ ((4 * K + i : Nat) : Int) ∧ ((4 * K + i : Nat) : Int) < 96 by omega), Int.toNat_natCast, bindM_eq]
      generalize st2 v1 220 (4 * K + i) w = s6
      rw [ei] 
      have sel : ∀ (F : Int → Option (Int × Int × Mm)), (bindM F fun J7 => if (l : Int) = 0 then J7 0 else J7 (ishl 1 (i : Int))) = F (if (l : Int) = 0 then 0 else ishl 1 (i : Int)) := fun F => by
        rw [bindM_eq]
        by_cases cl : (l : Int) = 0
        · rw [if_pos cl, if_pos cl]
        · rw [if_neg cl, if_neg cl]
      rw [sel]
      try dsimp only
      rw [y7, isS, isS, b1_some, bindM_eq, bindM_eq]
      dsimp only
      simp only [b1_some, if_pos (show r32 ((i + 1 : Nat) : Int) from r32_nat (by omega))]
      by_cases a : s6 200 17 = 3 ∧ s6 200 18 = 43
      · rw [if_pos a, if_neg ne10, if_pos (show s6 200 17 = 3 ∧ (s6 200 18 = 43 ∨ s6 200 18 = 45) from ⟨a.1, Or.inl a.2⟩), if_neg ne10]
      · by_cases b : s6 200 17 = 3 ∧ s6 200 18 = 45
        · rw [if_neg a, if_pos rfl, if_pos b, if_neg ne10, if_pos (show s6 200 17 = 3 ∧ (s6 200 18 = 43 ∨ s6 200 18 = 45) from ⟨b.1, Or.inr b.2⟩), if_neg ne10]
        · rw [if_neg a, if_pos rfl, if_neg b, if_pos rfl, if_pos trivial, if_neg (show ¬ (s6 200 17 = 3 ∧ (s6 200 18 = 43 ∨ s6 200 18 = 45)) by omega)]
    rcases num_ok (p := 1 + i) q tok ⟨s3, u19⟩ s15 sT5 hK (by omega) (show (0 : Int) ≤ 0 by decide) (show (9999 : Int) ≤ 9999 by decide) pg with ⟨t1, v1, e1', w, E1, E2, ⟨w1, w2⟩, tok1, pg1, k1, k2, k3, k4, st⟩ | ⟨f, hf, E1, E2⟩
    · have tok2 : TokR t1 (st2 v1 220 (4 * K + i) w) n e1' := tok1.mv (fun _ _ => rfl) rfl (fun k _ _ => by rw [st2_ne (by decide)]) (by rw [st2_ne (by decide)])
      have RM1 := RM w v1 E2
      have zz : ∀ k, st2 v1 220 (4 * K + i) w 200 k = v1 200 k := fun k => by rw [st2_ne (by decide)]
      have f220 : ∀ k, k ≠ 4 * K + i → st2 v1 220 (4 * K + i) w 220 k = u 220 k := fun k hk => by rw [st2_sk, if_neg hk, st.2 220 (by decide)]
      have g220 : st2 v1 220 (4 * K + i) w 220 (4 * K + i) = w := st2_ss _ _ _ _
      have foff : ∀ j, j ≠ 200 → j ≠ 220 → st2 v1 220 (4 * K + i) w j = u0 j := fun j h1 h2 => by rw [st2_ne h2, st.2 j (by simpa using h1)]; exact d1 j h1 h2
      have fon : ∀ k, (k < 15 ∨ 18 < k) → st2 v1 220 (4 * K + i) w 200 k = u0 200 k := fun k hk => by rw [zz, st.1 k hk]; exact d2 k hk
      have ks := pmin_k tok2.2.2.2
      generalize st2 v1 220 (4 * K + i) w = v2 at *
      have v19 : v2 200 19 = 0 := by rw [fon 19 (by omega)]; exact z.2
      have R1 : Rw s0 u0 t1 v2 T n e1' (c + 1) K (i + 1) := by
        refine ⟨tok2, pg1, ⟨fun j h1 h2 => by rw [k3 j h1 h2]; exact c1 j h1 h2, fun k hk => by rw [k4 k hk]; exact c2 k hk, fun k hk => by rw [k2 k (by omega)]; exact c3 k hk⟩, ⟨foff, fon, fun k hk => by rw [f220 k (by omega)]; exact d3 k hk⟩, fun j hj => ?_, fun j h1 h2 => by rw [k2 _ (by omega)]; exact g2 j (by omega) h2⟩
        by_cases cj : j = i
        · rw [cj, k1, g220]; exact ⟨rfl, w1, w2⟩
        · rw [k2 _ (by omega), f220 _ (by omega)]; exact g1 j (by omega)
      rw [E1, b1M_some, if_neg ne10] at LR
      by_cases cs : t1 90 7 = 43 ∨ t1 90 7 = 45
      · -- one more NUMBER
        obtain ⟨e3, t3, v3, E3, E4, tok3, s5, s6, p1, p2⟩ := tok2.step
        have pg3 := pg1.go (by omega) p1 p2
        have cM : v2 200 17 = 3 ∧ (v2 200 18 = 43 ∨ v2 200 18 = 45) := by
          rcases cs with a | a
          · have := ks.1.mp a; exact ⟨this.1, Or.inl this.2⟩
          · have := ks.2.mp a; exact ⟨this.1, Or.inr this.2⟩
        rw [if_pos cM, if_pos v19, E4, b0M_some] at RM1
        have R3 : Rw s0 u0 t3 v3 T n e3 (c + 1 + 1) K (i + 1) := by
          obtain ⟨-, -, ⟨a1, a2, a3⟩, ⟨b1, b2, b3⟩, b4, b5⟩ := R1
          have t16 : t3 (T + 16) = t1 (T + 16) := s5.2 (T + 16) (by simp; omega)
          have v220 : v3 220 = v2 220 := s6.2 220 (by decide)
          exact ⟨tok3, pg3, ⟨fun j h1 h2 => by rw [s5.2 j (by simpa using h1)]; exact a1 j h1 h2, fun k hk => by rw [s5.1 k hk]; exact a2 k hk, fun k hk => by rw [t16]; exact a3 k hk⟩, ⟨fun j h1 h2 => by rw [s6.2 j (by simpa using h1)]; exact b1 j h1 h2, fun k hk => by rw [s6.1 k hk]; exact b2 k hk, fun k hk => by rw [v220]; exact b3 k hk⟩, fun j hj => by rw [t16, v220]; exact b4 j hj, fun j h1 h2 => by rw [t16]; exact b5 j h1 h2⟩
        have step : ∀ l2 : Nat, l2 ≤ 1 → ior ((r + l * 2 ^ i : Nat) : Int) (if t1 90 7 = 45 then ishl 2 (i : Int) else 0) = ((r + l * 2 ^ i + l2 * 2 ^ (i + 1) : Nat) : Int) → (if v2 200 17 = 3 ∧ v2 200 18 = 45 then (1 : Int) else 0) = (l2 : Int) → _ := fun l2 hl2 hi1 hi2 => ih k (k' + 1) (i + 1) (r + l * 2 ^ i) l2 e3 (c + 1 + 1) t3 v3 (by omega) (by omega) (by omega) hR hl2 R3
        have LR2 : L_R_readRow_19 (k + 1) ((r + l * 2 ^ i : Nat) : Int) (i : Int) s = L_R_readRow_19 k (ior ((r + l * 2 ^ i : Nat) : Int) (if t1 90 7 = 45 then ishl 2 (i : Int) else 0)) ((i + 1 : Nat) : Int) t3 := by
          rw [LR, bindM_eq, bindM_eq, ei]
          by_cases a : t1 90 7 = 45
          · rw [if_neg (by omega), if_pos a, if_pos a, if_pos a, E3]
            dsimp only
            rw [b0M_some, if_pos (r32_nat (by omega))]
          · rw [if_pos (by omega), if_neg a, if_neg a, E3]
            dsimp only
            rw [b0M_some, if_pos (r32_nat (by omega))]
        have main : ∀ l2 : Nat, l2 ≤ 1 → ior ((r + l * 2 ^ i : Nat) : Int) (if t1 90 7 = 45 then ishl 2 (i : Int) else 0) = ((r + l * 2 ^ i + l2 * 2 ^ (i + 1) : Nat) : Int) → (if v2 200 17 = 3 ∧ v2 200 18 = 45 then (1 : Int) else 0) = (l2 : Int) → (∃ t v e2 c2 p mn, L_R_readRow_19 (k + 1) ((r + l * 2 ^ i : Nat) : Int) (i : Int) s = some (.inr (((mn : Nat) : Int), t)) ∧ L_M_rowTold_23 (k' + 2) (i : Int) (r : Int) 1 (l : Int) u = some (((p : Nat) : Int), ((mn : Nat) : Int), v) ∧ Rw s0 u0 t v T n e2 c2 K p ∧ c ≤ c2 ∧ 1 ≤ p ∧ p ≤ 4 ∧ mn < 2 ^ p) ∨ (∃ t v a b, L_R_readRow_19 (k + 1) ((r + l * 2 ^ i : Nat) : Int) (i : Int) s = some (.inl t) ∧ L_M_rowTold_23 (k' + 2) (i : Int) (r : Int) 1 (l : Int) u = some (a, b, v) ∧ ErrR t v ∧ TC s0 t T ∧ TM u0 v ∧ v 200 29 = (K : Int)) := fun l2 hl2 hi1 hi2 => by
          have IH := step l2 hl2 hi1 hi2
          rw [LR2, RM1, hi1, hi2]
          rcases IH with ⟨t, v, e2, c2, p, mn, F1, F2, F3, F4, F5⟩ | ⟨t, v, a, b, F1, F2, F3⟩
          · exact Or.inl ⟨t, v, e2, c2, p, mn, F1, F2, F3, by omega, F5⟩
          · exact Or.inr ⟨t, v, a, b, F1, F2, F3⟩
        by_cases a : t1 90 7 = 45
        · exact main 1 (Nat.le_refl _) (by rw [if_pos a, shl2 i i4, ior_p (i + 1) (by omega) _ hR, Nat.one_mul]) (by rw [if_pos (ks.2.mp a)]; rfl)
        · exact main 0 (by omega) (by rw [if_neg a, ior_0 _ (by omega), Nat.zero_mul, Nat.add_zero]) (by rw [if_neg (fun zz => a (ks.2.mpr zz))]; rfl)
      · -- that was the last one
        left
        have n43 : ¬ t1 90 7 = 43 := fun zz => cs (Or.inl zz)
        have n45 : ¬ t1 90 7 = 45 := fun zz => cs (Or.inr zz)
        rw [if_neg (fun zz => by
          rcases zz.2 with a | a
          · exact n43 (ks.1.mpr ⟨zz.1, a⟩)
          · exact n45 (ks.2.mpr ⟨zz.1, a⟩))] at RM1
        refine ⟨t1, v2, e1', c + 1, i + 1, r + l * 2 ^ i, ?_, ?_, R1, by omega, by omega, by omega, hR⟩
        · rw [LR, bindM_eq, if_neg n43, if_neg n45]
        · rw [RM1, L_M_rowTold_23, if_pos rfl]
    · -- no NUMBER that can stand there
      right
      have RM1 := RM 0 _ E2
      have v19 : st2 (st2 (st2 u 200 19 f) 200 20 (u 200 16)) 220 (4 * K + i) 0 200 19 = f := by rw [st2_ne (by decide), st2_sk, if_neg (by decide), st2_ss]
      have stop : ∀ (a b y x4 : Int), L_M_rowTold_23 (k' + 1) a b y x4 (st2 (st2 (st2 u 200 19 f) 200 20 (u 200 16)) 220 (4 * K + i) 0) = some (a, b, st2 (st2 (st2 u 200 19 f) 200 20 (u 200 16)) 220 (4 * K + i) 0) := fun a b y x4 => by
        rw [L_M_rowTold_23, v19]
        by_cases cy : y = 0
        · rw [if_pos cy]
        · rw [if_neg cy, if_neg (by omega)]
      rw [v19, if_neg (show ¬ f = 0 by omega), stop, stop] at RM1
      have RM2 : L_M_rowTold_23 (k' + 2) (i : Int) (r : Int) 1 (l : Int) u = some (((i + 1 : Nat) : Int), ((r + l * 2 ^ i : Nat) : Int), st2 (st2 (st2 u 200 19 f) 200 20 (u 200 16)) 220 (4 * K + i) 0) := by
        rw [RM1, ite_self]
      refine ⟨_, _, _, _, ?_, RM2, (err_R tok hf).put (by decide), (TCM.1.p90 (by omega)).p90 (by omega), ((TCM.2.p0 (by omega)).p0 (by omega)).pA (by omega), ?_⟩
      · rw [LR, E1, b1M_some, if_pos rfl]
      · rw [st2_ne (by decide), st2_sk, if_neg (by decide), st2_sk, if_neg (by decide)]; exact u29
