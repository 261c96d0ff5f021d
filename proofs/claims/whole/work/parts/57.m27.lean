-- a day passed on both sides
theorem dayE_env {M : Law} {E : Nat → Int} (h : EnvOK E) : EnvOK (dayE M E) :=
  (dayU_env (M := M) h 10 (by omega)).ext (fun k hk => by
    unfold dayE dayU
    by_cases k1 : k < 10
    · rw [if_pos k1, if_pos k1, if_pos k1]
    · rw [if_neg k1, if_neg k1])
theorem passDay_rel {σ μ : Mm} {G O M : Law} {B : Int} {c : Nat} (hc : c ≤ 12) (hMid : Mid σ μ G O M B) (hB : B + 400 ≤ 90000000) (h14 : σ 1 4 = (c : Int)) (h20 : μ 201 0 = (c : Int)) (hR : RowsR σ μ c) (hs5 : -2147483648 ≤ σ 2 5 ∧ σ 2 5 + 12 < 2147483647) (hday : σ 3 40 < 2000) :
    Ok (F_H_passDay σ) (fun y => Ok (F_M_dayGoes 1 μ) (fun z => z.1 = y.1 ∧ (∃ k : Nat, y.1 = (k : Int) ∧ k < 2 ^ c) ∧ Mid y.2 z.2 G O M 0 ∧ Fr [2, 3, 4, 5, 6, 7] σ y.2 ∧ (σ 2 5 ≤ y.2 2 5 ∧ y.2 2 5 ≤ σ 2 5 + 12) ∧ y.2 2 6 = σ 2 6 ∧ Fr (225 :: 233 :: MF) μ z.2 ∧ (∀ k, (k < 183 ∨ 304 ≤ k) → z.2 201 k = μ 201 k) ∧ (∀ s, s ≠ 45 → s ≠ 46 → s ≠ 48 → s ≠ 49 → s ≠ 53 → z.2 200 s = μ 200 s) ∧ y.2 3 40 = σ 3 40 + 1 ∧ (∀ k, 30 ≤ k → k < 43 → k ≠ 40 → k ≠ 41 → y.2 3 k = σ 3 k))) := by
  unfold F_H_passDay F_M_dayGoes
  have hl := day_loop hc c LF LF 0 0 B σ μ (by omega) (by unfold LF; omega) (by unfold LF; omega) (by omega) hMid (by omega) h14 h20 hR ⟨by omega, by omega⟩
  obtain ⟨⟨v1, s1⟩, E1, hl⟩ := hl
  obtain ⟨⟨v2, u1⟩, E2, z1, z2, z3, z4, z5, z6, z7, z8, z9, z10, z11⟩ := hl
  have E1 : L_H_passDay_4 LF 0 0 σ = some (v1, s1) := E1
  have E2 : L_M_dayGoes_4 LF 1 0 0 μ = some (v2, u1) := E2
  have z1 : v2 = v1 := z1
  subst z1
  rw [E1, E2, b1M_some, b1M_some]
  have z3 : Mid s1 u1 G O M (B + 32 * c) := z3
  have z4 : Fr [2, 3, 4, 5, 6, 7] σ s1 := z4
  have z5 : s1 2 5 = σ 2 5 + c := z5
  have z6 : s1 2 6 = σ 2 6 := z6
  have z7 : Fr MF μ u1 := z7
  have z8 : ∀ k, (k < 183 ∨ 304 ≤ k) → u1 201 k = μ 201 k := z8
  have z11 : ∀ k, 30 ≤ k → k < 43 → k ≠ 41 → s1 3 k = σ 3 k := z11
  have z9 : ∀ s, s ≠ 46 → s ≠ 48 → s ≠ 49 → s ≠ 53 → u1 200 s = μ 200 s := z9
  obtain ⟨m1, m2, m3, m4, m5, m6, m7, w, b, m8, m9⟩ := z3
  have hEs : EnvOK (s1 3) := m1.2.1
  refine Ok.b0M (moodsC_loop hEs 10 LF 0 s1 (by omega) (by unfold LF; omega) m1.1 (fun k => ?_)) (fun s2 h2 => ?_)
  · unfold dayU
    by_cases k1 : k < 10
    · rw [if_pos k1, if_neg (by omega)]
    · rw [if_neg k1, if_neg (by omega)]
  obtain ⟨c1, c2⟩ := h2
  have c40 : s2 3 40 = σ 3 40 := by
    rw [c1]; unfold dayE; rw [if_neg (by omega), if_neg (by omega)]; exact z11 40 (by omega) (by omega) (by omega)
  have hd0 := hEs.2.2.2.2
  rw [z11 40 (by omega) (by omega) (by omega)] at hd0
  rw [c40]
  refine Ok.ck ⟨by omega, by omega⟩ (Ok.bN (fun s3 h3 => Ok.ret ?_))
  have V3 : ∀ k, s3 3 k = if k = 40 then σ 3 40 + 1 else dayE M (s1 3) k := fun k => by
    rw [h3]; simp only [st2_f, reduceIte]; rw [c1]
  have f3 : Fr [3] s2 s3 := by rw [h3]; exact Fr.rf.st (by decide)
  have F3 : Fr [3, 4, 5] s1 s3 := c2.tr (f3.w (by decide))
  refine Ok.b0M (moodsM_ok m2) (fun u2 g2 => ?_)
  obtain ⟨g2, g3⟩ := g2
  have d45 : u2 200 45 = σ 3 40 := by
    have := m3 40 (by omega)
    rw [EM_5, z11 40 (by omega) (by omega) (by omega)] at this
    rw [g3 200 (by decide)]; exact this
  rw [d45]
  refine Ok.ck ⟨by omega, by omega⟩ (Ok.bN (fun u3 g4 => Ok.ret ?_))
  have f4 : Fr [200] u2 u3 := by rw [g4]; exact Fr.rf.st (by decide)
  have v4 : ∀ k, u3 200 k = if k = 45 then σ 3 40 + 1 else u2 200 k := fun k => by rw [g4]; simp only [st2_f, reduceIte]
  have E3 : ∀ k, k < 40 → EM u3 k = dayE M (EM u1) k := fun k hk => by
    rw [← g2]
    unfold EM
    rw [f4 225 (by decide), f4 226 (by decide), f4 227 (by decide), f4 228 (by decide)]
    by_cases k1 : k < 10
    · rw [if_pos k1, if_pos k1]
    · rw [if_neg k1, if_neg k1]
      by_cases k2 : k < 20
      · rw [if_pos k2, if_pos k2]
      · rw [if_neg k2, if_neg k2]
        by_cases k3 : k < 30
        · rw [if_pos k3, if_pos k3]
        · rw [if_neg k3, if_neg k3, if_pos hk, if_pos hk]
  have E40 : EM u3 40 = σ 3 40 + 1 := by rw [EM_5, v4, if_pos rfl]
  have A : Eq40 (s3 3) (EM u3) := fun k hk => by
    by_cases k40 : k = 40
    · rw [k40, E40, V3, if_pos rfl]
    · rw [E3 k (by omega), V3, if_neg k40]
      unfold dayE
      by_cases k1 : k < 10
      · rw [if_pos k1, if_pos k1]
        exact mv_cong (m3 k (by omega)) (m3 (10 + k) (by omega)) (m3 (20 + k) (by omega)) (m3 40 (by omega))
      · rw [if_neg k1, if_neg k1, m3 k hk]
  have Env3 : EnvOK (s3 3) := by
    obtain ⟨a1, a2, a3, a4, a5⟩ := dayE_env (M := M) hEs
    refine ⟨fun k hk => ?_, fun k hk => ?_, fun k hk => ?_, fun k hk => ?_, ?_⟩
    · rw [V3, if_neg (by omega)]; exact a1 k hk
    · rw [V3, if_neg (by omega)]; exact a2 k hk
    · rw [V3, if_neg (by omega)]; exact a3 k hk
    · rw [V3, if_neg (by omega)]; exact a4 k hk
    · rw [V3, if_pos rfl]; omega
  have hi : ∀ k, 30 ≤ k → k ≠ 40 → s3 3 k = s1 3 k := fun k k1 k2 => by
    rw [V3, if_neg k2]; unfold dayE; rw [if_neg (by omega), if_neg (by omega)]
  have e201 : u3 201 = u1 201 := by rw [f4 201 (by decide), g3 201 (by decide)]
  have G3 : Fr [200, 223, 224, 225, 227, 233] u1 u3 := (g3.w (by decide)).tr (f4.w (by decide))
  have MN : MOK u3 G O M := ⟨m2.1.fr G3 (by rw [e201]) (by decide), m2.2.1, m2.2.2.1, m2.2.2.2.1, Env3.ext A⟩
  have h46 : u3 200 46 = u1 200 46 := by rw [v4, if_neg (by decide), g3 200 (by decide)]
  refine ⟨rfl, z2, ⟨⟨m1.1.fr F3 (congrFun (F3 2 (by decide)) 6) (by decide), Env3, fun k hk => ?_⟩, MN, A, ?_, ?_, ?_, fun k hk => ?_, w, b, ?_, ?_⟩, (z4.tr (F3.w (by decide))), ?_, ?_, ?_, fun k hk => ?_, fun s a0 a1 a2 a3 a4 => ?_, ?_, fun k a1 a2 a3 a4 => ?_⟩
  · show s3 6 k ≤ s3 2 5
    rw [F3 6 (by decide), F3 2 (by decide)]; exact m1.2.2 k hk
  · show s3 3 41 = u3 200 46
    rw [hi 41 (by omega) (by omega), h46]; exact m4
  · show s3 3 42 = u3 201 182
    rw [hi 42 (by omega) (by omega), e201]; exact m5
  · show -9999999 ≤ s3 3 41 ∧ s3 3 41 ≤ 9999999
    rw [hi 41 (by omega) (by omega)]; exact m6
  · show 0 ≤ s3 3 (20 + k) ∧ s3 3 (20 + k) ≤ 0
    rw [V3, if_neg (by omega)]; unfold dayE; rw [if_neg (by omega), if_pos (by omega)]; omega
  · exact m8.cong (fun k k1 _ => hi k (by omega) (by omega))
  · show BookM (u3 201) w b
    rw [e201]; exact m9
  · show σ 2 5 ≤ s3 2 5 ∧ s3 2 5 ≤ σ 2 5 + 12
    rw [F3 2 (by decide), z5]; omega
  · show s3 2 6 = σ 2 6
    rw [F3 2 (by decide)]; exact z6
  · exact (z7.w (by decide)).tr (G3.w (by decide))
  · show u3 201 k = μ 201 k
    rw [e201]; exact z8 k hk
  · show u3 200 s = μ 200 s
    rw [v4, if_neg a0, g3 200 (by decide)]; exact z9 s a1 a2 a3 a4
  · show s3 3 40 = _
    rw [V3, if_pos rfl]
  · show s3 3 k = σ 3 k
    rw [hi k a1 a3]; exact z11 k a1 a2 a4
