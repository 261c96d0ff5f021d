-- a clause on both sides
theorem kind_0 {a b c d : Int} (h : KindR a b c d) : a = 0 ↔ c = 0 := by
  rcases h with ⟨h1, h2⟩ | ⟨h1, h2, h3⟩ | ⟨j, h1, h2, h3, h4⟩ | ⟨h1, h2⟩ | ⟨h1, h2⟩
  · constructor <;> intro q <;> omega
  · constructor <;> intro q <;> omega
  · constructor <;> intro q <;> omega
  · rcases h2 with ⟨h2, h3⟩ | ⟨h2, h3⟩ | ⟨h2, h3⟩
    · unfold sgn at h3; constructor <;> intro q <;> omega
    · constructor <;> intro q <;> omega
    · constructor <;> intro q <;> omega
  · constructor <;> intro q <;> omega
theorem clause_suc {s t1 t u u8 v : Mm} {T n K S Om e e2 c : Nat} {w : Int} {Ls : Nat → Law} (hT : 94 ≤ T) (h : PS s u T n K S Om e c Ls) (hK : K < 24) (hw : 3 ≤ w)
    (c1 : ∀ i, i ≠ 90 → i ≠ T → i ≠ T + 16 → t1 i = s i) (c15 : t1 90 15 = (T : Int)) (cT4 : t1 T 4 = s T 4) (cT5 : t1 T 5 = ((K + 1 : Nat) : Int)) (c16 : ∀ k, k < 6 * K → t1 (T + 16) k = s (T + 16) k)
    (m1 : ∀ i, i ≠ 200 → i ≠ 216 → i ≠ 217 → u8 i = u i) (m16 : ∀ k, k < K → u8 216 k = u 216 k) (m17 : ∀ k, k < K → u8 217 k = u 217 k) (mK : u8 216 K = w) (mK2 : u8 217 K = (Om : Int)) (hO4 : Om < 400) (m21 : u8 200 21 = 0)
    (R : SucR t1 t u8 v T n K Om e2 (c + 1)) : PS t v T n (K + 1) S (Om + 1) e2 (c + 1) Ls := by
  obtain ⟨tok, z, ⟨s1, s2, s3, s4⟩, ⟨u1, u2, u3⟩, ⟨u4, u5, u6, u7⟩, ⟨pg, hS⟩, hCl, hL⟩ := h
  obtain ⟨r1, r2, r3, ⟨r4, r5, r6⟩, ⟨r7, r8, r9, r10, r11⟩, ⟨r12, r13, r14, r15, r16, r17⟩, r18⟩ := R
  have v16 : v 216 = u8 216 := r7 216 (by decide) (by omega)
  have v17 : v 217 = u8 217 := r7 217 (by decide) (by omega)
  refine ⟨r1, r2, ⟨by rw [r5 15 (by omega)]; exact c15, by rw [r4 T (by omega) (by omega), cT4]; exact s2, by rw [r4 T (by omega) (by omega)]; exact cT5, by omega⟩, ⟨r16, r17, by omega⟩, ⟨r12, r13, by rw [r14]; exact m21, r15⟩, ⟨r3, by omega⟩, fun k hk => ?_, fun w2 hw2 => ?_⟩
  · by_cases ck : k = K
    · subst ck
      refine ⟨by rw [v16]; exact r18, ?_⟩
      rw [v17, mK2]; omega
    · obtain ⟨base, base2⟩ := hCl k (by omega)
      refine ⟨?_, by rw [v17, m17 k (by omega)]; exact base2⟩
      obtain ⟨a1, a2⟩ := r8 k (by omega)
      rw [v16, m16 k (by omega), a1, a2, m1 218 (by decide) (by decide) (by decide), m1 219 (by decide) (by decide) (by decide)]
      exact base.cong (fun j hj => by show t (T + 16) (6 * k + j) = s (T + 16) (6 * k + j); rw [r6 _ (by omega), c16 _ (by omega)]) (fun i hi => by show v 220 (4 * k + i) = u 220 (4 * k + i); rw [r9 _ (by omega), m1 220 (by decide) (by decide) (by decide)])
  · obtain ⟨l1, l2, l3⟩ := hL w2 hw2
    refine ⟨l1, l2.on (Nat.le_refl _) (by rw [r4 _ (by omega) (by omega), c1 _ (by omega) (by omega) (by omega)]) (by rw [r4 _ (by omega) (by omega), c1 _ (by omega) (by omega) (by omega)]) (fun k _ => by rw [r4 _ (by omega) (by omega), c1 _ (by omega) (by omega) (by omega)]), l3.on (by omega) (fun k hk => by rw [v16]; exact m16 k hk) (fun k hk => by rw [v17]; exact m17 k hk) (by rw [v16, mK]; omega) (fun k hk => ?_)⟩
    obtain ⟨a1, a2⟩ := r10 k hk
    rw [a1, a2, m1 221 (by decide) (by decide) (by decide), m1 222 (by decide) (by decide) (by decide)]; exact ⟨rfl, rfl⟩
theorem clause_ok {s u : Mm} {T n K S Om e c : Nat} {Ls : Nat → Law} (q : IsO 0 9 T) (h : PS s u T n K S Om e c Ls) (h0 : ¬ s 90 7 = 0) : ∃ t v m, F_R_readClause s = some t ∧ MT u v m ∧ m ≤ 603 ∧ TC s t T ∧ TM u v ∧ (ErrR t v ∨ ∃ S2 Om2 e2 c2 Ls2, PS t v T n (K + 1) S2 Om2 e2 c2 Ls2) := by
  have hq := isO9 q
  have hT := hq.1
  have hPS := h
  obtain ⟨tok, z, ⟨s15, sT4, sT5, hK24⟩, ⟨u29, u36, hOm⟩, ⟨u22, u25, u21, u28⟩, ⟨pg, hS⟩, hCl, hL⟩ := h
  have hn : n ≤ 300 := tok.1.1
  have he : e ≤ n := tok.2.1.2.2
  have pc := pg.le h0
  have n17 : ¬ u 200 17 = 0 := fun x => h0 ((kind_0 tok.2.2.2).mpr x)
  have bad : ∀ (f : Int) (u1 : Mm), 0 < f → F_R_readClause s = (b1M (F_R_fail f s) fun v4 s4 => some s4) → F_M_clause u = some (st2 (st2 u1 200 19 f) 200 20 (u1 200 16)) → TokR s u1 n e → TM u u1 → ∃ t v m, F_R_readClause s = some t ∧ MT u v m ∧ m ≤ 603 ∧ TC s t T ∧ TM u v ∧ (ErrR t v ∨ ∃ S2 Om2 e2 c2 Ls2, PS t v T n (K + 1) S2 Om2 e2 c2 Ls2) := fun f u1 hf hC hM tok1 tm => by
    rw [err_C z.1, b1M_some] at hC
    exact ⟨_, _, 1, hC, MT.t4 z.2 u28 n17 hM, by omega, (TC.rf.p90 (by omega)).p90 (by omega), (tm.p0 (by omega)).p0 (by omega), Or.inl (err_R tok1 hf)⟩
  by_cases hw : u 200 17 = 1 ∧ u 200 18 ≤ 7
  · obtain ⟨h17, h18⟩ := hw
    have hj : ∃ j : Nat, j < 27 ∧ s 90 7 = ((300 + j : Nat) : Int) ∧ u 200 18 = ((wmap j : Nat) : Int) := by
      rcases tok.2.2.2 with ⟨h1, h2⟩ | ⟨h1, h2, h3⟩ | ⟨j, j1, j2, j3, j4⟩ | ⟨h1, h2⟩ | ⟨h1, h2⟩
      · omega
      · omega
      · exact ⟨j, j1, j2, j4⟩
      · omega
      · omega
    obtain ⟨j, j1, j2, j4⟩ := hj
    obtain ⟨wa, wb, wc, wd⟩ := wm_le j j1
    obtain ⟨j9, n6, n8⟩ := wa.mp (by omega)
    have hx : 0 ≤ (j : Int) ∧ (j : Int) ≤ 9 ∧ ¬ (j : Int) = 6 ∧ ¬ (j : Int) = 8 := by omega
    have hC := rc_go (s := s) (x := (j : Int)) (by rw [j2]; omega) hx
    have hM := cl_go h17 h18
    rw [s15, if_pos (show 0 ≤ (T : Int) ∧ IsO 0 9 (T : Int).toNat from ⟨by omega, q⟩), Int.toNat_natCast] at hC
    rw [j4] at hM h18
    -- the reference has noted the word
    have x30 : st2 u 200 30 ((wmap j : Nat) : Int) 200 30 = ((wmap j : Nat) : Int) := st2_ss _ _ _ _
    have xk : ∀ k, k ≠ 30 → st2 u 200 30 ((wmap j : Nat) : Int) 200 k = u 200 k := fun k hk => by rw [st2_sk, if_neg hk]
    have xi : ∀ i, i ≠ 200 → st2 u 200 30 ((wmap j : Nat) : Int) i = u i := fun i hi => st2_ne hi
    have TM4 : TM u (st2 u 200 30 ((wmap j : Nat) : Int)) := TM.rf.p0 (by omega)
    have tok4 : TokR s (st2 u 200 30 ((wmap j : Nat) : Int)) n e := tok.mv (fun _ _ => rfl) rfl (fun k a b => xk k (by omega)) (xi 203 (by decide))
    generalize st2 u 200 30 ((wmap j : Nat) : Int) = s4 at *
    rw [x30, xk 29 (by decide), u29] at hM
    have s419 : s4 200 19 = 0 := by rw [xk 19 (by decide)]; exact z.2
    by_cases told : j ≤ 2 ∧ ¬ Ls j = none
    · -- a law for the second time
      obtain ⟨t1, t2⟩ := told
      obtain ⟨l1, l2, l3⟩ := hL j (by omega)
      have ew : wmap j = j := wb (by omega)
      have l3' : LwY s4 j K Om (Ls j) := by
        match hLs : Ls j, l3 with
        | none, l3 => intro k hk; rw [xi 216 (by decide)]; exact l3 k hk
        | some cs, ⟨i, a, b, d, g⟩ => exact ⟨i, by rw [xi 216 (by decide)]; exact a, by rw [xi 216 (by decide), xi 217 (by decide)]; exact b, by rw [xi 221 (by decide), xi 222 (by decide)]; exact d, g⟩
      have H := has_ok (t := T) (by omega) l1 (l2.c (by omega))
      have W := told_ok (by omega) (by rw [xk 29 (by decide)]; exact u29) l3'
      rw [if_neg (show ¬ 2 < (j : Int) by omega), H, b1_some, if_neg t2, if_neg ne10] at hC
      rw [ew, if_neg (show ¬ 2 < (j : Int) by omega), W, b1_some, if_neg t2, if_neg ne10, err_M s419, b0M_some, cJ5_bad (by rw [st2_sk, if_neg (by decide), st2_ss]; decide)] at hM
      exact bad 4 s4 (by decide) hC hM tok4 TM4
    · have hC2 : F_R_readClause s = rJ5 (j : Int) s := by
        rw [hC]
        by_cases c2 : 2 < (j : Int)
        · rw [if_pos c2]
        · obtain ⟨l1, l2, l3⟩ := hL j (by omega)
          have ln : Ls j = none := by
            match hLs : Ls j with
            | none => rfl
            | some cs => exact absurd ⟨by omega, by rw [hLs]; simp⟩ told
          rw [if_neg c2, has_ok (t := T) (by omega) l1 (l2.c (by omega)), b1_some, if_pos ln, if_pos rfl]
      have hM2 : F_M_clause u = if (K : Int) = 24 then b0M (F_M_errs 6 s4) fun s22 => cJ5 s22 else cJ5 s4 := by
        rw [hM]
        by_cases c2 : j ≤ 2
        · have ew : wmap j = j := wb (by omega)
          obtain ⟨l1, l2, l3⟩ := hL j (by omega)
          have ln : Ls j = none := by
            match hLs : Ls j with
            | none => rfl
            | some cs => exact absurd ⟨by omega, by rw [hLs]; simp⟩ told
          have l3' : LwY s4 j K Om (Ls j) := by
            rw [ln] at l3 ⊢
            intro k hk; rw [xi 216 (by decide)]; exact l3 k hk
          rw [ew, if_neg (show ¬ 2 < (j : Int) by omega), told_ok (by omega) (by rw [xk 29 (by decide)]; exact u29) l3', b1_some, if_pos ln, if_pos rfl]
        · have : 2 < ((wmap j : Nat) : Int) := by
            by_cases c5 : j ≤ 5
            · rw [wb c5]; omega
            · rcases (show j = 7 ∨ j = 9 by omega) with r | r
              · rw [wc r]; decide
              · rw [wd r]; decide
          rw [if_pos this]
      by_cases hK : K = 24
      · -- the 25th CLAUSE
        rw [if_pos (show (K : Int) = 24 by omega), err_M s419, b0M_some, cJ5_bad (by rw [st2_sk, if_neg (by decide), st2_ss]; decide)] at hM2
        refine bad 6 s4 (by decide) ?_ hM2 tok4 TM4
        rw [hC2]
        unfold rJ5
        rw [s15, if_pos (show 0 ≤ (T : Int) ∧ IsO 0 9 (T : Int).toNat from ⟨by omega, q⟩), Int.toNat_natCast, sT5, if_neg (show ¬ (K : Int) < 24 by omega)]
      · have hK : K < 24 := by omega
        rw [if_neg (show ¬ (K : Int) = 24 by omega)] at hM2
        obtain ⟨sb, B1, B2, B3, B4, B5, B6, B7⟩ := begin_ok (kind := (j : Int)) hT hK sT5
        have b90 : sb 90 = s 90 := B6 90 (by omega) (by omega)
        have y16 : st2 (st2 s4 216 K ((wmap j : Nat) : Int)) 217 K (Om : Int) 216 K = ((wmap j : Nat) : Int) := by rw [st2_ne (by decide), st2_ss]
        have y17 : st2 (st2 s4 216 K ((wmap j : Nat) : Int)) 217 K (Om : Int) 217 K = (Om : Int) := st2_ss _ _ _ _
        have y200 : st2 (st2 s4 216 K ((wmap j : Nat) : Int)) 217 K (Om : Int) 200 = s4 200 := by rw [st2_ne (by decide), st2_ne (by decide)]
        have yi : ∀ i, i ≠ 200 → i ≠ 216 → i ≠ 217 → st2 (st2 s4 216 K ((wmap j : Nat) : Int)) 217 K (Om : Int) i = u i := fun i h1 h2 h3 => by rw [st2_ne h3, st2_ne h2]; exact xi i h1
        have y16k : ∀ k, k < K → st2 (st2 s4 216 K ((wmap j : Nat) : Int)) 217 K (Om : Int) 216 k = u 216 k := fun k hk => by rw [st2_ne (by decide), st2_sk, if_neg (by omega), xi 216 (by decide)]
        have y17k : ∀ k, k < K → st2 (st2 s4 216 K ((wmap j : Nat) : Int)) 217 K (Om : Int) 217 k = u 217 k := fun k hk => by rw [st2_sk, if_neg (by omega), st2_ne (by decide), xi 217 (by decide)]
        have TM5 : TM u (st2 (st2 s4 216 K ((wmap j : Nat) : Int)) 217 K (Om : Int)) := (TM4.pA (by omega)).pA (by omega)
        have tok5 : TokR sb (st2 (st2 s4 216 K ((wmap j : Nat) : Int)) 217 K (Om : Int)) n e := tok4.mv (fun k _ => by rw [b90]) (B6 91 (by omega) (by omega)) (fun k _ _ => by rw [y200]) (by rw [st2_ne (by decide), st2_ne (by decide)])
        obtain ⟨e1, t1, u8, E1, E2, tok8, g1, g2, p1, p2⟩ := tok5.step
        have pgb : Pg sb e c := by unfold Pg at *; rw [b90]; exact pg
        have pg8 := pgb.go (by rw [b90]; exact h0) p1 p2
        have TC1 : TC s t1 T := by
          have : TC s sb T := ⟨fun i a _ b _ _ _ d => B6 i b d, fun k _ => by rw [b90]⟩
          exact this.tr g1.t
        have TM8 : TM u u8 := TM5.tr g2.t
        have t15 : t1 90 15 = (T : Int) := by rw [g1.1 15 (by omega), b90]; exact s15
        have tT : t1 T = sb T := g1.2 T (by simp; omega)
        have t16 : t1 (T + 16) = sb (T + 16) := g1.2 (T + 16) (by simp; omega)
        have tz : t1 90 3 = 0 ∧ u8 200 19 = 0 := ⟨by rw [g1.1 3 (by omega), b90]; exact z.1, by rw [g2.1 19 (by omega), y200]; exact s419⟩
        have ci : ∀ i, i ≠ 90 → i ≠ T → i ≠ T + 16 → t1 i = s i := fun i h1 h2 h3 => by rw [g1.2 i (by simpa using h1)]; exact B6 i h2 h3
        have mi : ∀ i, i ≠ 200 → i ≠ 216 → i ≠ 217 → u8 i = u i := fun i h1 h2 h3 => by rw [g2.2 i (by simpa using h1)]; exact yi i h1 h2 h3
        have v216 : u8 216 = st2 (st2 s4 216 K ((wmap j : Nat) : Int)) 217 K (Om : Int) 216 := g2.2 216 (by decide)
        have v217 : u8 217 = st2 (st2 s4 216 K ((wmap j : Nat) : Int)) 217 K (Om : Int) 217 := g2.2 217 (by decide)
        have v0 : ∀ k, (k < 15 ∨ 18 < k) → k ≠ 30 → u8 200 k = u 200 k := fun k hk h30 => by rw [g2.1 k hk, y200]; exact xk k h30
        have v30 : u8 200 30 = ((wmap j : Nat) : Int) := by rw [g2.1 30 (by omega), y200]; exact x30
        have hC3 : F_R_readClause s = rDs (j : Int) t1 := by
          rw [hC2]
          unfold rJ5
          rw [s15, if_pos (show 0 ≤ (T : Int) ∧ IsO 0 9 (T : Int).toNat from ⟨by omega, q⟩), Int.toNat_natCast, sT5, if_pos (show (K : Int) < 24 by omega), if_pos (show 0 ≤ (T : Int) ∧ IsO 0 9 T from ⟨by omega, q⟩), B1, b0M_some, E1, b0M_some]
        have hM3 := cJ5_go s419 (by rw [xk 29 (by decide)]; exact u29) hK x30 (by rw [xk 36 (by decide)]; exact u36) E2 v30
        rw [hM3] at hM2
        by_cases law : j ≤ 2
        · -- a law
          have ew : wmap j = j := wb (by omega)
          have ln : Ls j = none := by
            match hLs : Ls j with
            | none => rfl
            | some cs => exact absurd ⟨law, by rw [hLs]; simp⟩ told
          have hD : rDs (j : Int) t1 = b0M (F_R_readLaw (j : Int) t1) fun s24 => some s24 := by
            unfold rDs
            rw [if_neg (by omega), if_neg (by omega), if_neg (by omega), if_neg (by omega), if_neg (by omega), if_neg (by omega), if_neg (by omega)]
          have f22 : u8 200 22 = 0 := by rw [v0 22 (by omega) (by decide)]; exact u22
          rw [ew, if_neg (show ¬ 2 < (j : Int) by omega)] at hM2
          have EF : F_M_opensFrame (if (j : Int) = 0 then 2 else 1) u8 = some (st2 (st2 u8 212 0 (if (j : Int) = 0 then 2 else 1)) 200 22 1) := by
            have a : st2 u8 212 0 (if (j : Int) = 0 then 2 else 1) 200 22 = 0 := by rw [st2_ne (by decide)]; exact f22
            unfold F_M_opensFrame
            rw [f22, if_pos (show 0 ≤ (0 : Int) ∧ (0 : Int) < 40 by decide), bindM_eq, show Int.toNat 0 = 0 from rfl, a, if_pos (show r32 ((0 : Int) + 1) from ⟨by decide, by decide⟩), bindM_eq]
            rfl
          have d30 : st2 (st2 u8 212 0 (if (j : Int) = 0 then 2 else 1)) 200 22 1 200 30 = (j : Int) := by rw [st2_sk, if_neg (by decide), st2_ne (by decide), v30, ew]
          rw [EF, b0M_some, d30, bindM_eq, bindM_eq] at hM2
          have dk : ∀ k, k ≠ 22 → k ≠ 28 → st2 (st2 (st2 u8 212 0 (if (j : Int) = 0 then 2 else 1)) 200 22 1) 200 28 (if (j : Int) = 0 then 0 else 1) 200 k = u8 200 k := fun k h1 h2 => by rw [st2_sk, if_neg h2, st2_sk, if_neg h1, st2_ne (by decide)]
          have di : ∀ i, i ≠ 200 → i ≠ 212 → st2 (st2 (st2 u8 212 0 (if (j : Int) = 0 then 2 else 1)) 200 22 1) 200 28 (if (j : Int) = 0 then 0 else 1) i = u8 i := fun i h1 h2 => by rw [st2_ne h1, st2_ne h1, st2_ne h2]
          have d22 : st2 (st2 (st2 u8 212 0 (if (j : Int) = 0 then 2 else 1)) 200 22 1) 200 28 (if (j : Int) = 0 then 0 else 1) 200 22 = 1 := by rw [st2_sk, if_neg (by decide), st2_ss]
          have d28 : st2 (st2 (st2 u8 212 0 (if (j : Int) = 0 then 2 else 1)) 200 22 1) 200 28 (if (j : Int) = 0 then 0 else 1) 200 28 = (if j = 0 then 0 else 1) := by
            rw [st2_ss]
            by_cases c0 : j = 0
            · rw [if_pos c0, if_pos (by omega)]
            · rw [if_neg c0, if_neg (by omega)]
          have d212 : st2 (st2 (st2 u8 212 0 (if (j : Int) = 0 then 2 else 1)) 200 22 1) 200 28 (if (j : Int) = 0 then 0 else 1) 212 0 = (if (j : Int) = 0 then 2 else 1) := by rw [st2_ne (by decide), st2_ne (by decide), st2_ss]
          have TM9 : TM u (st2 (st2 (st2 u8 212 0 (if (j : Int) = 0 then 2 else 1)) 200 22 1) 200 28 (if (j : Int) = 0 then 0 else 1)) := ((TM8.pA (by omega)).p0 (by omega)).p0 (by omega)
          generalize st2 (st2 (st2 u8 212 0 (if (j : Int) = 0 then 2 else 1)) 200 22 1) 200 28 (if (j : Int) = 0 then 0 else 1) = u9 at *
          have tok9 : TokR t1 u9 n e1 := tok8.mv (fun _ _ => rfl) rfl (fun k a b => dk k (by omega) (by omega)) (di 203 (by decide) (by decide))
          obtain ⟨t, v, m, c2, E3, mt, hm, ⟨s0, G1, hs0⟩, G2, x15, fin⟩ := law_read (law := j) (b := if (j : Int) = 0 then 2 else 1) (S := S) (O := Om) (K := K) (c := c + 1) q (by omega) tok9 ⟨tz.1, by rw [dk 19 (by decide) (by decide)]; exact tz.2, by rw [dk 29 (by decide) (by decide), v0 29 (by omega) (by decide)]; exact u29⟩ t15 (by rw [tT, B7 4 (by decide)]; exact sT4) d22 d212 (by rw [dk 25 (by decide) (by decide), v0 25 (by omega) (by decide)]; exact u25) (by rw [dk 21 (by decide) (by decide), v0 21 (by omega) (by decide)]; exact u21) (by rw [dk 36 (by decide) (by decide), v0 36 (by omega) (by decide)]; exact u36) (by rw [dk 30 (by decide) (by decide), v30, ew]) d28 pg8 (by omega) (by omega) (by
            by_cases c0 : j = 0
            · exact Or.inl ⟨c0, by rw [if_pos (by omega)]⟩
            · exact Or.inr ⟨by omega, by rw [if_neg (by omega)]⟩)
          have TC0 : TC s s0 T := by
            rw [hs0]
            exact (((((TC1.p90 (by omega)).p90 (by omega)).p90 (by omega)).p90 (by omega)).p90 (by omega)).pT hT (by omega)
          have s0i : ∀ i, i ≠ 90 → i ≠ T + 8 → s0 i = t1 i := fun i h1 h2 => by rw [hs0, st2_ne h2, st2_ne h1, st2_ne h1, st2_ne h1, st2_ne h1, st2_ne h1]
          have s08 : ∀ k, s0 (T + 8) k = if k = j then (S : Int) else t1 (T + 8) k := fun k => by rw [hs0, st2_sk, st2_ne (by omega), st2_ne (by omega), st2_ne (by omega), st2_ne (by omega), st2_ne (by omega)]
          refine ⟨st2 t (T + 12) j (t T 4), v, 1 + m, by rw [hC3, hD, E3, b0M_some], (MT.t4 z.2 u28 n17 hM2).tr mt, by omega, (TC0.tr G1.t).pT hT (by omega), TM9.tr G2.t, ?_⟩
          have f90 : st2 t (T + 12) j (t T 4) 90 = t 90 := st2_ne (by omega)
          rcases fin with fin | fin
          · left
            obtain ⟨a1, a2, a3⟩ := fin
            exact ⟨a1, by rw [f90]; exact a2, by rw [f90]; exact a3⟩
          · right
            obtain ⟨cs, e2, d1, ⟨d2, d3, d4⟩, ⟨d5, d6, d7⟩, ⟨d8, d9⟩, d10, d11, d12, d13, d14, d15, d16⟩ := fin
            have fT : st2 t (T + 12) j (t T 4) T = t T := st2_ne (by omega)
            have fE : st2 t (T + 12) j (t T 4) (T + 4) = t (T + 4) := st2_ne (by omega)
            have f8 : st2 t (T + 12) j (t T 4) (T + 8) = s0 (T + 8) := by rw [st2_ne (by omega)]; exact G1.1 (T + 8) (by omega) (by omega) (by omega) (by omega)
            have f12 : ∀ k, st2 t (T + 12) j (t T 4) (T + 12) k = if k = j then t T 4 else s (T + 12) k := fun k => by
              rw [st2_sk, G1.1 (T + 12) (by omega) (by omega) (by omega) (by omega), s0i (T + 12) (by omega) (by omega), ci (T + 12) (by omega) (by omega) (by omega)]
            have f16 : st2 t (T + 12) j (t T 4) (T + 16) = t1 (T + 16) := by rw [st2_ne (by omega), G1.1 (T + 16) (by omega) (by omega) (by omega) (by omega)]; exact s0i _ (by omega) (by omega)
            have w16 : v 216 = u8 216 := by rw [G2.1 216 (by decide) (by decide) (by decide) (by decide) (by decide) (by decide) (by decide)]; exact di 216 (by decide) (by decide)
            have w17 : v 217 = u8 217 := by rw [G2.1 217 (by decide) (by decide) (by decide) (by decide) (by decide) (by decide) (by decide)]; exact di 217 (by decide) (by decide)
            have wi : ∀ i, (i = 218 ∨ i = 219 ∨ i = 220) → v i = u i := fun i hi => by rw [G2.1 i (by omega) (by omega) (by omega) (by omega) (by omega) (by omega) (by omega), di i (by omega) (by omega)]; exact mi i (by omega) (by omega) (by omega)
            refine ⟨S + cs.length, Om + cs.length + 1, e2, c2, fun w => if w = j then some cs else Ls w, d1.mv (fun _ _ => by rw [f90]) (st2_ne (by omega)) (fun _ _ _ => rfl) rfl, ⟨by rw [f90]; exact d2, d3⟩, ⟨by rw [f90]; exact d5, by rw [fT]; exact d6, ?_, by omega⟩, ⟨d4, d12, by omega⟩, ⟨d13, d14, d15, d16⟩, ⟨by unfold Pg at *; rw [f90]; exact d8, d9⟩, fun k hk => ?_, fun w hw => ?_⟩
            · rw [fT, G1.2.2.1 5 (by decide), s0i T (by omega) (by omega), tT]; exact B2
            · by_cases ck : k = K
              · subst ck
                refine ⟨Or.inl ⟨?_, ?_⟩, by rw [w17, v217, y17]; omega⟩
                · show st2 t (T + 12) j (t T 4) (T + 16) (6 * k) = v 216 k
                  rw [f16, t16, B3, w16, v216, y16, ew]
                · rw [w16, v216, y16, ew]; omega
              · obtain ⟨base, base2⟩ := hCl k (by omega)
                refine ⟨?_, by rw [w17, v217, y17k k (by omega)]; exact base2⟩
                rw [w16, v216, y16k k (by omega), wi 218 (by omega), wi 219 (by omega)]
                exact base.cong (fun i hi => by show st2 t (T + 12) j (t T 4) (T + 16) (6 * k + i) = s (T + 16) (6 * k + i); rw [f16, t16, B5 _ (by omega)]) (fun i hi => by show v 220 (4 * k + i) = u 220 (4 * k + i); rw [wi 220 (by omega)])
            · obtain ⟨l1, l2, l3⟩ := hL w hw
              by_cases cw : w = j
              · subst cw
                dsimp only
                rw [if_pos rfl]
                have S300 : S + cs.length ≤ 300 := by
                  have a1 := d1.1.1
                  have a2 := d1.2.1.2.2
                  rcases d8 with p | ⟨_, p⟩ <;> omega
                refine ⟨fun cs2 hcs => ?_, ⟨S, by rw [f8, s08, if_pos rfl], by rw [f12, if_pos rfl]; exact d6, Nat.le_refl _, by rw [fE]; exact d7⟩, ⟨Om, ⟨K, by omega, by rw [w16, v216, y16, ew]⟩, fun k hk hkw => ?_, d11, by omega⟩⟩
                · cases hcs
                  refine ⟨fun z => ?_, by omega, d10⟩
                  rw [z] at d10
                  exact absurd d10 (by simp [wfS])
                · by_cases ck : k = K
                  · rw [ck, w17, v217]; exact y17
                  · rw [w16, v216, y16k k (by omega)] at hkw
                    rw [ln] at l3
                    exact absurd hkw (l3 k (by omega))
              · dsimp only
                rw [if_neg cw]
                refine ⟨l1, l2.on (by omega) (by rw [f8, s08, if_neg cw, ci (T + 8) (by omega) (by omega) (by omega)]) (by rw [f12, if_neg cw]) (fun k hk => ?_), l3.on (by omega) (fun k hk => by rw [w16, v216]; exact y16k k hk) (fun k hk => by rw [w17, v217]; exact y17k k hk) (by rw [w16, v216, y16, ew]; omega) (fun k hk => ?_)⟩
                · rw [fE, G1.2.2.2 k hk, s0i (T + 4) (by omega) (by omega), ci (T + 4) (by omega) (by omega) (by omega)]
                · obtain ⟨a1, a2⟩ := G2.2.2 k hk
                  rw [a1, a2, di 221 (by decide) (by decide), di 222 (by decide) (by decide), mi 221 (by decide) (by decide) (by decide), mi 222 (by decide) (by decide) (by decide)]; exact ⟨rfl, rfl⟩
        · -- no law
          have ic : Ic t1 u8 T n e1 (c + 1) K Om := ⟨tok8, tz, ⟨t15, by rw [tT]; exact B2, hK⟩, ⟨by rw [v0 29 (by omega) (by decide)]; exact u29, by rw [v0 25 (by omega) (by decide)]; exact u25, by rw [v0 36 (by omega) (by decide)]; exact u36, by omega⟩, pg8⟩
          have k0 : t1 (T + 16) (6 * K) = (j : Int) := by rw [t16]; exact B3
          have kw : u8 216 K = ((wmap j : Nat) : Int) := by rw [v216]; exact y16
          have w3 : 3 ≤ ((wmap j : Nat) : Int) := by
            by_cases c5 : j ≤ 5
            · rw [wb c5]; omega
            · rcases (show j = 7 ∨ j = 9 by omega) with r | r
              · rw [wc r]; decide
              · rw [wd r]; decide
          rw [if_pos (show 2 < ((wmap j : Nat) : Int) by omega)] at hM2
          have key : (∃ t v e2, rDs (j : Int) t1 = some t ∧ F_M_clause u = some v ∧ SucR t1 t u8 v T n K Om e2 (c + 1)) ∨ (∃ t v, rDs (j : Int) t1 = some t ∧ F_M_clause u = some v ∧ ErrT t1 t u8 v T) := by
            rw [hM2]
            unfold rDs
            rcases (show j = 3 ∨ j = 4 ∨ j = 5 ∨ j = 7 ∨ j = 9 by omega) with r | r | r | r | r
            · subst r
              have e : ((wmap 3 : Nat) : Int) = 3 := rfl
              rw [e] at kw ⊢
              rw [if_pos (show ((3 : Nat) : Int) = 3 from rfl), if_pos rfl]
              rcases row_read q ic k0 (fun i h1 h2 => by rw [t16]; exact B4 i h1 h2) kw with ⟨t, v, e2, F1, F2, F3⟩ | ⟨t, v, F1, F2, F3⟩
              · exact Or.inl ⟨t, v, e2, by rw [F1, b0M_some], F2, F3⟩
              · exact Or.inr ⟨t, v, by rw [F1, b0M_some], F2, F3⟩
            · subst r
              have e : ((wmap 4 : Nat) : Int) = 4 := rfl
              rw [e] at kw v30 ⊢
              rw [if_neg (show ¬ ((4 : Nat) : Int) = 3 by decide), if_pos (show ((4 : Nat) : Int) = 4 from rfl), if_neg (show ¬ (4 : Int) = 3 by decide), do_4 v30]
              rcases ord1 (lo := 0) (hi := 11) q ic (by decide) (by decide) (fun w f rw h1 h2 h3 h4 => Or.inr (Or.inr (Or.inl ⟨by rw [h3, k0]; rfl, kw, h4, h1, h2⟩))) with ⟨t, v, e2, F1, F2, F3⟩ | ⟨t, v, F1, F2, F3⟩
              · exact Or.inl ⟨t, v, e2, by rw [F1, b0M_some], F2, F3⟩
              · exact Or.inr ⟨t, v, by rw [F1, b0M_some], F2, F3⟩
            · subst r
              have e : ((wmap 5 : Nat) : Int) = 5 := rfl
              rw [e] at kw v30 ⊢
              rw [if_neg (show ¬ ((5 : Nat) : Int) = 3 by decide), if_neg (show ¬ ((5 : Nat) : Int) = 4 by decide), if_pos (show ((5 : Nat) : Int) = 5 from rfl), if_neg (show ¬ (5 : Int) = 3 by decide), do_5 v30]
              rcases ord2 q ic (Or.inl ⟨rfl, rfl⟩) (fun w w2 f rw h1 h2 h3 h4 h5 h6 h7 => Or.inr (Or.inr (Or.inr (Or.inl ⟨by rw [h5, k0]; rfl, kw, h6, h7, h1, h2, h3, h4⟩)))) with ⟨t, v, e2, F1, F2, F3⟩ | ⟨t, v, F1, F2, F3⟩
              · exact Or.inl ⟨t, v, e2, by rw [F1, b0M_some], F2, F3⟩
              · exact Or.inr ⟨t, v, by rw [F1, b0M_some], F2, F3⟩
            · subst r
              have e : ((wmap 7 : Nat) : Int) = 6 := rfl
              rw [e] at kw v30 ⊢
              rw [if_neg (show ¬ ((7 : Nat) : Int) = 3 by decide), if_neg (show ¬ ((7 : Nat) : Int) = 4 by decide), if_neg (show ¬ ((7 : Nat) : Int) = 5 by decide), if_neg (show ¬ ((7 : Nat) : Int) = 6 by decide), if_pos (show ((7 : Nat) : Int) = 7 from rfl), if_neg (show ¬ (6 : Int) = 3 by decide), do_6 v30]
              rcases ord2 q ic (Or.inr ⟨rfl, rfl⟩) (fun w w2 f rw h1 h2 h3 h4 h5 h6 h7 => Or.inr (Or.inr (Or.inr (Or.inr (Or.inl ⟨by rw [h5, k0]; rfl, kw, h6, h7, h1, h2, h3, h4⟩))))) with ⟨t, v, e2, F1, F2, F3⟩ | ⟨t, v, F1, F2, F3⟩
              · exact Or.inl ⟨t, v, e2, by rw [F1, b0M_some], F2, F3⟩
              · exact Or.inr ⟨t, v, by rw [F1, b0M_some], F2, F3⟩
            · subst r
              have e : ((wmap 9 : Nat) : Int) = 7 := rfl
              rw [e] at kw v30 ⊢
              rw [if_neg (show ¬ ((9 : Nat) : Int) = 3 by decide), if_neg (show ¬ ((9 : Nat) : Int) = 4 by decide), if_neg (show ¬ ((9 : Nat) : Int) = 5 by decide), if_neg (show ¬ ((9 : Nat) : Int) = 6 by decide), if_neg (show ¬ ((9 : Nat) : Int) = 7 by decide), if_neg (show ¬ ((9 : Nat) : Int) = 8 by decide), if_pos (show ((9 : Nat) : Int) = 9 from rfl), if_neg (show ¬ (7 : Int) = 3 by decide), do_7 v30]
              rcases ord1 (lo := 1) (hi := 60) q ic (by decide) (by decide) (fun w f rw h1 h2 h3 h4 => Or.inr (Or.inr (Or.inr (Or.inr (Or.inr ⟨by rw [h3, k0]; rfl, kw, h4, h1, h2⟩))))) with ⟨t, v, e2, F1, F2, F3⟩ | ⟨t, v, F1, F2, F3⟩
              · exact Or.inl ⟨t, v, e2, by rw [F1, b0M_some], F2, F3⟩
              · exact Or.inr ⟨t, v, by rw [F1, b0M_some], F2, F3⟩
          rcases key with ⟨t, v, e2, F1, F2, F3⟩ | ⟨t, v, F1, F2, F3⟩
          · have TCt : TC t1 t T := ⟨fun i a1 _ _ _ _ _ a2 => F3.2.2.2.1.1 i a1 a2, fun k hk => F3.2.2.2.1.2.1 k (by omega)⟩
            have TMv : TM u8 v := ⟨fun i hi => F3.2.2.2.2.1.1 i (by omega) (by omega), fun k hk => F3.2.2.2.2.1.2.2.2.2 k hk⟩
            exact ⟨t, v, 1, by rw [hC3, F1], MT.t4 z.2 u28 n17 F2, by omega, TC1.tr TCt, TM8.tr TMv, Or.inr ⟨S, Om + 1, e2, c + 1, Ls, clause_suc hT hPS hK w3 ci t15 (by rw [tT]; exact B7 4 (by decide)) (by rw [tT]; exact B2) (fun k hk => by rw [t16]; exact B5 k hk) mi (fun k hk => by rw [v216]; exact y16k k hk) (fun k hk => by rw [v217]; exact y17k k hk) kw (by rw [v217]; exact y17) (by omega) (by rw [v0 21 (by omega) (by decide)]; exact u21) F3⟩⟩
          · exact ⟨t, v, 1, by rw [hC3, F1], MT.t4 z.2 u28 n17 F2, by omega, TC1.tr F3.2.1, TM8.tr F3.2.2, Or.inl F3.1⟩
  · -- no word that begins a CLAUSE
    refine bad 1 u (by decide) ?_ (cl_bad z.2 hw) tok TM.rf
    have hx : -1000 ≤ s 90 7 ∧ s 90 7 ≤ 1000 ∧ (s 90 7 < 300 ∨ 309 < s 90 7 ∨ s 90 7 = 306 ∨ s 90 7 = 308) := by
      rcases tok.2.2.2 with ⟨h1, h2⟩ | ⟨h1, h2, h3⟩ | ⟨j, j1, j2, j3, j4⟩ | ⟨h1, h2⟩ | ⟨h1, h2⟩
      · omega
      · omega
      · have := (wm_le j j1).1
        omega
      · rcases h2 with ⟨h2, h3⟩ | ⟨h2, h3⟩ | ⟨h2, h3⟩
        · unfold sgn at h3; omega
        · omega
        · omega
      · omega
    exact rc_bad rfl ⟨hx.1, hx.2.1⟩ hx.2.2
