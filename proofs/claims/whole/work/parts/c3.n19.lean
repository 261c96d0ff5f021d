-- `text`, whole
theorem text_rel {σ μ : Mm} {B R : Int} (h : Rel σ μ B R) : Op (F_A_text σ) (F_M_text μ) B R := by
  obtain ⟨G, O, M, hN, hE⟩ := h
  have h : Rel σ μ B R := ⟨G, O, M, hN, hE⟩
  obtain ⟨hT, hF, ⟨T, t1, t2, t3, t4, t5⟩, ⟨c, hS1, hS2⟩, hD, hI⟩ := hE
  unfold F_A_text F_M_text
  rw [t2, t3]
  by_cases hT4 : T = 4
  · rw [if_neg (show ¬ (T : Int) < 4 by omega), if_pos (show (T : Int) = 4 by omega)]
    exact Op.ret rfl h
  · have ht : T < 4 := by omega
    obtain ⟨n, u23, t, v, m, E1, mt, hm, E2, fi, f2, gi, gk, g3, fin⟩ := read_ok ht hT
    have E1 : F_M_next (st2 (st2 (st2 (st2 (st2 (st2 (st2 (st2 (st2 (st2 (st2 μ 200 14 (μ 200 3)) 200 3 0) 200 15 0) 200 19 0) 200 20 (-1)) 200 21 0) 200 22 0) 200 25 0) 200 28 4) 200 29 0) 200 36 0) = some u23 := E1
    have vend : L_M_text_74 LF u23 = some v := by
      have a := mt (LF - m - 1 + 1)
      rw [show LF - m - 1 + 1 + m = LF by unfold LF; omega] at a
      rw [a]
      rcases fin with fin | ⟨K, S, Om, e, c', Ls, P, h17⟩
      · exact mt_err fin.1 _
      · exact mt_end P.2.1.2 P.2.2.2.2.1.2.2.2 h17 _
    rw [if_pos (show (T : Int) < 4 by omega), if_pos (show 0 ≤ (T : Int) ∧ (T : Int) < 4 by omega), Int.toNat_natCast, E2, b1M_some, if_neg (show ¬ (T : Int) = 4 by omega)]
    rw [bindM_eq, bindM_eq, bindM_eq, bindM_eq, bindM_eq, bindM_eq, bindM_eq, bindM_eq, bindM_eq, bindM_eq, bindM_eq, bindM_eq]
    rw [E1, b0M_some, vend, b0M_some, bindM_eq, bindM_eq]
    -- both where FAULTS are noted
    have w19 : st2 (st2 v 200 4 (v 200 19)) 200 5 (st2 v 200 4 (v 200 19) 200 20) 200 19 = v 200 19 := by rw [st2_sk, if_neg (by decide), st2_sk, if_neg (by decide)]
    have w4 : st2 (st2 v 200 4 (v 200 19)) 200 5 (st2 v 200 4 (v 200 19) 200 20) 200 4 = v 200 19 := by rw [st2_sk, if_neg (by decide), st2_ss]
    have w5 : st2 (st2 v 200 4 (v 200 19)) 200 5 (st2 v 200 4 (v 200 19) 200 20) 200 5 = v 200 20 := by rw [st2_ss, st2_sk, if_neg (by decide)]
    have w3 : st2 (st2 v 200 4 (v 200 19)) 200 5 (st2 v 200 4 (v 200 19) 200 20) 200 3 = 0 := by rw [st2_sk, if_neg (by decide), st2_sk, if_neg (by decide)]; exact g3
    have wi : ∀ i, i ≠ 200 → st2 (st2 v 200 4 (v 200 19)) 200 5 (st2 v 200 4 (v 200 19) 200 20) i = v i := fun i hi => by rw [st2_ne hi, st2_ne hi]
    have wk : ∀ k, k ≠ 4 → k ≠ 5 → st2 (st2 v 200 4 (v 200 19)) 200 5 (st2 v 200 4 (v 200 19) 200 20) 200 k = v 200 k := fun k a b => by rw [st2_sk, if_neg b, st2_sk, if_neg a]
    generalize st2 (st2 v 200 4 (v 200 19)) 200 5 (st2 v 200 4 (v 200 19) 200 20) = w at *
    have x3 : st2 t 90 1 0 90 3 = t 90 3 := by rw [st2_sk, if_neg (by decide)]
    have xi : ∀ i, i ≠ 90 → st2 t 90 1 0 i = t i := fun i hi => st2_ne hi
    have x90 : ∀ k, k ≠ 1 → st2 t 90 1 0 90 k = t 90 k := fun k hk => by rw [st2_sk, if_neg hk]
    have x1 : st2 t 90 1 0 90 1 = 0 := st2_ss _ _ _ _
    generalize st2 t 90 1 0 = x at *
    have xf : ∀ i, i ≠ 90 → i ≠ 92 → i ≠ 94 + T → i ≠ 98 + T → i ≠ 102 + T → i ≠ 106 + T → i ≠ 110 + T → x i = σ i := fun i h1 h2 h3 h4 h5 h6 h7 => by rw [xi i h1]; exact fi i h1 h2 h3 h4 h5 h6 h7
    have wf : ∀ i, i ≠ 200 → (i < 212 ∨ 222 < i) → w i = μ i := fun i h1 h2 => by rw [wi i h1]; exact gi i h1 h2
    -- the whole relation where the cells of the others stay
    have key : ∀ (τ ν : Mm) (T2 : Nat), T ≤ T2 → T2 ≤ 4 → τ 0 8 = (T2 : Int) → τ 0 9 = σ 0 9 → (∀ i, i ≠ 0 → i ≠ 90 → i ≠ 92 → i ≠ 94 + T → i ≠ 98 + T → i ≠ 102 + T → i ≠ 106 + T → i ≠ 110 + T → τ i = σ i) → ν 201 1 = (T2 : Int) → (∀ k, k ≠ 1 → ν 201 k = μ 201 k) → ν 202 = μ 202 → ν 203 = μ 203 → ν 204 = (fun k => if k = T then ν 204 T else μ 204 k) → (∀ y, y < 24 * T → ν 205 y = μ 205 y ∧ ν 206 y = μ 206 y ∧ ν 207 y = μ 207 y ∧ ν 208 y = μ 208 y) → (∀ y, y < 96 * T → ν 209 y = μ 209 y) → (∀ y, y < 400 * T → ν 210 y = μ 210 y ∧ ν 211 y = μ 211 y) → τ 90 1 = 0 → ν 200 3 = 0 → FaultR τ ν → (T < T2 → T2 = T + 1 ∧ TextR τ ν T) → Rel τ ν B R := fun τ ν T2 hTT hT24 p8 p9 pe q1 qk q202 q203 q204 q5 q9 q10 p901 q3 hFF hnew => by
      have pe' : ∀ i, 1 ≤ i → (i < 90 ∨ 114 ≤ i) → τ i = σ i := fun i i1 i2 => pe i (by omega) (by omega) (by omega) (by omega) (by omega) (by omega) (by omega) (by omega)
      have q4 : ∀ k, k < T → ν 204 k = μ 204 k := fun k hk => (congrFun q204 k).trans (if_neg (show ¬ k = T by omega))
      have keepT : ∀ k, k < T → TextR τ ν k := fun k hk => (t4 k hk).keep hk ht (fun i i1 i2 a1 a2 a3 a4 a5 => pe i (by omega) (by omega) (by omega) a1 a2 a3 a4 a5) (q4 k hk) q5 q9 q10
      have tx : ∀ k, k < T2 → TextR τ ν k := fun k hk => by
        by_cases ck : k < T
        · exact keepT k ck
        · obtain ⟨z1, z2⟩ := hnew (by omega)
          have : k = T := by omega
          rw [this]; exact z2
      have p26 : τ 2 6 = σ 2 6 := by rw [pe' 2 (by decide) (by decide)]
      have hl : LawsC τ G O M := by
        obtain ⟨l1, l2, l3, l4⟩ := hN.laws
        refine ⟨l1, l2, l3, ?_⟩
        rw [p26]
        rcases l4 with l4 | ⟨tt, z0, z1, z2, z3, z4⟩
        · exact Or.inl l4
        · rcases t5 with ⟨_, _, y⟩ | ⟨tr, y1, _, _, y4⟩
          · omega
          · have ett : tt = 94 + tr := by omega
            subst ett
            have e : ∀ j, (j = 94 + tr + 4 ∨ j = 94 + tr + 8 ∨ j = 94 + tr + 12) → τ j = σ j := fun j hj => pe j (by omega) (by omega) (by omega) (by omega) (by omega) (by omega) (by omega) (by omega)
            exact Or.inr ⟨94 + tr, z0, z1, z2.e (e _ (by omega)) (e _ (by omega)) (e _ (by omega)), z3.e (e _ (by omega)) (e _ (by omega)) (e _ (by omega)), z4.e (e _ (by omega)) (e _ (by omega)) (e _ (by omega))⟩
      have hm : LawsM ν G O M := by
        have l := hN.lawsM
        unfold LawsM at *
        rw [qk 2 (by decide)]
        rcases l with l | ⟨tt, z0, z1, z2, z3, z4, z5, z6⟩
        · exact Or.inl l
        · rcases t5 with ⟨_, y, _⟩ | ⟨tr, y1, _, y3, _⟩
          · omega
          · have ett : tt < T := by omega
            rw [← q4 tt ett] at z2 z3
            have z3' : μ 204 tt ≤ 24 := by rw [← q4 tt ett]; exact z3
            exact Or.inr ⟨tt, z0, z1, z2, z3, z4.keep ett z3' (q4 tt ett) q5 q10, z5.keep ett z3' (q4 tt ett) q5 q10, z6.keep ett z3' (q4 tt ett) q5 q10⟩
      refine ⟨G, O, M, hN.cells hl hm (fun i i1 i2 => pe' i i1.1 (by omega)) (by rw [pe' 2 (by decide) (by decide)]) (fun k hk => qk k (by omega)), ⟨0, by decide, p901, q3, fun i hi => absurd hi (by omega)⟩, hFF, ⟨T2, hT24, p8, q1, tx, ?_⟩, ⟨c, by rw [pe' 1 (by decide) (by decide)]; exact hS1, ?_⟩, fun i hi => ?_, hI.fr2 (fun i hi => pe' i (by omega) (by omega)) (by rw [pe' 1 (by decide) (by decide)]) (by rw [p8, t2]; omega) q202⟩
      · rw [p9, qk 2 (by decide), p26]
        rcases t5 with y | ⟨tr, y1, y2, y3, y4⟩
        · exact Or.inl y
        · exact Or.inr ⟨tr, by omega, y2, y3, y4⟩
      · obtain ⟨s, s1, s2, s3, s4⟩ := hS2
        refine ⟨s, s1, by rw [pe' 121 (by decide) (by decide)]; exact s2, by rw [qk 4 (by decide)]; exact s3, fun k hk => ?_⟩
        rw [pe' 122 (by decide) (by decide), pe' 123 (by decide) (by decide), qk _ (by omega), qk _ (by omega)]; exact s4 k hk
      · rw [pe' 130 (by decide) (by decide), qk _ (by omega)]; exact hD i hi
    rcases fin with ⟨e1, e2, e3⟩ | ⟨K, S, Om, e, c', Ls, P, h17⟩
    · -- a FAULT
      rw [if_neg (show ¬ t 90 3 = 0 by omega), if_pos rfl, w19, if_neg (show ¬ v 200 19 ≤ 0 by omega)]
      refine Op.ret rfl (key x w T (Nat.le_refl _) (by omega) (by rw [xf 0 (by decide) (by decide) (by omega) (by omega) (by omega) (by omega) (by omega)]; exact t2) (by rw [xf 0 (by decide) (by decide) (by omega) (by omega) (by omega) (by omega) (by omega)]) (fun i i0 => xf i) (by rw [wf 201 (by decide) (by decide)]; exact t3) (fun k _ => by rw [wf 201 (by decide) (by decide)]) (wf 202 (by decide) (by decide)) (wf 203 (by decide) (by decide)) ?_ (fun y _ => by rw [wf 205 (by decide) (by decide), wf 206 (by decide) (by decide), wf 207 (by decide) (by decide), wf 208 (by decide) (by decide)]; exact ⟨rfl, rfl, rfl, rfl⟩) (fun y _ => by rw [wf 209 (by decide) (by decide)]) (fun y _ => by rw [wf 210 (by decide) (by decide), wf 211 (by decide) (by decide)]; exact ⟨rfl, rfl⟩) x1 w3 ?_ (fun hh => absurd hh (Nat.lt_irrefl _)))
      · funext k
        by_cases ck : k = T
        · rw [if_pos ck, ck]
        · rw [if_neg ck, wf 204 (by decide) (by decide)]
      · exact Or.inr ⟨by rw [x90 2 (by decide)]; exact f2, by rw [w4, x3]; exact e2, by rw [w5, x90 4 (by decide)]; exact e3⟩
    · -- well read
      obtain ⟨tok, z, ⟨s15, sT4, sT5, hK⟩, ⟨u29, u36, hOm⟩, ⟨u22, u25, u21, u28⟩, ⟨pg, hS⟩, hCl, hL⟩ := P
      have n300 := tok.1.1
      have en := tok.2.1.2.2
      have Om4 : Om ≤ 400 := by
        rcases pg with p | ⟨_, p⟩ <;> omega
      have S3 : S ≤ 300 := by
        rcases pg with p | ⟨_, p⟩ <;> omega
      have wT : w 201 1 = (T : Int) := by rw [wf 201 (by decide) (by decide)]; exact t3
      have w29 : w 200 29 = (K : Int) := by rw [wk 29 (by decide) (by decide)]; exact u29
      have ta : st2 w 204 T (K : Int) 200 = w 200 := st2_ne (by decide)
      obtain ⟨y1, Y1, c1, c2, c3, c4⟩ := cp211 (X := T) ht hK K LF 0 (st2 w 204 T (K : Int)) (Nat.zero_add K) (by unfold LF; omega) (by rw [ta]; exact w29) (fun j hj => by rw [st2_ne (by decide), wi 217 (by decide)]; exact (hCl j hj).2)
      have Y1 : L_M_text_211 LF (T : Int) 0 (st2 w 204 T (K : Int)) = some y1 := Y1
      have y1i : ∀ i, i ∉ ([205, 206, 207, 208, 209] : List Nat) → y1 i = st2 w 204 T (K : Int) i := fun i hi => c4 i hi
      obtain ⟨y2, Y2, d1, d2, d3⟩ := cp339 (X := T) (O := Om) ht Om4 Om LF 0 y1 (Nat.zero_add Om) (by unfold LF; omega) (by rw [y1i 200 (by decide), ta, wk 36 (by decide) (by decide)]; exact u36)
      have Y2 : L_M_text_339 LF (T : Int) 0 y1 = some y2 := Y2
      have y2i : ∀ i, i ≠ 210 → i ≠ 211 → y2 i = y1 i := fun i a b => d3 i (by simp [a, b])
      have y3i : ∀ i, i ≠ 204 → ¬ (205 ≤ i ∧ i ≤ 211) → y2 i = w i := fun i a b => by rw [y2i i (by omega) (by omega), y1i i (by simp; omega), st2_ne a]
      have y204 : y2 204 = st2 w 204 T (K : Int) 204 := by rw [y2i 204 (by decide) (by decide), y1i 204 (by decide)]
      have y2T : y2 201 1 = (T : Int) := by rw [y3i 201 (by decide) (by decide)]; exact wT
      have ev : ∀ i, (212 ≤ i ∧ i ≤ 222) → w i = v i := fun i hi => wi i (by omega)
      have e1T : (T : Int) + 1 = ((T + 1 : Nat) : Int) := by omega
      have x08 : x 0 8 = (T : Int) := by rw [xf 0 (by decide) (by decide) (by omega) (by omega) (by omega) (by omega) (by omega)]; exact t2
      have xs8 : st2 x 0 8 ((T + 1 : Nat) : Int) 0 8 = ((T + 1 : Nat) : Int) := st2_ss _ _ _ _
      have es8 : ((T + 1 : Nat) : Int) - 1 = (T : Int) := by omega
      rw [if_pos z.1, if_neg ne10, x08, e1T, if_pos (r32_nat (by omega)), xs8, es8, if_pos (r32_nat (by omega)), w19, if_pos (show v 200 19 ≤ 0 by omega), wT, if_pos (show 0 ≤ (T : Int) ∧ (T : Int) < 4 by omega), Int.toNat_natCast, w29, bindM_eq, Y1, b0M_some, Y2, b0M_some, y2T, e1T, if_pos (r32_nat (by omega)), bindM_eq]
      have mi : ∀ i, i ≠ 201 → st2 y2 201 1 ((T + 1 : Nat) : Int) i = y2 i := fun i hi => st2_ne hi
      have xz : ∀ i, i ≠ 0 → st2 x 0 8 ((T + 1 : Nat) : Int) i = x i := fun i hi => st2_ne hi
      have m205 : ∀ j, j < K → st2 y2 201 1 ((T + 1 : Nat) : Int) 205 (24 * T + j) = v 216 j ∧ st2 y2 201 1 ((T + 1 : Nat) : Int) 206 (24 * T + j) = 400 * (T : Int) + v 217 j ∧ st2 y2 201 1 ((T + 1 : Nat) : Int) 207 (24 * T + j) = v 218 j ∧ st2 y2 201 1 ((T + 1 : Nat) : Int) 208 (24 * T + j) = v 219 j ∧ ∀ i, i < 4 → st2 y2 201 1 ((T + 1 : Nat) : Int) 209 (96 * T + 4 * j + i) = v 220 (4 * j + i) := fun j hj => by
        obtain ⟨k1, k2, k3, k4, k5⟩ := c1 j (Nat.zero_le _) hj
        rw [st2_ne (by decide), ev 216 (by decide)] at k1
        rw [st2_ne (by decide), ev 217 (by decide)] at k2
        rw [st2_ne (by decide), ev 218 (by decide)] at k3
        rw [st2_ne (by decide), ev 219 (by decide)] at k4
        refine ⟨by rw [mi 205 (by decide), y2i 205 (by decide) (by decide)]; exact k1, by rw [mi 206 (by decide), y2i 206 (by decide) (by decide)]; exact k2, by rw [mi 207 (by decide), y2i 207 (by decide) (by decide)]; exact k3, by rw [mi 208 (by decide), y2i 208 (by decide) (by decide)]; exact k4, fun i hi => ?_⟩
        have := k5 i hi
        rw [st2_ne (by decide), ev 220 (by decide)] at this
        rw [mi 209 (by decide), y2i 209 (by decide) (by decide)]; exact this
      have m210 : ∀ j, j < Om → st2 y2 201 1 ((T + 1 : Nat) : Int) 210 (400 * T + j) = v 221 j ∧ st2 y2 201 1 ((T + 1 : Nat) : Int) 211 (400 * T + j) = v 222 j := fun j hj => by
        obtain ⟨k1, k2⟩ := d1 j (Nat.zero_le _) hj
        rw [y1i 221 (by decide), st2_ne (by decide), ev 221 (by decide)] at k1
        rw [y1i 222 (by decide), st2_ne (by decide), ev 222 (by decide)] at k2
        exact ⟨by rw [mi 210 (by decide)]; exact k1, by rw [mi 211 (by decide)]; exact k2⟩
      have m204 : st2 y2 201 1 ((T + 1 : Nat) : Int) 204 T = (K : Int) := by rw [mi 204 (by decide), y204, st2_ss]
      have xt : ∀ i, 90 < i → st2 x 0 8 ((T + 1 : Nat) : Int) i = t i := fun i hi => by rw [xz i (by omega), xi i (by omega)]
      have lawm : ∀ w2, w2 < 3 → LawM (st2 y2 201 1 ((T + 1 : Nat) : Int)) T w2 (Ls w2) := fun w2 hw => LawM.new (hL w2 hw).2.2 Om4 m204 (fun k hk => ⟨(m205 k hk).1, (m205 k hk).2.1⟩) m210
      have lawc : ∀ w2, w2 < 3 → LawC (st2 x 0 8 ((T + 1 : Nat) : Int)) (94 + T) w2 (Ls w2) := fun w2 hw => ((hL w2 hw).2.1.c S3).e (xt _ (by omega)) (xt _ (by omega)) (xt _ (by omega))
      refine Op.ret rfl (key _ _ (T + 1) (by omega) (by omega) xs8 (by rw [st2_sk, if_neg (by decide), xf 0 (by decide) (by decide) (by omega) (by omega) (by omega) (by omega) (by omega)]) (fun i i0 h1 h2 h3 h4 h5 h6 h7 => by rw [xz i i0]; exact xf i h1 h2 h3 h4 h5 h6 h7) (st2_ss _ _ _ _) (fun k hk => by rw [st2_sk, if_neg hk, y3i 201 (by decide) (by decide), wf 201 (by decide) (by decide)]) (by rw [mi 202 (by decide), y3i 202 (by decide) (by decide)]; exact wf 202 (by decide) (by decide)) (by rw [mi 203 (by decide), y3i 203 (by decide) (by decide)]; exact wf 203 (by decide) (by decide)) ?_ (fun y hy => ?_) (fun y hy => ?_) (fun y hy => ?_) (by rw [xz 90 (by decide)]; exact x1) (by rw [mi 200 (by decide), y3i 200 (by decide) (by decide)]; exact w3) ?_ (fun _ => ⟨rfl, ⟨K, hK, by rw [xt _ (by omega)]; exact sT5, m204, fun k hk => ?_⟩, Ls 0, Ls 1, Ls 2, ⟨(hL 0 (by decide)).1, (hL 1 (by decide)).1, (hL 2 (by decide)).1⟩, ⟨lawc 0 (by decide), lawc 1 (by decide), lawc 2 (by decide)⟩, lawm 0 (by decide), lawm 1 (by decide), lawm 2 (by decide)⟩))
      · funext k
        by_cases ck : k = T
        · rw [if_pos ck, ck]
        · rw [if_neg ck, mi 204 (by decide), y204, st2_sk, if_neg ck, wf 204 (by decide) (by decide)]
      · obtain ⟨k1, k2, k3, k4⟩ := c2 y (by omega)
        rw [mi 205 (by decide), mi 206 (by decide), mi 207 (by decide), mi 208 (by decide), y2i 205 (by decide) (by decide), y2i 206 (by decide) (by decide), y2i 207 (by decide) (by decide), y2i 208 (by decide) (by decide), k1, k2, k3, k4, st2_ne (by decide), st2_ne (by decide), st2_ne (by decide), st2_ne (by decide), wf 205 (by decide) (by decide), wf 206 (by decide) (by decide), wf 207 (by decide) (by decide), wf 208 (by decide) (by decide)]
        exact ⟨rfl, rfl, rfl, rfl⟩
      · rw [mi 209 (by decide), y2i 209 (by decide) (by decide), c3 y (by omega), st2_ne (by decide), wf 209 (by decide) (by decide)]
      · obtain ⟨k1, k2⟩ := d2 y (by omega)
        rw [mi 210 (by decide), mi 211 (by decide), k1, k2, y1i 210 (by decide), y1i 211 (by decide), st2_ne (by decide), st2_ne (by decide), wf 210 (by decide) (by decide), wf 211 (by decide) (by decide)]
        exact ⟨rfl, rfl⟩
      · refine Or.inr ⟨by rw [xz 90 (by decide), x90 2 (by decide)]; exact f2, ?_, ?_⟩
        · rw [xz 90 (by decide), mi 200 (by decide), y3i 200 (by decide) (by decide), w4, x3, z.1]; exact z.2.symm
        · rw [xz 90 (by decide), mi 200 (by decide), y3i 200 (by decide) (by decide), w5, x90 4 (by decide)]; exact tok.2.2.1.2
      · obtain ⟨k1, k2, k3, k4, k5⟩ := m205 k hk
        rw [k1, k3, k4]
        exact (hCl k hk).1.cong (fun j hj => by show st2 x 0 8 ((T + 1 : Nat) : Int) (110 + T) (6 * k + j) = t (94 + T + 16) (6 * k + j); rw [xt _ (by omega), show 110 + T = 94 + T + 16 by omega]) (fun i hi => k5 i hi)
