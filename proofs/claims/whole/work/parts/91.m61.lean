-- `ordered` on both sides, put together
def stC (T : TW) (nums : Nat → Int) (n i : Nat) : Int × Int := (List.range i).foldl (stepO T nums n) (-1, 16)
def stM (T : TW) (nums : Nat → Int) (n i : Nat) : Int × Int := (List.range i).foldl (fun st k => stepO T nums n st (cd (prm n k))) (-1, 16)
theorem stC_s {T : TW} {nums : Nat → Int} {n i : Nat} : stC T nums n (i + 1) = stepO T nums n (stC T nums n i) i := by
  unfold stC; rw [List.range_succ, List.foldl_append]; rfl
theorem stM_s {T : TW} {nums : Nat → Int} {n i : Nat} : stM T nums n (i + 1) = stepO T nums n (stM T nums n i) (cd (prm n i)) := by
  unfold stM; rw [List.range_succ, List.foldl_append]; rfl
/-- what a state of the search is like -/
def StOK (n : Nat) (st : Int × Int) : Prop := (st.1 = -1 ∧ st.2 = 16) ∨ ∃ k, k < fac n ∧ st.1 = ((cd (prm n k) : Nat) : Int) ∧ st.2 = tws (gL (prm n k)) n
theorem stM_ok {T : TW} {nums : Nat → Int} {n : Nat} (h1 : 1 ≤ n) (h2 : n < 5) : ∀ i, i ≤ fac n → StOK n (stM T nums n i)
  | 0, _ => Or.inl ⟨rfl, rfl⟩
  | i + 1, hi => by
    have ih := stM_ok (T := T) (nums := nums) h1 h2 i (by omega)
    rw [stM_s]
    unfold stepO
    by_cases a : sdv (cd (prm n i)) n = -1
    · rw [if_pos a]; exact ih
    · rw [if_neg a]
      by_cases b : (stM T nums n i).2 ≤ sdv (cd (prm n i)) n
      · rw [if_pos b]; exact ih
      · rw [if_neg b]
        by_cases c : offN T (setC nums n (cd (prm n i))) n = 0
        · rw [if_pos c]
          exact Or.inr ⟨i, by omega, rfl, (code_1 n h2 h1 i (by omega)).2⟩
        · rw [if_neg c]; exact ih
theorem bestOrder_ok {σ τ : Mm} {G O M : Law} (cj : CJ σ τ G O M 1) {ρ p : Nat} {nums : Nat → Int} (hρ : 10 ≤ ρ ∧ ρ ≤ 21) (hp1 : 1 ≤ p) (hp : p < 5) (h3 : σ ρ 3 = (p : Int)) (hn : ∀ i, i < p → σ (ρ + 12) i = nums i) (hN : ∀ i, i < p → NN (nums i)) :
    ∃ t, (b1M (L_E_bestOrder_11 LF ρ 0 0 τ) fun x2_5 s5 => b1M (L_E_bestOrder_50 LF ρ x2_5 (-1) 16 0 s5) fun x3_11 s11 => some (x3_11, s11)) = some ((stM (tw G O (σ 3)) nums p (fac p)).1, t) ∧ CJ σ t G O M 1 := by
  have wb : ∀ i : Nat, -495 * (i : Int) ≤ ssum (fun k => wi (tw G O (σ 3)) (nums k)) i ∧ ssum (fun k => wi (tw G O (σ 3)) (nums k)) i ≤ 495 * (i : Int) := fun i => by
    induction i with
    | zero => simp [ssum]
    | succ i ih =>
      have := wi_bd (G := G) (O := O) (E := σ 3) (v := nums i)
      simp only [ssum]; omega
  obtain ⟨q, E1, q1, q2⟩ := loop_inv2 (L := fun N j (q : Int × Mm) => L_E_bestOrder_11 N ρ q.1 j q.2) (I := fun i q => q.1 = ssum (fun k => wi (tw G O (σ 3)) (nums k)) i ∧ CJ σ q.2 G O M 1) (x := p) (out := fun q => q)
    (fun N q hq => by
      show L_E_bestOrder_11 (N + 1) ρ q.1 (p : Int) q.2 = _
      rw [L_E_bestOrder_11, hq.2.2.1.1 ρ (by omega), h3, if_pos (Int.le_refl _)]) (m := p) (i := 0) (N := LF) (s := ((0 : Int), τ)) (by omega) (by unfold LF; omega) ⟨rfl, cj⟩ (fun N j q _ hj hq => by
      have e2 : (j : Int) + 1 = ((j + 1 : Nat) : Int) := by omega
      have ej : ((j : Int)).toNat = j := by omega
      have nj := hN j hj
      obtain ⟨⟨a, s2⟩, E2, a1, c2, -⟩ := hq.2.wi (v := nums j) nj.1 (by omega)
      have a1 : a = wi (tw G O (σ 3)) (nums j) := a1
      have b := wb (j + 1)
      have e : q.1 + a = ssum (fun k => wi (tw G O (σ 3)) (nums k)) (j + 1) := by rw [hq.1, a1]; rfl
      refine ⟨(ssum (fun k => wi (tw G O (σ 3)) (nums k)) (j + 1), s2), ?_, rfl, c2⟩
      show L_E_bestOrder_11 (N + 1) ρ q.1 (j : Int) q.2 = L_E_bestOrder_11 N ρ (ssum (fun k => wi (tw G O (σ 3)) (nums k)) (j + 1)) ((j + 1 : Nat) : Int) s2
      rw [L_E_bestOrder_11, hq.2.2.1.1 ρ (by omega), h3, if_neg (by omega), if_pos (by omega), ej, hq.2.2.1.1 (ρ + 12) (by omega), hn j hj, E2, b1M_some, e, e2, if_pos (show r32 (ssum (fun k => wi (tw G O (σ 3)) (nums k)) (j + 1)) from ⟨by omega, by omega⟩), if_pos (show r32 ((j + 1 : Nat) : Int) from ⟨by omega, by omega⟩)])
  obtain ⟨w, E3, w1, w2⟩ := loop_inv2 (L := fun N j (w : (Int × Int) × Mm) => L_E_bestOrder_50 N ρ (ssum (fun k => wi (tw G O (σ 3)) (nums k)) p) w.1.1 w.1.2 j w.2) (I := fun i w => w.1 = stC (tw G O (σ 3)) nums p i ∧ CJ σ w.2 G O M 1) (x := 4 ^ p) (out := fun w => (w.1.1, w.2))
    (fun N w hw => by
      show L_E_bestOrder_50 (N + 1) ρ _ w.1.1 w.1.2 ((4 ^ p : Nat) : Int) w.2 = _
      rw [L_E_bestOrder_50, hw.2.2.1.1 ρ (by omega), h3, ishl4 p hp, if_pos (Int.le_refl _)]) (m := 4 ^ p) (i := 0) (N := LF) (s := (((-1 : Int), (16 : Int)), q.2)) (by omega) (by
        have : 4 ^ p ≤ 4 ^ 4 := Nat.pow_le_pow_right (by omega) (by omega)
        unfold LF; omega) ⟨rfl, q2⟩ (fun N c w _ hc hw => by
      have e2 : (c : Int) + 1 = ((c + 1 : Nat) : Int) := by omega
      have p4 : 4 ^ p ≤ 4 ^ 4 := Nat.pow_le_pow_right (by omega) (by omega)
      have next : r32 ((c + 1 : Nat) : Int) := ⟨by omega, by omega⟩
      show ∃ w' : (Int × Int) × Mm, L_E_bestOrder_50 (N + 1) ρ _ w.1.1 w.1.2 (c : Int) w.2 = L_E_bestOrder_50 N ρ _ w'.1.1 w'.1.2 ((c + 1 : Nat) : Int) w'.2 ∧ w'.1 = _ ∧ _
      rw [L_E_bestOrder_50, hw.2.2.1.1 ρ (by omega), h3, ishl4 p hp, if_neg (by omega), sd_some p hp hp1 c hc, b1_some, stC_s, ← hw.1]
      unfold stepO
      by_cases a : sdv c p = -1
      · rw [bindM_eq, if_pos a, if_pos a]
        dsimp only
        rw [e2, if_pos next]
        exact ⟨w, rfl, rfl, hw.2⟩
      · rw [bindM_eq, if_neg a, if_neg a]
        by_cases b : w.1.2 ≤ sdv c p
        · rw [if_pos b, if_pos b]
          dsimp only
          rw [e2, if_pos next]
          exact ⟨w, rfl, rfl, hw.2⟩
        · rw [if_neg b, if_neg b]
          obtain ⟨k, hk, rfl⟩ := code_mem hp1 hp hc a
          obtain ⟨t, E4, ht⟩ := betweenAll_C hw.2 hρ hp1 hp h3 hn hN hk
          have hperm := prm_perm p (by omega) k hk
          have es := offN_split (T := tw G O (σ 3)) (f := setC nums p (cd (prm p k))) p
          have ew : ssum (fun j => wi (tw G O (σ 3)) (setC nums p (cd (prm p k)) j)) p = ssum (fun k => wi (tw G O (σ 3)) (nums k)) p := by
            rw [← ssum_perm (g := fun k => wi (tw G O (σ 3)) (nums k)) hperm]
            exact ssum_cg (fun j hj => by rw [setC_prm hp hk hj])
          rw [ew] at es
          have ob := offN_bd (G := G) (O := O) (E := σ 3) (nums := setC nums p (cd (prm p k))) p
          rw [E4, b1M_some, ← es, if_pos (show r32 (offN (tw G O (σ 3)) (setC nums p (cd (prm p k))) p) from ⟨by omega, by omega⟩)]
          by_cases z : offN (tw G O (σ 3)) (setC nums p (cd (prm p k))) p = 0
          · rw [if_pos z, if_pos z]
            dsimp only
            rw [e2, if_pos next]
            exact ⟨((_, _), t), rfl, rfl, ht⟩
          · rw [if_neg z, if_neg z]
            dsimp only
            rw [e2, if_pos next]
            exact ⟨(w.1, t), rfl, rfl, ht⟩)
  rw [show ((0 : Nat) : Int) = 0 from rfl] at E1 E3
  rw [E1]
  show ∃ t, (b1M (some (q.1, q.2)) fun x2_5 s5 => b1M (L_E_bestOrder_50 LF ρ x2_5 (-1) 16 0 s5) fun x3_11 s11 => some (x3_11, s11)) = _ ∧ _
  rw [b1M_some, q1, E3, b1M_some, w1]
  refine ⟨w.2, ?_, w2⟩
  unfold stC stM
  rw [fold_same hp1 hp]
theorem ordered_rel {σ μ : Mm} {B R : Int} (h : Rel σ μ B R) (hB : B + 400 ≤ 90000000) (hR : R + 1000 < 2147483647) (x y : Int) : Op (F_A_ordered x y σ) (F_M_ordered x y μ) B (R + 1000) := by
  obtain ⟨G, O, M, hN, hE⟩ := id h
  obtain ⟨c, c1, c2, c3, c4⟩ := hN.rows
  have hr := hN.round
  have out : Rel σ μ B (R + 1000) := h.w (Int.le_refl _) (by omega)
  obtain ⟨e1, e2⟩ := has_row c1 c2 c3 x
  unfold F_A_ordered F_M_ordered
  rw [e1, e2, b1_some, b1_some]
  by_cases hx : 0 ≤ x ∧ x < (c : Int)
  · rw [if_pos hx, if_neg ne10, if_neg ne10]
    obtain ⟨r, rfl⟩ := Int.eq_ofNat_of_zero_le hx.1
    have er : ((r : Int)).toNat = r := by omega
    have er10 : ((10 : Int) + (r : Int)).toNat = 10 + r := by omega
    obtain ⟨p, mn, nums, hC, hM⟩ := c4 r (by omega)
    obtain ⟨p1, p2, m1, m2, C3, C5, C6, Cn, Cb, hD⟩ := id hC
    obtain ⟨-, -, -, -, q5, q6, q7, -⟩ := id hM
    have cr : (0 : Int) ≤ (r : Int) ∧ (r : Int) < 12 := by omega
    have cr10 : (0 : Int) ≤ 10 + (r : Int) ∧ (10 : Int) + (r : Int) < 5240 := by omega
    rw [if_pos cr, er, C3, bindM_eq, if_pos cr10, er10, q5, if_pos (show r32 ((p : Int) - 1) from ⟨by omega, by omega⟩), in_ok, b1_some]
    by_cases hy : -1 ≤ y ∧ y ≤ (p : Int) - 1
    · rw [if_neg (show ¬ y < -1 by omega), if_pos (show y < (p : Int) by omega), if_pos cr, if_pos hy, if_neg ne10]
      obtain ⟨ν, E1, mj, -⟩ := hN.lays
      have ν201 : ν 201 = μ 201 := mj.2.2.1 201 (by omega)
      rw [E1, b0M_some, if_pos cr10, ν201, q5, bindM_eq]
      have Cn' : ∀ k, k < p → σ (10 + r + 12) k = nums k := fun k hk => by
        have e : 10 + r + 12 = 22 + r := by omega
        rw [e]; exact Cn k hk
      unfold F_E_bestOrder
      obtain ⟨τ, T1, cj, fτ⟩ := hN.fresh (by omega) (by omega)
      obtain ⟨t, E2, ht⟩ := bestOrder_ok cj (ρ := 10 + r) (by omega) p1 (by omega) C3 Cn' Cb
      rw [T1, b0M_some, E2, b1M_some]
      -- the reference's loop
      have facb : ∀ p : Nat, p < 5 → fac p ≤ 24 := by decide
      have fb := facb p (by omega)
      have sok := stM_ok (T := tw G O (σ 3)) (nums := nums) p1 (show p < 5 by omega)
      let I : Nat → Int × Mm → Prop := fun i w => (w.1 = if (stM (tw G O (σ 3)) nums p i).1 = -1 then -1 else (stM (tw G O (σ 3)) nums p i).2) ∧ (∀ j, j < p → ¬ (stM (tw G O (σ 3)) nums p i).1 = -1 → w.2 235 j = dg p (stM (tw G O (σ 3)) nums p i).1.toNat j) ∧ MJ μ w.2 G O M (σ 3)
      obtain ⟨w, E3, w1, w2, w3⟩ := loop_inv2 (L := fun N j (w : Int × Mm) => L_M_ordered_49 N (r : Int) (p : Int) w.1 j w.2) (I := I) (x := fac p) (out := fun w => w)
        (fun N w hw => by
          show L_M_ordered_49 (N + 1) (r : Int) (p : Int) w.1 ((fac p : Nat) : Int) w.2 = _
          rw [L_M_ordered_49, ways_ok p (by omega), b1_some, if_pos (Int.le_refl _)]) (m := fac p) (i := 0) (N := LF) (s := ((-1 : Int), ν)) (by omega) (by unfold LF; omega) ⟨rfl, fun j _ hne => absurd rfl hne, mj⟩ (fun N k w _ hk hw => by
          obtain ⟨w1, w2, w3⟩ := hw
          have e2 : (k : Int) + 1 = ((k + 1 : Nat) : Int) := by omega
          have next : r32 ((k + 1 : Nat) : Int) := ⟨by omega, by omega⟩
          obtain ⟨s1, F1, g1, g2⟩ := laysOrder_ok (n := p) (k := k) (by omega) hk w.2
          have mj1 : MJ μ s1 G O M (σ 3) := w3.fr g2 (by decide) (fun k _ => by rw [g2 200 (by decide)])
          have tw1 : F_M_twosChanged (p : Int) s1 = some (tws (gL (prm p k)) p) := by
            rw [twos_ok (by omega)]
            congr 1
            unfold tws
            exact t4_cg g1 (by omega)
          have cd1 := code_1 p (by omega) p1 k hk
          have tb := code_2 p (by omega) k hk
          have s235 : s1 235 = w.2 235 := g2 235 (by decide)
          have sk := sok k (by omega)
          show ∃ w' : Int × Mm, L_M_ordered_49 (N + 1) (r : Int) (p : Int) w.1 (k : Int) w.2 = L_M_ordered_49 N (r : Int) (p : Int) w'.1 ((k + 1 : Nat) : Int) w'.2 ∧ I (k + 1) w'
          rw [L_M_ordered_49, ways_ok p (by omega), b1_some, if_neg (by omega), F1, b0M_some, tw1, b1_some, bindM_eq, bindM_eq]
          have stay : ∀ s, MJ μ s G O M (σ 3) → s 235 = w.2 235 → stM (tw G O (σ 3)) nums p (k + 1) = stM (tw G O (σ 3)) nums p k → ∃ w' : Int × Mm, (if r32 ((k : Int) + 1) then L_M_ordered_49 N (r : Int) (p : Int) w.1 ((k : Int) + 1) s else none) = L_M_ordered_49 N (r : Int) (p : Int) w'.1 ((k + 1 : Nat) : Int) w'.2 ∧ I (k + 1) w' := fun s hs h235 hst => by
            rw [e2, if_pos next]
            refine ⟨(w.1, s), rfl, ?_, fun j hj hne => ?_, hs⟩
            · rw [hst]; exact w1
            · rw [hst] at hne ⊢
              show s 235 j = _
              rw [h235]; exact w2 j hj hne
          have check : (stM (tw G O (σ 3)) nums p k).2 > tws (gL (prm p k)) p → ∃ w' : Int × Mm, (b0M (F_M_laysRowSo (r : Int) s1) fun s12 => b1M (F_M_outNow s12) fun v13 s13 => b1 (F_M_trueNow s13) fun v14 => if v13 = v14 then b0M (F_M_keepsOrder (p : Int) s13) fun s15 => (fun (x4_9 : Int) (t9 : Mm) => if r32 ((k : Int) + 1) then L_M_ordered_49 N (r : Int) (p : Int) x4_9 ((k : Int) + 1) t9 else none) (tws (gL (prm p k)) p) s15 else (fun (x4_9 : Int) (t9 : Mm) => if r32 ((k : Int) + 1) then L_M_ordered_49 N (r : Int) (p : Int) x4_9 ((k : Int) + 1) t9 else none) w.1 s13) = L_M_ordered_49 N (r : Int) (p : Int) w'.1 ((k + 1 : Nat) : Int) w'.2 ∧ I (k + 1) w' := fun hgt => by
            obtain ⟨s2, F2, mj2, ⟨m, L2⟩, n2, f2⟩ := rowSo_M mj1 (r := r) (l := prm p k) (by omega) hM g1 (prm_lt p (by omega) k hk)
            obtain ⟨⟨v, s3⟩, F3, v1, mj3, f3, -, L3, -⟩ := mj2.out L2
            have v1 : v = trs m (s2 229) p + offL (tw G O (σ 3)) (drw (s2 229) p) := v1
            have mj3 : MJ μ s3 G O M (σ 3) := mj3
            have f3 : Fr SM s2 s3 := f3
            have L3 : Laid s3 p m := L3
            have eqn : ∀ j, j < p → s2 229 j = setC nums p (cd (prm p k)) j := fun j hj => by rw [n2 j hj, setC_prm (by omega) hk hj]
            have un : ∀ j, j < p → NN (setC nums p (cd (prm p k)) j) := fun j hj => by
              rw [← eqn j hj]; exact L2.2.2.2.2.2.2 j hj
            rw [trs_cong (g := setC nums p (cd (prm p k))) eqn, drw_cong (g := setC nums p (cd (prm p k))) eqn, offL_eq p1 un] at v1
            obtain ⟨y1, y2, y3, y4, y5, y6, y7⟩ := L3
            have F4 : F_M_trueNow s3 = some (trs m (setC nums p (cd (prm p k))) p) := by
              rw [trueNow_ok ⟨y3, y4⟩ y1 y7 y5 y6, trs_cong (g := setC nums p (cd (prm p k))) (fun i hi => by rw [f3 229 (by decide)]; exact eqn i hi)]
            have s3_235 : s3 235 = w.2 235 := by rw [f3 235 (by decide), f2 235 (by decide)]; exact s235
            rw [F2, b0M_some, F3, b1M_some, F4, b1_some, v1]
            by_cases z : offN (tw G O (σ 3)) (setC nums p (cd (prm p k))) p = 0
            · obtain ⟨s4, F5, k1, k2⟩ := keeps_ok (n := p) (by omega) s3
              have hst : stM (tw G O (σ 3)) nums p (k + 1) = (((cd (prm p k) : Nat) : Int), tws (gL (prm p k)) p) := by
                rw [stM_s]; unfold stepO
                rw [cd1.2, if_neg (by omega), if_neg (by omega), if_pos z]
              rw [if_pos (by omega), F5, b0M_some]
              dsimp only
              rw [e2, if_pos next]
              refine ⟨(tws (gL (prm p k)) p, s4), rfl, ?_, fun j hj hne => ?_, mj3.fr k2 (by decide) (fun k _ => congrFun (k2 200 (by decide)) k)⟩
              · rw [hst, if_neg (by show ¬ ((cd (prm p k) : Nat) : Int) = -1; omega)]
              · rw [hst]
                show s4 235 j = dg p ((((cd (prm p k) : Nat) : Int)).toNat) j
                rw [k1 j hj, f3 234 (by decide), f2 234 (by decide), g1 j hj, ← code_3 p (by omega) k hk j hj]
                congr 1
            · rw [if_neg (by omega)]
              dsimp only
              exact stay s3 mj3 s3_235 (by rw [stM_s]; unfold stepO; rw [cd1.2, if_neg (by omega), if_neg (by omega), if_neg z])
          rcases sk with ⟨st1, st2⟩ | ⟨k', hk', st1, st2⟩
          · rw [st1, if_pos rfl] at w1
            rw [if_pos w1]
            exact check (by rw [st2]; omega)
          · have nst : ¬ (stM (tw G O (σ 3)) nums p k).1 = -1 := by rw [st1]; omega
            have w1' : w.1 = (stM (tw G O (σ 3)) nums p k).2 := by rw [w1, if_neg nst]
            have tb' := code_2 p (by omega) k' hk'
            rw [if_neg (show ¬ w.1 = -1 by rw [w1', st2]; omega)]
            by_cases hle : w.1 ≤ tws (gL (prm p k)) p
            · rw [if_pos hle]
              dsimp only
              exact stay s1 mj1 s235 (by rw [stM_s]; unfold stepO; rw [cd1.2, if_neg (by omega), if_pos (by rw [← w1']; exact hle)])
            · rw [if_neg hle]
              exact check (by rw [← w1']; omega))
      rw [show ((0 : Nat) : Int) = 0 from rfl] at E3
      have E3 : L_M_ordered_49 LF (r : Int) (p : Int) (-1) 0 ν = some (w.1, w.2) := E3
      rw [E3, b1M_some]
      have fin : ∀ v : Int, Op (some (v, t)) (some (v, w.2)) B (R + 1000) := fun v => Op.ret rfl (h.shut (n := 1) (by omega) (by omega) ht w3)
      rcases sok (fac p) (Nat.le_refl _) with ⟨st1, st2⟩ | ⟨k', hk', st1, st2⟩
      · rw [st1, if_pos rfl] at w1
        rw [st1, if_pos rfl, w1, if_pos rfl]
        exact fin _
      · have nst : ¬ (stM (tw G O (σ 3)) nums p (fac p)).1 = -1 := by rw [st1]; omega
        have tb' := code_2 p (by omega) k' hk'
        have w1' : w.1 = tws (gL (prm p k')) p := by rw [w1, if_neg nst, st2]
        have cd1 := code_1 p (by omega) p1 k' hk'
        rw [if_neg nst, if_neg (show ¬ w.1 = -1 by rw [w1']; omega)]
        by_cases y1 : y = -1
        · rw [if_pos y1, if_pos y1, st1, sd_some p (by omega) p1 _ cd1.1, b1_some, cd1.2, w1']
          exact fin _
        · obtain ⟨j, rfl⟩ := Int.eq_ofNat_of_zero_le (show 0 ≤ y by omega)
          have ej : ((j : Int)).toNat = j := by omega
          rw [if_neg y1, if_neg y1, if_pos (show 0 ≤ (j : Int) ∧ (j : Int) < 6 by omega), ej, w2 j (by omega) nst, st1]
          have e : dg p ((((cd (prm p k') : Nat) : Int)).toNat) j = iand (ishr ((cd (prm p k') : Nat) : Int) (2 * ((p : Int) - 1 - (j : Int)))) 3 := rfl
          rw [e]
          exact fin _
    · rw [if_neg hy, if_pos rfl]
      by_cases h1 : y < -1
      · rw [if_pos h1]; exact Op.ret rfl out
      · rw [if_neg h1, if_neg (by omega)]; exact Op.ret rfl out
  · rw [if_neg hx, if_pos rfl, if_pos rfl]; exact Op.ret rfl out
