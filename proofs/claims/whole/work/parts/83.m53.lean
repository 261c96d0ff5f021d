-- `ring` on both sides
theorem PathAt.get {f : Nat → Int} : ∀ {p : List Nat}, PathAt f p → ∀ i, i < p.length → ∃ c, c ∈ p ∧ f i = (c : Int)
  | [], _, i, hi => by simp at hi
  | a :: t, h, i, hi => by
    by_cases e : i = t.length
    · exact ⟨a, by simp, by rw [e]; exact h.1⟩
    · obtain ⟨c, c1, c2⟩ := PathAt.get h.2 i (by simp at hi; omega)
      exact ⟨c, by simp [c1], c2⟩
theorem PathAt.eq {f g : Nat → Int} : ∀ {p : List Nat}, PathAt f p → PathAt g p → ∀ i, i < p.length → g i = f i
  | [], _, _, i, hi => by simp at hi
  | a :: t, h, k, i, hi => by
    by_cases e : i = t.length
    · rw [e, h.1, k.1]
    · exact PathAt.eq h.2 k.2 i (by simp at hi; omega)
theorem isRing_ok {σ μ : Mm} {G O M : Law} {first size : Nat} {s : Mm} (hf : first < 6) (h2 : 2 ≤ size) (hsz : size ≤ 6) (hD : DebtR (σ 130) (μ 201)) (hm : MJ μ s G O M (σ 3)) :
    (∃ q z, dfs (ow (tw G O (σ 3)) (σ 130)) first (size - 1) [first] = some q ∧ F_M_isRing (first : Int) (size : Int) s = some (1, z) ∧ MP σ μ z G O M first q) ∨ (dfs (ow (tw G O (σ 3)) (σ 130)) first (size - 1) [first] = none ∧ ∃ z, F_M_isRing (first : Int) (size : Int) s = some (0, z) ∧ MJ μ z G O M (σ 3)) := by
  unfold F_M_isRing
  rw [bindM_eq, bindM_eq]
  obtain ⟨r, rfl⟩ : ∃ r, size = r + 2 := ⟨size - 2, by omega⟩
  have hP : MP σ μ (st2 (st2 s 242 0 (first : Int)) 242 1 (first : Int)) G O M first [first] := ⟨MP.frx hm ((Fr.rf.st (by decide)).st (by decide)), by rw [List.length_nil, st2_sk, if_neg (by decide), st2_ss], trivial⟩
  obtain ⟨f, f1, f2⟩ := isRing_loop (μ := μ) hf hsz hD r (5 - first) first first [] _ (by simp; omega) (by omega) (fun c hc => by simp at hc; omega) hP (st2_ss _ _ _ _)
  have kb : Kb r ≤ 936 := by
    have : r = 0 ∨ r = 1 ∨ r = 2 ∨ r = 3 ∨ r = 4 := by omega
    rcases this with rfl | rfl | rfl | rfl | rfl <;> decide
  have fb : f ≤ 5000 := by
    have : (5 - first) * (1 + Kb r) ≤ 5 * 937 := Nat.mul_le_mul (by omega) (by omega)
    omega
  have hl : LF = (LF - f - 1 + 1) + f := by unfold LF; omega
  have e1 : r + 2 - 1 = r + 1 := by omega
  rw [e1, dfsS]
  rcases f2 with ⟨q, z, g1, g2, g3⟩ | ⟨g1, z, g2, g3⟩
  · have g2 := g2 (LF - f - 1 + 1)
    rw [← hl] at g2
    have g2 : L_M_isRing_16 LF (first : Int) ((r + 2 : Nat) : Int) 1 (st2 (st2 s 242 0 (first : Int)) 242 1 (first : Int)) = some (.inl (1, z)) := g2
    rw [g2, b0MS_l]
    exact Or.inl ⟨q, z, g1, rfl, g3⟩
  · have g2 := g2 (LF - f - 1 + 1)
    rw [← hl] at g2
    have g2 : L_M_isRing_16 LF (first : Int) ((r + 2 : Nat) : Int) 1 (st2 (st2 s 242 0 (first : Int)) 242 1 (first : Int)) = L_M_isRing_16 (LF - f - 1 + 1) (first : Int) ((r + 2 : Nat) : Int) 0 z := g2
    rw [g2, L_M_isRing_16, if_pos (Int.le_refl _), b0MS_r]
    exact Or.inr ⟨g1, z, rfl, g3.1⟩
theorem laysRing_ok {σ μ : Mm} {G O M : Law} {s : Mm} (hD : DebtR (σ 130) (μ 201)) (hm : MJ μ s G O M (σ 3)) :
    (∃ q z, ringS (ow (tw G O (σ 3)) (σ 130)) = some q ∧ F_M_laysRing s = some ((q.length : Int), z) ∧ MJ μ z G O M (σ 3) ∧ PathAt (z 242) q) ∨ (ringS (ow (tw G O (σ 3)) (σ 130)) = none ∧ ∃ z, F_M_laysRing s = some (-1, z) ∧ MJ μ z G O M (σ 3)) := by
  unfold F_M_laysRing
  have len : ∀ (o : Nat → Int) (first : Nat) (r : Nat) (p q : List Nat), dfs o first r p = some q → q.length = p.length + r := fun o first r => by
    induction r with
    | zero =>
      intro p q h
      simp only [dfs] at h
      split at h
      · injection h with h; rw [← h]; rfl
      · exact nomatch h
    | succ r ih =>
      intro p q h
      simp only [dfs] at h
      have : ∀ (m c : Nat), tryN (fun c => if c ∈ p ∨ o (6 * p.headD 0 + c) ≤ 0 then none else dfs o first r (c :: p)) m c = some q → q.length = p.length + (r + 1) := fun m => by
        induction m with
        | zero => intro c h; exact nomatch h
        | succ m ihm =>
          intro c h
          simp only [tryN] at h
          split at h
          · next q2 e =>
            split at e
            · exact nomatch e
            · have := ih _ _ e
              injection h with h
              rw [← h, this]; simp; omega
          · exact ihm _ h
      exact this _ _ h
  have l10 : ∀ (size : Nat) s, 2 ≤ size → size ≤ 6 → MJ μ s G O M (σ 3) → (∃ q z, ringAt (ow (tw G O (σ 3)) (σ 130)) size = some q ∧ L_M_laysRing_10 LF (size : Int) ((0 : Nat) : Int) s = some (.inl z) ∧ (z.1 = (size : Int) ∧ MJ μ z.2 G O M (σ 3) ∧ PathAt (z.2 242) q ∧ q.length = size)) ∨ (ringAt (ow (tw G O (σ 3)) (σ 130)) size = none ∧ ∃ z, L_M_laysRing_10 LF (size : Int) ((0 : Nat) : Int) s = some (.inr z) ∧ MJ μ z G O M (σ 3)) := fun size s h1 h2 hs => by
    refine loop_try (L := fun N j s => L_M_laysRing_10 N (size : Int) j s) (P := fun s => MJ μ s G O M (σ 3)) (Q := fun q z => z.1 = (size : Int) ∧ MJ μ z.2 G O M (σ 3) ∧ PathAt (z.2 242) q ∧ q.length = size) (x := 6) (fun n s _ => by rw [L_M_laysRing_10, if_pos (Int.le_refl _)]) (by omega) (by unfold LF; omega) hs (fun N f s _ hf hs => ?_)
    have e3 : (f : Int) + 1 = ((f + 1 : Nat) : Int) := by omega
    rw [L_M_laysRing_10, if_neg (show ¬ (6 : Int) ≤ (f : Int) by omega)]
    rcases isRing_ok (σ := σ) (μ := μ) (G := G) (O := O) (M := M) (first := f) (size := size) (s := s) (by omega) h1 h2 hD hs with ⟨q, z, q1, q2, q3⟩ | ⟨q1, z, q2, q3⟩
    · rw [q2, b1M_some, if_neg ne10]
      exact Or.inl ⟨q, _, q1, rfl, rfl, q3.1, q3.2, by rw [len _ _ _ _ _ q1]; simp; omega⟩
    · rw [q2, b1M_some, if_pos rfl, e3, if_pos (show r32 ((f + 1 : Nat) : Int) from ⟨by omega, by omega⟩)]
      exact Or.inr ⟨q1, z, rfl, q3⟩
  rcases loop_try (L := fun N j s => L_M_laysRing_2 N j s) (P := fun s => MJ μ s G O M (σ 3)) (Q := fun q z => z.1 = (q.length : Int) ∧ MJ μ z.2 G O M (σ 3) ∧ PathAt (z.2 242) q) (x := 7) (g := ringAt (ow (tw G O (σ 3)) (σ 130))) (fun n s _ => by rw [L_M_laysRing_2, if_pos (Int.le_refl _)]) (m := 5) (i := 2) (N := LF) (by omega) (by unfold LF; omega) hm (fun N size s h1 hf hs => by
    have e3 : (size : Int) + 1 = ((size + 1 : Nat) : Int) := by omega
    rcases l10 size s h1 (by omega) hs with ⟨q, z, q1, q2, q3⟩ | ⟨q1, z, q2, q3⟩
    · have q2 : L_M_laysRing_10 LF (size : Int) 0 s = some (.inl z) := q2
      rw [L_M_laysRing_2, if_neg (by omega), q2, b0MS_l]
      exact Or.inl ⟨q, z, q1, rfl, by rw [q3.1, q3.2.2.2], q3.2.1, q3.2.2.1⟩
    · have q2 : L_M_laysRing_10 LF (size : Int) 0 s = some (.inr z) := q2
      rw [L_M_laysRing_2, if_neg (by omega), q2, b0MS_r, e3, if_pos (show r32 ((size + 1 : Nat) : Int) from ⟨by omega, by omega⟩)]
      exact Or.inr ⟨q1, z, rfl, q3⟩) with ⟨q, z, q1, q2, q3⟩ | ⟨q1, z, q2, q3⟩
  · have q2 : L_M_laysRing_2 LF 2 s = some (.inl z) := q2
    rw [q2, b0MS_l]
    exact Or.inl ⟨q, z.2, q1, by rw [← q3.1], q3.2⟩
  · have q2 : L_M_laysRing_2 LF 2 s = some (.inr z) := q2
    rw [q2, b0MS_r]
    exact Or.inr ⟨q1, z, rfl, q3⟩
def la (f : Nat → Int) : Nat → Int
  | 0 => 10000000
  | i + 1 => min (la f i) (f i)
theorem ring_rel {σ μ : Mm} {B R : Int} (h : Rel σ μ B R) (hB : B + 400 ≤ 90000000) (hR : R + 1000 < 2147483647) (x : Int) : Op (F_A_ring x σ) (F_M_ring x μ) B (R + 1000) := by
  obtain ⟨G, O, M, hN, hE⟩ := id h
  have hr := hN.round
  have hD := hE.debt
  obtain ⟨ν, E2, mj, -⟩ := hN.lays
  have ob : ∀ j, j < 36 → 0 ≤ ow (tw G O (σ 3)) (σ 130) j ∧ ow (tw G O (σ 3)) (σ 130) j ≤ 10494 := fun j hj => ow_bd (hD j hj).2
  unfold F_A_ring F_M_ring
  rw [E2, b0M_some]
  rcases laysRing_ok hD mj with ⟨q, z, q1, q2, q3, q4⟩ | ⟨q1, z, q2, q3⟩
  · rcases shortest_ok hN (by omega) (by omega) (fun i hi => (hD i hi).2) with ⟨p, y, p1, p2, p3, p4, p5, p6, p7⟩ | ⟨p1, y, p2, p3⟩
    · have epq : p = q := by
        have := p1.symm.trans q1
        injection this
      subst epq
      have fin : ∀ v : Int, Op (some (v, y)) (some (v, z)) B (R + 1000) := fun v => Op.ret rfl (h.shut (n := 1) (by omega) (by omega) p3.1 q3)
      rw [q2, b1M_some, if_neg (show ¬ (p.length : Int) = -1 by omega)]
      by_cases h1 : x < -2
      · rw [if_pos h1, if_pos h1]
        exact Op.ret rfl (h.askM q3.2.2 |>.w (Int.le_refl _) (by omega))
      · rw [if_neg h1, if_neg h1]
        by_cases h2 : x < 6
        · rw [if_pos h2, p2, b1M_some, if_neg (show ¬ (p.length : Int) = 0 by omega)]
          by_cases h3 : x = -1
          · rw [if_pos h3, if_pos (show x < (p.length : Int) by omega), if_neg (show ¬ x < -1 by omega), if_pos h3]
            exact fin _
          · rw [if_neg h3]
            by_cases h4 : x = -2
            · rw [if_pos h4, if_pos (show x < (p.length : Int) by omega), if_pos (show x < -1 by omega)]
              -- the least around
              have at_ : ∀ i, i < p.length → ∃ c : Nat, c < 6 ∧ y 131 i = (c : Int) ∧ z 242 i = (c : Int) := fun i hi => by
                obtain ⟨c, c1, c2⟩ := p4.get i hi
                exact ⟨c, p7 c c1, c2, by rw [p4.eq q4 i hi]; exact c2⟩
              let F : Nat → Int := fun i => ow (tw G O (σ 3)) (σ 130) (6 * (y 131 i).toNat + (y 131 ((i + 1) % p.length)).toNat)
              have md : ∀ i : Nat, i < p.length → (i + 1) % p.length < p.length := fun i hi => Nat.mod_lt _ (by omega)
              have tm : ∀ i : Nat, ((i + 1 : Nat) : Int).tmod (p.length : Int) = (((i + 1) % p.length : Nat) : Int) := fun i => by rw [Int.tmod_eq_emod_of_nonneg (by omega), Int.natCast_emod]
              have Fb : ∀ i, i < p.length → 0 ≤ F i ∧ F i ≤ 10494 := fun i hi => by
                obtain ⟨c, c1, c2, c3⟩ := at_ i hi
                obtain ⟨d, d1, d2, d3⟩ := at_ _ (md i hi)
                show 0 ≤ ow _ _ _ ∧ ow _ _ _ ≤ 10494
                rw [c2, d2]
                exact ob _ (by omega)
              have lb : ∀ i, i ≤ p.length → 0 ≤ la F i ∧ la F i ≤ 10000000 := fun i => by
                induction i with
                | zero => intro _; exact ⟨by simp only [la]; omega, by simp only [la]; omega⟩
                | succ i ih =>
                  intro hi
                  have := ih (by omega)
                  have := Fb i (by omega)
                  simp only [la]; omega
              obtain ⟨a, E3, ha⟩ := loop_inv (L := fun n j a => L_B_leastAround_5 n (p.length : Int) a j y) (I := fun i a => a = la F i) (x := (p.length : Int)) (out := fun a => a)
                (fun n s => by rw [L_B_leastAround_5, if_pos (Int.le_refl _)]) (m := p.length) (i := 0) (N := LF) (s := (10000000 : Int)) (by omega) (by unfold LF; omega) rfl (fun n j a _ hj ha => by
                  have ej : ((j : Int)).toNat = j := by omega
                  have e2 : (j : Int) + 1 = ((j + 1 : Nat) : Int) := by omega
                  obtain ⟨c, c1, c2, c3⟩ := at_ j (by omega)
                  have mj := md j (by omega)
                  have tj := tm j
                  have hF : F j = ow (tw G O (σ 3)) (σ 130) (6 * (y 131 j).toNat + (y 131 ((j + 1) % p.length)).toNat) := rfl
                  generalize (j + 1) % p.length = k at mj tj hF
                  obtain ⟨d, d1, d2, d3⟩ := at_ k mj
                  have ek : ((k : Int)).toNat = k := by omega
                  have i1 : ((c : Int) * 6 + (d : Int)).toNat = 6 * c + d := by omega
                  have tc : ((c : Int)).toNat = c := by omega
                  have td : ((d : Int)).toNat = d := by omega
                  rw [c2, d2, tc, td] at hF
                  refine ⟨min a (F j), ?_, by rw [ha]; rfl⟩
                  show L_B_leastAround_5 (n + 1) (p.length : Int) a (j : Int) y = _
                  rw [L_B_leastAround_5, if_neg (by omega), if_pos (by omega), e2, if_pos (show r32 ((j + 1 : Nat) : Int) from ⟨by omega, by omega⟩), if_pos (show ¬ (p.length : Int) = 0 by omega), tj, if_pos (by omega), ej, ek, c2, d2, if_pos (by omega), i1, p3.2 _ (by omega), bindM_eq, if_pos (show r32 ((j + 1 : Nat) : Int) from ⟨by omega, by omega⟩), hF])
              obtain ⟨c, c1, c2, c3⟩ := at_ 0 (by omega)
              obtain ⟨d, d1, d2, d3⟩ := at_ 1 (by omega)
              have g1 := hD (6 * c + d) (by omega)
              obtain ⟨⟨v, s1⟩, F1, v1, m1, f1⟩ := owed_M q3 (d := σ 130) (a := c) (b := d) c1 d1 g1.1.symm g1.2
              have v1 : v = ow (tw G O (σ 3)) (σ 130) (6 * c + d) := v1
              have m1 : MJ μ s1 G O M (σ 3) := m1
              have f1 : Fr [200, 223, 224, 229, 230, 231, 232] z s1 := f1
              have v2 : v = la F 1 := by
                have e1 : (0 + 1) % p.length = 1 := Nat.mod_eq_of_lt (by omega)
                have : F 0 = ow (tw G O (σ 3)) (σ 130) (6 * c + d) := by
                  show ow _ _ (6 * (y 131 0).toNat + (y 131 ((0 + 1) % p.length)).toNat) = _
                  rw [e1, c2, d2]; rfl
                have := ob (6 * c + d) (by omega)
                show v = min 10000000 (F 0)
                omega
              obtain ⟨w, E4, hw⟩ := loop_inv (L := fun n j (w : Int × Mm) => L_M_ring_68 n (p.length : Int) w.1 j w.2) (I := fun i w => w.1 = la F i ∧ MJ μ w.2 G O M (σ 3) ∧ w.2 242 = z 242) (x := (p.length : Int)) (out := fun w => w)
                (fun n s => by rw [L_M_ring_68, if_pos (Int.le_refl _)]) (m := p.length - 1) (i := 1) (N := LF) (s := (v, s1)) (by omega) (by unfold LF; omega) ⟨v2, m1, f1 242 (by decide)⟩ (fun n j w hj1 hj hw => by
                  have ej : ((j : Int)).toNat = j := by omega
                  have e2 : (j : Int) + 1 = ((j + 1 : Nat) : Int) := by omega
                  obtain ⟨c, c1, c2, c3⟩ := at_ j (by omega)
                  have mj := md j (by omega)
                  have tj := tm j
                  have hF : F j = ow (tw G O (σ 3)) (σ 130) (6 * (y 131 j).toNat + (y 131 ((j + 1) % p.length)).toNat) := rfl
                  generalize (j + 1) % p.length = k at mj tj hF
                  obtain ⟨d, d1, d2, d3⟩ := at_ k mj
                  have ek : ((k : Int)).toNat = k := by omega
                  have tc : ((c : Int)).toNat = c := by omega
                  have td : ((d : Int)).toNat = d := by omega
                  rw [c2, d2, tc, td] at hF
                  have g1 := hD (6 * c + d) (by omega)
                  obtain ⟨⟨u, s2⟩, F2, u1, m2, f2⟩ := owed_M hw.2.1 (d := σ 130) (a := c) (b := d) c1 d1 g1.1.symm g1.2
                  have u1 : u = ow (tw G O (σ 3)) (σ 130) (6 * c + d) := u1
                  have f2 : Fr [200, 223, 224, 229, 230, 231, 232] w.2 s2 := f2
                  refine ⟨(min w.1 (F j), s2), ?_, by show min w.1 (F j) = _; rw [hw.1]; rfl, m2, by show s2 242 = _; rw [f2 242 (by decide)]; exact hw.2.2⟩
                  show L_M_ring_68 (n + 1) (p.length : Int) w.1 (j : Int) w.2 = L_M_ring_68 n (p.length : Int) (min w.1 (F j)) ((j + 1 : Nat) : Int) s2
                  have em : (if w.1 ≤ u then w.1 else u : Int) = min w.1 (F j) := by
                    rw [u1, hF]
                    by_cases hle : w.1 ≤ ow (tw G O (σ 3)) (σ 130) (6 * c + d)
                    · rw [if_pos hle]; omega
                    · rw [if_neg hle]; omega
                  rw [L_M_ring_68, if_neg (by omega), if_pos (by omega), e2, if_pos (show r32 ((j + 1 : Nat) : Int) from ⟨by omega, by omega⟩), if_pos (show ¬ (p.length : Int) = 0 by omega), tj, if_pos (by omega), ej, ek, hw.2.2, c3, d3, F2, b1M_some, em, bindM_eq, if_pos (show r32 ((j + 1 : Nat) : Int) from ⟨by omega, by omega⟩)])
              have E3 : L_B_leastAround_5 LF (p.length : Int) 10000000 0 y = some a := E3
              have E4 : L_M_ring_68 LF (p.length : Int) v 1 s1 = some w := E4
              unfold F_B_leastAround
              rw [E3, b1_some, b1_some, c3, d3, F1, b1M_some, E4]
              have el : 1 + (p.length - 1) = 0 + p.length := by omega
              show Op (some (a, y)) (some (w.1, w.2)) B (R + 1000)
              exact Op.ret (by rw [ha, hw.1, el]) (h.shut (n := 1) (by omega) (by omega) p3.1 hw.2.1)
            · rw [if_neg h4]
              by_cases h5 : (p.length : Int) ≤ x
              · rw [if_pos h5, if_neg (show ¬ x < (p.length : Int) by omega)]
                exact fin _
              · obtain ⟨i, rfl⟩ := Int.eq_ofNat_of_zero_le (show 0 ≤ x by omega)
                have ei : ((i : Int)).toNat = i := by omega
                rw [if_neg h5, if_pos (show 0 ≤ (i : Int) ∧ (i : Int) < 6 by omega), if_pos (show (i : Int) < (p.length : Int) by omega), if_neg (show ¬ (i : Int) < -1 by omega), if_neg h3, if_pos (show 0 ≤ (i : Int) ∧ (i : Int) < 6 by omega), ei, p4.eq q4 i (by omega)]
                exact fin _
        · rw [if_neg h2, if_neg (show ¬ x < (p.length : Int) by omega)]
          exact Op.ret rfl (h.askM q3.2.2 |>.w (Int.le_refl _) (by omega))
    · exact nomatch q1.symm.trans p1
  · rcases shortest_ok hN (by omega) (by omega) (fun i hi => (hD i hi).2) with ⟨p, y, p1, p2, p3, p4, p5, p6, p7⟩ | ⟨p1, y, p2, p3⟩
    · exact nomatch q1.symm.trans p1
    · rw [q2, b1M_some, if_pos rfl]
      by_cases h1 : x < -2
      · rw [if_pos h1]
        exact Op.ret rfl (h.askM q3.2.2 |>.w (Int.le_refl _) (by omega))
      · rw [if_neg h1]
        by_cases h2 : x < 6
        · rw [if_pos h2, p2, b1M_some, if_pos rfl]
          exact Op.ret rfl (h.shut (n := 1) (by omega) (by omega) p3.1 q3)
        · rw [if_neg h2]
          exact Op.ret rfl (h.askM q3.2.2 |>.w (Int.le_refl _) (by omega))
