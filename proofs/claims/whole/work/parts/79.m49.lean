-- `grouping` on both sides
theorem dm {a b m : Nat} (hb : b < m) : (a * m + b) / m = a ∧ (a * m + b) % m = b := by
  constructor
  · rw [Nat.mul_comm, Nat.mul_add_div (by omega), Nat.div_eq_of_lt hb]; rfl
  · rw [Nat.mul_comm, Nat.mul_add_mod, Nat.mod_eq_of_lt hb]
theorem oTwo_bd {G O : Law} {E : Nat → Int} {x y : Int} : x + y - 1089 ≤ oTwo (tw G O E) x y ∧ oTwo (tw G O E) x y ≤ x + y + 1089 := by
  have b1 := wi_bd (G := G) (O := O) (E := E) (v := (x.natAbs : Int))
  have b2 := be_bd (G := G) (O := O) (E := E) (a := (x.natAbs : Int)) (b := (y.natAbs : Int))
  have b3 := wi_bd (G := G) (O := O) (E := E) (v := (y.natAbs : Int))
  unfold oTwo
  omega
def grF (T : TW) (a b c : Nat) : Option Int := if oTwo T (oTwo T a b) c = oTwo T a (oTwo T b c) then none else some (10000 * (a : Int) + 100 * b + c)
def Tab (T : TW) (m : Nat) (f : Nat → Int) (i : Nat) : Prop := ∀ a b : Nat, a < m → b < m → a * m + b < i → f (a * m + b) = oTwo T a b
theorem FO.ends {σ μ : Mm} {G O M : Law} {B R S : Int} (h : Rel σ μ B R) {n : Int} (hS : σ 2 5 + n ≤ S) (hn : 0 ≤ n) {r : Option Int} {P : Mm → Prop} (hP : ∀ s, P s → CJ σ s G O M n) {E : Nat → Int} {oc om : Option ((Int × Mm) ⊕ Mm)} (h1 : Ok oc (FO r P)) (h2 : Ok om (FO r (fun s => MJ μ s G O M E))) :
    Op (b1M (b0MS oc (fun y => some y) fun s => some ((-1), s)) fun v s => some (v, s)) (b0MS om (fun y => some y) fun s => some ((-1), s)) B S := by
  obtain ⟨y, E1, hy⟩ := h1
  obtain ⟨z, E2, hz⟩ := h2
  rw [E1, E2]
  cases y with
  | inl p =>
    cases z with
    | inl q =>
      rw [b0MS_l, b0MS_l]
      have e : p.1 = q.1 := by
        have := hy.l.1.symm.trans hz.l.1
        injection this
      exact Op.ret e.symm (h.shut hS hn (hP _ hy.l.2) hz.l.2)
    | inr s => exact nomatch hy.l.1.symm.trans hz.r.1
  | inr s =>
    cases z with
    | inl q => exact nomatch hy.r.1.symm.trans hz.l.1
    | inr t =>
      rw [b0MS_r, b0MS_r]
      exact Op.ret rfl (h.shut hS hn (hP _ hy.r.2) hz.r.2)
theorem grouping_rel {σ μ : Mm} {B R : Int} (h : Rel σ μ B R) (hB : B + 400 ≤ 90000000) (hR : R + 1000 < 2147483647) (x : Int) : Op (F_A_grouping x σ) (F_M_grouping x μ) B (R + 1000) := by
  obtain ⟨G, O, M, hN, hE⟩ := id h
  have hr := hN.round
  have out : Rel σ μ B (R + 1000) := h.w (Int.le_refl _) (by omega)
  unfold F_A_grouping F_M_grouping
  rw [in_ok, b1_some]
  by_cases h1 : x < 1
  · rw [if_pos h1, if_neg (show ¬ (1 ≤ x ∧ x ≤ 12) by omega), if_pos rfl]; exact Op.ret rfl out
  · rw [if_neg h1]
    by_cases h2 : x ≤ 12
    · rw [if_pos h2, if_pos (show 1 ≤ x ∧ x ≤ 12 by omega), if_neg ne10]
      obtain ⟨m, rfl⟩ := Int.eq_ofNat_of_zero_le (show 0 ≤ x by omega)
      have hm : 1 ≤ m ∧ m ≤ 12 := by omega
      have hmm : m * m ≤ 144 := Nat.mul_le_mul hm.2 hm.2
      have cmm : (m : Int) * (m : Int) = ((m * m : Nat) : Int) := by rw [Int.natCast_mul]
      unfold F_E_leastGrouping
      obtain ⟨τ, T1, cj, -⟩ := hN.fresh (by omega) (by omega)
      obtain ⟨ν, E1, mj, -⟩ := hN.lays
      rw [T1, b0M_some, E1, b0M_some]
      -- the table
      obtain ⟨s0, E2, cj0, tab0⟩ := loop_inv (L := fun n j s => L_E_leastGrouping_9 n (m : Int) j s) (I := fun i s => CJ σ s G O M 1 ∧ Tab (tw G O (σ 3)) m (s 116) i) (x := ((m * m : Nat) : Int)) (out := fun s => s)
        (fun n s => by rw [L_E_leastGrouping_9, cmm, if_pos (show r32 ((m * m : Nat) : Int) from ⟨by omega, by omega⟩), if_pos (Int.le_refl _)])
        (m := m * m) (i := 0) (N := LF) (s := τ) (by omega) (by unfold LF; omega) ⟨cj, fun a b _ _ q => by omega⟩ (fun n j s _ hj hs => by
          have hj2 : j < m * m := by omega
          have q1 : j / m < m := Nat.div_lt_of_lt_mul hj2
          have q2 : j % m < m := Nat.mod_lt _ (by omega)
          have d1 : (j : Int).tdiv (m : Int) = ((j / m : Nat) : Int) := by rw [Int.tdiv_eq_ediv_of_nonneg (by omega), Int.natCast_ediv]
          have d2 : (j : Int).tmod (m : Int) = ((j % m : Nat) : Int) := by rw [Int.tmod_eq_emod_of_nonneg (by omega), Int.natCast_emod]
          obtain ⟨q, hq⟩ : ∃ q, j / m = q := ⟨_, rfl⟩
          obtain ⟨r, hr2⟩ : ∃ r, j % m = r := ⟨_, rfl⟩
          rw [hq] at q1 d1
          rw [hr2] at q2 d2
          obtain ⟨⟨v, s1⟩, E3, v1, c1, f1⟩ := oTwo_C hs.1 (x := ((q : Nat) : Int)) (y := ((r : Nat) : Int)) (by omega) (by omega)
          have v1 : v = oTwo (tw G O (σ 3)) ((q : Nat) : Int) ((r : Nat) : Int) := v1
          have f1 : Fr [4, 5, 6, 7] s s1 := f1
          have ej : ((j : Int)).toNat = j := by omega
          have e2 : (j : Int) + 1 = ((j + 1 : Nat) : Int) := by omega
          refine ⟨st2 s1 116 j v, ?_, c1.frx (S := [116]) (Fr.rf.st (by decide)) (by decide), fun a b ha hb hab => ?_⟩
          · rw [L_E_leastGrouping_9, cmm, if_pos (show r32 ((m * m : Nat) : Int) from ⟨by omega, by omega⟩), if_neg (by omega), if_pos (show ¬ (m : Int) = 0 by omega), if_pos (show ¬ (m : Int) = 0 by omega), d1, d2, if_pos (show r32 (q : Int) from ⟨by omega, by omega⟩), if_pos (show r32 (r : Int) from ⟨by omega, by omega⟩), E3, b1M_some, if_pos (show 0 ≤ (j : Int) ∧ (j : Int) < 144 by omega), bindM_eq, ej, e2, if_pos (show r32 ((j + 1 : Nat) : Int) from ⟨by omega, by omega⟩)]
          · rw [st2_sk]
            have := dm (a := a) (b := b) (m := m) hb
            by_cases e : a * m + b = j
            · rw [if_pos e, v1, ← hq, ← hr2, ← e, this.1, this.2]
            · rw [if_neg e, f1 116 (by decide)]; exact hs.2 a b ha hb (by omega))
      rw [Nat.zero_add] at tab0
      have E2 : L_E_leastGrouping_9 LF (m : Int) 0 τ = some s0 := E2
      rw [E2, b0M_some]
      let P : Mm → Prop := fun s => CJ σ s G O M 1 ∧ Tab (tw G O (σ 3)) m (s 116) (m * m)
      have ab : ∀ a b : Nat, a < m → b < m → a * m + b < m * m := fun a b ha hb => by
        have : (a + 1) * m ≤ m * m := Nat.mul_le_mul_right m (by omega)
        rw [Nat.succ_mul] at this
        omega
      have bd : ∀ a b : Nat, a < m → b < m → -9999 ≤ oTwo (tw G O (σ 3)) a b ∧ oTwo (tw G O (σ 3)) a b ≤ 9999 := fun a b ha hb => by
        have := oTwo_bd (G := G) (O := O) (E := σ 3) (x := (a : Int)) (y := (b : Int))
        omega
      -- the class
      have l3 : ∀ (a b : Nat) s, (a : Int) < m → (b : Int) < m → P s → Ok (L_E_leastGrouping_55 LF (m : Int) (a : Int) (b : Int) ((0 : Nat) : Int) s) (FO (firstN (grF (tw G O (σ 3)) a b) m 0) P) := fun a b s ha hb hs => by
        refine loop_first (L := fun n j s => L_E_leastGrouping_55 n (m : Int) (a : Int) (b : Int) j s) (x := (m : Int)) (fun n s _ => by rw [L_E_leastGrouping_55, if_pos (Int.le_refl _)]) (by omega) (by unfold LF; omega) hs (fun n j s _ hj2 hs => ?_)
        have i1 : (a : Int) * (m : Int) + (b : Int) = ((a * m + b : Nat) : Int) := by rw [Int.natCast_add, Int.natCast_mul]
        have i2 : (b : Int) * (m : Int) + (j : Int) = ((b * m + j : Nat) : Int) := by rw [Int.natCast_add, Int.natCast_mul]
        have k1 := ab a b (by omega) (by omega)
        have k2 := ab b j (by omega) (by omega)
        have t1 : (((a * m + b : Nat) : Int)).toNat = a * m + b := by omega
        have t2 : (((b * m + j : Nat) : Int)).toNat = b * m + j := by omega
        have w1 := hs.2 a b (by omega) (by omega) k1
        have y1 := bd a b (by omega) (by omega)
        have y2 := bd b j (by omega) (by omega)
        obtain ⟨⟨v, s1⟩, E3, v1, c1, f1⟩ := oTwo_C hs.1 (x := oTwo (tw G O (σ 3)) a b) (y := (j : Int)) y1 (by omega)
        have f1 : Fr [4, 5, 6, 7] s s1 := f1
        have w2 : s1 116 (b * m + j) = oTwo (tw G O (σ 3)) b j := by rw [f1 116 (by decide)]; exact hs.2 b j (by omega) (by omega) k2
        have c1 : CJ σ s1 G O M 1 := c1
        obtain ⟨⟨w, s2⟩, E4, u1, c2, f2⟩ := oTwo_C c1 (x := (a : Int)) (y := oTwo (tw G O (σ 3)) b j) (by omega) y2
        have f2 : Fr [4, 5, 6, 7] s1 s2 := f2
        have v1 : v = _ := v1
        have u1 : w = _ := u1
        have e2 : (j : Int) + 1 = ((j + 1 : Nat) : Int) := by omega
        have p2 : P s2 := ⟨c2, by rw [f2 116 (by decide), f1 116 (by decide)]; exact hs.2⟩
        rw [L_E_leastGrouping_55, if_neg (by omega), i1, i2, if_pos (by omega), t1, t2, w1, E3, b1M_some, w2, if_pos (by omega), E4, b1M_some, e2, v1, u1]
        unfold grF
        by_cases hq : oTwo (tw G O (σ 3)) (oTwo (tw G O (σ 3)) a b) j = oTwo (tw G O (σ 3)) a (oTwo (tw G O (σ 3)) b j)
        · rw [if_pos hq, if_pos hq, if_pos (show r32 ((j + 1 : Nat) : Int) from ⟨by omega, by omega⟩)]
          exact Or.inr ⟨rfl, s2, rfl, p2⟩
        · rw [if_neg hq, if_neg hq, if_pos (show r32 (10000 * (a : Int) + 100 * (b : Int) + (j : Int)) from ⟨by omega, by omega⟩)]
          exact Or.inl ⟨_, s2, rfl, rfl, p2⟩
      have l2 : ∀ (a : Nat) s, (a : Int) < m → P s → Ok (L_E_leastGrouping_47 LF (m : Int) (a : Int) ((0 : Nat) : Int) s) (FO (firstN (fun b => firstN (grF (tw G O (σ 3)) a b) m 0) m 0) P) := fun a s ha hs => by
        refine loop_first (L := fun n j s => L_E_leastGrouping_47 n (m : Int) (a : Int) j s) (x := (m : Int)) (fun n s _ => by rw [L_E_leastGrouping_47, if_pos (Int.le_refl _)]) (by omega) (by unfold LF; omega) hs (fun n b s _ hj2 hs => ?_)
        have e2 : (b : Int) + 1 = ((b + 1 : Nat) : Int) := by omega
        obtain ⟨y, E3, hy⟩ := l3 a b s ha hj2 hs
        rw [L_E_leastGrouping_47, if_neg (by omega), show (0 : Int) = ((0 : Nat) : Int) from rfl, E3]
        cases y with
        | inl p => exact Or.inl ⟨p.1, p.2, hy.l.1, rfl, hy.l.2⟩
        | inr s2 => exact Or.inr ⟨hy.r.1, s2, by rw [b0MS_r, e2, if_pos (show r32 ((b + 1 : Nat) : Int) from ⟨by omega, by omega⟩)], hy.r.2⟩
      have l1 : Ok (L_E_leastGrouping_40 LF (m : Int) ((0 : Nat) : Int) s0) (FO (firstN (fun a => firstN (fun b => firstN (grF (tw G O (σ 3)) a b) m 0) m 0) m 0) P) := by
        refine loop_first (L := fun n j s => L_E_leastGrouping_40 n (m : Int) j s) (x := (m : Int)) (fun n s _ => by rw [L_E_leastGrouping_40, if_pos (Int.le_refl _)]) (by omega) (by unfold LF; omega) ⟨cj0, tab0⟩ (fun n a s _ hj2 hs => ?_)
        have e2 : (a : Int) + 1 = ((a + 1 : Nat) : Int) := by omega
        obtain ⟨y, E3, hy⟩ := l2 a s hj2 hs
        rw [L_E_leastGrouping_40, if_neg (by omega), show (0 : Int) = ((0 : Nat) : Int) from rfl, E3]
        cases y with
        | inl p => exact Or.inl ⟨p.1, p.2, hy.l.1, rfl, hy.l.2⟩
        | inr s2 => exact Or.inr ⟨hy.r.1, s2, by rw [b0MS_r, e2, if_pos (show r32 ((a + 1 : Nat) : Int) from ⟨by omega, by omega⟩)], hy.r.2⟩
      -- the reference
      have k3 : ∀ (a b : Nat) s, (a : Int) < m → (b : Int) < m → MJ μ s G O M (σ 3) → Ok (L_M_grouping_33 LF (m : Int) (a : Int) (b : Int) ((0 : Nat) : Int) s) (FO (firstN (grF (tw G O (σ 3)) a b) m 0) (fun s => MJ μ s G O M (σ 3))) := fun a b s ha hb hs => by
        refine loop_first (L := fun n j s => L_M_grouping_33 n (m : Int) (a : Int) (b : Int) j s) (x := (m : Int)) (fun n s _ => by rw [L_M_grouping_33, if_pos (Int.le_refl _)]) (by omega) (by unfold LF; omega) hs (fun n j s _ hj2 hs => ?_)
        have y1 := bd a b (by omega) (by omega)
        have y2 := bd b j (by omega) (by omega)
        obtain ⟨⟨v, s1⟩, E3, v1, c1⟩ := oTwo_M hs (x := (a : Int)) (y := (b : Int)) (by omega) (by omega)
        have v1 : v = oTwo (tw G O (σ 3)) a b := v1
        have c1 : MJ μ s1 G O M (σ 3) := c1
        subst v1
        obtain ⟨⟨v, s2⟩, E4, v2, c2⟩ := oTwo_M c1 (x := oTwo (tw G O (σ 3)) a b) (y := (j : Int)) y1 (by omega)
        have c2 : MJ μ s2 G O M (σ 3) := c2
        obtain ⟨⟨w, s3⟩, E5, v3, c3⟩ := oTwo_M c2 (x := (b : Int)) (y := (j : Int)) (by omega) (by omega)
        have v3 : w = oTwo (tw G O (σ 3)) b j := v3
        subst v3
        have c3 : MJ μ s3 G O M (σ 3) := c3
        obtain ⟨⟨w, s4⟩, E6, v4, c4⟩ := oTwo_M c3 (x := (a : Int)) (y := oTwo (tw G O (σ 3)) b j) (by omega) y2
        have v2 : v = _ := v2
        have v4 : w = _ := v4
        have e2 : (j : Int) + 1 = ((j + 1 : Nat) : Int) := by omega
        rw [L_M_grouping_33, if_neg (by omega), E3, b1M_some, E4, b1M_some, E5, b1M_some, E6, b1M_some, e2, v2, v4]
        unfold grF
        by_cases hq : oTwo (tw G O (σ 3)) (oTwo (tw G O (σ 3)) a b) j = oTwo (tw G O (σ 3)) a (oTwo (tw G O (σ 3)) b j)
        · rw [if_pos hq, if_pos hq, if_pos (show r32 ((j + 1 : Nat) : Int) from ⟨by omega, by omega⟩)]
          exact Or.inr ⟨rfl, s4, rfl, c4⟩
        · rw [if_neg hq, if_neg hq, if_pos (show r32 (10000 * (a : Int) + 100 * (b : Int) + (j : Int)) from ⟨by omega, by omega⟩)]
          exact Or.inl ⟨_, s4, rfl, rfl, c4⟩
      have k2 : ∀ (a : Nat) s, (a : Int) < m → MJ μ s G O M (σ 3) → Ok (L_M_grouping_25 LF (m : Int) (a : Int) ((0 : Nat) : Int) s) (FO (firstN (fun b => firstN (grF (tw G O (σ 3)) a b) m 0) m 0) (fun s => MJ μ s G O M (σ 3))) := fun a s ha hs => by
        refine loop_first (L := fun n j s => L_M_grouping_25 n (m : Int) (a : Int) j s) (x := (m : Int)) (fun n s _ => by rw [L_M_grouping_25, if_pos (Int.le_refl _)]) (by omega) (by unfold LF; omega) hs (fun n b s _ hj2 hs => ?_)
        have e2 : (b : Int) + 1 = ((b + 1 : Nat) : Int) := by omega
        obtain ⟨y, E3, hy⟩ := k3 a b s ha hj2 hs
        rw [L_M_grouping_25, if_neg (by omega), show (0 : Int) = ((0 : Nat) : Int) from rfl, E3]
        cases y with
        | inl p => exact Or.inl ⟨p.1, p.2, hy.l.1, rfl, hy.l.2⟩
        | inr s2 => exact Or.inr ⟨hy.r.1, s2, by rw [b0MS_r, e2, if_pos (show r32 ((b + 1 : Nat) : Int) from ⟨by omega, by omega⟩)], hy.r.2⟩
      have k1 : Ok (L_M_grouping_18 LF (m : Int) ((0 : Nat) : Int) ν) (FO (firstN (fun a => firstN (fun b => firstN (grF (tw G O (σ 3)) a b) m 0) m 0) m 0) (fun s => MJ μ s G O M (σ 3))) := by
        refine loop_first (L := fun n j s => L_M_grouping_18 n (m : Int) j s) (x := (m : Int)) (fun n s _ => by rw [L_M_grouping_18, if_pos (Int.le_refl _)]) (by omega) (by unfold LF; omega) mj (fun n a s _ hj2 hs => ?_)
        have e2 : (a : Int) + 1 = ((a + 1 : Nat) : Int) := by omega
        obtain ⟨y, E3, hy⟩ := k2 a s hj2 hs
        rw [L_M_grouping_18, if_neg (by omega), show (0 : Int) = ((0 : Nat) : Int) from rfl, E3]
        cases y with
        | inl p => exact Or.inl ⟨p.1, p.2, hy.l.1, rfl, hy.l.2⟩
        | inr s2 => exact Or.inr ⟨hy.r.1, s2, by rw [b0MS_r, e2, if_pos (show r32 ((a + 1 : Nat) : Int) from ⟨by omega, by omega⟩)], hy.r.2⟩
      exact FO.ends h (n := 1) (by omega) (by omega) (fun s hs => hs.1) l1 k1
    · rw [if_neg h2, if_neg (show ¬ (1 ≤ x ∧ x ≤ 12) by omega), if_pos rfl]; exact Op.ret rfl out
