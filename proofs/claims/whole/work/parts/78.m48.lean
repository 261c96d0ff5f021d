-- `order` and `grouping` on both sides
theorem wiR_bd {G O : Law} {E : Nat → Int} : ∀ (n : Nat) (v k : Int), -99 * n ≤ wiR (tw G O E) n v k ∧ wiR (tw G O E) n v k ≤ 99 * n
  | 0, _, _ => by simp [wiR]
  | n + 1, v, k => by
    have h1 := wiR_bd (G := G) (O := O) (E := E) n (v / 10) 0
    have h2 := t0_bd (G := G) (O := O) (E := E) (l := v / 10 % 10) (r := v % 10) (k := k)
    simp only [wiR]
    split <;> omega
theorem wi_bd {G O : Law} {E : Nat → Int} {v : Int} : -495 ≤ wi (tw G O E) v ∧ wi (tw G O E) v ≤ 495 := by
  have := wiR_bd (G := G) (O := O) (E := E) 5 v 1
  unfold wi
  omega
theorem be_bd {G O : Law} {E : Nat → Int} {a b : Int} : -99 ≤ be (tw G O E) a b ∧ be (tw G O E) a b ≤ 99 := t0_bd
theorem CJ.wi {σ τ : Mm} {G O M : Law} {n : Int} (h : CJ σ τ G O M n) {v : Int} (h0 : 0 ≤ v) (h1 : v < 100000) : Ok (F_J_within v τ) (fun r => r.1 = wi (tw G O (σ 3)) v ∧ CJ σ r.2 G O M n ∧ Fr [4, 5, 6, 7] τ r.2) :=
  (within_ok h.1 h0 h1).mono (fun x hx => ⟨by rw [hx.1, h.2.2.2], h.fr hx.2.1 hx.2.2, hx.2.1⟩)
theorem CJ.be {σ τ : Mm} {G O M : Law} {n : Int} (h : CJ σ τ G O M n) {a b : Int} (ha : 0 ≤ a) (hb : 0 ≤ b) (hb1 : b < 100000) : Ok (F_J_between a b τ) (fun r => r.1 = be (tw G O (σ 3)) a b ∧ CJ σ r.2 G O M n ∧ Fr [4, 5, 6, 7] τ r.2) :=
  (between_ok h.1 ha hb hb1).mono (fun x hx => ⟨by rw [hx.1, h.2.2.2], h.fr hx.2.1 hx.2.2, hx.2.1⟩)
/-- OUT of a ROW of two, sizes with signs -/
def oTwo (T : TW) (x y : Int) : Int := x + y + wi T (x.natAbs : Int) + be T (x.natAbs : Int) (y.natAbs : Int) + wi T (y.natAbs : Int)
theorem size_M {x : Int} (h : -2147483648 < x) (h2 : x < 2147483648) : F_M_size x = some (x.natAbs : Int) := by
  unfold F_M_size
  by_cases h0 : 0 ≤ x
  · rw [if_pos h0]; congr 1; omega
  · rw [if_neg h0, if_pos ⟨by omega, by omega⟩]; congr 1; omega
theorem oTwo_M {μ ν : Mm} {G O M : Law} {E : Nat → Int} (h : MJ μ ν G O M E) {x y : Int} (hx : -9999 ≤ x ∧ x ≤ 9999) (hy : -9999 ≤ y ∧ y ≤ 9999) : Ok (F_M_outOfTwo x y ν) (fun r => r.1 = oTwo (tw G O E) x y ∧ MJ μ r.2 G O M E) := by
  unfold F_M_outOfTwo
  rw [size_M (x := x) (by omega) (by omega), size_M (x := y) (by omega) (by omega)]
  simp only [bindM_eq, b1_some]
  have key : ∀ (m : Int), (0 ≤ m ∧ m < 4) → (bitI m 0 = if 0 ≤ x then 0 else 1) → (bitI m 1 = if 0 ≤ y then 0 else 1) → ∀ s, s = st2 (st2 (st2 (st2 ν 200 48 2) 200 49 m) 229 0 (x.natAbs : Int)) 229 1 (y.natAbs : Int) → Ok (b1M (F_M_outNow s) fun v11 s11 => some (v11, s11)) (fun r => r.1 = oTwo (tw G O E) x y ∧ MJ μ r.2 G O M E) := fun m hm b0 b1' s hs => by
    have f : Fr [200, 229] ν s := by subst hs; exact (((Fr.rf.st (by decide)).st (by decide)).st (by decide)).st (by decide)
    have f2 : ∀ k, k ≠ 48 → k ≠ 49 → s 200 k = ν 200 k := fun k k1 k2 => by rw [hs, st2_ne (by decide), st2_ne (by decide), st2_sk, if_neg k2, st2_sk, if_neg k1]
    have v48 : s 200 48 = ((2 : Nat) : Int) := by rw [hs]; simp [st2_f]
    have v49 : s 200 49 = m := by rw [hs]; simp [st2_f]
    have v0 : s 229 0 = (x.natAbs : Int) := by rw [hs]; simp [st2_f]
    have v1 : s 229 1 = (y.natAbs : Int) := by rw [hs]; simp [st2_f]
    have mj : MJ μ s G O M E := h.fr f (by decide) (fun k hk => f2 k (by omega) (by omega))
    have nn : ∀ i, i < 2 → 0 ≤ s 229 i ∧ s 229 i ≤ 9999 := fun i hi => by
      have : i = 0 ∨ i = 1 := by omega
      rcases this with rfl | rfl
      · rw [v0]; omega
      · rw [v1]; omega
    refine Ok.b1M (mj.out (p := 2) (mn := m) ⟨by omega, by omega, hm.1, by omega, v48, v49, nn⟩) (fun a t ht => Ok.ret ⟨?_, ht.2.1⟩)
    have : a = trs m (s 229) 2 + offL (tw G O E) (drw (s 229) 2) := ht.1
    rw [offL_eq (by omega) (fun i hi => nn i hi)] at this
    simp only [trs, offN] at this
    rw [v0, v1] at this
    show a = _
    have c0 : ((0 : Nat) : Int) = 0 := rfl
    have c1 : (((0 : Nat) + 1 : Nat) : Int) = 1 := rfl
    rw [this]
    simp only [c0, c1, b0, b1']
    unfold oTwo
    by_cases hx0 : 0 ≤ x
    · by_cases hy0 : 0 ≤ y
      · simp only [if_pos hx0, if_pos hy0, show ¬ (0 : Int) = 1 from by decide, if_false]; omega
      · simp only [if_pos hx0, if_neg hy0, show ¬ (0 : Int) = 1 from by decide, if_false, if_true]; omega
    · by_cases hy0 : 0 ≤ y
      · simp only [if_neg hx0, if_pos hy0, show ¬ (0 : Int) = 1 from by decide, if_false, if_true]; omega
      · simp only [if_neg hx0, if_neg hy0, if_true]; omega
  by_cases hx0 : 0 ≤ x
  · by_cases hy0 : 0 ≤ y
    · simp only [if_pos hx0, if_pos hy0] at key ⊢
      exact key _ (by decide +kernel) (by decide +kernel) (by decide +kernel) _ rfl
    · simp only [if_pos hx0, if_neg hy0] at key ⊢
      exact key _ (by decide +kernel) (by decide +kernel) (by decide +kernel) _ rfl
  · by_cases hy0 : 0 ≤ y
    · simp only [if_neg hx0, if_pos hy0] at key ⊢
      exact key _ (by decide +kernel) (by decide +kernel) (by decide +kernel) _ rfl
    · simp only [if_neg hx0, if_neg hy0] at key ⊢
      exact key _ (by decide +kernel) (by decide +kernel) (by decide +kernel) _ rfl
theorem oTwo_C {σ τ : Mm} {G O M : Law} {n : Int} (h : CJ σ τ G O M n) {x y : Int} (hx : -9999 ≤ x ∧ x ≤ 9999) (hy : -9999 ≤ y ∧ y ≤ 9999) : Ok (F_E_outOfTwo x y τ) (fun r => r.1 = oTwo (tw G O (σ 3)) x y ∧ CJ σ r.2 G O M n ∧ Fr [4, 5, 6, 7] τ r.2) := by
  unfold F_E_outOfTwo
  refine Ok.ck (by omega) (Ok.bM (Ok.ck (by omega) (Ok.bM ?_)))
  refine Ok.b1M (h.wi (by omega) (by omega)) (fun a s hs => ?_)
  refine Ok.b1M (hs.2.1.be (by omega) (by omega) (by omega)) (fun b s2 hs2 => ?_)
  refine Ok.b1M (hs2.2.1.wi (by omega) (by omega)) (fun c s3 hs3 => ?_)
  have ha : a = wi (tw G O (σ 3)) (x.natAbs : Int) := hs.1
  have hb : b = be (tw G O (σ 3)) (x.natAbs : Int) (y.natAbs : Int) := hs2.1
  have hc : c = wi (tw G O (σ 3)) (y.natAbs : Int) := hs3.1
  have b1 := wi_bd (G := G) (O := O) (E := σ 3) (v := (x.natAbs : Int))
  have b2 := be_bd (G := G) (O := O) (E := σ 3) (a := (x.natAbs : Int)) (b := (y.natAbs : Int))
  have b3 := wi_bd (G := G) (O := O) (E := σ 3) (v := (y.natAbs : Int))
  refine Ok.ck ⟨by omega, by omega⟩ (Ok.ret ⟨?_, hs3.2.1, (hs.2.2.tr hs2.2.2).tr hs3.2.2⟩)
  show x + y + a + b + c = _
  rw [ha, hb, hc]; rfl
def ordF (T : TW) (a b : Nat) : Option Int := if be T a b = be T b a then none else some (100 * (a : Int) + b)
theorem ord_spec {T : TW} {m : Nat} : ∀ (k i : Nat), i + k = m → (∀ a b, a < i → b < m → ordF T a b = none) → firstN (fun a => firstN (ordF T a) (m - (a + 1)) (a + 1)) k i = firstN (fun a => firstN (ordF T a) m 0) k i
  | 0, _, _, _ => rfl
  | k + 1, i, hi, h => by
    have sym : ∀ a b, ordF T a b = none → ordF T b a = none := fun a b hab => by
      unfold ordF at *
      by_cases e : be T a b = be T b a
      · rw [if_pos e.symm]
      · rw [if_neg e] at hab; exact nomatch hab
    have same : firstN (ordF T i) m 0 = firstN (ordF T i) (m - (i + 1)) (i + 1) := by
      have e : m = (i + 1) + (m - (i + 1)) := by omega
      have := firstN_skip (f := ordF T i) (k := i + 1) (m := m - (i + 1)) (i := 0) (fun j _ hj => by
        by_cases hji : j = i
        · unfold ordF; rw [hji, if_pos rfl]
        · exact sym _ _ (h j i (by omega) (by omega)))
      rw [← e, Nat.zero_add] at this
      exact this
    simp only [firstN]
    rw [same]
    cases hc : firstN (ordF T i) (m - (i + 1)) (i + 1) with
    | some v => rfl
    | none =>
      refine ord_spec k (i + 1) (by omega) (fun a b ha hb => ?_)
      by_cases e : a = i
      · rw [hc] at same
        rw [e]
        exact (firstN_none.mp same) b (by omega) (by omega)
      · exact h a b (by omega) hb
theorem order_rel {σ μ : Mm} {B R : Int} (h : Rel σ μ B R) (hB : B + 400 ≤ 90000000) (hR : R + 1000 < 2147483647) (x : Int) : Op (F_A_order x σ) (F_M_order x μ) B (R + 1000) := by
  obtain ⟨G, O, M, hN, hE⟩ := id h
  have hr := hN.round
  have out : Rel σ μ B (R + 1000) := h.w (Int.le_refl _) (by omega)
  unfold F_A_order F_M_order
  rw [in_ok, b1_some]
  by_cases h1 : x < 1
  · rw [if_pos h1, if_neg (show ¬ (1 ≤ x ∧ x ≤ 100) by omega), if_pos rfl]; exact Op.ret rfl out
  · rw [if_neg h1]
    by_cases h2 : x ≤ 100
    · rw [if_pos h2, if_pos (show 1 ≤ x ∧ x ≤ 100 by omega), if_neg ne10]
      obtain ⟨m, rfl⟩ := Int.eq_ofNat_of_zero_le (show 0 ≤ x by omega)
      unfold F_E_leastOrder
      obtain ⟨τ, T1, cj, -⟩ := hN.fresh (by omega) (by omega)
      obtain ⟨ν, E1, mj, -⟩ := hN.lays
      rw [T1, b0M_some, E1, b0M_some]
      -- the class
      have inner : ∀ (a : Nat) s, (a : Int) < m → CJ σ s G O M 1 → Ok (L_E_leastOrder_18 LF (m : Int) (a : Int) ((a + 1 : Nat) : Int) s) (FO (firstN (ordF (tw G O (σ 3)) a) (m - (a + 1)) (a + 1)) (fun s => CJ σ s G O M 1)) := fun a s ha hs => by
        refine loop_first (L := fun n j s => L_E_leastOrder_18 n (m : Int) (a : Int) j s) (x := (m : Int)) (fun n s _ => by rw [L_E_leastOrder_18, if_pos (Int.le_refl _)]) (by omega) (by unfold LF; omega) hs (fun n j s hj hj2 hs => ?_)
        obtain ⟨⟨v, s1⟩, E2, v1, c1, -⟩ := hs.be (a := (a : Int)) (b := (j : Int)) (by omega) (by omega) (by omega)
        have c1 : CJ σ s1 G O M 1 := c1
        obtain ⟨⟨w, s2⟩, E3, w1, c2, -⟩ := c1.be (a := (j : Int)) (b := (a : Int)) (by omega) (by omega) (by omega)
        have v1 : v = _ := v1
        have w1 : w = _ := w1
        have e2 : (j : Int) + 1 = ((j + 1 : Nat) : Int) := by omega
        rw [L_E_leastOrder_18, if_neg (by omega), E2, b1M_some, E3, b1M_some, e2, v1, w1]
        unfold ordF
        by_cases hq : be (tw G O (σ 3)) (a : Int) (j : Int) = be (tw G O (σ 3)) (j : Int) (a : Int)
        · rw [if_pos hq, if_pos hq, if_pos (show r32 ((j + 1 : Nat) : Int) from ⟨by omega, by omega⟩)]
          exact Or.inr ⟨rfl, s2, rfl, c2⟩
        · rw [if_neg hq, if_neg hq, if_pos (show r32 (100 * (a : Int) + (j : Int)) from ⟨by omega, by omega⟩)]
          exact Or.inl ⟨_, s2, rfl, rfl, c2⟩
      have outer : Ok (L_E_leastOrder_9 LF (m : Int) ((0 : Nat) : Int) τ) (FO (firstN (fun a => firstN (ordF (tw G O (σ 3)) a) (m - (a + 1)) (a + 1)) m 0) (fun s => CJ σ s G O M 1)) := by
        refine loop_first (L := fun n j s => L_E_leastOrder_9 n (m : Int) j s) (x := (m : Int)) (fun n s _ => by rw [L_E_leastOrder_9, if_pos (Int.le_refl _)]) (by omega) (by unfold LF; omega) cj (fun n a s hj hj2 hs => ?_)
        have e2 : (a : Int) + 1 = ((a + 1 : Nat) : Int) := by omega
        obtain ⟨y, E2, hy⟩ := inner a s hj2 hs
        rw [L_E_leastOrder_9, if_neg (by omega), e2, if_pos (show r32 ((a + 1 : Nat) : Int) from ⟨by omega, by omega⟩), E2]
        cases y with
        | inl p => exact Or.inl ⟨p.1, p.2, hy.l.1, rfl, hy.l.2⟩
        | inr s2 => exact Or.inr ⟨hy.r.1, s2, by rw [b0MS_r, if_pos (show r32 ((a + 1 : Nat) : Int) from ⟨by omega, by omega⟩)], hy.r.2⟩
      -- the reference
      have innerM : ∀ (a : Nat) s, (a : Int) < m → MJ μ s G O M (σ 3) → Ok (L_M_order_25 LF (m : Int) (a : Int) ((0 : Nat) : Int) s) (FO (firstN (ordF (tw G O (σ 3)) a) m 0) (fun s => MJ μ s G O M (σ 3))) := fun a s ha hs => by
        refine loop_first (L := fun n j s => L_M_order_25 n (m : Int) (a : Int) j s) (x := (m : Int)) (fun n s _ => by rw [L_M_order_25, if_pos (Int.le_refl _)]) (by omega) (by unfold LF; omega) hs (fun n j s hj hj2 hs => ?_)
        obtain ⟨⟨v, s1⟩, E2, v1, c1⟩ := oTwo_M hs (x := (a : Int)) (y := (j : Int)) (by omega) (by omega)
        have c1 : MJ μ s1 G O M (σ 3) := c1
        obtain ⟨⟨w, s2⟩, E3, w1, c2⟩ := oTwo_M c1 (x := (j : Int)) (y := (a : Int)) (by omega) (by omega)
        have v1 : v = oTwo _ _ _ := v1
        have w1 : w = oTwo _ _ _ := w1
        have e2 : (j : Int) + 1 = ((j + 1 : Nat) : Int) := by omega
        have ea : (((a : Int)).natAbs : Int) = (a : Int) := by omega
        have ej : (((j : Int)).natAbs : Int) = (j : Int) := by omega
        rw [L_M_order_25, if_neg (by omega), E2, b1M_some, E3, b1M_some, e2]
        unfold oTwo at v1 w1
        rw [ea, ej] at v1 w1
        unfold ordF
        by_cases hq : be (tw G O (σ 3)) (a : Int) (j : Int) = be (tw G O (σ 3)) (j : Int) (a : Int)
        · rw [if_pos hq, if_pos (show v = w by omega), if_pos (show r32 ((j + 1 : Nat) : Int) from ⟨by omega, by omega⟩)]
          exact Or.inr ⟨rfl, s2, rfl, c2⟩
        · rw [if_neg hq, if_neg (show ¬ v = w by omega), if_pos (show r32 (100 * (a : Int) + (j : Int)) from ⟨by omega, by omega⟩)]
          exact Or.inl ⟨_, s2, rfl, rfl, c2⟩
      have outerM : Ok (L_M_order_18 LF (m : Int) ((0 : Nat) : Int) ν) (FO (firstN (fun a => firstN (ordF (tw G O (σ 3)) a) m 0) m 0) (fun s => MJ μ s G O M (σ 3))) := by
        refine loop_first (L := fun n j s => L_M_order_18 n (m : Int) j s) (x := (m : Int)) (fun n s _ => by rw [L_M_order_18, if_pos (Int.le_refl _)]) (by omega) (by unfold LF; omega) mj (fun n a s hj hj2 hs => ?_)
        have e2 : (a : Int) + 1 = ((a + 1 : Nat) : Int) := by omega
        obtain ⟨y, E2, hy⟩ := innerM a s hj2 hs
        rw [L_M_order_18, if_neg (by omega), show (0 : Int) = ((0 : Nat) : Int) from rfl, E2]
        cases y with
        | inl p => exact Or.inl ⟨p.1, p.2, hy.l.1, rfl, hy.l.2⟩
        | inr s2 => exact Or.inr ⟨hy.r.1, s2, by rw [b0MS_r, e2, if_pos (show r32 ((a + 1 : Nat) : Int) from ⟨by omega, by omega⟩)], hy.r.2⟩
      rw [ord_spec m 0 (by omega) (fun a b ha => by omega)] at outer
      obtain ⟨y, E2, hy⟩ := outer
      obtain ⟨z, E3, hz⟩ := outerM
      rw [show ((0 : Nat) : Int) = 0 from rfl] at E2 E3
      rw [E2, E3]
      cases y with
      | inl p =>
        cases z with
        | inl q =>
          rw [b0MS_l, b0MS_l, b1M_some]
          have e : p.1 = q.1 := by
            have := hy.l.1.symm.trans hz.l.1
            injection this
          exact Op.ret e.symm (h.shut (n := 1) (by omega) (by omega) hy.l.2 hz.l.2)
        | inr s => exact nomatch hy.l.1.symm.trans hz.r.1
      | inr s =>
        cases z with
        | inl q => exact nomatch hy.r.1.symm.trans hz.l.1
        | inr t =>
          rw [b0MS_r, b0MS_r, b1M_some]
          exact Op.ret rfl (h.shut (n := 1) (by omega) (by omega) hy.r.2 hz.r.2)
    · rw [if_neg h2, if_neg (show ¬ (1 ≤ x ∧ x ≤ 100) by omega), if_pos rfl]; exact Op.ret rfl out
