-- DEBTS reckoned; `worth` on both sides
def ow (T : TW) (d : Nat → Int) (j : Nat) : Int := max 0 (d j + wi T (d j))
theorem ow_bd {G O : Law} {E : Nat → Int} {d : Nat → Int} {j : Nat} (h : 0 ≤ d j ∧ d j ≤ 9999) : 0 ≤ ow (tw G O E) d j ∧ ow (tw G O E) d j ≤ 10494 := by
  have := wi_bd (G := G) (O := O) (E := E) (v := d j)
  unfold ow; omega
/-- the class's DEBTS are reckoned -/
def CO (σ s : Mm) (G O M : Law) : Prop := CJ σ s G O M 1 ∧ ∀ j, j < 36 → s 132 j = ow (tw G O (σ 3)) (σ 130) j
theorem CO.frx {σ s t : Mm} {G O M : Law} (h : CO σ s G O M) (hf : Fr [131] s t) : CO σ t G O M := ⟨h.1.frx hf (by decide), fun j hj => by rw [hf 132 (by decide)]; exact h.2 j hj⟩
theorem reckonAll_ok {σ μ : Mm} {G O M : Law} {B R : Int} (hN : Now σ μ G O M B R) (hB : B ≤ 90000000) (hR : R < 2147483647) (hD : ∀ i, i < 36 → 0 ≤ σ 130 i ∧ σ 130 i ≤ 9999) : Ok (F_B_reckonAll σ) (fun s => CO σ s G O M) := by
  unfold F_B_reckonAll
  obtain ⟨τ, T1, cj, f0⟩ := hN.fresh hB hR
  rw [T1, b0M_some]
  obtain ⟨s0, E2, ⟨cj0, f1⟩, tab⟩ := loop_inv (L := fun n j s => L_B_reckonAll_9 n j s) (I := fun i s => (CJ σ s G O M 1 ∧ s 130 = σ 130) ∧ ∀ j, j < i → s 132 j = ow (tw G O (σ 3)) (σ 130) j) (x := ((36 : Nat) : Int)) (out := fun s => s)
    (fun n s => by rw [L_B_reckonAll_9, if_pos (Int.le_refl _)]) (m := 36) (i := 0) (N := LF) (s := τ) (by omega) (by unfold LF; omega) ⟨⟨cj, f0 130 (by decide)⟩, fun j hj => by omega⟩ (fun n j s _ hj hs => by
      have ej : ((j : Int)).toNat = j := by omega
      have e2 : (j : Int) + 1 = ((j + 1 : Nat) : Int) := by omega
      have hd := hD j (by omega)
      obtain ⟨⟨v, s1⟩, E3, v1, c1, f1⟩ := hs.1.1.wi (v := σ 130 j) hd.1 (by omega)
      have v1 : v = wi (tw G O (σ 3)) (σ 130 j) := v1
      have c1 : CJ σ s1 G O M 1 := c1
      have f1 : Fr [4, 5, 6, 7] s s1 := f1
      have hb := wi_bd (G := G) (O := O) (E := σ 3) (v := σ 130 j)
      have cc : (0 : Int) ≤ (j : Int) ∧ (j : Int) < 36 := by omega
      refine ⟨st2 s1 132 j (ow (tw G O (σ 3)) (σ 130) j), ?_, ⟨c1.frx (S := [132]) (Fr.rf.st (by decide)) (by decide), ?_⟩, fun k hk => ?_⟩
      · rw [L_B_reckonAll_9, if_neg (by omega)]
        rw [if_pos cc, if_pos cc, ej, hs.1.2, E3, b1M_some, v1, if_pos (show r32 (σ 130 j + wi (tw G O (σ 3)) (σ 130 j)) from ⟨by omega, by omega⟩), if_pos cc, bindM_eq, e2, if_pos (show r32 ((j + 1 : Nat) : Int) from ⟨by omega, by omega⟩)]
        rfl
      · rw [st2_ne (by decide), f1 130 (by decide)]; exact hs.1.2
      · rw [st2_sk]
        by_cases e : k = j
        · rw [if_pos e, e]
        · rw [if_neg e, f1 132 (by decide)]; exact hs.2 k (by omega))
  have E2 : L_B_reckonAll_9 LF 0 τ = some s0 := E2
  rw [E2, b0M_some]
  exact Ok.ret ⟨cj0, fun j hj => tab j (by omega)⟩
theorem parts1_M {μ ν : Mm} {G O M : Law} {E : Nat → Int} (h : MJ μ ν G O M E) {v : Int} (hv : NN v) : Ok (b0M (F_M_laysParts 1 v 0 0 ν) fun s1 => F_M_outNow s1) (fun r => r.1 = v + wi (tw G O E) v ∧ MJ μ r.2 G O M E ∧ Fr [200, 223, 224, 229, 230, 231, 232] ν r.2) := by
  unfold F_M_laysParts
  simp only [bindM_eq, b0M_some]
  have key : ∀ s, s = st2 (st2 (st2 (st2 (st2 ν 200 48 1) 200 49 0) 229 0 v) 229 1 0) 229 2 0 → Ok (F_M_outNow s) (fun r => r.1 = v + wi (tw G O E) v ∧ MJ μ r.2 G O M E ∧ Fr [200, 223, 224, 229, 230, 231, 232] ν r.2) := fun s hs => by
    have f : Fr [200, 229] ν s := by subst hs; exact ((((Fr.rf.st (by decide)).st (by decide)).st (by decide)).st (by decide)).st (by decide)
    have f2 : ∀ k, k ≠ 48 → k ≠ 49 → s 200 k = ν 200 k := fun k k1 k2 => by rw [hs, st2_ne (by decide), st2_ne (by decide), st2_ne (by decide), st2_sk, if_neg k2, st2_sk, if_neg k1]
    have v48 : s 200 48 = ((1 : Nat) : Int) := by rw [hs]; simp [st2_f]
    have v49 : s 200 49 = 0 := by rw [hs]; simp [st2_f]
    have v0 : s 229 0 = v := by rw [hs]; simp [st2_f]
    have mj : MJ μ s G O M E := h.fr f (by decide) (fun k hk => f2 k (by omega) (by omega))
    have nn : ∀ i, i < 1 → 0 ≤ s 229 i ∧ s 229 i ≤ 9999 := fun i hi => by
      have : i = 0 := by omega
      rw [this, v0]; exact hv
    refine (mj.out (p := 1) (mn := 0) ⟨by omega, by omega, by omega, by omega, v48, v49, nn⟩).mono (fun r hr => ⟨?_, hr.2.1, (f.w (by decide)).tr (hr.2.2.1.w (by decide))⟩)
    have := hr.1
    rw [offL_eq (by omega) (fun i hi => nn i hi)] at this
    rw [this]
    have b0 : bitI 0 ((0 : Nat) : Int) = 0 := by decide +kernel
    simp only [trs, offN, v0, b0, show ¬ (0 : Int) = 1 from by decide, if_false]
    omega
  exact key _ rfl
theorem owed_M {μ ν : Mm} {G O M : Law} {E : Nat → Int} (h : MJ μ ν G O M E) {d : Nat → Int} {a b : Nat} (ha : a < 6) (hb : b < 6) (hd : μ 201 (94 + (6 * a + b)) = d (6 * a + b)) (hd2 : 0 ≤ d (6 * a + b) ∧ d (6 * a + b) ≤ 9999) : Ok (F_M_owedBy (a : Int) (b : Int) ν) (fun r => r.1 = ow (tw G O E) d (6 * a + b) ∧ MJ μ r.2 G O M E ∧ Fr [200, 223, 224, 229, 230, 231, 232] ν r.2) := by
  unfold F_M_owedBy
  have e : ((94 : Int) + 6 * (a : Int) + (b : Int)).toNat = 94 + (6 * a + b) := by omega
  have e3 : ν 201 (94 + (6 * a + b)) = d (6 * a + b) := by rw [h.2.2.1 201 (by omega)]; exact hd
  rw [if_pos (by omega), e, e3]
  obtain ⟨⟨v, s⟩, E1, v1, mj, f⟩ := parts1_M h (v := d (6 * a + b)) hd2
  cases hl : F_M_laysParts 1 (d (6 * a + b)) 0 0 ν with
  | none => rw [hl] at E1; exact nomatch E1
  | some s1 =>
    rw [hl, b0M_some] at E1
    rw [b0M_some, E1, b1M_some]
    have v1 : v = _ := v1
    refine Ok.ite (fun h0 => Ok.ret ⟨?_, mj, f⟩) (fun h0 => Ok.ret ⟨?_, mj, f⟩)
    · show v = _
      unfold ow; omega
    · show 0 = _
      unfold ow; omega
def wor (o : Nat → Int) (k : Nat) : Nat → Int
  | 0 => 0
  | i + 1 => wor o k i + (o (6 * i + k) - o (6 * k + i))
theorem wor_bd {o : Nat → Int} {k : Nat} (h : ∀ j, j < 36 → 0 ≤ o j ∧ o j ≤ 10494) (hk : k < 6) : ∀ i, i ≤ 6 → -10494 * i ≤ wor o k i ∧ wor o k i ≤ 10494 * i
  | 0, _ => by simp [wor]
  | i + 1, hi => by
    have h1 := wor_bd h hk i (by omega)
    have h2 := h (6 * i + k) (by omega)
    have h3 := h (6 * k + i) (by omega)
    simp only [wor]; omega
theorem worth_rel {σ μ : Mm} {B R : Int} (h : Rel σ μ B R) (hB : B + 400 ≤ 90000000) (hR : R + 1000 < 2147483647) (x : Int) : Op (F_A_worth x σ) (F_M_worth x μ) B (R + 1000) := by
  obtain ⟨G, O, M, hN, hE⟩ := id h
  have hr := hN.round
  have out : Rel σ μ B (R + 1000) := h.w (Int.le_refl _) (by omega)
  have hD := hE.debt
  unfold F_A_worth F_M_worth
  rw [bank_A, bank_M, b1_some, b1_some]
  by_cases hx : 0 ≤ x ∧ x ≤ 5
  · rw [if_pos hx, if_neg ne10, if_neg ne10]
    obtain ⟨k, rfl⟩ := Int.eq_ofNat_of_zero_le hx.1
    unfold F_B_worthOf
    obtain ⟨s0, E1, co⟩ := reckonAll_ok hN (by omega) (by omega) (fun i hi => (hD i hi).2)
    obtain ⟨ν, E2, mj, -⟩ := hN.lays
    have ob : ∀ j, j < 36 → 0 ≤ ow (tw G O (σ 3)) (σ 130) j ∧ ow (tw G O (σ 3)) (σ 130) j ≤ 10494 := fun j hj => ow_bd (hD j hj).2
    have wb := wor_bd ob (k := k) (by omega)
    rw [E1, b0M_some, E2, b0M_some]
    obtain ⟨a, E3, ha⟩ := loop_inv (L := fun n j a => L_B_worthOf_8 n (k : Int) a j s0) (I := fun i a => a = wor (ow (tw G O (σ 3)) (σ 130)) k i) (x := 6) (out := fun a => a)
      (fun n s => by rw [L_B_worthOf_8, if_pos (Int.le_refl _)]) (m := 6) (i := 0) (N := LF) (s := (0 : Int)) (by omega) (by unfold LF; omega) rfl (fun n j a _ hj ha => by
        have e2 : (j : Int) + 1 = ((j + 1 : Nat) : Int) := by omega
        have i1 : ((j : Int) * 6 + (k : Int)).toNat = 6 * j + k := by omega
        have i2 : ((k : Int) * 6 + (j : Int)).toNat = 6 * k + j := by omega
        have hb := wb (j + 1) (by omega)
        refine ⟨wor (ow (tw G O (σ 3)) (σ 130)) k (j + 1), ?_, rfl⟩
        show L_B_worthOf_8 (n + 1) (k : Int) a (j : Int) s0 = _
        rw [L_B_worthOf_8, if_neg (by omega), if_pos (by omega), if_pos (by omega), i1, i2, co.2 _ (by omega), co.2 _ (by omega), bindM_eq, ha]
        have q : wor (ow (tw G O (σ 3)) (σ 130)) k j + (ow (tw G O (σ 3)) (σ 130) (6 * j + k) - ow (tw G O (σ 3)) (σ 130) (6 * k + j)) = wor (ow (tw G O (σ 3)) (σ 130)) k (j + 1) := rfl
        rw [q, if_pos (show r32 (wor (ow (tw G O (σ 3)) (σ 130)) k (j + 1)) from ⟨by omega, by omega⟩), e2, if_pos (show r32 ((j + 1 : Nat) : Int) from ⟨by omega, by omega⟩)])
    obtain ⟨p, E4, hp⟩ := loop_inv (L := fun n j (p : Int × Mm) => L_M_worth_19 n (k : Int) p.1 j p.2) (I := fun i p => p.1 = wor (ow (tw G O (σ 3)) (σ 130)) k i ∧ MJ μ p.2 G O M (σ 3)) (x := 6) (out := fun p => p)
      (fun n s => by rw [L_M_worth_19, if_pos (Int.le_refl _)]) (m := 6) (i := 0) (N := LF) (s := ((0 : Int), ν)) (by omega) (by unfold LF; omega) ⟨rfl, mj⟩ (fun n j p _ hj hp => by
        have e2 : (j : Int) + 1 = ((j + 1 : Nat) : Int) := by omega
        have hb := wb (j + 1) (by omega)
        have hb0 := wb j (by omega)
        show ∃ s' : Int × Mm, L_M_worth_19 (n + 1) (k : Int) p.1 (j : Int) p.2 = L_M_worth_19 n (k : Int) s'.1 ((j + 1 : Nat) : Int) s'.2 ∧ _
        rw [L_M_worth_19, if_neg (by omega), e2]
        simp only [bindM_eq]
        by_cases hjk : (j : Int) = (k : Int)
        · have : j = k := by omega
          subst this
          have q : wor (ow (tw G O (σ 3)) (σ 130)) j (j + 1) = wor (ow (tw G O (σ 3)) (σ 130)) j j := by simp only [wor]; omega
          rw [if_pos rfl, hp.1, if_pos (show r32 (wor (ow (tw G O (σ 3)) (σ 130)) j j + 0) from ⟨by omega, by omega⟩), if_pos (show r32 ((j + 1 : Nat) : Int) from ⟨by omega, by omega⟩)]
          exact ⟨(wor (ow (tw G O (σ 3)) (σ 130)) j j + 0, p.2), rfl, by show _ + 0 = _; rw [q]; omega, hp.2⟩
        · have d1 := hD (6 * j + k) (by omega)
          have d2 := hD (6 * k + j) (by omega)
          obtain ⟨⟨v, s1⟩, F1, v1, m1, -⟩ := owed_M hp.2 (d := σ 130) (a := j) (b := k) (by omega) (by omega) d1.1.symm d1.2
          have m1 : MJ μ s1 G O M (σ 3) := m1
          obtain ⟨⟨w, s2⟩, F2, v2, m2, -⟩ := owed_M m1 (d := σ 130) (a := k) (b := j) (by omega) (by omega) d2.1.symm d2.2
          have v1 : v = _ := v1
          have v2 : w = _ := v2
          have o1 := ob (6 * j + k) (by omega)
          have o2 := ob (6 * k + j) (by omega)
          have q : wor (ow (tw G O (σ 3)) (σ 130)) k j + (ow (tw G O (σ 3)) (σ 130) (6 * j + k) - ow (tw G O (σ 3)) (σ 130) (6 * k + j)) = wor (ow (tw G O (σ 3)) (σ 130)) k (j + 1) := rfl
          rw [if_neg hjk, F1, b1M_some, F2, b1M_some, if_pos (show r32 (v - w) from ⟨by omega, by omega⟩), v1, v2, hp.1, q, if_pos (show r32 (wor (ow (tw G O (σ 3)) (σ 130)) k (j + 1)) from ⟨by omega, by omega⟩), if_pos (show r32 ((j + 1 : Nat) : Int) from ⟨by omega, by omega⟩)]
          exact ⟨(_, s2), rfl, rfl, m2⟩)
    have E3 : L_B_worthOf_8 LF (k : Int) 0 0 s0 = some a := E3
    have E4 : L_M_worth_19 LF (k : Int) 0 0 ν = some p := E4
    rw [E3, b1_some, b1M_some, E4]
    show Op (some (a, s0)) (some (p.1, p.2)) B (R + 1000)
    exact Op.ret (by rw [ha, hp.1]) (h.shut (n := 1) (by omega) (by omega) co.1 hp.2)
  · rw [if_neg hx, if_pos rfl, if_pos rfl]; exact Op.ret rfl out
