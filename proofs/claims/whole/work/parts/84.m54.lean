-- `nearest` on both sides
def qT (T : TW) : TW := fun l r k => if T l r k = 1000 then 1000 else 1
theorem q0_t {T : TW} {l r k : Int} : q0 T l r k = t0 (qT T) l r k := by
  unfold q0 t0 qT
  by_cases h : T l r k = 1000
  · rw [if_pos h, if_pos h, if_pos rfl]
  · rw [if_neg h, if_neg h, if_neg (by decide)]
theorem sumL_q {T : TW} : ∀ {L : DL} {d : Int}, sumL (q0 T) d L = sumL (t0 (qT T)) d L
  | [], _ => rfl
  | (e, m) :: t, d => by simp only [sumL]; rw [q0_t, sumL_q]
theorem qL_t {T : TW} {L : DL} : qL T L = offL (qT T) L := by
  cases L with
  | nil => rfl
  | cons a t => exact sumL_q
theorem qwi_nn {T : TW} : ∀ (n : Nat) (v k : Int), 0 ≤ wiR (qT T) n v k ∧ wiR (qT T) n v k ≤ n
  | 0, _, _ => by simp [wiR]
  | n + 1, v, k => by
    have h := qwi_nn (T := T) n (v / 10) 0
    have h2 : 0 ≤ t0 (qT T) (v / 10 % 10) (v % 10) k ∧ t0 (qT T) (v / 10 % 10) (v % 10) k ≤ 1 := by rw [← q0_t]; unfold q0; split <;> omega
    simp only [wiR]
    split <;> omega
theorem quiet_loop {σ : Mm} {G O M : Law} {n1 : Int} : ∀ (j n : Nat) (k v : Int) (s : Mm), j < n → CJ σ s G O M n1 → 0 ≤ v → v < 10 ^ (j + 1) → 0 ≤ k ∧ k ≤ 1 →
    (wiR (qT (tw G O (σ 3))) (j + 1) v k = 0 ∧ ∃ t, L_J_isQuiet_4 n k v s = some (.inr t) ∧ CJ σ t G O M n1 ∧ Fr [4, 5, 6, 7] s t) ∨ (¬ wiR (qT (tw G O (σ 3))) (j + 1) v k = 0 ∧ ∃ t, L_J_isQuiet_4 n k v s = some (.inl (0, t)) ∧ CJ σ t G O M n1 ∧ Fr [4, 5, 6, 7] s t) := by
  intro j
  induction j with
  | zero =>
    intro n k v s hn hs h0 h1 hk
    match n, hn with
    | n + 1, _ =>
      simp at h1
      rw [L_J_isQuiet_4, if_pos (by omega)]
      refine Or.inl ⟨?_, s, rfl, hs, Fr.rf⟩
      simp only [wiR]
      rw [if_pos (by omega)]
  | succ j ih =>
    intro n k v s hn hs h0 h1 hk
    match n, hn with
    | n + 1, hn =>
      rw [L_J_isQuiet_4]
      have p : (10 : Int) ^ (j + 1 + 1) = 10 ^ (j + 1) * 10 := Int.pow_succ _ _
      by_cases hv : v < 10
      · rw [if_pos hv]
        refine Or.inl ⟨?_, s, rfl, hs, Fr.rf⟩
        simp only [wiR]
        rw [if_pos hv]
      · have e1 : v.tdiv 10 = v / 10 := Int.tdiv_eq_ediv_of_nonneg h0
        have e2 : v.tmod 10 = v % 10 := Int.tmod_eq_emod_of_nonneg h0
        have e3 : (v / 10).tmod 10 = v / 10 % 10 := Int.tmod_eq_emod_of_nonneg (by omega)
        rw [if_neg hv, e1, e2, e3]
        obtain ⟨⟨a, t⟩, E, ha, hf, hc⟩ := hs.two (d := v / 10 % 10) (e := v % 10) (m := k) (by omega) (by omega) (by omega)
        have ha : a = tw G O (σ 3) (v / 10 % 10) (v % 10) k := ha
        have hf : Fr [4, 5, 6, 7] s t := hf
        have hc : CJ σ t G O M n1 := hc
        have nn := qwi_nn (T := tw G O (σ 3)) (j + 1) (v / 10) 0
        have ew : wiR (qT (tw G O (σ 3))) (j + 1 + 1) v k = q0 (tw G O (σ 3)) (v / 10 % 10) (v % 10) k + wiR (qT (tw G O (σ 3))) (j + 1) (v / 10) 0 := by
          rw [wiR, if_neg hv, q0_t]
        rw [ew, E, b1M_some]
        by_cases hq : a = 1000
        · have z : q0 (tw G O (σ 3)) (v / 10 % 10) (v % 10) k = 0 := by unfold q0; rw [← ha, if_pos hq]
          rw [if_pos hq, z, Int.zero_add]
          rcases ih n 0 (v / 10) t (by omega) hc (by omega) (by omega) (by omega) with ⟨w, u, u1, u2, u3⟩ | ⟨w, u, u1, u2, u3⟩
          · exact Or.inl ⟨w, u, u1, u2, hf.tr u3⟩
          · exact Or.inr ⟨w, u, u1, u2, hf.tr u3⟩
        · have z : q0 (tw G O (σ 3)) (v / 10 % 10) (v % 10) k = 1 := by unfold q0; rw [← ha, if_neg hq]
          rw [if_neg hq, z]
          exact Or.inr ⟨by omega, t, rfl, hc, hf⟩
theorem quiet_C {σ s : Mm} {G O M : Law} {n1 : Int} (hs : CJ σ s G O M n1) {v : Int} (h0 : 0 ≤ v) (h1 : v ≤ 9999) : Ok (F_J_isQuiet v s) (fun r => r.1 = (if wi (qT (tw G O (σ 3))) v = 0 then 1 else 0) ∧ CJ σ r.2 G O M n1 ∧ Fr [4, 5, 6, 7] s r.2) := by
  unfold F_J_isQuiet wi
  rcases quiet_loop 4 LF 1 v s (by unfold LF; omega) hs h0 (by simp; omega) (by omega) with ⟨w, u, u1, u2, u3⟩ | ⟨w, u, u1, u2, u3⟩
  · rw [u1, b0MS_r]
    exact Ok.ret ⟨(if_pos w).symm, u2, u3⟩
  · rw [u1, b0MS_l]
    exact Ok.ret ⟨(if_neg w).symm, u2, u3⟩
theorem lays1_M {μ ν : Mm} {G O M : Law} {E : Nat → Int} (h : MJ μ ν G O M E) {v : Int} (hv : NN v) : ∃ s, F_M_laysParts 1 v 0 0 ν = some s ∧ MJ μ s G O M E ∧ Laid s 1 0 ∧ s 229 0 = v ∧ Fr [200, 229] ν s := by
  refine ⟨st2 (st2 (st2 (st2 (st2 ν 200 48 1) 200 49 0) 229 0 v) 229 1 0) 229 2 0, rfl, ?_⟩
  have f : Fr [200, 229] ν (st2 (st2 (st2 (st2 (st2 ν 200 48 1) 200 49 0) 229 0 v) 229 1 0) 229 2 0) := ((((Fr.rf.st (by decide)).st (by decide)).st (by decide)).st (by decide)).st (by decide)
  have v0 : st2 (st2 (st2 (st2 (st2 ν 200 48 1) 200 49 0) 229 0 v) 229 1 0) 229 2 0 229 0 = v := by simp [st2_f]
  refine ⟨h.fr f (by decide) (fun k hk => ?_), ⟨by omega, by omega, by omega, by omega, by simp [st2_f], by simp [st2_f], fun i hi => ?_⟩, v0, f⟩
  · rw [st2_ne (by decide), st2_ne (by decide), st2_ne (by decide), st2_sk, if_neg (by omega), st2_sk, if_neg (by omega)]
  · have : i = 0 := by omega
    rw [this, v0]; exact hv
theorem quiet_M {μ ν : Mm} {G O M : Law} {E : Nat → Int} (h : MJ μ ν G O M E) {v : Int} (hv : NN v) : Ok (F_M_isQuiet v ν) (fun r => r.1 = (if wi (qT (tw G O E)) v = 0 then 1 else 0) ∧ MJ μ r.2 G O M E) := by
  unfold F_M_isQuiet
  obtain ⟨s, E1, mj, L, s0, f⟩ := lays1_M h hv
  rw [E1, b0M_some]
  refine Ok.b1M (mj.quarrels L) (fun a t ht => ?_)
  have ha : a = qL (tw G O E) (drw (s 229) 1) := ht.1
  rw [qL_t, offL_eq (by omega) (fun i hi => L.2.2.2.2.2.2 i hi)] at ha
  simp only [offN, s0] at ha
  refine Ok.ite (fun h0 => Ok.ret ⟨?_, ht.2.1⟩) (fun h0 => Ok.ret ⟨?_, ht.2.1⟩)
  · exact (if_pos (by rw [← ha]; exact h0)).symm
  · exact (if_neg (by rw [← ha]; exact h0)).symm
def neF (T : TW) (n : Int) (j : Nat) : Option Int := if 0 ≤ n - j ∧ wi (qT T) (n - j) = 0 then some (n - j) else if n + j ≤ 9999 ∧ wi (qT T) (n + j) = 0 then some (n + j) else none
theorem nearest_rel {σ μ : Mm} {B R : Int} (h : Rel σ μ B R) (hB : B + 400 ≤ 90000000) (hR : R + 1000 < 2147483647) (x : Int) : Op (F_A_nearest x σ) (F_M_nearest x μ) B (R + 1000) := by
  obtain ⟨G, O, M, hN, hE⟩ := id h
  have hr := hN.round
  have out : Rel σ μ B (R + 1000) := h.w (Int.le_refl _) (by omega)
  unfold F_A_nearest F_M_nearest
  rw [num_A, in_ok, b1_some, b1_some]
  by_cases hx : 0 ≤ x ∧ x ≤ 9999
  · rw [if_pos (show NN x from hx), if_neg ne10, if_neg ne10]
    unfold F_E_nearestTo
    obtain ⟨τ, T1, cj, -⟩ := hN.fresh (by omega) (by omega)
    obtain ⟨ν, E1, mj, -⟩ := hN.lays
    rw [T1, b0M_some, E1, b0M_some]
    have l1 : Ok (L_E_nearestTo_9 LF x ((0 : Nat) : Int) τ) (FO (firstN (neF (tw G O (σ 3)) x) 10000 0) (fun s => CJ σ s G O M 1)) := by
      refine loop_first (L := fun n j s => L_E_nearestTo_9 n x j s) (x := 10000) (fun n s _ => by rw [L_E_nearestTo_9, if_pos (by omega)]) (by omega) (by unfold LF; omega) cj (fun n j s _ hj hs => ?_)
      have e2 : (j : Int) + 1 = ((j + 1 : Nat) : Int) := by omega
      rw [L_E_nearestTo_9, if_neg (show ¬ (9999 : Int) < (j : Int) by omega), if_pos (show r32 (x - (j : Int)) from ⟨by omega, by omega⟩)]
      simp only [bindM_eq, e2, if_pos (show r32 (x + (j : Int)) from ⟨by omega, by omega⟩), if_pos (show r32 (x - (j : Int)) from ⟨by omega, by omega⟩), if_pos (show r32 ((j + 1 : Nat) : Int) from ⟨by omega, by omega⟩)]
      have two : ∀ t, CJ σ t G O M 1 → (¬ (0 ≤ x - (j : Int) ∧ wi (qT (tw G O (σ 3))) (x - j) = 0)) → (∃ v s', neF (tw G O (σ 3)) x j = some v ∧ (if 9999 < x + (j : Int) then L_E_nearestTo_9 n x ((j + 1 : Nat) : Int) t else b1M (F_J_isQuiet (x + (j : Int)) t) fun v7 s7 => if v7 = 0 then L_E_nearestTo_9 n x ((j + 1 : Nat) : Int) s7 else some (.inl (x + (j : Int), s7))) = some (.inl (v, s')) ∧ CJ σ s' G O M 1) ∨ (neF (tw G O (σ 3)) x j = none ∧ ∃ s', (if 9999 < x + (j : Int) then L_E_nearestTo_9 n x ((j + 1 : Nat) : Int) t else b1M (F_J_isQuiet (x + (j : Int)) t) fun v7 s7 => if v7 = 0 then L_E_nearestTo_9 n x ((j + 1 : Nat) : Int) s7 else some (.inl (x + (j : Int), s7))) = L_E_nearestTo_9 n x ((j + 1 : Nat) : Int) s' ∧ CJ σ s' G O M 1) := fun t ht hno => by
        unfold neF
        rw [if_neg hno]
        by_cases h3 : 9999 < x + (j : Int)
        · rw [if_pos h3, if_neg (fun q => by omega)]
          exact Or.inr ⟨rfl, t, rfl, ht⟩
        · obtain ⟨⟨v, u⟩, E3, v1, c1, -⟩ := quiet_C ht (v := x + (j : Int)) (by omega) (by omega)
          have v1 : v = _ := v1
          rw [if_neg h3, E3, b1M_some, v1]
          by_cases hq : wi (qT (tw G O (σ 3))) (x + (j : Int)) = 0
          · rw [if_pos hq, if_neg ne10, if_pos ⟨by omega, hq⟩]
            exact Or.inl ⟨_, u, rfl, rfl, c1⟩
          · rw [if_neg hq, if_pos rfl, if_neg (fun q => hq q.2)]
            exact Or.inr ⟨rfl, u, rfl, c1⟩
      by_cases h1 : x - (j : Int) < 0
      · rw [if_pos h1]
        exact two s hs (fun q => by omega)
      · rw [if_neg h1]
        obtain ⟨⟨v, u⟩, E3, v1, c1, -⟩ := quiet_C hs (v := x - (j : Int)) (by omega) (by omega)
        have v1 : v = _ := v1
        have c1 : CJ σ u G O M 1 := c1
        rw [E3, b1M_some, v1]
        by_cases hq : wi (qT (tw G O (σ 3))) (x - (j : Int)) = 0
        · rw [if_pos hq, if_neg ne10]
          exact Or.inl ⟨_, u, by unfold neF; rw [if_pos ⟨by omega, hq⟩], rfl, c1⟩
        · rw [if_neg hq, if_pos rfl]
          exact two u c1 (fun q => hq q.2)
    have k1 : Ok (L_M_nearest_19 LF x ((0 : Nat) : Int) ν) (FO (firstN (neF (tw G O (σ 3)) x) 10000 0) (fun s => MJ μ s G O M (σ 3))) := by
      refine loop_first (L := fun n j s => L_M_nearest_19 n x j s) (x := 10000) (fun n s _ => by rw [L_M_nearest_19, if_pos (by omega)]) (by omega) (by unfold LF; omega) mj (fun n j s _ hj hs => ?_)
      have e2 : (j : Int) + 1 = ((j + 1 : Nat) : Int) := by omega
      rw [L_M_nearest_19, if_neg (show ¬ (10000 : Int) ≤ (j : Int) by omega)]
      simp only [bindM_eq, e2, if_pos (show r32 (x + (j : Int)) from ⟨by omega, by omega⟩), if_pos (show r32 (x - (j : Int)) from ⟨by omega, by omega⟩), if_pos (show r32 ((j + 1 : Nat) : Int) from ⟨by omega, by omega⟩)]
      have two : ∀ t, MJ μ t G O M (σ 3) → (¬ (0 ≤ x - (j : Int) ∧ wi (qT (tw G O (σ 3))) (x - j) = 0)) → (∃ v s', neF (tw G O (σ 3)) x j = some v ∧ (if 10000 ≤ x + (j : Int) then L_M_nearest_19 n x ((j + 1 : Nat) : Int) t else b1M (F_M_isQuiet (x + (j : Int)) t) fun v7 s7 => if v7 = 0 then L_M_nearest_19 n x ((j + 1 : Nat) : Int) s7 else some (.inl (x + (j : Int), s7))) = some (.inl (v, s')) ∧ MJ μ s' G O M (σ 3)) ∨ (neF (tw G O (σ 3)) x j = none ∧ ∃ s', (if 10000 ≤ x + (j : Int) then L_M_nearest_19 n x ((j + 1 : Nat) : Int) t else b1M (F_M_isQuiet (x + (j : Int)) t) fun v7 s7 => if v7 = 0 then L_M_nearest_19 n x ((j + 1 : Nat) : Int) s7 else some (.inl (x + (j : Int), s7))) = L_M_nearest_19 n x ((j + 1 : Nat) : Int) s' ∧ MJ μ s' G O M (σ 3)) := fun t ht hno => by
        unfold neF
        rw [if_neg hno]
        by_cases h3 : 10000 ≤ x + (j : Int)
        · rw [if_pos h3, if_neg (fun q => by omega)]
          exact Or.inr ⟨rfl, t, rfl, ht⟩
        · obtain ⟨⟨v, u⟩, E3, v1, c1⟩ := quiet_M ht (v := x + (j : Int)) ⟨by omega, by omega⟩
          have v1 : v = _ := v1
          rw [if_neg h3, E3, b1M_some, v1]
          by_cases hq : wi (qT (tw G O (σ 3))) (x + (j : Int)) = 0
          · rw [if_pos hq, if_neg ne10, if_pos ⟨by omega, hq⟩]
            exact Or.inl ⟨_, u, rfl, rfl, c1⟩
          · rw [if_neg hq, if_pos rfl, if_neg (fun q => hq q.2)]
            exact Or.inr ⟨rfl, u, rfl, c1⟩
      by_cases h1 : x < (j : Int)
      · rw [if_pos h1]
        exact two s hs (fun q => by omega)
      · rw [if_neg h1]
        obtain ⟨⟨v, u⟩, E3, v1, c1⟩ := quiet_M hs (v := x - (j : Int)) ⟨by omega, by omega⟩
        have v1 : v = _ := v1
        have c1 : MJ μ u G O M (σ 3) := c1
        rw [E3, b1M_some, v1]
        by_cases hq : wi (qT (tw G O (σ 3))) (x - (j : Int)) = 0
        · rw [if_pos hq, if_neg ne10]
          exact Or.inl ⟨_, u, by unfold neF; rw [if_pos ⟨by omega, hq⟩], rfl, c1⟩
        · rw [if_neg hq, if_pos rfl]
          exact two u c1 (fun q => hq q.2)
    exact FO.ends h (n := 1) (by omega) (by omega) (fun s hs => hs) l1 k1
  · rw [if_neg (show ¬ NN x from hx), if_pos rfl, if_pos rfl]; exact Op.ret rfl out
