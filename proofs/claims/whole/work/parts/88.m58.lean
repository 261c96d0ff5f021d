-- orders of a few: the reference's numbers for them
/-- as `laysOrder`, without a memory: what stands where -/
def lo : Nat → Int → Int → Int → Int → Option (List Nat)
  | 0, _, _, _, _ => none
  | f + 1, n, left, taken, k =>
    if n ≤ k then some []
    else match F_M_waysOf (n - 1 - k) with
      | none => none
      | some w => if ¬ w = 0 ∧ r32 (left.tdiv w) ∧ r32 (left.tmod w) then
          (match L_M_laysOrder_42 LF taken (left.tdiv w) 0 with
            | none => none
            | some i => if 0 ≤ i ∧ i < 6 then
                (match lo f n (left.tmod w) (ior taken (ishl 1 i)) (k + 1) with
                  | none => none
                  | some l => some (i.toNat :: l)) else none)
        else none
def prm (n k : Nat) : List Nat := (lo 7 n k 0 0).getD []
def fac : Nat → Nat
  | 0 => 1
  | n + 1 => (n + 1) * fac n
theorem ways_ok : ∀ n : Nat, n < 6 → F_M_waysOf (n : Int) = some ((fac n : Nat) : Int) := by decide +kernel
theorem prm_len : ∀ n : Nat, n < 6 → ∀ k : Nat, k < fac n → (lo 7 n k 0 0).isSome = true ∧ (prm n k).length = n := by decide +kernel
def gL (l : List Nat) (j : Nat) : Int := ((l.getD j 0 : Nat) : Int)
theorem gL_0 {a : Nat} {l : List Nat} : gL (a :: l) 0 = (a : Int) := rfl
theorem gL_s {a j : Nat} {l : List Nat} : gL (a :: l) (j + 1) = gL l j := rfl
theorem lo_M {n : Nat} (hn : n < 6) : ∀ (f N k : Nat) (left taken : Int) (ν : Mm) (l : List Nat), lo f (n : Int) left taken (k : Int) = some l → f ≤ N → k ≤ n → Ok (L_M_laysOrder_8 N (n : Int) left taken (k : Int) ν) (fun s => (∀ j, j < l.length → s 234 (k + j) = gL l j) ∧ (∀ j, j < k → s 234 j = ν 234 j) ∧ Fr [234] ν s) := by
  intro f
  induction f with
  | zero => intro N k left taken ν l h; exact nomatch h
  | succ f ih =>
    intro N k left taken ν l h hN hk
    match N, hN with
    | N + 1, hN =>
      rw [L_M_laysOrder_8]
      rw [lo] at h
      by_cases hkn : (n : Int) ≤ (k : Int)
      · rw [if_pos hkn] at h ⊢
        have h := Option.some.inj h
        subst h
        exact Ok.ret ⟨fun j hj => by simp at hj, fun _ _ => rfl, Fr.rf⟩
      · rw [if_neg hkn] at h ⊢
        rw [if_pos (show r32 ((n : Int) - 1 - (k : Int)) from ⟨by omega, by omega⟩)]
        cases hw : F_M_waysOf ((n : Int) - 1 - (k : Int)) with
        | none => rw [hw] at h; exact nomatch h
        | some w =>
          rw [hw] at h
          dsimp only at h
          rw [b1_some, b1_some]
          by_cases hc : ¬ w = 0 ∧ r32 (left.tdiv w) ∧ r32 (left.tmod w)
          · rw [if_pos hc] at h
            rw [if_pos hc.1, if_pos (show r32 ((n : Int) - 1 - (k : Int)) from ⟨by omega, by omega⟩), if_pos hc.1, if_pos hc.2.1, if_pos hc.2.2]
            cases hi : L_M_laysOrder_42 LF taken (left.tdiv w) 0 with
            | none => rw [hi] at h; exact nomatch h
            | some i =>
              rw [hi] at h
              dsimp only at h
              rw [b1_some]
              by_cases h6 : 0 ≤ i ∧ i < 6
              · rw [if_pos h6] at h
                have e2 : (k : Int) + 1 = ((k + 1 : Nat) : Int) := by omega
                have ek : ((k : Int)).toNat = k := by omega
                rw [e2] at h
                cases hl : lo f (n : Int) (left.tmod w) (ior taken (ishl 1 i)) ((k + 1 : Nat) : Int) with
                | none => rw [hl] at h; exact nomatch h
                | some l2 =>
                  rw [hl] at h
                  have h := Option.some.inj h
                  subst h
                  rw [bindM_eq, if_pos (show 0 ≤ (k : Int) ∧ (k : Int) < 6 by omega), bindM_eq, ek, e2, if_pos (show r32 ((k + 1 : Nat) : Int) from ⟨by omega, by omega⟩)]
                  refine (ih N (k + 1) _ _ (st2 ν 234 k i) l2 hl (by omega) (by omega)).mono (fun s hs => ?_)
                  obtain ⟨s1, s2, s3⟩ := hs
                  refine ⟨fun j hj => ?_, fun j hj => by rw [s2 j (by omega), st2_sk, if_neg (by omega)], (Fr.rf.st (by decide)).tr s3⟩
                  cases j with
                  | zero => rw [Nat.add_zero, s2 k (by omega), st2_ss, gL_0]; omega
                  | succ j =>
                    have := s1 j (by simp at hj; omega)
                    rw [gL_s, ← this]
                    congr 1; omega
              · rw [if_neg h6] at h; exact nomatch h
          · rw [if_neg hc] at h; exact nomatch h
theorem laysOrder_ok {n k : Nat} (hn : n < 6) (hk : k < fac n) (ν : Mm) : Ok (F_M_laysOrder (k : Int) (n : Int) ν) (fun s => (∀ j, j < n → s 234 j = gL (prm n k) j) ∧ Fr [234] ν s) := by
  unfold F_M_laysOrder
  have h := prm_len n hn k hk
  cases hl : lo 7 n k 0 0 with
  | none => rw [hl] at h; exact absurd h.1 (by decide)
  | some l =>
    have e : prm n k = l := by unfold prm; rw [hl]; rfl
    rw [e] at h ⊢
    refine Ok.b0M (lo_M hn 7 LF 0 _ _ ν l hl (by unfold LF; omega) (by omega)) (fun s hs => Ok.ret ⟨fun j hj => ?_, hs.2.2⟩)
    have := hs.1 j (by omega)
    rw [Nat.zero_add] at this; exact this
/-! twos that have changed sides -/
def t14 (f : Nat → Int) : Nat → Nat → Nat → Int
  | 0, _, _ => 0
  | m + 1, i, j => (if f i ≤ f j then 0 else 1) + t14 f m i (j + 1)
def t4 (f : Nat → Int) (n : Nat) : Nat → Nat → Int
  | 0, _ => 0
  | m + 1, i => t14 f (n - (i + 1)) i (i + 1) + t4 f n m (i + 1)
def tws (f : Nat → Int) (n : Nat) : Int := t4 f n n 0
theorem t14_bd {f : Nat → Int} : ∀ (m i j : Nat), 0 ≤ t14 f m i j ∧ t14 f m i j ≤ m
  | 0, _, _ => by simp [t14]
  | m + 1, i, j => by
    have := t14_bd (f := f) m i (j + 1)
    simp only [t14]
    split <;> omega
theorem t14_cg {f g : Nat → Int} : ∀ {m i j : Nat}, f i = g i → (∀ k, j ≤ k → k < j + m → f k = g k) → t14 f m i j = t14 g m i j
  | 0, _, _, _, _ => rfl
  | m + 1, i, j, h1, h2 => by
    simp only [t14]
    rw [h1, h2 j (Nat.le_refl _) (by omega), t14_cg (m := m) (j := j + 1) h1 (fun k a b => h2 k (by omega) (by omega))]
theorem t4_cg {f g : Nat → Int} {n : Nat} : ∀ {m i : Nat}, (∀ k, k < n → f k = g k) → i + m ≤ n → t4 f n m i = t4 g n m i
  | 0, _, _, _ => rfl
  | m + 1, i, h, hm => by
    simp only [t4]
    rw [t14_cg (h i (by omega)) (fun k a b => h k (by omega)), t4_cg (m := m) (i := i + 1) h (by omega)]
theorem t14_ok {n : Nat} (hn : n < 6) {σ : Mm} : ∀ (m N i j : Nat) (a : Int), j + m = n → i < n → m < N → 0 ≤ a ∧ a + m ≤ 1000 → L_M_twosChanged_14 N (n : Int) a (i : Int) (j : Int) σ = some (a + t14 (σ 234) m i j) := by
  intro m
  induction m with
  | zero =>
    intro N i j a hj hi hN ha
    match N, hN with
    | N + 1, _ =>
      rw [L_M_twosChanged_14, if_pos (by omega)]
      simp [t14]
  | succ m ih =>
    intro N i j a hj hi hN ha
    match N, hN with
    | N + 1, hN =>
      have e2 : (j : Int) + 1 = ((j + 1 : Nat) : Int) := by omega
      have ei : ((i : Int)).toNat = i := by omega
      have ej : ((j : Int)).toNat = j := by omega
      have hb : (0 : Int) ≤ (if σ 234 i ≤ σ 234 j then 0 else 1) ∧ (if σ 234 i ≤ σ 234 j then 0 else 1) ≤ (1 : Int) := by split <;> omega
      rw [L_M_twosChanged_14, if_neg (by omega), if_pos (show 0 ≤ (i : Int) ∧ (i : Int) < 6 by omega), if_pos (show 0 ≤ (j : Int) ∧ (j : Int) < 6 by omega), ei, ej, bindM_eq, e2, if_pos (show r32 (a + (if σ 234 i ≤ σ 234 j then 0 else 1)) from ⟨by omega, by omega⟩), if_pos (show r32 ((j + 1 : Nat) : Int) from ⟨by omega, by omega⟩)]
      rw [ih N i (j + 1) _ (by omega) hi (by omega) ⟨by omega, by omega⟩]
      simp only [t14]; congr 1; omega
theorem t4_ok {n : Nat} (hn : n < 6) {σ : Mm} : ∀ (m N i : Nat) (a : Int), i + m = n → m < N → 0 ≤ a ∧ a + 6 * m ≤ 100 → L_M_twosChanged_4 N (n : Int) a (i : Int) σ = some (a + t4 (σ 234) n m i) := by
  intro m
  induction m with
  | zero =>
    intro N i a hi hN ha
    match N, hN with
    | N + 1, _ =>
      rw [L_M_twosChanged_4, if_pos (by omega)]
      simp [t4]
  | succ m ih =>
    intro N i a hi hN ha
    match N, hN with
    | N + 1, hN =>
      have e2 : (i : Int) + 1 = ((i + 1 : Nat) : Int) := by omega
      have hb := t14_bd (f := σ 234) (n - (i + 1)) i (i + 1)
      rw [L_M_twosChanged_4, if_neg (by omega), e2, if_pos (show r32 ((i + 1 : Nat) : Int) from ⟨by omega, by omega⟩), t14_ok hn (n - (i + 1)) LF i (i + 1) a (by omega) (by omega) (by unfold LF; omega) ⟨by omega, by omega⟩, b1_some, if_pos (show r32 ((i + 1 : Nat) : Int) from ⟨by omega, by omega⟩), ih N (i + 1) _ (by omega) (by omega) ⟨by omega, by omega⟩]
      simp only [t4]; congr 1; omega
theorem twos_ok {n : Nat} (hn : n < 6) (σ : Mm) : F_M_twosChanged (n : Int) σ = some (tws (σ 234) n) := by
  unfold F_M_twosChanged tws
  have := t4_ok hn (σ := σ) n LF 0 0 (by omega) (by unfold LF; omega) (by omega)
  rw [show ((0 : Nat) : Int) = 0 from rfl, Int.zero_add] at this
  rw [this, b1_some]
theorem keeps_ok {n : Nat} (hn : n < 6) (ν : Mm) : Ok (F_M_keepsOrder (n : Int) ν) (fun s => (∀ j, j < n → s 235 j = ν 234 j) ∧ Fr [235] ν s) := by
  unfold F_M_keepsOrder
  obtain ⟨s, E, h1, h2⟩ := loop_inv (L := fun N j s => L_M_keepsOrder_2 N (n : Int) j s) (I := fun i s => (∀ j, j < i → s 235 j = ν 234 j) ∧ Fr [235] ν s) (x := (n : Int)) (out := fun s => s) (fun N s => by rw [L_M_keepsOrder_2, if_pos (Int.le_refl _)]) (m := n) (i := 0) (N := LF) (s := ν) (by omega) (by unfold LF; omega) ⟨fun j hj => by omega, Fr.rf⟩ (fun N j s _ hj hs => by
    have e2 : (j : Int) + 1 = ((j + 1 : Nat) : Int) := by omega
    have ej : ((j : Int)).toNat = j := by omega
    refine ⟨st2 s 235 j (s 234 j), ?_, fun k hk => ?_, hs.2.st (by decide)⟩
    · show L_M_keepsOrder_2 (N + 1) (n : Int) (j : Int) s = _
      rw [L_M_keepsOrder_2, if_neg (by omega), if_pos (show 0 ≤ (j : Int) ∧ (j : Int) < 6 by omega), if_pos (show 0 ≤ (j : Int) ∧ (j : Int) < 6 by omega), ej, bindM_eq, e2, if_pos (show r32 ((j + 1 : Nat) : Int) from ⟨by omega, by omega⟩)]
    · rw [st2_sk]
      by_cases e : k = j
      · rw [if_pos e, e, hs.2 234 (by decide)]
      · rw [if_neg e]; exact hs.1 k (by omega))
  rw [show ((0 : Nat) : Int) = 0 from rfl] at E
  rw [E, b0M_some]
  exact Ok.ret ⟨fun j hj => h1 j (by omega), h2⟩
/-- a ROW's NUMBERS in another order -/
theorem rowSo_M {μ ν : Mm} {G O M : Law} {E : Nat → Int} (h : MJ μ ν G O M E) {r p : Nat} {mn : Int} {nums : Nat → Int} {l : List Nat} (hr : r < 12) (hR : RowM (μ 201) r p mn nums) (hl : ∀ j, j < p → ν 234 j = gL l j) (hp : ∀ j, j < p → l.getD j 0 < p) :
    Ok (F_M_laysRowSo (r : Int) ν) (fun s => MJ μ s G O M E ∧ (∃ m, Laid s p m) ∧ (∀ j, j < p → s 229 j = nums (l.getD j 0)) ∧ Fr [200, 229] ν s) := by
  obtain ⟨p1, p2, m1, m2, q5, q6, q7, q8⟩ := hR
  have hm15 := mn15 p2 m2
  unfold F_M_laysRowSo
  have er : ((10 : Int) + (r : Int)).toNat = 10 + r := by omega
  have e7 : ((70 : Int) + (r : Int)).toNat = 70 + r := by omega
  have h201 : ν 201 = μ 201 := h.2.2.1 201 (by omega)
  rw [if_pos (show 0 ≤ 10 + (r : Int) ∧ 10 + (r : Int) < 5240 by omega), er, h201, q5, bindM_eq, bindM_eq]
  have f0 : Fr [200, 229] ν (st2 (st2 ν 200 48 (p : Int)) 200 49 0) := (Fr.rf.st (by decide)).st (by decide)
  obtain ⟨s, E1, ⟨m, h49, hm0, hm⟩, h48, hk, hv, hf⟩ := loop_inv2 (L := fun N j s => L_M_laysRowSo_20 N (r : Int) j s) (I := fun i s => (∃ m : Nat, s 200 49 = (m : Int) ∧ m < 2 ^ i ∧ i ≤ 4) ∧ s 200 48 = (p : Int) ∧ (∀ k, k ≠ 48 → k ≠ 49 → s 200 k = ν 200 k) ∧ (∀ j, j < i → s 229 j = nums (l.getD j 0)) ∧ Fr [200, 229] ν s) (x := p) (out := fun s => s)
    (fun N s hs => by
      show L_M_laysRowSo_20 (N + 1) (r : Int) (p : Int) s = _
      rw [L_M_laysRowSo_20, hs.2.1, if_pos (Int.le_refl _)]) (m := p) (i := 0) (N := LF) (s := st2 (st2 ν 200 48 (p : Int)) 200 49 0) (by omega) (by unfold LF; omega) ⟨⟨0, by rw [st2_ss]; rfl, by decide, by omega⟩, by rw [st2_sk, if_neg (by decide), st2_ss], fun k k1 k2 => by rw [st2_sk, if_neg k2, st2_sk, if_neg k1], fun j hj => by omega, f0⟩ (fun N j s _ hj hs => by
      obtain ⟨⟨m, h49, hm, hi4⟩, h48, hk, hv, hf⟩ := hs
      have e2 : (j : Int) + 1 = ((j + 1 : Nat) : Int) := by omega
      have ej : ((j : Int)).toNat = j := by omega
      have hpj := hp j hj
      have s234 : s 234 j = ((l.getD j 0 : Nat) : Int) := by rw [hf 234 (by decide)]; exact hl j hj
      obtain ⟨u, hu⟩ : ∃ u, l.getD j 0 = u := ⟨_, rfl⟩
      rw [hu] at hpj s234
      have s201 : s 201 = μ 201 := by rw [hf 201 (by decide)]; exact h201
      have i22 : ((22 : Int) + 4 * (r : Int) + (u : Int)).toNat = 22 + 4 * r + u := by omega
      have z1 : ∀ v, st2 s 229 j v 200 = s 200 := fun v => st2_ne (by decide)
      have z2 : ∀ v, st2 s 229 j v 201 = s 201 := fun v => st2_ne (by decide)
      have z3 : ∀ v, st2 s 229 j v 234 = s 234 := fun v => st2_ne (by decide)
      have hbit : iand (ishr mn (u : Int)) 1 = bitI mn (u : Int) := bit_of m1 (by omega) (by omega) (by omega)
      have key : ∃ m2 : Nat, ior (m : Int) (ishl (bitI mn (u : Int)) (j : Int)) = (m2 : Int) ∧ m2 < 2 ^ (j + 1) := by
        have pj : (2 : Nat) ^ (j + 1) = 2 ^ j * 2 := Nat.pow_succ ..
        have pj4 : (2 : Nat) ^ j ≤ 2 ^ 4 := Nat.pow_le_pow_right (by omega) (by omega)
        rcases bitI_01 mn (u : Int) with e | e
        · rw [e]
          have z : ishl 0 (j : Int) = 0 := by
            have := ishl_nat (a := 0) (k := j) (by omega) (by omega)
            simpa using this
          rw [z, ior_zero (by omega)]
          exact ⟨m, rfl, by omega⟩
        · rw [e]
          have := ior_bit (m := m) (x := j) hm (by omega)
          exact ⟨m + 2 ^ j, this.1, this.2⟩
      obtain ⟨m2, km, km2⟩ := key
      refine ⟨st2 (st2 s 229 j (nums u)) 200 49 (m2 : Int), ?_, ⟨m2, by rw [st2_ss], km2, by omega⟩, by rw [st2_sk, if_neg (by decide), z1]; exact h48, fun k k1 k2 => by rw [st2_sk, if_neg k2, z1]; exact hk k k1 k2, fun k hk2 => ?_, (hf.st (by decide)).st (by decide)⟩
      · show L_M_laysRowSo_20 (N + 1) (r : Int) (j : Int) s = _
        rw [L_M_laysRowSo_20, h48, if_neg (by omega), if_pos (show 0 ≤ (j : Int) ∧ (j : Int) < 6 by omega), ej, s234, if_pos (show 0 ≤ 22 + 4 * (r : Int) + (u : Int) ∧ 22 + 4 * (r : Int) + (u : Int) < 5240 by omega), if_pos (show 0 ≤ (j : Int) ∧ (j : Int) < 4 by omega), i22, s201, q7 u (by omega), bindM_eq, if_pos (show 0 ≤ 70 + (r : Int) ∧ 70 + (r : Int) < 5240 by omega), if_pos (show 0 ≤ (j : Int) ∧ (j : Int) < 6 by omega), z1, z2, z3, s234, s201, e7, q6, h49, hbit, km, bindM_eq, e2, if_pos (show r32 ((j + 1 : Nat) : Int) from ⟨by omega, by omega⟩)]
      · rw [st2_ne (by decide), st2_sk]
        by_cases e : k = j
        · rw [if_pos e, e, hu]
        · rw [if_neg e]; exact hv k (by omega))
  have E1 : L_M_laysRowSo_20 LF (r : Int) 0 (st2 (st2 ν 200 48 (p : Int)) 200 49 0) = some s := E1
  rw [E1, b0M_some]
  have pp : (2 : Nat) ^ p ≤ 2 ^ 4 := Nat.pow_le_pow_right (by omega) (by omega)
  exact Ok.ret ⟨h.fr hf (by decide) (fun k hk2 => hk k (by omega) (by omega)), ⟨(m : Int), p2, p1, by omega, by omega, h48, h49, fun i hi => by rw [hv i hi]; exact q8 _ (hp i hi)⟩, hv, hf⟩
