-- the class's table and its path
theorem len_s : ∀ n : Nat, n < 6 → ∀ S : Nat, S < 2 ^ n → ∀ i : Nat, i < n → bitI (S : Int) (i : Int) = 0 → (mem ((S + 2 ^ i : Nat) : Int) n).length = (mem (S : Int) n).length + 1 := by decide +kernel
theorem len_0 : ∀ n : Nat, n < 6 → (mem ((0 : Nat) : Int) n).length = 0 ∧ (mem ((2 ^ n - 1 : Nat) : Int) n).length = n := by decide +kernel
theorem len_lt : ∀ n : Nat, n < 6 → ∀ S : Nat, S < 2 ^ n → (mem (S : Int) n).length ≤ n ∧ (S + 1 < 2 ^ n → (mem (S : Int) n).length < n) ∧ ((mem (S : Int) n).length < n → ∃ i, i < n ∧ bitI (S : Int) (i : Int) = 0) := by decide +kernel
theorem best_bd {n : Nat} {cs : Nat → Nat → Int} (hc : ∀ S i, 0 ≤ cs S i ∧ cs S i ≤ 2000) (hn : n < 6) : ∀ m S : Nat, S < 2 ^ n → (mem (S : Int) n).length + m = n → 0 ≤ best n cs m S ∧ best n cs m S ≤ 2000 * m ∧ ∃ l, GP n cs m S l ∧ l.length = m ∧ ∀ j, j < m → l.getD j 0 < n
  | 0, S, _, _ => ⟨Int.le_refl _, by simp [best], [], rfl, rfl, fun j h => by omega⟩
  | m + 1, S, hS, hl => by
    have ih : ∀ i, i < n → bitI (S : Int) (i : Int) = 0 → 0 ≤ best n cs m (S + 2 ^ i) ∧ best n cs m (S + 2 ^ i) ≤ 2000 * m ∧ ∃ l, GP n cs m (S + 2 ^ i) l ∧ l.length = m ∧ ∀ j, j < m → l.getD j 0 < n := fun i hi hb =>
      best_bd hc hn m (S + 2 ^ i) (b6_5 n (by omega) S hS i hi hb) (by rw [len_s n hn S hS i hi hb]; omega)
    obtain ⟨i0, h0, hb0⟩ := (len_lt n hn S hS).2.2 (by omega)
    obtain ⟨b1, b2⟩ := bm_spec (f := fun i => cs S i + best n cs m (S + 2 ^ i)) (S := S) n
    have e : best n cs (m + 1) S = bm (fun i => cs S i + best n cs m (S + 2 ^ i)) S n := rfl
    rw [← e] at b1 b2
    have a1 : best n cs (m + 1) S ≤ cs S i0 + best n cs m (S + 2 ^ i0) := b1 i0 h0 hb0
    have a2 := ih i0 h0 hb0
    have a3 := hc S i0
    have a4 : ∃ i, i < n ∧ (bitI (S : Int) (i : Int) = 0 ∧ cs S i + best n cs m (S + 2 ^ i) = best n cs (m + 1) S) := by
      rcases b2 with q | ⟨i, i1, i2, i3⟩
      · omega
      · exact ⟨i, i1, i2, i3⟩
    obtain ⟨i, i1, ⟨i2, i3⟩, i4⟩ := first_ex a4
    obtain ⟨c1, c2, l, l1, l2, l3⟩ := ih i i1 i2
    have c3 := hc S i
    refine ⟨by omega, by omega, i :: l, ⟨i, l, rfl, i1, i2, i3, fun j hj hbj hq => i4 j hj ⟨hbj, hq⟩, l1⟩, by simp [l2], fun j hj => ?_⟩
    match j with
    | 0 => exact i1
    | j + 1 => exact l3 j (by omega)
theorem cost_bd {G O : Law} {E : Nat → Int} {Li : Nat → DL} {n : Nat} (hL : ∀ i, (Li i).length ≤ 16) : ∀ S i, 0 ≤ cost G O E Li n S i ∧ cost G O E Li n S i ≤ 2000 := fun S i => by
  have := offL_bd (G := G) (O := O) (E := EU E (gS Li n S)) (Li i)
  have := hL i
  unfold cost
  omega
def TB (s : Mm) (cs : Nat → Nat → Int) (n lo : Nat) : Prop := ∀ S, lo ≤ S → S < 2 ^ n → s 119 S = best n cs (n - (mem (S : Int) n).length) S ∧ ∀ i, i < n → bitI (S : Int) (i : Int) = 0 → s 120 (S * 5 + i) = cs S i
theorem row60 {s : Mm} {cs : Nat → Nat → Int} {n S : Nat} (hn : n < 6) (hc : ∀ S i, 0 ≤ cs S i ∧ cs S i ≤ 2000) (hS : S + 1 < 2 ^ n) (hT : TB s cs n (S + 1)) (h120 : ∀ i, i < n → bitI (S : Int) (i : Int) = 0 → s 120 (S * 5 + i) = cs S i) (h119 : s 119 S = 10000000) :
    ∃ t, L_E_bestLedger_60 LF (n : Int) (S : Int) 0 s = some t ∧ Fr [119] s t ∧ TB t cs n S := by
  have p6 := pow6 n (by omega)
  have p32 : 2 ^ n ≤ 2 ^ 5 := Nat.pow_le_pow_right (by omega) (by omega)
  have x1 : (0 : Int) ≤ (S : Int) := by omega
  have x2 : (S : Int) < 2147483648 := by omega
  have lt := (len_lt n hn S (by omega)).2.1 hS
  obtain ⟨m, hm⟩ : ∃ m, n - (mem (S : Int) n).length = m + 1 := ⟨n - (mem (S : Int) n).length - 1, by omega⟩
  obtain ⟨t, E, t1, t2, t3⟩ := loop_inv2 (L := fun N j t => L_E_bestLedger_60 N (n : Int) (S : Int) j t) (I := fun i t => Fr [119] s t ∧ t 119 S = bm (fun i => cs S i + best n cs m (S + 2 ^ i)) S i ∧ ∀ k, k ≠ S → t 119 k = s 119 k) (x := n) (out := fun t => t)
    (fun N t _ => by
      show L_E_bestLedger_60 (N + 1) (n : Int) (S : Int) (n : Int) t = _
      rw [L_E_bestLedger_60, if_pos (Int.le_refl _)]) (m := n) (i := 0) (N := LF) (s := s) (by omega) (by unfold LF; omega) ⟨Fr.rf, h119, fun _ _ => rfl⟩ (fun N i t _ hi ht => by
      obtain ⟨t1, t2, t3⟩ := ht
      have e2 : (i : Int) + 1 = ((i + 1 : Nat) : Int) := by omega
      have next : r32 ((i + 1 : Nat) : Int) := r32_nat (by omega)
      show ∃ t', L_E_bestLedger_60 (N + 1) (n : Int) (S : Int) (i : Int) t = L_E_bestLedger_60 N (n : Int) (S : Int) ((i + 1 : Nat) : Int) t' ∧ _
      rw [L_E_bestLedger_60, if_neg (by omega), bindM_eq, bit_of x1 x2 (by omega) (by omega)]
      by_cases hb : bitI (S : Int) (i : Int) = 0
      · have q := b6_2 S (by omega) i (by omega) hb
        have q5 := b6_5 n (by omega) S (by omega) i hi hb
        have pi : 1 ≤ 2 ^ i := Nat.one_le_two_pow
        have ls := len_s n hn S (by omega) i hi hb
        have v119 : t 119 (S + 2 ^ i) = best n cs m (S + 2 ^ i) := by
          rw [t3 _ (by omega), (hT (S + 2 ^ i) (by omega) q5).1, ls]
          congr 1
          omega
        have v120 : t 120 (S * 5 + i) = cs S i := by rw [t1 120 (by decide)]; exact h120 i hi hb
        have ci : 0 ≤ (S : Int) * 5 + (i : Int) ∧ (S : Int) * 5 + (i : Int) < 160 := by omega
        have ti : ((S : Int) * 5 + (i : Int)).toNat = S * 5 + i := by omega
        have k0 : (0 : Int) ≤ ((S + 2 ^ i : Nat) : Int) := Int.natCast_nonneg _
        have k1 : ((S + 2 ^ i : Nat) : Int) < (32 : Nat) := Int.ofNat_lt.mpr (by omega)
        have bb := best_bd hc hn m (S + 2 ^ i) q5 (by omega)
        have hcc := hc S i
        have eS : ((S : Int)).toNat = S := by omega
        rw [if_pos hb, if_pos (show 0 ≤ (S : Int) ∧ (S : Int) < 32 by omega), if_pos ci, q, if_pos (show 0 ≤ ((S + 2 ^ i : Nat) : Int) ∧ ((S + 2 ^ i : Nat) : Int) < 32 from ⟨k0, k1⟩), ti, v120, Int.toNat_natCast, v119, if_pos (show r32 (cs S i + best n cs m (S + 2 ^ i)) from ⟨by omega, by omega⟩), if_pos (show 0 ≤ (S : Int) ∧ (S : Int) < 32 by omega), bindM_eq, eS]
        dsimp only
        rw [e2, if_pos next]
        refine ⟨_, rfl, t1.st (by decide), ?_, fun k hk => by rw [st2_sk, if_neg hk]; exact t3 k hk⟩
        rw [st2_ss, t2, bm, if_pos hb]
      · rw [if_neg hb]
        dsimp only
        rw [e2, if_pos next]
        exact ⟨t, rfl, t1, by rw [t2, bm, if_neg hb], t3⟩)
  have E : L_E_bestLedger_60 LF (n : Int) (S : Int) 0 s = some t := E
  refine ⟨t, E, t1, fun S' h1 h2 => ?_⟩
  by_cases e : S' = S
  · subst e
    refine ⟨by rw [t2, hm]; rfl, fun i hi hb => by rw [t1 120 (by decide)]; exact h120 i hi hb⟩
  · rw [t3 S' e, t1 120 (by decide)]
    exact hT S' (by omega) h2
theorem table36 {σ : Mm} {G O M : Law} {ml : List Nat} {n : Nat} {Li : Nat → DL} (hE : EnvOK (σ 3)) (hn : n < 6) (hml : ml.length = n) (hL : ∀ i, (Li i).length ≤ 16) (hrow : ∀ i, i < n → ml.getD i 0 < 12 ∧ RowD σ (10 + ml.getD i 0) (Li i)) (hR : 0 ≤ σ 2 5 ∧ σ 2 5 + 100 < 2147483647) :
    ∀ (k N : Nat) (s : Mm), k < 2 ^ n → k < N → CA σ s G O M ml (40 - k) → TB s (cost G O (σ 3) Li n) n k → ∃ t, L_E_bestLedger_36 N (n : Int) ((k : Int) - 1) s = some t ∧ CA σ t G O M ml 40 ∧ TB t (cost G O (σ 3) Li n) n 0 := by
  have p32 : 2 ^ n ≤ 2 ^ 5 := Nat.pow_le_pow_right (by omega) (by omega)
  intro k
  induction k with
  | zero =>
    intro N s hk hN hC hT
    match N, hN with
    | N + 1, _ =>
      rw [L_E_bestLedger_36, if_pos (by omega)]
      exact ⟨s, rfl, hC, hT⟩
  | succ k ih =>
    intro N s hk hN hC hT
    match N, hN with
    | N + 1, hN =>
      have ek : ((k + 1 : Nat) : Int) - 1 = (k : Int) := by omega
      have e2 : (k : Int) + (-1) = (k : Int) - 1 := by omega
      have ek2 : ((k : Int)).toNat = k := by omega
      obtain ⟨t, E1, c1, c2, c3, c4⟩ := askBehind_ok hE hC hn hml (S := k) (by omega) hrow ⟨hR.1, by omega⟩ (by omega)
      have f1 : Fr [119] t (st2 t 119 k 10000000) := Fr.rf.st (by decide)
      obtain ⟨u, E2, f2, hT2⟩ := row60 (s := st2 t 119 k 10000000) (cs := cost G O (σ 3) Li n) (n := n) (S := k) hn (cost_bd hL) hk (fun S h1 h2 => by
        obtain ⟨a, b⟩ := hT S h1 h2
        refine ⟨by rw [st2_sk, if_neg (by omega), c2]; exact a, fun i hi hb => ?_⟩
        rw [st2_ne (by decide), c4 _ (by omega)]; exact b i hi hb) (fun i hi hb => by rw [st2_ne (by decide)]; exact c3 i hi hb) (st2_ss _ _ _ _)
      have F : Fr [119] t u := f1.tr f2
      obtain ⟨a1, a2, a3, a4, a5, a6⟩ := c1
      rw [L_E_bestLedger_36, ek, if_neg (by omega), E1, b0M_some, if_pos (show 0 ≤ (k : Int) ∧ (k : Int) < 32 by omega), bindM_eq, ek2, E2, b0M_some, e2, if_pos (show r32 ((k : Int) - 1) from ⟨by omega, by omega⟩)]
      exact ih N u (by omega) (by omega) ⟨a1.fr F (by decide), fun j hj => by rw [F 3 (by decide)]; exact a2 j hj, a3.tr (F.w (by decide)), by rw [F 2 (by decide)]; exact a4, by rw [F 2 (by decide)]; omega, by rw [F 117 (by decide)]; exact a6⟩ hT2
theorem rowAt20 {s : Mm} {cs : Nat → Nat → Int} {n S m i0 : Nat} (hn : n < 6) (hc : ∀ S i, 0 ≤ cs S i ∧ cs S i ≤ 2000) (hS : S < 2 ^ n) (hT : TB s cs n 0) (hm : (mem (S : Int) n).length + (m + 1) = n) (h0 : i0 < n) (hb0 : bitI (S : Int) (i0 : Int) = 0) (he : cs S i0 + best n cs m (S + 2 ^ i0) = best n cs (m + 1) S) (hno : ∀ j : Nat, j < i0 → bitI (S : Int) (j : Int) = 0 → ¬ cs S j + best n cs m (S + 2 ^ j) = best n cs (m + 1) S) :
    L_E_rowAt_20 LF (n : Int) (S : Int) (-1) 0 s = some (i0 : Int) := by
  have p6 := pow6 n (by omega)
  have p32 : 2 ^ n ≤ 2 ^ 5 := Nat.pow_le_pow_right (by omega) (by omega)
  have x1 : (0 : Int) ≤ (S : Int) := by omega
  have x2 : (S : Int) < 2147483648 := by omega
  have vS : s 119 S = best n cs (m + 1) S := by
    rw [(hT S (Nat.zero_le _) hS).1]
    congr 1
    omega
  have loop : ∀ (d N i : Nat), i + d = i0 → d + 1 < N → L_E_rowAt_20 N (n : Int) (S : Int) (-1) (i : Int) s = some (i0 : Int) := by
    have one : ∀ i : Nat, i < n → bitI (S : Int) (i : Int) = 0 → ∀ (N : Nat), L_E_rowAt_20 (N + 1) (n : Int) (S : Int) (-1) (i : Int) s = if cs S i + best n cs m (S + 2 ^ i) = best n cs (m + 1) S then L_E_rowAt_20 N (n : Int) (S : Int) (i : Int) ((i + 1 : Nat) : Int) s else L_E_rowAt_20 N (n : Int) (S : Int) (-1) ((i + 1 : Nat) : Int) s := fun i hi hb N => by
      have e2 : (i : Int) + 1 = ((i + 1 : Nat) : Int) := by omega
      have next : r32 ((i + 1 : Nat) : Int) := r32_nat (by omega)
      have q := b6_2 S (by omega) i (by omega) hb
      have q5 := b6_5 n (by omega) S (by omega) i hi hb
      have ls := len_s n hn S (by omega) i hi hb
      have v119 : s 119 (S + 2 ^ i) = best n cs m (S + 2 ^ i) := by
        rw [(hT (S + 2 ^ i) (Nat.zero_le _) q5).1, ls]
        congr 1
        omega
      have v120 := (hT S (Nat.zero_le _) hS).2 i hi hb
      have ci : 0 ≤ (S : Int) * 5 + (i : Int) ∧ (S : Int) * 5 + (i : Int) < 160 := by omega
      have ti : ((S : Int) * 5 + (i : Int)).toNat = S * 5 + i := by omega
      have k0 : (0 : Int) ≤ ((S + 2 ^ i : Nat) : Int) := Int.natCast_nonneg _
      have k1 : ((S + 2 ^ i : Nat) : Int) < (32 : Nat) := Int.ofNat_lt.mpr (by omega)
      have bb := best_bd hc hn m (S + 2 ^ i) q5 (by omega)
      have hcc := hc S i
      have eS : ((S : Int)).toNat = S := by omega
      rw [L_E_rowAt_20, if_neg (by omega), if_pos rfl, bindM_eq, bit_of x1 x2 (by omega) (by omega), if_pos hb, if_pos ci, q, if_pos (show 0 ≤ ((S + 2 ^ i : Nat) : Int) ∧ ((S + 2 ^ i : Nat) : Int) < 32 from ⟨k0, k1⟩), if_pos (show 0 ≤ (S : Int) ∧ (S : Int) < 32 by omega), ti, v120, Int.toNat_natCast, v119, eS, vS, if_pos (show r32 (cs S i + best n cs m (S + 2 ^ i)) from ⟨by omega, by omega⟩)]
      by_cases h : cs S i + best n cs m (S + 2 ^ i) = best n cs (m + 1) S
      · rw [if_pos h, if_pos h]
        dsimp only
        rw [e2, if_pos next]
      · rw [if_neg h, if_neg h]
        dsimp only
        rw [e2, if_pos next]
    intro d
    induction d with
    | zero =>
      intro N i hi hN
      have e : i = i0 := by omega
      subst e
      match N, hN with
      | N + 2, _ =>
        rw [one i h0 hb0, if_pos he, L_E_rowAt_20]
        by_cases hx : (n : Int) ≤ ((i + 1 : Nat) : Int)
        · rw [if_pos hx]
        · rw [if_neg hx, if_neg (by omega)]
    | succ d ih =>
      intro N i hi hN
      match N, hN with
      | N + 1, hN =>
        by_cases hb : bitI (S : Int) (i : Int) = 0
        · rw [one i (by omega) hb, if_neg (hno i (by omega) hb)]
          exact ih N (i + 1) (by omega) (by omega)
        · have e2 : (i : Int) + 1 = ((i + 1 : Nat) : Int) := by omega
          have next : r32 ((i + 1 : Nat) : Int) := r32_nat (by omega)
          rw [L_E_rowAt_20, if_neg (by omega), if_pos rfl, bindM_eq, bit_of x1 x2 (by omega) (by omega), if_neg hb]
          dsimp only
          rw [e2, if_pos next]
          exact ih N (i + 1) (by omega) (by omega)
  exact loop i0 LF 0 (by omega) (by unfold LF; omega)
theorem rowAt_ok {s : Mm} {cs : Nat → Nat → Int} {n y : Nat} {ml : List Nat} (hn : n < 6) (hc : ∀ S i, 0 ≤ cs S i ∧ cs S i ≤ 2000) (hT : TB s cs n 0) (hml : ml.length = n) (h117 : LiesAt (s 117) ml) (hy : y < n) {l : List Nat} (hg : GP n cs n 0 l) : F_E_rowAt (y : Int) (n : Int) s = some ((ml.getD (l.getD y 0) 0 : Nat) : Int) := by
  have p32 : 2 ^ n ≤ 2 ^ 5 := Nat.pow_le_pow_right (by omega) (by omega)
  have loop : ∀ (d N j S m : Nat) (l : List Nat) (x4 : Int), j + d = y → d + 1 < N → S < 2 ^ n → (mem (S : Int) n).length + m = n → j + m = n → GP n cs m S l → L_E_rowAt_8 N (y : Int) (n : Int) (S : Int) x4 (j : Int) s = some (.inr ((ml.getD (l.getD d 0) 0 : Nat) : Int)) := by
    intro d
    induction d with
    | zero =>
      intro N j S m l x4 hj hN hS hm hjm hg
      match N, hN, m, hm, hjm, hg with
      | N + 2, _, 0, _, hjm, _ => omega
      | N + 2, _, m + 1, hm, hjm, hg =>
        obtain ⟨i, l', e, hi, hb, he, hno, -⟩ := hg
        subst e
        have q := rowAt20 hn hc hS hT hm hi hb he hno
        have ei : ((i : Int)).toNat = i := by omega
        rw [L_E_rowAt_8, if_neg (by omega), q, b1_some, if_neg (by omega), if_pos (show 0 ≤ (i : Int) ∧ (i : Int) < 6 by omega), bindM_eq, bindM_eq, ei, h117 i (by omega), if_pos (show r32 ((j : Int) + 1) from ⟨by omega, by omega⟩), L_E_rowAt_8, if_pos (by omega)]
        rfl
    | succ d ih =>
      intro N j S m l x4 hj hN hS hm hjm hg
      match N, hN, m, hm, hjm, hg with
      | N + 1, _, 0, _, hjm, _ => omega
      | N + 1, hN, m + 1, hm, hjm, hg =>
        obtain ⟨i, l', e, hi, hb, he, hno, hg'⟩ := hg
        subst e
        have q := rowAt20 hn hc hS hT hm hi hb he hno
        have ei : ((i : Int)).toNat = i := by omega
        have e2 : (j : Int) + 1 = ((j + 1 : Nat) : Int) := by omega
        have q2 := b6_2 S (by omega) i (by omega) hb
        have q5 := b6_5 n (by omega) S (by omega) i hi hb
        have ls := len_s n hn S (by omega) i hi hb
        rw [L_E_rowAt_8, if_neg (by omega), q, b1_some, if_neg (by omega), if_pos (show 0 ≤ (i : Int) ∧ (i : Int) < 6 by omega), bindM_eq, bindM_eq, ei, q2, e2, if_pos (r32_nat (by omega))]
        exact ih N (j + 1) (S + 2 ^ i) m l' _ (by omega) (by omega) q5 (by omega) (by omega) hg'
  have q := loop y LF 0 0 n l (-1) (by omega) (by unfold LF; omega) Nat.one_le_two_pow (by rw [(len_0 n hn).1]; omega) (by omega) hg
  have q : L_E_rowAt_8 LF (y : Int) (n : Int) 0 (-1) 0 s = _ := q
  unfold F_E_rowAt
  rw [q]; rfl
