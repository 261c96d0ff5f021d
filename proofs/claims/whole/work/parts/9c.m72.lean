-- `find` of the class's Fitting
/-- 1 while all are 0 -/
def fz (f : Nat → Int) : Nat → Int
  | 0 => 1
  | k + 1 => if f k = 0 then fz f k else 0
theorem fz_01 {f : Nat → Int} : ∀ k, fz f k = 0 ∨ fz f k = 1
  | 0 => Or.inr rfl
  | k + 1 => by
    unfold fz
    by_cases h : f k = 0
    · rw [if_pos h]; exact fz_01 k
    · rw [if_neg h]; exact Or.inl rfl
theorem fz_0 {f : Nat → Int} {k : Nat} : ∀ {s : Nat}, k < s → f k ≠ 0 → fz f s = 0
  | 0, h, _ => by omega
  | s + 1, h, hf => by
    unfold fz
    by_cases e : k = s
    · subst e; rw [if_neg hf]
    · by_cases h2 : f s = 0
      · rw [if_pos h2]; exact fz_0 (by omega) hf
      · rw [if_neg h2]
theorem fz_1 {f : Nat → Int} : ∀ {s : Nat}, (∀ k, k < s → f k = 0) → fz f s = 1
  | 0, _ => rfl
  | s + 1, h => by
    unfold fz
    rw [if_pos (h s (by omega))]; exact fz_1 (fun k hk => h k (by omega))
/-- how many are not 0 -/
def cntF (f : Nat → Int) : Nat → Nat
  | 0 => 0
  | c + 1 => cntF f c + (if f c = 0 then 0 else 1)
theorem cntF_le {f : Nat → Int} : ∀ c, cntF f c ≤ c
  | 0 => Nat.le_refl _
  | c + 1 => by
    have := cntF_le (f := f) c
    unfold cntF
    split <;> omega
/-- while the class looks for what fits -/
def CB (σ t : Mm) (G O M : Law) (n : Int) : Prop := JB t G O M ∧ Fr [2, 4, 5, 6, 7, 121, 124, 125, 126, 127, 128] σ t ∧ t 2 6 = σ 2 6 ∧ (∀ k, k ≠ 9 → t 121 k = σ 121 k) ∧ σ 2 5 ≤ t 2 5 ∧ t 2 5 ≤ σ 2 5 + n
/-- how far a ROW is off what is SEEN, in a case -/
def Xf (G O : Law) (F : Nat → Int) (P : Nat → Nat) (Mn : Nat → Int) (NU : Nat → Nat → Int) (rw : Nat → Nat) (ow : Nat → Int) (k : Nat) : Int := trs (Mn (rw k)) (NU (rw k)) (P (rw k)) + offL (tw G O F) (drw (NU (rw k)) (P (rw k))) - ow k
theorem find72 {N : Nat} {s : Mm} (hN : N ≤ 1000) (h9 : s 121 9 = (N : Int)) : ∃ t, L_G_find_72 LF 0 s = some t ∧ (∀ c, c < N → t 125 c = 1) ∧ Fr [125] s t := by
  obtain ⟨t, E, h1, h2⟩ := loop_inv2 (L := fun n j t => L_G_find_72 n j t) (I := fun i t => (∀ c, c < i → t 125 c = 1) ∧ Fr [125] s t) (x := N) (out := fun t => t)
    (fun n t ht => by
      show L_G_find_72 (n + 1) (N : Int) t = _
      rw [L_G_find_72, ht.2 121 (by decide), h9, if_pos (Int.le_refl _)]) (m := N) (i := 0) (N := LF) (s := s) (by omega) (by unfold LF; omega) ⟨fun c h => by omega, Fr.rf⟩ (fun n j t _ hj ht => by
      have e2 : (j : Int) + 1 = ((j + 1 : Nat) : Int) := by omega
      have ej : ((j : Int)).toNat = j := by omega
      refine ⟨st2 t 125 j 1, ?_, fun c hc => ?_, ht.2.st (by decide)⟩
      · show L_G_find_72 (n + 1) (j : Int) t = _
        rw [L_G_find_72, ht.2 121 (by decide), h9, if_neg (by omega), if_pos (by omega), bindM_eq, ej, e2, if_pos (r32_nat (by omega)), nz1]
      · rw [st2_sk]
        by_cases e : c = j
        · rw [if_pos e]
        · rw [if_neg e]; exact ht.1 c (by omega))
  exact ⟨t, E, h1, h2⟩
theorem find126 {N r k : Nat} {s : Mm} {S w : Int} {f A : Nat → Int} (hN : N ≤ 1000) (hk : k < 6) (h9 : s 121 9 = (N : Int)) (h6 : s (10 + r) 6 = S) (hr : r < 12) (hS : -99999 ≤ S ∧ S ≤ 99999) (hw : s 123 k = w) (hA : ∀ c, c < N → s 126 c = A c ∧ -2000 ≤ A c ∧ A c ≤ 2000) (hf : ∀ c, c < N → s 125 c = f c ∧ (f c = 0 ∨ f c = 1)) :
    ∃ t, L_G_find_126 LF (k : Int) (10 + r) 0 s = some t ∧ Fr [125] s t ∧ ∀ c, c < N → t 125 c = if S + A c - w = 0 then f c else 0 := by
  obtain ⟨t, E, h1, h2⟩ := loop_inv2 (L := fun n j t => L_G_find_126 n (k : Int) (10 + r) j t) (I := fun i t => Fr [125] s t ∧ ∀ c, c < N → t 125 c = if c < i then (if S + A c - w = 0 then f c else 0) else f c) (x := N) (out := fun t => t)
    (fun n t ht => by
      show L_G_find_126 (n + 1) (k : Int) (10 + r) (N : Int) t = _
      rw [L_G_find_126, ht.1 121 (by decide), h9, if_pos (Int.le_refl _)]) (m := N) (i := 0) (N := LF) (s := s) (by omega) (by unfold LF; omega) ⟨Fr.rf, fun c hc => by rw [if_neg (by omega)]; exact (hf c hc).1⟩ (fun n c t _ hc ht => by
      have e2 : (c : Int) + 1 = ((c + 1 : Nat) : Int) := by omega
      have ec : ((c : Int)).toNat = c := by omega
      have ek : ((k : Int)).toNat = k := by omega
      have c1000 : 0 ≤ (c : Int) ∧ (c : Int) < 1000 := by omega
      have ha := hA c hc
      have hfc := hf c hc
      have tc : t 125 c = f c := by rw [ht.2 c hc, if_neg (by omega)]
      have t126 : t 126 c = A c := by rw [ht.1 126 (by decide)]; exact ha.1
      have tS : t (10 + r) 6 = S := by rw [ht.1 _ (by simp; omega)]; exact h6
      have tw : t 123 k = w := by rw [ht.1 123 (by decide)]; exact hw
      have J : ∀ y : Int, (y = if S + A c - w = 0 then f c else 0) → (y = 0 ∨ y = 1) → ∃ t', (if 0 ≤ (c : Int) ∧ (c : Int) < 1000 then bindM (st2 t 125 ((c : Int)).toNat (nzI y)) fun s18 => if r32 ((c : Int) + 1) then L_G_find_126 n (k : Int) (10 + r) ((c : Int) + 1) s18 else none else none) = L_G_find_126 n (k : Int) (10 + r) ((c + 1 : Nat) : Int) t' ∧ Fr [125] s t' ∧ ∀ c', c' < N → t' 125 c' = if c' < c + 1 then (if S + A c' - w = 0 then f c' else 0) else f c' := fun y hy h01 => by
        have en : nzI y = y := by
          rcases h01 with h | h
          · rw [h]; exact nz0
          · rw [h]; exact nz1
        rw [if_pos c1000, bindM_eq, ec, e2, if_pos (r32_nat (show c + 1 < 2147483648 by omega)), en]
        refine ⟨st2 t 125 c y, rfl, ht.1.st (by decide), fun c' hc' => ?_⟩
        rw [st2_sk]
        by_cases e : c' = c
        · rw [if_pos e, if_pos (show c' < c + 1 by omega), hy, e]
        · rw [if_neg e, ht.2 c' hc']
          by_cases h1 : c' < c
          · rw [if_pos h1, if_pos (show c' < c + 1 by omega)]
          · rw [if_neg h1, if_neg (show ¬ c' < c + 1 by omega)]
      show ∃ t', L_G_find_126 (n + 1) (k : Int) (10 + r) (c : Int) t = L_G_find_126 n (k : Int) (10 + r) ((c + 1 : Nat) : Int) t' ∧ _
      rw [L_G_find_126, ht.1 121 (by decide), h9, if_neg (by omega), if_pos c1000, bindM_eq, bindM_eq]
      have ec2 : t 125 ((c : Int)).toNat = f c := by rw [ec]; exact tc
      rw [ec2]
      by_cases f0 : f c = 0
      · rw [if_pos f0]
        exact J 0 (by rw [f0]; split <;> rfl) (Or.inl rfl)
      · rw [if_neg f0, if_pos c1000, if_pos (show 0 ≤ (k : Int) ∧ (k : Int) < 6 by omega)]
        have e126 : t 126 ((c : Int)).toNat = A c := by rw [ec]; exact t126
        have e123 : t 123 ((k : Int)).toNat = w := by rw [ek]; exact tw
        rw [tS, e126, if_pos (show r32 (S + A c) from ⟨by omega, by omega⟩), e123]
        by_cases hz : S + A c = w
        · rw [if_pos hz]
          have f1 : f c = 1 := by
            rcases hfc.2 with h | h
            · exact absurd h f0
            · exact h
          exact J 1 (by rw [if_pos (show S + A c - w = 0 by omega), f1]) (Or.inr rfl)
        · rw [if_neg hz]
          exact J 0 (by rw [if_neg (show ¬ S + A c - w = 0 by omega)]) (Or.inl rfl))
  exact ⟨t, E, h1, fun c hc => by rw [h2 c hc, if_pos hc]⟩
theorem find194 {N : Nat} {s : Mm} {f : Nat → Int} (hN : N ≤ 1000) (h9 : s 121 9 = (N : Int)) (hf : ∀ c, c < N → s 125 c = f c) : L_G_find_194 LF 0 0 s = some ((cntF f N : Nat) : Int) := by
  obtain ⟨q, E, h1⟩ := loop_inv2 (L := fun n j (q : Int) => L_G_find_194 n q j s) (I := fun i q => q = ((cntF f i : Nat) : Int)) (x := N) (out := fun q => q)
    (fun n q hq => by
      show L_G_find_194 (n + 1) q (N : Int) s = _
      rw [L_G_find_194, h9, if_pos (Int.le_refl _)]) (m := N) (i := 0) (N := LF) (s := (0 : Int)) (by omega) (by unfold LF; omega) rfl (fun n c q _ hc hq => by
      have e2 : (c : Int) + 1 = ((c + 1 : Nat) : Int) := by omega
      have ec : ((c : Int)).toNat = c := by omega
      have le := cntF_le (f := f) c
      have ev : q + (if s 125 c = 0 then (0 : Int) else 1) = ((cntF f (c + 1) : Nat) : Int) := by
        rw [hf c hc, hq]
        simp only [cntF]
        split <;> omega
      refine ⟨((cntF f (c + 1) : Nat) : Int), ?_, rfl⟩
      show L_G_find_194 (n + 1) q (c : Int) s = _
      have le2 := cntF_le (f := f) (c + 1)
      rw [L_G_find_194, h9, if_neg (by omega), if_pos (by omega), ec, bindM_eq, ev, if_pos (r32_nat (show cntF f (c + 1) < 2147483648 by omega)), e2, if_pos (r32_nat (show c + 1 < 2147483648 by omega))])
  have E : L_G_find_194 LF 0 0 s = some q := E
  rw [E, h1]
theorem JB.fr {s t : Mm} {G O M : Law} {S : List Nat} (h : JB s G O M) (hf : Fr S s t) (hS : ∀ i ∈ S, 8 < i ∧ (i < 98 ∨ 110 ≤ i)) : JB t G O M :=
  ⟨h.1.fr hf (by rw [hf 2 (fun q => by have := hS 2 q; omega)]) (fun i hi => (hS i hi).2), by rw [hf 3 (fun q => by have := hS 3 q; omega)]; exact h.2.1, by rw [hf 6 (fun q => by have := hS 6 q; omega), hf 2 (fun q => by have := hS 2 q; omega)]; exact h.2.2⟩
theorem find95 {σ : Mm} {G O M : Law} {x : Int} {N S : Nat} {P : Nat → Nat} {Mn : Nat → Int} {NU : Nat → Nat → Int} {rw : Nat → Nat} {ow : Nat → Int} (hN : N ≤ 1000) (hS : S ≤ 6) (hs : σ 121 2 = (S : Int)) (hrw : ∀ k, k < S → rw k < 12 ∧ σ 122 k = ((rw k : Nat) : Int) ∧ σ 123 k = ow k ∧ RowC σ (rw k) (P (rw k)) (Mn (rw k)) (NU (rw k))) (hR : 0 ≤ σ 2 5 ∧ σ 2 5 + 20000 < 2147483647) :
    ∀ (d n k : Nat) (t : Mm), k + d = S → d < n → CB σ t G O M (1600 * k) → t 121 9 = (N : Int) → (∀ g, g < 10 → t 124 g = strd x g) → (∀ c, c < N → t 125 c = fz (Xf G O (Ex x (σ 3) c) P Mn NU rw ow) k) →
    ∃ u, L_G_find_95 n (k : Int) t = some u ∧ CB σ u G O M 9600 ∧ u 121 9 = (N : Int) ∧ (∀ g, g < 10 → u 124 g = strd x g) ∧ ∀ c, c < N → u 125 c = fz (Xf G O (Ex x (σ 3) c) P Mn NU rw ow) S := by
  intro d
  induction d with
  | zero =>
    intro n k t hk hn hC h9 h124 h125
    match n, hn with
    | n + 1, _ =>
      have e : k = S := by omega
      subst e
      rw [L_G_find_95, hC.2.2.2.1 2 (by decide), hs, if_pos (Int.le_refl _)]
      exact ⟨t, rfl, ⟨hC.1, hC.2.1, hC.2.2.1, hC.2.2.2.1, hC.2.2.2.2.1, by have := hC.2.2.2.2.2; omega⟩, h9, h124, h125⟩
  | succ d ih =>
    intro n k t hk hn hC h9 h124 h125
    match n, hn with
    | n + 1, hn =>
      obtain ⟨j0, f0, q6, q121, q5, q5b⟩ := hC
      obtain ⟨r12, r122, r123, hRow⟩ := hrw k (by omega)
      have ek : ((k : Int)).toNat = k := by omega
      have er : (((rw k : Nat) : Int)).toNat = rw k := by omega
      have e2 : (k : Int) + 1 = ((k + 1 : Nat) : Int) := by omega
      obtain ⟨p1, p2, m1, m2, C3, C5, C6, Cn, Cb, hD⟩ := id hRow
      have t3 : t 3 = σ 3 := f0 3 (by decide)
      have rowc : ∀ j, 10 ≤ j → j < 58 → t j = σ j := fun j a b => f0 j (by simp; omega)
      have hDt : RowD t (10 + rw k) (drw (NU (rw k)) (P (rw k))) := by
        obtain ⟨d1, d2, d4, d5, d6⟩ := hD
        exact ⟨by rw [rowc _ (by omega) (by omega)]; exact d1, d2, d4, by rw [rowc (10 + rw k + 24) (by omega) (by omega), rowc (10 + rw k + 36) (by omega) (by omega)]; exact d5, d6⟩
      obtain ⟨t1, E1, f1, j1, v6, v5, v126⟩ := spread_ok (x := x) (N := N) (ρ := 10 + rw k) (by omega) hN j0 h9 h124 hDt ⟨by omega, by omega⟩
      have tb := trs_bd (mn := Mn (rw k)) (nums := NU (rw k)) (k := P (rw k)) Cb
      have t16 : (drw (NU (rw k)) (P (rw k))).length ≤ 16 := hD.2.1
      obtain ⟨t2, E2, f2, v125⟩ := find126 (N := N) (r := rw k) (k := k) (s := t1) (S := trs (Mn (rw k)) (NU (rw k)) (P (rw k))) (w := ow k) (f := fun c => fz (Xf G O (Ex x (σ 3) c) P Mn NU rw ow) k) (A := fun c => offL (tw G O (Ex x (σ 3) c)) (drw (NU (rw k)) (P (rw k)))) hN (by omega) (by rw [f1 121 (by decide)]; exact h9) (by rw [f1 _ (by simp; omega), rowc _ (by omega) (by omega)]; exact C6) r12 ⟨by omega, by omega⟩ (by rw [f1 123 (by decide), f0 123 (by decide)]; exact r123) (fun c hc => by
          have ob := offL_bd (G := G) (O := O) (E := Ex x (σ 3) c) (drw (NU (rw k)) (P (rw k)))
          refine ⟨by rw [v126 c hc, t3], ?_, ?_⟩
          · show -2000 ≤ offL (tw G O (Ex x (σ 3) c)) (drw (NU (rw k)) (P (rw k)))
            omega
          · show offL (tw G O (Ex x (σ 3) c)) (drw (NU (rw k)) (P (rw k))) ≤ 2000
            omega) (fun c hc => ⟨by rw [f1 125 (by decide)]; exact h125 c hc, fz_01 k⟩)
      have w121 : t2 121 = t 121 := by rw [f2 121 (by decide)]; exact f1 121 (by decide)
      have w2 : t2 2 = t1 2 := f2 2 (by decide)
      have F : Fr [2, 4, 5, 6, 7, 121, 124, 125, 126, 127, 128] σ t2 := (f0.tr (f1.w (by decide))).tr (f2.w (by decide))
      have z122 : t 122 ((k : Int)).toNat = ((rw k : Nat) : Int) := by rw [ek, f0 122 (by decide)]; exact r122
      rw [L_G_find_95, q121 2 (by decide), hs, if_neg (by omega), if_pos (show 0 ≤ (k : Int) ∧ (k : Int) < 6 by omega), z122, if_pos (show 0 ≤ ((rw k : Nat) : Int) ∧ ((rw k : Nat) : Int) < 12 by omega), er, E1, b0M_some, E2, b0M_some, e2, if_pos (r32_nat (show k + 1 < 2147483648 by omega))]
      refine ih n (k + 1) t2 (by omega) (by omega) ⟨j1.fr f2 (by decide), F, by rw [w2, v6]; exact q6, fun i hi => by rw [w121]; exact q121 i hi, by rw [w2]; omega, by rw [w2]; omega⟩ (by rw [w121]; exact h9) (fun g hg => by rw [f2 124 (by decide), f1 124 (by decide)]; exact h124 g hg) (fun c hc => by
        rw [v125 c hc]
        show _ = fz _ (k + 1)
        rw [fz]; rfl)
theorem find_ok {σ : Mm} {G O M : Law} {x : Int} {S : Nat} {P : Nat → Nat} {Mn : Nat → Int} {NU : Nat → Nat → Int} {rw : Nat → Nat} {ow : Nat → Int} (hJ : JB σ G O M) (hx : 0 ≤ x ∧ x < 2147483648) (h3 : (mem x 10).length ≤ 3) (hS : S ≤ 6) (hs : σ 121 2 = (S : Int)) (hrw : ∀ k, k < S → rw k < 12 ∧ σ 122 k = ((rw k : Nat) : Int) ∧ σ 123 k = ow k ∧ RowC σ (rw k) (P (rw k)) (Mn (rw k)) (NU (rw k))) (hR : 0 ≤ σ 2 5 ∧ σ 2 5 + 20000 < 2147483647) :
    ∃ t, F_G_find x σ = some (((cntF (fun c => fz (Xf G O (Ex x (σ 3) c) P Mn NU rw ow) S) (10 ^ (mem x 10).length) : Nat) : Int), t) ∧ CB σ t G O M 9600 ∧ t 121 9 = ((10 ^ (mem x 10).length : Nat) : Int) ∧ (∀ g, g < 10 → t 124 g = strd x g) ∧ ∀ c, c < 10 ^ (mem x 10).length → t 125 c = fz (Xf G O (Ex x (σ 3) c) P Mn NU rw ow) S := by
  have pw : ∀ k : Nat, k ≤ 3 → 10 ^ k ≤ 1000 := by decide
  have b0 := pw _ h3
  unfold F_G_find
  rw [bindM_eq]
  have e10 : hiM x 10 = 0 := by unfold hiM; omega
  obtain ⟨s1, E1, a1, a2, a3, a4⟩ := find8_ok (x := x) (s := st2 σ 121 9 1) hx h3 10 LF (st2 σ 121 9 1) (by omega) (by unfold LF; omega) (by rw [st2_ss, e10]; rfl) (fun g h1 h2 => by omega) Fr.rf (fun k hk => rfl)
  have E1 : L_G_find_8 LF x 9 (st2 σ 121 9 1) = some s1 := E1
  obtain ⟨s2, E2, v1, f2⟩ := find72 b0 a1
  have f1 : Fr [121, 124] σ s1 := fun i hi => by rw [a3 i hi]; exact st2_ne (fun q => by rw [q] at hi; simp at hi)
  have F : Fr [2, 4, 5, 6, 7, 121, 124, 125, 126, 127, 128] σ s2 := (f1.w (by decide)).tr (f2.w (by decide))
  have FF : Fr [121, 124, 125] σ s2 := (f1.w (by decide)).tr (f2.w (by decide))
  have g2 : s2 2 = σ 2 := FF 2 (by decide)
  obtain ⟨t, E3, c1, c2, c3, c4⟩ := find95 (x := x) (N := 10 ^ (mem x 10).length) (P := P) (Mn := Mn) (NU := NU) (rw := rw) (ow := ow) b0 hS hs hrw hR S LF 0 s2 (by omega) (by unfold LF; omega) ⟨hJ.fr FF (by decide), F, by rw [g2], fun k hk => by rw [f2 121 (by decide), a4 k hk, st2_sk, if_neg hk], by rw [g2]; omega, by rw [g2]; omega⟩ (by rw [f2 121 (by decide)]; exact a1) (fun g hg => by rw [f2 124 (by decide)]; exact a2 g hg) (fun c hc => v1 c hc)
  have E3 : L_G_find_95 LF 0 s2 = some t := E3
  rw [E1, b0M_some, E2, b0M_some, E3, b0M_some, find194 (f := fun c => fz (Xf G O (Ex x (σ 3) c) P Mn NU rw ow) S) b0 c2 c4, b1_some]
  exact ⟨t, rfl, c1, c2, c3, c4⟩
/-- back to a state beside which nothing but the work cells changed -/
theorem CB.rel {σ t μ ν : Mm} {G O M : Law} {B R S n : Int} (h : Rel σ μ B R) (hC : CB σ t G O M n) (hm : QM μ ν) (hr : 0 ≤ t 2 5 ∧ t 2 5 ≤ S) : Rel t ν B S := by
  obtain ⟨j0, f0, q6, q121, q5, q5b⟩ := hC
  have h1 : Rel (st2 t 121 9 (σ 121 9)) ν B S := by
    have e : st2 t 121 9 (σ 121 9) 121 = σ 121 := by
      funext k
      rw [st2_sk]
      by_cases hk : k = 9
      · rw [if_pos hk, hk]
      · rw [if_neg hk]; exact q121 k hk
    have ne : ∀ i, i ≠ 121 → st2 t 121 9 (σ 121 9) i = t i := fun i hi => st2_ne hi
    refine h.ask ⟨fun i hi => ?_, by rw [ne 2 (by decide)]; exact q6, fun k _ => by rw [ne 3 (by decide), f0 3 (by decide)]⟩ hm (fun k hk => by rw [ne 6 (by decide), ne 2 (by decide)]; exact j0.2.2 k hk) (by rw [ne 2 (by decide)]; exact hr)
    by_cases h121 : i = 121
    · rw [h121]; exact e
    · rw [ne i h121]; exact f0 i (by simp; omega)
  obtain ⟨G', O', M', hN, hE⟩ := id h1
  obtain ⟨c, d1, d2⟩ := hE.seen
  have ne : ∀ i, i ≠ 121 → st2 t 121 9 (σ 121 9) i = t i := fun i hi => st2_ne hi
  refine h1.side (fun i hi => (ne i (by omega)).symm) (fun _ _ => rfl) (fun _ _ => rfl) ⟨c, d1, ?_⟩ ?_
  · rw [ne 122 (by decide), ne 123 (by decide), st2_sk, if_neg (by decide)] at d2
    exact d2
  · have := hE.debt
    rw [ne 130 (by decide)] at this
    exact this
/-- the `i`-th that is not 0 -/
def nthF (f : Nat → Int) : Nat → Nat → Nat → Option Nat
  | 0, _, _ => none
  | m + 1, c, i => if f c = 0 then nthF f m (c + 1) i else if i = 0 then some c else nthF f m (c + 1) (i - 1)
theorem cntF_top {f : Nat → Int} {c : Nat} : ∀ {m : Nat}, cntF f c ≤ cntF f (c + m)
  | 0 => Nat.le_refl _
  | m + 1 => by
    have := cntF_top (f := f) (c := c) (m := m)
    show _ ≤ cntF f (c + m + 1)
    rw [cntF]; omega
theorem nthF_some {f : Nat → Int} : ∀ {m c i : Nat}, i + cntF f c < cntF f (c + m) → ∃ d, nthF f m c i = some d ∧ c ≤ d ∧ d < c + m
  | 0, c, i, h => absurd h (by rw [Nat.add_zero]; omega)
  | m + 1, c, i, h => by
    rw [nthF]
    have e : c + (m + 1) = c + 1 + m := by omega
    rw [e] at h
    have s1 : cntF f (c + 1) = cntF f c + (if f c = 0 then 0 else 1) := rfl
    by_cases hz : f c = 0
    · rw [if_pos hz] at s1 ⊢
      obtain ⟨d, d1, d2, d3⟩ := nthF_some (f := f) (m := m) (c := c + 1) (i := i) (by omega)
      exact ⟨d, d1, by omega, by omega⟩
    · rw [if_neg hz] at s1 ⊢
      by_cases hi : i = 0
      · rw [if_pos hi]; exact ⟨c, rfl, Nat.le_refl _, by omega⟩
      · rw [if_neg hi]
        obtain ⟨d, d1, d2, d3⟩ := nthF_some (f := f) (m := m) (c := c + 1) (i := i - 1) (by omega)
        exact ⟨d, d1, by omega, by omega⟩
theorem temperIn_ok {x : Int} {N g i : Nat} {t : Mm} {f : Nat → Int} (hN : N ≤ 1000) (hg : g < 10) (hb : bitI x (g : Int) = 1) (h9 : t 121 9 = (N : Int)) (h124 : ∀ g, g < 10 → t 124 g = strd x g) (h125 : ∀ c, c < N → t 125 c = f c) (hi : i < cntF f N) :
    ∃ d, nthF f N 0 i = some d ∧ d < N ∧ F_G_temperIn (i : Int) (g : Int) t = some ((tpr x d g : Nat) : Int) := by
  have eg : ((g : Int)).toNat = g := by omega
  have st : strd x g = ((10 ^ hiM x (g + 1) : Nat) : Int) := by unfold strd; rw [if_pos hb]
  have sp : ¬ strd x g ≤ 0 := fun q => strd_pos.mp q hb
  have loop : ∀ (m n c i : Nat), c + m = N → m < n → i + cntF f c < cntF f N → i < 2000 → ∃ d, nthF f m c i = some d ∧ d < N ∧ L_G_temperIn_5 n (g : Int) (i : Int) (c : Int) t = some (.inl ((tpr x d g : Nat) : Int)) := by
    intro m
    induction m with
    | zero =>
      intro n c i hc hn hi hi2
      have e : c = N := by omega
      subst e; omega
    | succ m ih =>
      intro n c i hc hn hi hi2
      match n, hn with
      | n + 1, hn =>
        have ec : ((c : Int)).toNat = c := by omega
        have e2 : (c : Int) + 1 = ((c + 1 : Nat) : Int) := by omega
        have c1000 : 0 ≤ (c : Int) ∧ (c : Int) < 1000 := by omega
        have s1 : cntF f (c + 1) = cntF f c + (if f c = 0 then 0 else 1) := rfl
        rw [L_G_temperIn_5, h9, if_neg (by omega), if_pos (show 0 ≤ (g : Int) ∧ (g : Int) < 10 by omega), eg, h124 g hg, if_neg sp, if_pos c1000, bindM_eq, ec, h125 c (by omega), e2, nthF]
        by_cases hz : f c = 0
        · rw [if_pos hz] at s1 ⊢
          rw [if_pos hz]
          dsimp only
          rw [if_pos (r32_nat (show c + 1 < 2147483648 by omega))]
          exact ih n (c + 1) i (by omega) (by omega) (by omega) hi2
        · rw [if_neg hz] at s1 ⊢
          rw [if_neg hz]
          by_cases h0 : i = 0
          · rw [if_pos h0, if_pos (show (i : Int) = 0 by omega), if_pos (show 0 ≤ (g : Int) ∧ (g : Int) < 10 by omega), if_pos (show ¬ strd x g = 0 by omega)]
            have q1 : (c : Int).tdiv (strd x g) = ((c / 10 ^ hiM x (g + 1) : Nat) : Int) := by
              rw [st, Int.tdiv_eq_ediv_of_nonneg (Int.natCast_nonneg _)]; rfl
            have le : c / 10 ^ hiM x (g + 1) ≤ c := Nat.div_le_self _ _
            rw [q1, if_pos (r32_nat (show c / 10 ^ hiM x (g + 1) < 2147483648 by omega)), Int.tmod_eq_emod_of_nonneg (Int.natCast_nonneg _)]
            exact ⟨c, rfl, by omega, rfl⟩
          · have e3 : (i : Int) + (-1) = ((i - 1 : Nat) : Int) := by omega
            rw [if_neg h0, if_neg (show ¬ (i : Int) = 0 by omega), e3, if_pos (r32_nat (show i - 1 < 2147483648 by omega))]
            dsimp only
            rw [if_pos (r32_nat (show c + 1 < 2147483648 by omega))]
            exact ih n (c + 1) (i - 1) (by omega) (by omega) (by omega) (by omega)
  have le := cntF_le (f := f) N
  obtain ⟨d, d1, d2, d3⟩ := loop N LF 0 i (by omega) (by unfold LF; omega) (by simpa [cntF] using hi) (by omega)
  refine ⟨d, d1, d2, ?_⟩
  have d3 : L_G_temperIn_5 LF (g : Int) (i : Int) 0 t = _ := d3
  unfold F_G_temperIn
  rw [d3]; rfl
theorem temperIn_no {x : Int} {N g i : Nat} {t : Mm} {f : Nat → Int} (hN : N ≤ 1000) (hg : g < 10) (hb : ¬ bitI x (g : Int) = 1) (hpos : 1 ≤ N) (h9 : t 121 9 = (N : Int)) (h124 : ∀ g, g < 10 → t 124 g = strd x g) : F_G_temperIn (i : Int) (g : Int) t = some (-1) := by
  have eg : ((g : Int)).toNat = g := by omega
  unfold F_G_temperIn
  rw [show LF = (LF - 1) + 1 by decide, L_G_temperIn_5, h9, if_neg (by omega), if_pos (show 0 ≤ (g : Int) ∧ (g : Int) < 10 by omega), eg, h124 g hg, if_pos (strd_pos.mpr hb)]
  rfl
