-- the reference's cases
theorem tens_ok {k : Nat} (h : k ≤ 3) : F_M_tens (k : Int) = some ((10 ^ k : Nat) : Int) := by
  have : k = 0 ∨ k = 1 ∨ k = 2 ∨ k = 3 := by omega
  rcases this with rfl | rfl | rfl | rfl <;> rfl
theorem figs_M {x : Int} (hx : 0 ≤ x ∧ x < 2147483648) (h3 : (mem x 10).length ≤ 3) {ν : Mm} : ∃ s, L_M_laysFigures_25 LF x 0 0 ν = some (((mem x 10).length : Int), s) ∧ LiesAt (s 236) (mem x 10) ∧ Fr [236] ν s := by
  obtain ⟨q, E, s1, s2, s3⟩ := loop_inv2 (L := fun N j (q : Int × Mm) => L_M_laysFigures_25 N x q.1 j q.2) (I := fun i q => LiesAt (q.2 236) (mem x i) ∧ q.1 = ((mem x i).length : Int) ∧ Fr [236] ν q.2) (x := 10) (out := fun q => q)
    (fun N q _ => by
      show L_M_laysFigures_25 (N + 1) x q.1 10 q.2 = _
      rw [L_M_laysFigures_25, if_pos (by decide)]) (m := 10) (i := 0) (N := LF) (s := ((0 : Int), ν)) (by omega) (by unfold LF; omega) ⟨fun i hi => by simp [mem] at hi, rfl, Fr.rf⟩ (fun N j q _ hj hq => by
      obtain ⟨t1, t2, t3⟩ := hq
      have e2 : (j : Int) + 1 = ((j + 1 : Nat) : Int) := by omega
      have next : r32 ((j + 1 : Nat) : Int) := r32_nat (by omega)
      have le := mem_len_le (x := x) (j := j + 1) (d := 10 - (j + 1))
      rw [show j + 1 + (10 - (j + 1)) = 10 by omega] at le
      show ∃ q' : Int × Mm, L_M_laysFigures_25 (N + 1) x q.1 (j : Int) q.2 = L_M_laysFigures_25 N x q'.1 ((j + 1 : Nat) : Int) q'.2 ∧ _
      rw [L_M_laysFigures_25, if_neg (by omega), hasM_ok hx.1 hx.2 (by omega) (by omega), b1_some, bindM_eq, t2]
      by_cases hb : bitI x (j : Int) = 1
      · have em : mem x (j + 1) = mem x j ++ [j] := by rw [mem, if_pos hb]
        have elen : ((mem x j).length : Int) + 1 = ((mem x (j + 1)).length : Int) := by rw [em]; simp
        have el : (((mem x j).length : Int)).toNat = (mem x j).length := by omega
        rw [hb, if_neg ne10, if_pos (by omega), el, bindM_eq, elen, if_pos (show r32 ((mem x (j + 1)).length : Int) from ⟨by omega, by omega⟩)]
        dsimp only
        rw [e2, if_pos next]
        refine ⟨(((mem x (j + 1)).length : Int), st2 q.2 236 (mem x j).length (j : Int)), rfl, ?_, rfl, t3.st (by decide)⟩
        rw [em]
        show LiesAt (st2 q.2 236 (mem x j).length (j : Int) 236) (mem x j ++ [j])
        exact t1.snoc (fun i hi => by rw [st2_sk, if_neg (by omega)]) (st2_ss _ _ _ _)
      · have em : mem x (j + 1) = mem x j := by rw [mem, if_neg hb]
        have hb0 : bitI x (j : Int) = 0 := by
          rcases bitI_01 x (j : Int) with h | h
          · exact h
          · exact absurd h hb
        rw [hb0, if_pos rfl]
        dsimp only
        rw [e2, if_pos next]
        exact ⟨(((mem x j).length : Int), q.2), rfl, by rw [em]; exact t1, by rw [em], t3⟩)
  have E : L_M_laysFigures_25 LF x 0 0 ν = some (q.1, q.2) := E
  exact ⟨q.2, by rw [E, s2], s1, s3⟩
/-- as now, the TEMPERS of the set aside -/
def AgX (x : Int) (E F : Nat → Int) : Prop := ∀ k : Nat, k ≤ 40 → ¬ (k < 10 ∧ bitI x (k : Int) = 1) → F k = E k
theorem AgX.rf {x : Int} {E : Nat → Int} : AgX x E E := fun _ _ _ => rfl
theorem AgX.ex {x : Int} {E : Nat → Int} {c : Nat} : AgX x E (Ex x E c) := fun k _ h => by unfold Ex; rw [if_neg h]
theorem tempers_M {μ ν : Mm} {G O M : Law} {x : Int} {E F : Nat → Int} {c : Nat} (h : MJ μ ν G O M F) (ha : AgX x E F) (hE : EnvOK E) (hl : LiesAt (ν 236) (mem x 10)) (h3 : (mem x 10).length ≤ 3) (hc : c < 1000) :
    ∃ t, F_M_laysTempers (c : Int) ((mem x 10).length : Int) ν = some t ∧ MJ μ t G O M (Ex x E c) ∧ Fr [225] ν t := by
  obtain ⟨t, E1, f1, h1, h2⟩ := loop_inv2 (L := fun N j t => L_M_laysTempers_2 N (c : Int) ((mem x 10).length : Int) j t) (I := fun i t => Fr [225] ν t ∧ (∀ j, j < i → t 225 ((mem x 10).getD j 0) = ((tpr x c ((mem x 10).getD j 0) : Nat) : Int)) ∧ ∀ k, (∀ j, j < i → (mem x 10).getD j 0 ≠ k) → t 225 k = ν 225 k) (x := (mem x 10).length) (out := fun t => t)
    (fun N t _ => by
      show L_M_laysTempers_2 (N + 1) (c : Int) ((mem x 10).length : Int) ((mem x 10).length : Int) t = _
      rw [L_M_laysTempers_2, if_pos (Int.le_refl _)]) (m := (mem x 10).length) (i := 0) (N := LF) (s := ν) (by omega) (by unfold LF; omega) ⟨Fr.rf, fun j hj => by omega, fun _ _ => rfl⟩ (fun N i t _ hi ht => by
      obtain ⟨f1, h1, h2⟩ := ht
      have ei : ((i : Int)).toNat = i := by omega
      have e2 : (i : Int) + 1 = ((i + 1 : Nat) : Int) := by omega
      have e3 : ((mem x 10).length : Int) - 1 - (i : Int) = (((mem x 10).length - 1 - i : Nat) : Int) := by omega
      obtain ⟨m1, m2, m3⟩ := mem_of (x := x) (j := 10) (k := i) hi
      have hi2 : hiM x ((mem x 10).getD i 0 + 1) = (mem x 10).length - 1 - i := by
        unfold hiM
        have : (mem x ((mem x 10).getD i 0 + 1)).length = i + 1 := by
          rw [mem, if_pos m2]; simp; exact m3
        omega
      have p1 : 1 ≤ 10 ^ ((mem x 10).length - 1 - i) := Nat.one_le_pow _ _ (by omega)
      have q1 : (c : Int).tdiv ((10 ^ ((mem x 10).length - 1 - i) : Nat) : Int) = ((c / 10 ^ ((mem x 10).length - 1 - i) : Nat) : Int) := by
        rw [Int.tdiv_eq_ediv_of_nonneg (Int.natCast_nonneg _)]; rfl
      have le : c / 10 ^ ((mem x 10).length - 1 - i) ≤ c := Nat.div_le_self _ _
      have q2 : (((c / 10 ^ ((mem x 10).length - 1 - i) : Nat) : Int)).tmod 10 = ((tpr x c ((mem x 10).getD i 0) : Nat) : Int) := by
        rw [Int.tmod_eq_emod_of_nonneg (Int.natCast_nonneg _)]
        unfold tpr
        rw [hi2]; rfl
      have t236 : t 236 i = (((mem x 10).getD i 0 : Nat) : Int) := by rw [f1 236 (by decide)]; exact hl i hi
      have eg : ((((mem x 10).getD i 0 : Nat) : Int)).toNat = (mem x 10).getD i 0 := Int.toNat_natCast _
      have ne : ¬ ((10 ^ ((mem x 10).length - 1 - i) : Nat) : Int) = 0 := fun q => by
        have := Int.ofNat_inj.mp (show ((10 ^ ((mem x 10).length - 1 - i) : Nat) : Int) = ((0 : Nat) : Int) from q)
        omega
      show ∃ t', L_M_laysTempers_2 (N + 1) (c : Int) ((mem x 10).length : Int) (i : Int) t = L_M_laysTempers_2 N (c : Int) ((mem x 10).length : Int) ((i + 1 : Nat) : Int) t' ∧ _
      rw [L_M_laysTempers_2, if_neg (by omega), if_pos (show 0 ≤ (i : Int) ∧ (i : Int) < 3 by omega), e3, if_pos (r32_nat (by omega)), tens_ok (by omega), b1_some, if_pos ne, q1, if_pos (r32_nat (by omega)), ei, t236, if_pos (show 0 ≤ (((mem x 10).getD i 0 : Nat) : Int) ∧ (((mem x 10).getD i 0 : Nat) : Int) < 10 by omega), q2, eg, bindM_eq, e2, if_pos (r32_nat (by omega))]
      refine ⟨_, rfl, f1.st (by decide), fun j hj => ?_, fun k hk => ?_⟩
      · rw [st2_sk]
        by_cases e : (mem x 10).getD j 0 = (mem x 10).getD i 0
        · rw [if_pos e, e]
        · rw [if_neg e]
          exact h1 j (by
            by_cases ej : j = i
            · exact absurd (by rw [ej]) e
            · omega)
      · rw [st2_sk, if_neg (fun q => hk i (by omega) q.symm)]
        exact h2 k (fun j hj => hk j (by omega)))
  have E1 : L_M_laysTempers_2 LF (c : Int) ((mem x 10).length : Int) 0 ν = some t := E1
  unfold F_M_laysTempers
  rw [E1, b0M_some]
  have eq : Eq40 (Ex x E c) (EM t) := fun k hk => by
    unfold Ex
    by_cases hb : k < 10 ∧ bitI x (k : Int) = 1
    · rw [if_pos hb]
      unfold EM
      rw [if_pos hb.1]
      obtain ⟨a1, a2⟩ := mem_at (x := x) (j := 10) (g := k) hb.1 hb.2
      have := h1 _ a1
      rw [a2] at this; exact this
    · rw [if_neg hb, ← ha k hk hb, ← h.2.1 k hk]
      unfold EM
      by_cases k10 : k < 10
      · rw [if_pos k10, if_pos k10]
        exact h2 k (fun j hj q => hb ⟨k10, by
          have := (mem_of (x := x) (j := 10) (k := j) hj).2.1
          rw [q] at this; exact this⟩)
      · rw [if_neg k10, if_neg k10, f1 226 (by decide), f1 227 (by decide), f1 228 (by decide), f1 200 (by decide)]
  obtain ⟨⟨o1, o2, o3, o4, o5⟩, o6, o7⟩ := h
  exact ⟨t, rfl, ⟨⟨o1.fr f1 (by rw [f1 201 (by decide)]) (by decide), o2, o3, o4, (Ex_env hE c).ext eq⟩, eq, o7.tr (QM.of f1 (by decide))⟩, f1⟩
abbrev SB : List Nat := [200, 223, 224, 229, 230, 231, 232]
theorem isAsSeen_ok {μ ν : Mm} {G O M : Law} {F : Nat → Int} {S : Nat} {P : Nat → Nat} {Mn : Nat → Int} {NU : Nat → Nat → Int} {rw : Nat → Nat} {ow : Nat → Int} (h : MJ μ ν G O M F) (hS : S ≤ 6) (hs : μ 201 4 = (S : Int)) (hrw : ∀ k, k < S → rw k < 12 ∧ μ 201 (82 + 2 * k) = ((rw k : Nat) : Int) ∧ μ 201 (83 + 2 * k) = ow k ∧ RowM (μ 201) (rw k) (P (rw k)) (Mn (rw k)) (NU (rw k))) :
    ∃ t, F_M_isAsSeen ν = some (fz (Xf G O F P Mn NU rw ow) S, t) ∧ MJ μ t G O M F ∧ Fr SB ν t := by
  have loop : ∀ (d n k : Nat) (t : Mm), k + d = S → d < n → MJ μ t G O M F → Fr SB ν t → (∀ j, j < k → Xf G O F P Mn NU rw ow j = 0) → ∃ u, b0MS (L_M_isAsSeen_2 n (k : Int) t) (fun y => some y) (fun s4 => some ((1 : Int), s4)) = some (fz (Xf G O F P Mn NU rw ow) S, u) ∧ MJ μ u G O M F ∧ Fr SB ν u := by
    intro d
    induction d with
    | zero =>
      intro n k t hk hn hM hf hz
      match n, hn with
      | n + 1, _ =>
        have e : k = S := by omega
        subst e
        rw [L_M_isAsSeen_2, hM.2.2.1 201 (by omega), hs, if_pos (Int.le_refl _), b0MS_r, fz_1 hz]
        exact ⟨t, rfl, hM, hf⟩
    | succ d ih =>
      intro n k t hk hn hM hf hz
      match n, hn with
      | n + 1, hn =>
        obtain ⟨r12, r82, r83, hRow⟩ := hrw k (by omega)
        have e2 : (k : Int) + 1 = ((k + 1 : Nat) : Int) := by omega
        have i1 : (82 + 2 * (k : Int)).toNat = 82 + 2 * k := by omega
        have i2 : (82 + 2 * (k : Int) + 1).toNat = 83 + 2 * k := by omega
        have c1 : 0 ≤ 82 + 2 * (k : Int) ∧ 82 + 2 * (k : Int) < 5240 := by omega
        have c2 : 0 ≤ 82 + 2 * (k : Int) + 1 ∧ 82 + 2 * (k : Int) + 1 < 5240 := by omega
        have t201 : t 201 = μ 201 := hM.2.2.1 201 (by omega)
        obtain ⟨t1, E1, m1, L1, n1, f1, -⟩ := hM.row r12 hRow
        obtain ⟨⟨v, t2⟩, E2, v1, m2, f2, -⟩ := m1.out L1
        have v1 : v = trs (Mn (rw k)) (t1 229) (P (rw k)) + offL (tw G O F) (drw (t1 229) (P (rw k))) := v1
        have m2 : MJ μ t2 G O M F := m2
        have f2 : Fr SM t1 t2 := f2
        have p4 : P (rw k) ≤ 4 := hRow.2.1
        rw [trs_cong (f := t1 229) (g := NU (rw k)) (fun i hi => n1 i (by omega)), drw_cong (f := t1 229) (g := NU (rw k)) (fun i hi => n1 i (by omega))] at v1
        have g201 : t2 201 (83 + 2 * k) = ow k := by rw [m2.2.2.1 201 (by omega)]; exact r83
        have F2 : Fr SB ν t2 := (hf.tr (f1.w (by decide))).tr (f2.w (by decide))
        rw [L_M_isAsSeen_2, t201, hs, if_neg (by omega), if_pos c1, i1, r82, E1, b0M_some, E2, b1M_some, if_pos c2, i2, g201]
        by_cases hv : v = ow k
        · rw [if_pos hv, e2, if_pos (r32_nat (by omega))]
          exact ih n (k + 1) t2 (by omega) (by omega) m2 F2 (fun j hj => by
            by_cases e : j = k
            · subst e
              unfold Xf; omega
            · exact hz j (by omega))
        · rw [if_neg hv, b0MS_l, fz_0 (k := k) (by omega) (by unfold Xf; omega)]
          exact ⟨t2, rfl, m2, F2⟩
  unfold F_M_isAsSeen
  obtain ⟨u, E, u1, u2⟩ := loop S LF 0 ν (by omega) (by unfold LF; omega) h Fr.rf (fun j hj => by omega)
  exact ⟨u, E, u1, u2⟩
