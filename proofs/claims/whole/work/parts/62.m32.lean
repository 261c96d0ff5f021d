-- `turn` on both sides
theorem xor_bd {a : Int} {k : Nat} (ha : 0 ≤ a ∧ a ≤ 1023) (hk : k < 10) : 0 ≤ ixor a (ishl 1 (k : Int)) ∧ ixor a (ishl 1 (k : Int)) ≤ 1023 := by
  obtain ⟨n, rfl⟩ := Int.eq_ofNat_of_zero_le ha.1
  have p1 : (2 : Nat) ^ k ≤ 2 ^ 9 := Nat.pow_le_pow_right (by omega) (by omega)
  have e1 : ishl 1 (k : Int) = ((2 ^ k : Nat) : Int) := by
    have := ishl_nat (a := 1) (k := k) (by omega) (by omega)
    rw [Nat.one_mul] at this
    exact this
  have l : n ^^^ 2 ^ k < 2 ^ 10 := Nat.xor_lt_two_pow (by omega) (by omega)
  rw [e1, ixor_nat (by omega)]
  omega
theorem set_bad {σ μ : Mm} {G O M : Law} {B R : Int} (h : Now σ μ G O M B R) {k : Nat} {v : Int} (hk : k < 10) (hv : 0 ≤ v ∧ v ≤ 1023) : Now (st2 σ 3 (30 + k) v) (st2 μ 201 (170 + k) v) G O M B R ∧ FrC σ (st2 σ 3 (30 + k) v) ∧ FrM μ (st2 μ 201 (170 + k) v) := by
  have hok := h.ok
  have v1 : ∀ j, st2 σ 3 (30 + k) v 3 j = if j = 30 + k then v else σ 3 j := fun j => by simp only [st2_f, reduceIte]
  have e : 170 + k = 140 + (30 + k) := by omega
  rw [e]
  refine set_now h (by omega) ⟨⟨fun j hj => ?_, fun j hj => ?_, fun j hj => ?_, fun j hj => ?_, ?_⟩, ?_, fun j hj => ?_, ?_⟩
  · rw [v1, if_neg (by omega)]; exact hok.1.1 j hj
  · rw [v1, if_neg (by omega)]; exact hok.1.2.1 j hj
  · rw [v1, if_neg (by omega)]; exact hok.1.2.2.1 j hj
  · rw [v1]
    split
    · exact hv
    · exact hok.1.2.2.2.1 j hj
  · rw [v1, if_neg (by omega)]; exact hok.1.2.2.2.2
  · rw [v1, if_neg (by omega)]; exact hok.2.1
  · rw [v1, if_neg (by omega)]; exact hok.2.2.1 j hj
  · rw [v1, if_neg (by omega), v1, if_neg (by omega)]; exact hok.2.2.2
theorem turn_rel {σ μ : Mm} {G O M : Law} {B R : Int} (h : Now σ μ G O M B R) (x y : Int) : Ok (F_A_turn x y σ) (fun a => Ok (F_M_turn x y μ) (fun b => b.1 = a.1 ∧ Now a.2 b.2 G O M B R ∧ FrC σ a.2 ∧ FrM μ b.2)) := by
  unfold F_A_turn F_M_turn
  rw [fig_A, fig_A, fig_M, fig_M]
  simp only [b1_some]
  have nop : ∀ v : Int, Ok (some (v, σ)) (fun a => Ok (some (v, μ)) (fun b => b.1 = a.1 ∧ Now a.2 b.2 G O M B R ∧ FrC σ a.2 ∧ FrM μ b.2)) := fun v => Ok.ret (Ok.ret ⟨rfl, h, FrC.rf, FrM.rf⟩)
  by_cases hx : 0 ≤ x ∧ x < 10
  · rw [if_pos hx, if_neg (show ¬ (1 : Int) = 0 by decide), if_neg (show ¬ (1 : Int) = 0 by decide)]
    by_cases hy : 0 ≤ y ∧ y < 10
    · rw [if_pos hy, if_neg (show ¬ (1 : Int) = 0 by decide), if_neg (show ¬ (1 : Int) = 0 by decide)]
      obtain ⟨k, rfl⟩ := Int.eq_ofNat_of_zero_le hx.1
      obtain ⟨l, rfl⟩ := Int.eq_ofNat_of_zero_le hy.1
      have lk : k < 10 := by omega
      have ll : l < 10 := by omega
      have t0 : ((30 : Int) + (k : Int)).toNat = 30 + k := by omega
      have t1 : ((170 : Int) + (k : Int)).toNat = 170 + k := by omega
      have t2 : ((30 : Int) + (l : Int)).toNat = 30 + l := by omega
      have t3 : ((170 : Int) + (l : Int)).toNat = 170 + l := by omega
      have c1 : (0 : Int) ≤ 30 + (k : Int) ∧ (30 : Int) + (k : Int) < 165 := by omega
      have c2 : (0 : Int) ≤ 170 + (k : Int) ∧ (170 : Int) + (k : Int) < 5240 := by omega
      have c3 : (0 : Int) ≤ 30 + (l : Int) ∧ (30 : Int) + (l : Int) < 165 := by omega
      have c4 : (0 : Int) ≤ 170 + (l : Int) ∧ (170 : Int) + (l : Int) < 5240 := by omega
      obtain ⟨τ, E1, hk⟩ := keep_now h
      obtain ⟨ν, E2, hN, k1, k2, k3⟩ := hk
      have fr := keep_frs k1 k2 k3
      rw [E1, E2, b0M_some, b0M_some]
      unfold F_H_turnTerms F_M_turns2
      simp only [t0, t1, t2, t3, if_pos c1, if_pos c2, if_pos c3, if_pos c4, bindM_eq]
      have sn : ∀ {σ2 μ2 : Mm}, Now σ2 μ2 G O M B R → ∀ j, j < 10 → μ2 201 (170 + j) = σ2 3 (30 + j) := fun {σ2 μ2} hn j hj => by
        have := hn.snap.1 (30 + j) (by omega)
        have e : 140 + (30 + j) = 170 + j := by omega
        rw [e] at this; exact this.symm
      have fin : ∀ {σ2 μ2 : Mm}, Now σ2 μ2 G O M B R → FrC σ σ2 → FrM μ μ2 → Ok (if iand (ishr (σ2 3 (30 + k)) (l : Int)) 1 = 1 then some ((1 : Int), σ2) else some (0, σ2)) (fun a => Ok (b1 (F_M_has (μ2 201 (170 + k)) (l : Int)) fun v5 => some (v5, μ2)) (fun b => b.1 = a.1 ∧ Now a.2 b.2 G O M B R ∧ FrC σ a.2 ∧ FrM μ b.2)) := fun {σ2 μ2} hn f1 f2 => by
        have hb := hn.ok.1.2.2.2.1 k lk
        rw [sn hn k lk, hasM_ok hb.1 (by omega) (by omega) (by omega), bit_of hb.1 (by omega) (by omega) (by omega), b1_some]
        rcases bitI_01 (σ2 3 (30 + k)) (l : Int) with e | e
        · rw [e, if_neg (by decide)]; exact Ok.ret (Ok.ret ⟨rfl, hn, f1, f2⟩)
        · rw [e, if_pos rfl]; exact Ok.ret (Ok.ret ⟨rfl, hn, f1, f2⟩)
      rw [sn hN k lk]
      have s1 := set_bad hN lk (xor_bd (hN.ok.1.2.2.2.1 k lk) ll)
      by_cases hkl : (k : Int) = (l : Int)
      · simp only [if_pos hkl, b1M, b0M]
        have := fin s1.1 (fr.1.tr s1.2.1) (fr.2.tr s1.2.2)
        by_cases hh : iand (ishr (st2 τ 3 (30 + k) (ixor (τ 3 (30 + k)) (ishl 1 (l : Int))) 3 (30 + k)) (l : Int)) 1 = 1
        · rw [if_pos hh] at this ⊢; exact this
        · rw [if_neg hh] at this ⊢; exact this
      · simp only [if_neg hkl]
        rw [sn s1.1 l ll]
        have s2 := set_bad s1.1 ll (xor_bd (k := k) (s1.1.ok.1.2.2.2.1 l ll) lk)
        have := fin s2.1 ((fr.1.tr s1.2.1).tr s2.2.1) ((fr.2.tr s1.2.2).tr s2.2.2)
        simp only [b1M, b0M]
        by_cases hh : iand (ishr (st2 (st2 τ 3 (30 + k) (ixor (τ 3 (30 + k)) (ishl 1 (l : Int)))) 3 (30 + l) (ixor (st2 τ 3 (30 + k) (ixor (τ 3 (30 + k)) (ishl 1 (l : Int))) 3 (30 + l)) (ishl 1 (k : Int))) 3 (30 + k)) (l : Int)) 1 = 1
        · rw [if_pos hh] at this ⊢; exact this
        · rw [if_neg hh] at this ⊢; exact this
    · rw [if_neg hy, if_pos rfl, if_pos rfl]; exact nop 0
  · rw [if_neg hx, if_pos rfl, if_pos rfl]; exact nop 0
