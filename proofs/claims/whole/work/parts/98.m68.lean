-- tempers in cases
theorem r32_nat {n : Nat} (h : n < 2147483648) : r32 (n : Int) := ⟨by omega, by omega⟩
theorem mem_at {x : Int} : ∀ {j g : Nat}, g < j → bitI x (g : Int) = 1 → (mem x g).length < (mem x j).length ∧ (mem x j).getD (mem x g).length 0 = g
  | 0, g, h, _ => by omega
  | j + 1, g, h, hb => by
    by_cases e : g = j
    · subst e
      simp only [mem]
      rw [if_pos hb]
      simp
    · have ih := mem_at (x := x) (j := j) (g := g) (by omega) hb
      simp only [mem]
      by_cases hj : bitI x (j : Int) = 1
      · rw [if_pos hj]
        refine ⟨by simp; omega, ?_⟩
        rw [List.getD_eq_getElem?_getD, List.getElem?_append_left ih.1, ← List.getD_eq_getElem?_getD]; exact ih.2
      · rw [if_neg hj]; exact ih
theorem mem_of {x : Int} : ∀ {j k : Nat}, k < (mem x j).length → (mem x j).getD k 0 < j ∧ bitI x (((mem x j).getD k 0 : Nat) : Int) = 1 ∧ (mem x ((mem x j).getD k 0)).length = k
  | 0, k, h => by simp [mem] at h
  | j + 1, k, h => by
    simp only [mem] at h ⊢
    by_cases hj : bitI x (j : Int) = 1
    · rw [if_pos hj] at h ⊢
      by_cases hk : k < (mem x j).length
      · have ih := mem_of (x := x) (j := j) (k := k) hk
        rw [List.getD_eq_getElem?_getD, List.getElem?_append_left hk, ← List.getD_eq_getElem?_getD]
        exact ⟨by omega, ih.2⟩
      · have e : k = (mem x j).length := by simp at h; omega
        subst e
        have : (mem x j ++ [j]).getD (mem x j).length 0 = j := by simp
        rw [this]
        exact ⟨by omega, hj, rfl⟩
    · rw [if_neg hj] at h ⊢
      have ih := mem_of (x := x) (j := j) (k := k) h
      exact ⟨by omega, ih.2⟩
/-- how many members lie at or above -/
def hiM (x : Int) (g : Nat) : Nat := (mem x 10).length - (mem x g).length
theorem hiM_s {x : Int} {g : Nat} (h : g < 10) : hiM x g = hiM x (g + 1) + (if bitI x (g : Int) = 1 then 1 else 0) := by
  have le := mem_len_le (x := x) (j := g + 1) (d := 10 - (g + 1))
  rw [show g + 1 + (10 - (g + 1)) = 10 by omega] at le
  unfold hiM
  simp only [mem] at le ⊢
  by_cases hb : bitI x (g : Int) = 1
  · rw [if_pos hb] at le
    rw [if_pos hb, if_pos hb]
    simp at le ⊢; omega
  · rw [if_neg hb, if_neg hb]; omega
/-- for each FIGURE: how many cases its TEMPER steps over -/
def strd (x : Int) (g : Nat) : Int := if bitI x (g : Int) = 1 then ((10 ^ hiM x (g + 1) : Nat) : Int) else 0
theorem find8_ok {x : Int} {s : Mm} (hx : 0 ≤ x ∧ x < 2147483648) (h3 : (mem x 10).length ≤ 3) : ∀ (m N : Nat) (t : Mm), m ≤ 10 → m < N → t 121 9 = ((10 ^ hiM x m : Nat) : Int) → (∀ g, m ≤ g → g < 10 → t 124 g = strd x g) → Fr [121, 124] s t → (∀ k, k ≠ 9 → t 121 k = s 121 k) →
    ∃ u, L_G_find_8 N x ((m : Int) - 1) t = some u ∧ u 121 9 = ((10 ^ (mem x 10).length : Nat) : Int) ∧ (∀ g, g < 10 → u 124 g = strd x g) ∧ Fr [121, 124] s u ∧ (∀ k, k ≠ 9 → u 121 k = s 121 k) := by
  intro m
  induction m with
  | zero =>
    intro N t hm hN h9 hg hf hk
    match N, hN with
    | N + 1, _ =>
      rw [L_G_find_8, if_pos (by omega)]
      have e : hiM x 0 = (mem x 10).length := by unfold hiM; simp [mem]
      rw [e] at h9
      exact ⟨t, rfl, h9, fun g h => hg g (by omega) h, hf, hk⟩
  | succ m ih =>
    intro N t hm hN h9 hg hf hk
    match N, hN with
    | N + 1, hN =>
      have em : ((m + 1 : Nat) : Int) - 1 = (m : Int) := by omega
      have tm : ((m : Int)).toNat = m := by omega
      have em2 : (m : Int) + (-1) = (m : Int) - 1 := by omega
      have hs := hiM_s (x := x) (g := m) (by omega)
      have hle : hiM x m ≤ 3 := by unfold hiM; omega
      have pw : ∀ k : Nat, k ≤ 3 → 10 ^ k ≤ 1000 := by decide
      have b0 := pw _ hle
      have b1 := pw (hiM x (m + 1)) (by unfold hiM; omega)
      rw [L_G_find_8, em, if_neg (by omega), bit_of hx.1 hx.2 (by omega) (by omega), bindM_eq, bindM_eq]
      by_cases hb : bitI x (m : Int) = 1
      · have st : strd x m = ((10 ^ hiM x (m + 1) : Nat) : Int) := by unfold strd; rw [if_pos hb]
        rw [if_pos hb] at hs
        have ep : ((10 ^ hiM x (m + 1) : Nat) : Int) * 10 = ((10 ^ hiM x m : Nat) : Int) := by rw [hs, Nat.pow_succ]; omega
        rw [if_pos hb, if_neg ne10]
        dsimp only
        rw [if_pos (show 0 ≤ (m : Int) ∧ (m : Int) < 10 by omega), bindM_eq, if_neg ne10, bindM_eq, tm, st2_ne (by decide), h9, ep, if_pos (r32_nat (show 10 ^ hiM x m < 2147483648 by omega)), bindM_eq, em2, if_pos (show r32 ((m : Int) - 1) from ⟨by omega, by omega⟩)]
        refine ih N _ (by omega) (by omega) (st2_ss _ _ _ _) (fun g g1 g2 => ?_) ((hf.st (by decide)).st (by decide)) (fun k hk2 => by rw [st2_sk, if_neg hk2, st2_ne (by decide)]; exact hk k hk2)
        rw [st2_ne (by decide), st2_sk]
        by_cases e : g = m
        · rw [if_pos e, e, st]
        · rw [if_neg e]; exact hg g (by omega) g2
      · have st : strd x m = 0 := by unfold strd; rw [if_neg hb]
        rw [if_neg hb] at hs
        have ep : ((10 ^ hiM x (m + 1) : Nat) : Int) * 1 = ((10 ^ hiM x m : Nat) : Int) := by rw [hs, Int.mul_one]; rfl
        rw [if_neg hb, if_pos rfl]
        dsimp only
        rw [if_pos (show 0 ≤ (m : Int) ∧ (m : Int) < 10 by omega), bindM_eq, if_pos rfl, bindM_eq, tm, st2_ne (by decide), h9, ep, if_pos (r32_nat (show 10 ^ hiM x m < 2147483648 by omega)), bindM_eq, em2, if_pos (show r32 ((m : Int) - 1) from ⟨by omega, by omega⟩)]
        refine ih N _ (by omega) (by omega) (st2_ss _ _ _ _) (fun g g1 g2 => ?_) ((hf.st (by decide)).st (by decide)) (fun k hk2 => by rw [st2_sk, if_neg hk2, st2_ne (by decide)]; exact hk k hk2)
        rw [st2_ne (by decide), st2_sk]
        by_cases e : g = m
        · rw [if_pos e, e, st]
        · rw [if_neg e]; exact hg g (by omega) g2
/-- the TEMPER of a FIGURE of the set in a case -/
def tpr (x : Int) (c g : Nat) : Nat := c / 10 ^ hiM x (g + 1) % 10
/-- all as now, but the TEMPERS of the set as in a case -/
def Ex (x : Int) (E : Nat → Int) (c k : Nat) : Int := if k < 10 ∧ bitI x (k : Int) = 1 then ((tpr x c k : Nat) : Int) else E k
theorem Ex_env {x : Int} {E : Nat → Int} (h : EnvOK E) (c : Nat) : EnvOK (Ex x E c) := by
  obtain ⟨a1, a2, a3, a4, a5⟩ := h
  refine ⟨fun k hk => ?_, fun k hk => ?_, fun k hk => ?_, fun k hk => ?_, ?_⟩
  · unfold Ex
    by_cases h : k < 10 ∧ bitI x (k : Int) = 1
    · rw [if_pos h]
      have : tpr x c k < 10 := Nat.mod_lt _ (by omega)
      omega
    · rw [if_neg h]; exact a1 k hk
  · unfold Ex; rw [if_neg (fun q => by omega)]; exact a2 k hk
  · unfold Ex; rw [if_neg (fun q => by omega)]; exact a3 k hk
  · unfold Ex; rw [if_neg (fun q => by omega)]; exact a4 k hk
  · unfold Ex; rw [if_neg (fun q => by omega)]; exact a5
/-- what TWO come to turns on a few things alone -/
theorem tw_pts {G O : Law} {E F : Nat → Int} {l r : Nat} {k : Int} (h40 : F 40 = E 40) (hl : F l = E l) (hr : F r = E r) (h1 : F (10 + l) = E (10 + l)) (h2 : F (10 + r) = E (10 + r)) (h3 : F (30 + l) = E (30 + l)) : tw G O F l r k = tw G O E l r k := by
  have hn : ∀ ap la, nmE F (l : Int) (r : Int) ap la = nmE E (l : Int) (r : Int) ap la := fun ap la => by
    funext j
    unfold nmE
    simp only [Int.toNat_natCast, h40, hl, hr, h1, h2, h3]
  unfold tw qv ov
  simp only [hn, Int.toNat_natCast, h3]
