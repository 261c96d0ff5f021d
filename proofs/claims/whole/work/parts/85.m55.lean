-- `split` on both sides
def off2 (T : TW) (a b : Int) : Int := wi T a + be T a b + wi T b
def off3 (T : TW) (a b c : Int) : Int := wi T a + be T a b + wi T b + be T b c + wi T c
def sp2 (T : TW) (n a : Nat) : Option (List Nat) := if off2 T a ((n : Int) - a) = 0 then some [a, n - a] else none
def sp3 (T : TW) (n a b : Nat) : Option (List Nat) := if off3 T a b ((n : Int) - a - b) = 0 then some [a, b, n - a - b] else none
def sp3a (T : TW) (n a : Nat) : Option (List Nat) := tryN (sp3 T n a) (n - a - 1) 1
def enc3 : List Nat → Int
  | [a] => (a : Int) * 10000
  | [a, b] => (a : Int) * 10000 + b * 100
  | [a, b, c] => (a : Int) * 10000 + b * 100 + c
  | _ => -1
/-- one to three NUMBERS of 1 to 99 -/
def SpOK (q : List Nat) : Prop := (q.length = 1 ∨ q.length = 2 ∨ q.length = 3) ∧ ∀ c ∈ q, 1 ≤ c ∧ c ≤ 99
/-- the class's NUMBERS below 100 -/
def CW (σ s : Mm) (G O M : Law) : Prop := CJ σ s G O M 1 ∧ ∀ j : Nat, j < 100 → s 115 j = wi (tw G O (σ 3)) (j : Int)
theorem CW.fr {σ s t : Mm} {G O M : Law} (h : CW σ s G O M) (hf : Fr [4, 5, 6, 7] s t) (hc : CJ σ t G O M 1) : CW σ t G O M := ⟨hc, fun j hj => by rw [hf 115 (by decide)]; exact h.2 j hj⟩
theorem split9 {σ τ : Mm} {G O M : Law} (cj : CJ σ τ G O M 1) : Ok (L_E_bestSplit_9 LF 0 τ) (fun s => CW σ s G O M) := by
  obtain ⟨s0, E2, cj0, tab⟩ := loop_inv (L := fun n j s => L_E_bestSplit_9 n j s) (I := fun i s => CJ σ s G O M 1 ∧ ∀ j : Nat, j < i → s 115 j = wi (tw G O (σ 3)) (j : Int)) (x := 100) (out := fun s => s)
    (fun n s => by rw [L_E_bestSplit_9, if_pos (Int.le_refl _)]) (m := 100) (i := 0) (N := LF) (s := τ) (by omega) (by unfold LF; omega) ⟨cj, fun j hj => by omega⟩ (fun n j s _ hj hs => by
      have ej : ((j : Int)).toNat = j := by omega
      have e2 : (j : Int) + 1 = ((j + 1 : Nat) : Int) := by omega
      obtain ⟨⟨v, s1⟩, E3, v1, c1, f1⟩ := hs.1.wi (v := (j : Int)) (by omega) (by omega)
      have v1 : v = wi (tw G O (σ 3)) (j : Int) := v1
      have c1 : CJ σ s1 G O M 1 := c1
      have f1 : Fr [4, 5, 6, 7] s s1 := f1
      refine ⟨st2 s1 115 j v, ?_, c1.frx (S := [115]) (Fr.rf.st (by decide)) (by decide), fun k hk => ?_⟩
      · show L_E_bestSplit_9 (n + 1) (j : Int) s = _
        rw [L_E_bestSplit_9, if_neg (by omega), E3, b1M_some, if_pos (by omega), bindM_eq, ej, e2, if_pos (show r32 ((j + 1 : Nat) : Int) from ⟨by omega, by omega⟩)]
      · rw [st2_sk]
        by_cases e : k = j
        · rw [if_pos e, e, v1]
        · rw [if_neg e, f1 115 (by decide)]; exact hs.2 k (by omega))
  exact ⟨s0, E2, cj0, fun j hj => tab j (by omega)⟩
theorem bestSplit_ok {σ μ : Mm} {G O M : Law} {B R : Int} (hN : Now σ μ G O M B R) (hB : B ≤ 90000000) (hR : R < 2147483647) {n : Nat} (h1 : 1 ≤ n) (h2 : n ≤ 99) :
    (wi (tw G O (σ 3)) (n : Int) = 0 ∧ ∃ s, F_E_bestSplit (n : Int) σ = some (enc3 [n], s) ∧ CJ σ s G O M 1) ∨
    (¬ wi (tw G O (σ 3)) (n : Int) = 0 ∧ ((∃ q s, tryN (sp2 (tw G O (σ 3)) n) (n - 1) 1 = some q ∧ q.length = 2 ∧ SpOK q ∧ F_E_bestSplit (n : Int) σ = some (enc3 q, s) ∧ CJ σ s G O M 1) ∨
      (tryN (sp2 (tw G O (σ 3)) n) (n - 1) 1 = none ∧ ((∃ q s, tryN (sp3a (tw G O (σ 3)) n) (n - 1) 1 = some q ∧ q.length = 3 ∧ SpOK q ∧ F_E_bestSplit (n : Int) σ = some (enc3 q, s) ∧ CJ σ s G O M 1) ∨
        (tryN (sp3a (tw G O (σ 3)) n) (n - 1) 1 = none ∧ ∃ s, F_E_bestSplit (n : Int) σ = some (-1, s) ∧ CJ σ s G O M 1))))) := by
  unfold F_E_bestSplit
  obtain ⟨τ, T1, cj, -⟩ := hN.fresh hB hR
  obtain ⟨s0, E1, cw⟩ := split9 cj
  have en : ((n : Int)).toNat = n := by omega
  rw [T1, b0M_some, E1, b0M_some, if_pos (show 0 ≤ (n : Int) ∧ (n : Int) < 100 by omega), en, cw.2 n (by omega)]
  by_cases hw : wi (tw G O (σ 3)) (n : Int) = 0
  · rw [if_pos hw, if_pos (show r32 ((n : Int) * 10000) from ⟨by omega, by omega⟩)]
    exact Or.inl ⟨hw, s0, rfl, cw.1⟩
  · rw [if_neg hw]
    refine Or.inr ⟨hw, ?_⟩
    have wb : ∀ v : Int, -495 ≤ wi (tw G O (σ 3)) v ∧ wi (tw G O (σ 3)) v ≤ 495 := fun v => wi_bd
    have bb : ∀ a b : Int, -99 ≤ be (tw G O (σ 3)) a b ∧ be (tw G O (σ 3)) a b ≤ 99 := fun a b => be_bd
    have l52 := loop_try (L := fun N j s => L_E_bestSplit_52 N (n : Int) j s) (P := fun s => CW σ s G O M) (Q := fun q z => z.1 = enc3 q ∧ q.length = 2 ∧ SpOK q ∧ CJ σ z.2 G O M 1) (x := (n : Int)) (g := sp2 (tw G O (σ 3)) n) (fun n s _ => by rw [L_E_bestSplit_52, if_pos (Int.le_refl _)]) (m := n - 1) (i := 1) (N := LF) (by omega) (by unfold LF; omega) cw (fun N a s ha1 ha hs => by
      have e2 : (a : Int) + 1 = ((a + 1 : Nat) : Int) := by omega
      have ea : ((a : Int)).toNat = a := by omega
      have ed : ((n : Int) - (a : Int)) = ((n - a : Nat) : Int) := by omega
      have ed2 : (((n - a : Nat) : Int)).toNat = n - a := by omega
      obtain ⟨⟨v, s1⟩, E3, v1, c1, f1⟩ := hs.1.be (a := (a : Int)) (b := ((n - a : Nat) : Int)) (by omega) (by omega) (by omega)
      have v1 : v = be (tw G O (σ 3)) (a : Int) ((n - a : Nat) : Int) := v1
      have c2 : CW σ s1 G O M := hs.fr f1 c1
      have b1 := wb (a : Int)
      have b2 := wb ((n - a : Nat) : Int)
      have b3 := bb (a : Int) ((n - a : Nat) : Int)
      rw [L_E_bestSplit_52, if_neg (show ¬ (n : Int) ≤ (a : Int) by omega), if_pos (show 0 ≤ (a : Int) ∧ (a : Int) < 100 by omega), if_pos (show r32 ((n : Int) - (a : Int)) from ⟨by omega, by omega⟩), ed, E3, b1M_some, if_pos (show 0 ≤ ((n - a : Nat) : Int) ∧ ((n - a : Nat) : Int) < 100 by omega), ea, ed2, hs.2 a (by omega), c2.2 (n - a) (by omega), v1, if_pos (show r32 (wi (tw G O (σ 3)) (a : Int) + be (tw G O (σ 3)) (a : Int) ((n - a : Nat) : Int) + wi (tw G O (σ 3)) ((n - a : Nat) : Int)) from ⟨by omega, by omega⟩)]
      unfold sp2 off2
      rw [ed]
      by_cases hq : wi (tw G O (σ 3)) (a : Int) + be (tw G O (σ 3)) (a : Int) ((n - a : Nat) : Int) + wi (tw G O (σ 3)) ((n - a : Nat) : Int) = 0
      · rw [if_pos hq, if_pos hq, if_pos (show r32 ((a : Int) * 10000 + ((n - a : Nat) : Int) * 100) from ⟨by omega, by omega⟩)]
        exact Or.inl ⟨[a, n - a], _, rfl, rfl, rfl, rfl, ⟨Or.inr (Or.inl rfl), fun c hc => by simp at hc; omega⟩, c1⟩
      · rw [if_neg hq, if_neg hq, e2, if_pos (show r32 ((a + 1 : Nat) : Int) from ⟨by omega, by omega⟩)]
        exact Or.inr ⟨rfl, s1, rfl, c2⟩)
    rcases l52 with ⟨q, z, q1, q2, q3⟩ | ⟨q1, z, q2, q3⟩
    · have q2 : L_E_bestSplit_52 LF (n : Int) 1 s0 = some (.inl z) := q2
      rw [q2, b0MS_l]
      exact Or.inl ⟨q, z.2, q1, q3.2.1, q3.2.2.1, by rw [← q3.1], q3.2.2.2⟩
    · have q2 : L_E_bestSplit_52 LF (n : Int) 1 s0 = some (.inr z) := q2
      rw [q2, b0MS_r]
      refine Or.inr ⟨q1, ?_⟩
      have l113 : ∀ (a : Nat) s, 1 ≤ a → (a : Int) < n → CW σ s G O M → (∃ q z, sp3a (tw G O (σ 3)) n a = some q ∧ L_E_bestSplit_113 LF (n : Int) (a : Int) ((1 : Nat) : Int) s = some (.inl z) ∧ (z.1 = enc3 q ∧ q.length = 3 ∧ SpOK q ∧ CJ σ z.2 G O M 1)) ∨ (sp3a (tw G O (σ 3)) n a = none ∧ ∃ z, L_E_bestSplit_113 LF (n : Int) (a : Int) ((1 : Nat) : Int) s = some (.inr z) ∧ CW σ z G O M) := fun a s ha1 ha hs => by
        have ed : ((n : Int) - (a : Int)) = ((n - a : Nat) : Int) := by omega
        refine loop_try (L := fun N j s => L_E_bestSplit_113 N (n : Int) (a : Int) j s) (P := fun s => CW σ s G O M) (Q := fun q z => z.1 = enc3 q ∧ q.length = 3 ∧ SpOK q ∧ CJ σ z.2 G O M 1) (x := ((n - a : Nat) : Int)) (g := sp3 (tw G O (σ 3)) n a) (fun N s _ => by rw [L_E_bestSplit_113, ed, if_pos (show r32 ((n - a : Nat) : Int) from ⟨by omega, by omega⟩), if_pos (Int.le_refl _)]) (m := n - a - 1) (i := 1) (N := LF) (by omega) (by unfold LF; omega) hs (fun N b s hb1 hb hs => ?_)
        have e2 : (b : Int) + 1 = ((b + 1 : Nat) : Int) := by omega
        have ea : ((a : Int)).toNat = a := by omega
        have eb : ((b : Int)).toNat = b := by omega
        have ec : ((n - a : Nat) : Int) - (b : Int) = ((n - a - b : Nat) : Int) := by omega
        have ec2 : (((n - a - b : Nat) : Int)).toNat = n - a - b := by omega
        obtain ⟨⟨v, s1⟩, E3, v1, c1, f1⟩ := hs.1.be (a := (a : Int)) (b := (b : Int)) (by omega) (by omega) (by omega)
        have v1 : v = be (tw G O (σ 3)) (a : Int) (b : Int) := v1
        have c2 : CW σ s1 G O M := hs.fr f1 c1
        obtain ⟨⟨w, s2⟩, E4, w1, c3, f2⟩ := c2.1.be (a := (b : Int)) (b := ((n - a - b : Nat) : Int)) (by omega) (by omega) (by omega)
        have w1 : w = be (tw G O (σ 3)) (b : Int) ((n - a - b : Nat) : Int) := w1
        have c4 : CW σ s2 G O M := c2.fr f2 c3
        have b1 := wb (a : Int)
        have b2 := wb (b : Int)
        have b3 := wb ((n - a - b : Nat) : Int)
        have b4 := bb (a : Int) (b : Int)
        have b5 := bb (b : Int) ((n - a - b : Nat) : Int)
        rw [L_E_bestSplit_113, ed, if_pos (show r32 ((n - a : Nat) : Int) from ⟨by omega, by omega⟩), if_neg (show ¬ ((n - a : Nat) : Int) ≤ (b : Int) by omega), ec, bindM_eq, if_pos (show 0 ≤ (a : Int) ∧ (a : Int) < 100 by omega), E3, b1M_some, if_pos (show 0 ≤ (b : Int) ∧ (b : Int) < 100 by omega), if_pos (show r32 ((n - a - b : Nat) : Int) from ⟨by omega, by omega⟩), E4, b1M_some, if_pos (show 0 ≤ ((n - a - b : Nat) : Int) ∧ ((n - a - b : Nat) : Int) < 100 by omega), ea, eb, ec2, hs.2 a (by omega), c2.2 b (by omega), c4.2 (n - a - b) (by omega), v1, w1, bindM_eq]
        unfold sp3
        have eo : (n : Int) - (a : Int) - (b : Int) = ((n - a - b : Nat) : Int) := by omega
        rw [eo]
        have eof : off3 (tw G O (σ 3)) (a : Int) (b : Int) ((n - a - b : Nat) : Int) = wi (tw G O (σ 3)) (a : Int) + be (tw G O (σ 3)) (a : Int) (b : Int) + wi (tw G O (σ 3)) (b : Int) + be (tw G O (σ 3)) (b : Int) ((n - a - b : Nat) : Int) + wi (tw G O (σ 3)) ((n - a - b : Nat) : Int) := rfl
        rw [← eof]
        rw [← eof.symm] at eof
        have ob : r32 (off3 (tw G O (σ 3)) (a : Int) (b : Int) ((n - a - b : Nat) : Int)) := by
          unfold off3
          exact ⟨by omega, by omega⟩
        rw [if_pos ob]
        by_cases hq : off3 (tw G O (σ 3)) (a : Int) (b : Int) ((n - a - b : Nat) : Int) = 0
        · rw [if_pos hq, if_pos hq, if_pos (show r32 ((a : Int) * 10000 + (b : Int) * 100 + ((n - a - b : Nat) : Int)) from ⟨by omega, by omega⟩)]
          exact Or.inl ⟨[a, b, n - a - b], _, rfl, rfl, rfl, rfl, ⟨Or.inr (Or.inr rfl), fun c hc => by simp at hc; omega⟩, c3⟩
        · rw [if_neg hq, if_neg hq, e2, if_pos (show r32 ((b + 1 : Nat) : Int) from ⟨by omega, by omega⟩)]
          exact Or.inr ⟨rfl, s2, rfl, c4⟩
      have l106 := loop_try (L := fun N j s => L_E_bestSplit_106 N (n : Int) j s) (P := fun s => CW σ s G O M) (Q := fun q z => z.1 = enc3 q ∧ q.length = 3 ∧ SpOK q ∧ CJ σ z.2 G O M 1) (x := (n : Int)) (g := sp3a (tw G O (σ 3)) n) (fun n s _ => by rw [L_E_bestSplit_106, if_pos (Int.le_refl _)]) (m := n - 1) (i := 1) (N := LF) (by omega) (by unfold LF; omega) q3 (fun N a s ha1 ha hs => by
        have e2 : (a : Int) + 1 = ((a + 1 : Nat) : Int) := by omega
        rcases l113 a s ha1 ha hs with ⟨q, z, q1, q2, q3⟩ | ⟨q1, z, q2, q3⟩
        · have q2 : L_E_bestSplit_113 LF (n : Int) (a : Int) 1 s = some (.inl z) := q2
          rw [L_E_bestSplit_106, if_neg (show ¬ (n : Int) ≤ (a : Int) by omega), q2, b0MS_l]
          exact Or.inl ⟨q, z, q1, rfl, q3⟩
        · have q2 : L_E_bestSplit_113 LF (n : Int) (a : Int) 1 s = some (.inr z) := q2
          rw [L_E_bestSplit_106, if_neg (show ¬ (n : Int) ≤ (a : Int) by omega), q2, b0MS_r, e2, if_pos (show r32 ((a + 1 : Nat) : Int) from ⟨by omega, by omega⟩)]
          exact Or.inr ⟨q1, z, rfl, q3⟩)
      rcases l106 with ⟨q, z, q1, q2, q3⟩ | ⟨q1, z, q2, q3⟩
      · have q2 : L_E_bestSplit_106 LF (n : Int) 1 _ = some (.inl z) := q2
        rw [q2, b0MS_l]
        exact Or.inl ⟨q, z.2, q1, q3.2.1, q3.2.2.1, by rw [← q3.1], q3.2.2.2⟩
      · have q2 : L_E_bestSplit_106 LF (n : Int) 1 _ = some (.inr z) := q2
        rw [q2, b0MS_r]
        exact Or.inr ⟨q1, z, rfl, q3.1⟩
