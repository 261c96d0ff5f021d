-- sets of a few
def mem (x : Int) : Nat → List Nat
  | 0 => []
  | j + 1 => if bitI x j = 1 then mem x j ++ [j] else mem x j
theorem mem_lt {x : Int} : ∀ {j c : Nat}, c ∈ mem x j → c < j
  | 0, c, h => by simp [mem] at h
  | j + 1, c, h => by
    simp only [mem] at h
    by_cases hb : bitI x j = 1
    · rw [if_pos hb] at h
      rcases List.mem_append.mp h with h | h
      · have := mem_lt h; omega
      · simp at h; omega
    · rw [if_neg hb] at h
      have := mem_lt h; omega
theorem mem_len_le {x : Int} : ∀ {j d : Nat}, (mem x j).length ≤ (mem x (j + d)).length
  | j, 0 => Nat.le_refl _
  | j, d + 1 => by
    have := mem_len_le (x := x) (j := j) (d := d)
    rw [← Nat.add_assoc, mem]
    split
    · simp; omega
    · exact this
theorem mem_same {x : Int} : ∀ {j d : Nat}, (mem x (j + d)).length = (mem x j).length → mem x (j + d) = mem x j
  | j, 0, _ => rfl
  | j, d + 1, h => by
    have h1 := mem_len_le (x := x) (j := j) (d := d)
    rw [← Nat.add_assoc, mem] at h ⊢
    by_cases hb : bitI x ((j + d : Nat) : Int) = 1
    · rw [if_pos hb] at h
      simp at h; omega
    · rw [if_neg hb] at h ⊢
      exact mem_same h
/-- a list lies in an array -/
def LiesAt (f : Nat → Int) (l : List Nat) : Prop := ∀ i, i < l.length → f i = gL l i
theorem LiesAt.snoc {f g : Nat → Int} {l : List Nat} {c : Nat} (h : LiesAt f l) (hc : ∀ i, i < l.length → g i = f i) (hl : g l.length = (c : Int)) : LiesAt g (l ++ [c]) := fun i hi => by
  rw [List.length_append, List.length_singleton] at hi
  by_cases e : i = l.length
  · rw [e, hl]; unfold gL; simp
  · rw [hc i (by omega), h i (by omega)]
    unfold gL
    rw [List.getD_eq_getElem?_getD, List.getD_eq_getElem?_getD, List.getElem?_append_left (by omega)]
theorem listMembers_ok {x : Int} {most : Nat} {s : Mm} (hx : 0 ≤ x ∧ x < 2147483648) (hm : most ≤ 12) (h6 : (mem x most).length ≤ 6) : Ok (F_E_listMembers x (most : Int) s) (fun r => r.1 = ((mem x most).length : Int) ∧ LiesAt (r.2 117) (mem x most) ∧ Fr [117] s r.2) := by
  unfold F_E_listMembers
  have loop : ∀ (d N j : Nat) (t : Mm), j + d = most → d < N → LiesAt (t 117) (mem x j) → Fr [117] s t → Ok (L_E_listMembers_5 N x (most : Int) ((mem x j).length : Int) (j : Int) t) (fun r => r.1 = ((mem x most).length : Int) ∧ LiesAt (r.2 117) (mem x most) ∧ Fr [117] s r.2) := by
    intro d
    induction d with
    | zero =>
      intro N j t hj hN hl hf
      match N, hN with
      | N + 1, _ =>
        have e : j = most := by omega
        subst e
        rw [L_E_listMembers_5, if_pos (by omega)]
        exact Ok.ret ⟨rfl, hl, hf⟩
    | succ d ih =>
      intro N j t hj hN hl hf
      match N, hN with
      | N + 1, hN =>
        have e2 : (j : Int) + 1 = ((j + 1 : Nat) : Int) := by omega
        have le := mem_len_le (x := x) (j := j) (d := d + 1)
        rw [show j + (d + 1) = most by omega] at le
        rw [L_E_listMembers_5, if_neg (by omega)]
        by_cases h6' : ((6 : Nat) : Int) ≤ ((mem x j).length : Int)
        · rw [if_pos h6']
          have e := mem_same (x := x) (j := j) (d := d + 1) (by rw [show j + (d + 1) = most by omega]; omega)
          rw [show j + (d + 1) = most by omega] at e
          rw [e]
          exact Ok.ret ⟨rfl, hl, hf⟩
        · have el : (((mem x j).length : Int)).toNat = (mem x j).length := by omega
          rw [if_neg h6', bindM_eq, bit_of hx.1 hx.2 (by omega) (by omega)]
          by_cases hb : bitI x (j : Int) = 1
          · have em : mem x (j + 1) = mem x j ++ [j] := by rw [mem, if_pos hb]
            have elen : ((mem x j).length : Int) + 1 = ((mem x (j + 1)).length : Int) := by rw [em]; simp
            rw [if_pos hb, if_pos (by omega), bindM_eq, el, elen, if_pos (show r32 ((mem x (j + 1)).length : Int) from ⟨by omega, by omega⟩)]
            dsimp only
            rw [e2, if_pos (show r32 ((j + 1 : Nat) : Int) from ⟨by omega, by omega⟩)]
            refine ih N (j + 1) _ (by omega) (by omega) ?_ (hf.st (by decide))
            rw [em]
            exact hl.snoc (fun i hi => by rw [st2_sk, if_neg (by omega)]) (st2_ss _ _ _ _)
          · have em : mem x (j + 1) = mem x j := by rw [mem, if_neg hb]
            rw [if_neg hb]
            dsimp only
            rw [e2, if_pos (show r32 ((j + 1 : Nat) : Int) from ⟨by omega, by omega⟩), ← em]
            exact ih N (j + 1) t (by omega) (by omega) (by rw [em]; exact hl) hf
  refine Ok.b1M (loop most LF 0 s (by omega) (by unfold LF; omega) (fun i hi => by simp [mem] at hi) Fr.rf) (fun a t ht => Ok.ret ht)
theorem popmem64 : ∀ a : Nat, a < 64 → ∀ b : Nat, b < 64 → pop 12 (64 * a + b) = ((mem ((64 * a + b : Nat) : Int) 12).length : Int) := by decide +kernel
theorem popmem {k : Nat} (h : k < 2 ^ 12) : pop 12 k = ((mem (k : Int) 12).length : Int) := by
  have := popmem64 (k / 64) (by omega) (k % 64) (by omega)
  rw [show 64 * (k / 64) + k % 64 = k by omega] at this; exact this
theorem mem1012 : ∀ a : Nat, a < 32 → ∀ b : Nat, b < 32 → mem ((32 * a + b : Nat) : Int) 12 = mem ((32 * a + b : Nat) : Int) 10 := by decide +kernel
theorem mem10 {k : Nat} (h : k < 1024) : mem (k : Int) 12 = mem (k : Int) 10 := by
  have := mem1012 (k / 32) (by omega) (k % 32) (by omega)
  rw [show 32 * (k / 32) + k % 32 = k by omega] at this; exact this
theorem isSet_A (x : Int) (most : Int) : F_A_isSet x most = some (if 1 ≤ x ∧ x ≤ 1023 ∧ ((mem x 10).length : Int) ≤ most then 1 else 0) := by
  unfold F_A_isSet
  by_cases h0 : x ≤ 0
  · rw [if_pos h0, if_neg (by omega)]
  · rw [if_neg h0]
    by_cases h1 : 1024 ≤ x
    · rw [if_pos h1, if_neg (by omega)]
    · obtain ⟨k, rfl⟩ := Int.eq_ofNat_of_zero_le (show 0 ≤ x by omega)
      rw [if_neg h1, bitc (by omega), b1_some, popmem (by omega), mem10 (by omega)]
      by_cases h2 : most < ((mem (k : Int) 10).length : Int)
      · rw [if_pos h2, if_neg (by omega)]
      · rw [if_neg h2, if_pos ⟨by omega, by omega, by omega⟩]
/-- bits of up to six -/
theorem b6_1 : ∀ l : Nat, l < 64 → ∀ i : Nat, i < 6 → bitI (l : Int) (i : Int) = 1 → 2 ^ i ≤ l ∧ ixor (l : Int) (ishl 1 (i : Int)) = ((l - 2 ^ i : Nat) : Int) := by decide +kernel
theorem b6_2 : ∀ l : Nat, l < 64 → ∀ i : Nat, i < 6 → bitI (l : Int) (i : Int) = 0 → ior (l : Int) (ishl 1 (i : Int)) = ((l + 2 ^ i : Nat) : Int) := by decide +kernel
theorem b6_3 : ∀ n : Nat, n < 7 → ∀ l : Nat, l < 2 ^ n → ∀ i : Nat, i < n → bitI ((2 ^ n - 1 - l : Nat) : Int) (i : Int) = 1 - bitI (l : Int) (i : Int) := by decide +kernel
theorem b6_4 : ∀ n : Nat, n < 7 → ishl 1 (n : Int) = ((2 ^ n : Nat) : Int) := by decide +kernel
theorem b6_5 : ∀ n : Nat, n < 7 → ∀ l : Nat, l < 2 ^ n → ∀ i : Nat, i < n → bitI (l : Int) (i : Int) = 0 → l + 2 ^ i < 2 ^ n := by decide +kernel
theorem b6_6 : ∀ n : Nat, n < 7 → ∀ i : Nat, i < n → bitI ((2 ^ n - 1 : Nat) : Int) (i : Int) = 1 := by decide +kernel
theorem pow6 : ∀ n : Nat, n < 7 → 2 ^ n ≤ 64 ∧ 1 ≤ 2 ^ n := by decide
