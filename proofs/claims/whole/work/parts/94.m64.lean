-- `game`: both tables
theorem firstN_some {f : Nat → Option Int} {v : Int} : ∀ {m i : Nat}, firstN f m i = some v → ∃ j, i ≤ j ∧ j < i + m ∧ f j = some v
  | 0, _, h => nomatch h
  | m + 1, i, h => by
    simp only [firstN] at h
    cases hf : f i with
    | some u => rw [hf] at h; exact ⟨i, Nat.le_refl _, by omega, by rw [hf]; exact h⟩
    | none =>
      rw [hf] at h
      obtain ⟨j, j1, j2, j3⟩ := firstN_some h
      exact ⟨j, by omega, by omega, j3⟩
/-- the one to move wins, in the class's table (of those left) and in the reference's (of those set) -/
def VC (T : TW) (m : Nat → Int) (n : Nat) (f : Nat → Int) (left last : Nat) : Prop := left = 0 ∨ ∃ i, i < n ∧ bitI (left : Int) (i : Int) = 1 ∧ f ((left - 2 ^ i) * 6 + i) = 0 ∧ T (m last) (m i) 1 = 1000
def VM (T : TW) (m : Nat → Int) (n : Nat) (g : Nat → Int) (mask last : Nat) : Prop := mask = 2 ^ n - 1 ∨ ∃ i, i < n ∧ bitI (mask : Int) (i : Int) = 0 ∧ g (7 * (mask + 2 ^ i) + i) = 0 ∧ T (m last) (m i) 1 = 1000
def TabC (T : TW) (m : Nat → Int) (n : Nat) (f : Nat → Int) (L : Nat) : Prop := ∀ left last, left < L → last < n → (f (left * 6 + last) = 1 ∧ VC T m n f left last) ∨ (f (left * 6 + last) = 0 ∧ ¬ VC T m n f left last)
def TabM (T : TW) (m : Nat → Int) (n : Nat) (g : Nat → Int) (lo : Nat) : Prop := ∀ mask last, lo ≤ mask → mask < 2 ^ n → last < n → (g (7 * mask + last) = 1 ∧ VM T m n g mask last) ∨ (g (7 * mask + last) = 0 ∧ ¬ VM T m n g mask last)
theorem tabs {T : TW} {m : Nat → Int} {n : Nat} {f g : Nat → Int} (hn : n < 7) (hC : TabC T m n f (2 ^ n)) (hM : TabM T m n g 1) : ∀ (k left last : Nat), left ≤ k → left + 1 < 2 ^ n → last < n → f (left * 6 + last) = g (7 * (2 ^ n - 1 - left) + last) := by
  have p6 := pow6 n hn
  intro k
  induction k with
  | zero =>
    intro left last hl hl2 hla
    have e : left = 0 := by omega
    subst e
    rcases hC 0 last (by omega) hla with ⟨a, -⟩ | ⟨-, b⟩
    · rcases hM (2 ^ n - 1 - 0) last (by omega) (by omega) hla with ⟨c, -⟩ | ⟨-, d⟩
      · rw [a, c]
      · exact absurd (Or.inl (by omega)) d
    · exact absurd (Or.inl rfl) b
  | succ k ih =>
    intro left last hl hl2 hla
    by_cases hk : left ≤ k
    · exact ih left last hk hl2 hla
    · have iff : VC T m n f left last ↔ VM T m n g (2 ^ n - 1 - left) last := by
        constructor
        · rintro (h | ⟨i, i1, i2, i3, i4⟩)
          · omega
          · have q := b6_1 left (by omega) i (by omega) i2
            have qb := b6_3 n hn left (by omega) i i1
            rw [i2] at qb
            have pi : 1 ≤ 2 ^ i := Nat.one_le_two_pow
            have := ih (left - 2 ^ i) i (by omega) (by omega) i1
            have e : 2 ^ n - 1 - (left - 2 ^ i) = 2 ^ n - 1 - left + 2 ^ i := by omega
            rw [e] at this
            exact Or.inr ⟨i, i1, by rw [qb]; rfl, by rw [← this]; exact i3, i4⟩
        · rintro (h | ⟨i, i1, i2, i3, i4⟩)
          · omega
          · have qb := b6_3 n hn left (by omega) i i1
            have b1 : bitI (left : Int) (i : Int) = 1 := by omega
            have q := b6_1 left (by omega) i (by omega) b1
            have pi : 1 ≤ 2 ^ i := Nat.one_le_two_pow
            have := ih (left - 2 ^ i) i (by omega) (by omega) i1
            have e : 2 ^ n - 1 - (left - 2 ^ i) = 2 ^ n - 1 - left + 2 ^ i := by omega
            rw [e] at this
            exact Or.inr ⟨i, i1, b1, by rw [this]; exact i3, i4⟩
      rcases hC left last (by omega) hla with ⟨a, b⟩ | ⟨a, b⟩
      · rcases hM (2 ^ n - 1 - left) last (by omega) (by omega) hla with ⟨c, d⟩ | ⟨c, d⟩
        · rw [a, c]
        · exact absurd (iff.mp b) d
      · rcases hM (2 ^ n - 1 - left) last (by omega) (by omega) hla with ⟨c, d⟩ | ⟨c, d⟩
        · exact absurd (iff.mpr d) b
        · rw [a, c]
/-- the class plays over `l` -/
def CG (σ s : Mm) (G O M : Law) (l : List Nat) : Prop := CJ σ s G O M 1 ∧ LiesAt (s 117) l
theorem CG.fr {σ s t : Mm} {G O M : Law} {l : List Nat} (h : CG σ s G O M l) (hf : Fr [4, 5, 6, 7] s t) (hc : CJ σ t G O M 1) : CG σ t G O M l := ⟨hc, by rw [hf 117 (by decide)]; exact h.2⟩
theorem canWin_C {σ s : Mm} {G O M : Law} {l : List Nat} (hs : CG σ s G O M l) (hl6 : l.length < 7) (hl : ∀ j, j < l.length → l.getD j 0 < 10) {left last : Nat} (h1 : 1 ≤ left) (h2 : left < 2 ^ l.length) (hla : last < l.length) :
    ∃ v t, F_E_canWin (left : Int) (last : Int) (l.length : Int) s = some (v, t) ∧ CG σ t G O M l ∧ Fr [4, 5, 6, 7] s t ∧ ((v = 1 ∧ VC (tw G O (σ 3)) (gL l) l.length (s 118) left last) ∨ (v = 0 ∧ ¬ VC (tw G O (σ 3)) (gL l) l.length (s 118) left last)) := by
  have p6 := pow6 l.length hl6
  unfold F_E_canWin
  have gb : ∀ j, j < l.length → 0 ≤ gL l j ∧ gL l j ≤ 9 := fun j hj => by
    have := hl j hj
    unfold gL; omega
  have lp := loop_first (L := fun n j t => L_E_canWin_3 n (left : Int) (last : Int) (l.length : Int) j t) (P := fun t => CG σ t G O M l ∧ Fr [4, 5, 6, 7] s t) (x := (l.length : Int)) (f := fun i => if bitI (left : Int) (i : Int) = 1 ∧ s 118 ((left - 2 ^ i) * 6 + i) = 0 ∧ tw G O (σ 3) (gL l last) (gL l i) 1 = 1000 then some 1 else none)
    (fun n t _ => by rw [L_E_canWin_3, if_pos (Int.le_refl _)]) (m := l.length) (i := 0) (N := LF) (by omega) (by unfold LF; omega) ⟨hs, Fr.rf⟩ (fun n i t _ hi ht => by
      have e2 : (i : Int) + 1 = ((i + 1 : Nat) : Int) := by omega
      have ei : ((i : Int)).toNat = i := by omega
      have ela : ((last : Int)).toNat = last := by omega
      have next : r32 ((i + 1 : Nat) : Int) := ⟨by omega, by omega⟩
      rw [L_E_canWin_3, if_neg (show ¬ (l.length : Int) ≤ (i : Int) by omega), bindM_eq, bit_of (by omega) (by omega) (by omega) (by omega)]
      by_cases hb : bitI (left : Int) (i : Int) = 1
      · have q := b6_1 left (by omega) i (by omega) hb
        have i1 : (((left - 2 ^ i : Nat) : Int) * 6 + (i : Int)).toNat = (left - 2 ^ i) * 6 + i := by omega
        have k0 : (0 : Int) ≤ ((left - 2 ^ i : Nat) : Int) := Int.natCast_nonneg _
        have hl64 : left < 64 := by omega
        have k1 : ((left - 2 ^ i : Nat) : Int) ≤ (63 : Nat) := Int.ofNat_le.mpr (Nat.le_trans (Nat.sub_le _ _) (by omega))
        have cc : (0 : Int) ≤ ((left - 2 ^ i : Nat) : Int) * 6 + (i : Int) ∧ ((left - 2 ^ i : Nat) : Int) * 6 + (i : Int) < 384 := by
          generalize ((left - 2 ^ i : Nat) : Int) = k at k0 k1
          omega
        rw [if_pos hb, q.2, if_pos cc, i1, ht.2 118 (by decide)]
        by_cases hw : s 118 ((left - 2 ^ i) * 6 + i) = 0
        · have ml := ht.1.2 last hla
          have mi := ht.1.2 i (by omega)
          obtain ⟨⟨v, t2⟩, E1, v1, f2, c2⟩ := ht.1.1.two (d := gL l last) (e := gL l i) (m := 1) (gb last hla) (gb i (by omega)) (by omega)
          have v1 : v = tw G O (σ 3) (gL l last) (gL l i) 1 := v1
          have f2 : Fr [4, 5, 6, 7] t t2 := f2
          rw [if_pos hw, if_pos (show 0 ≤ (last : Int) ∧ (last : Int) < 6 by omega), if_pos (show 0 ≤ (i : Int) ∧ (i : Int) < 6 by omega), ei, ela, ml, mi, E1, b1M_some, v1]
          by_cases hT : tw G O (σ 3) (gL l last) (gL l i) 1 = 1000
          · rw [if_pos hT, if_pos ⟨hb, hw, hT⟩]
            exact Or.inl ⟨1, t2, rfl, rfl, ht.1.fr f2 c2, ht.2.tr f2⟩
          · rw [if_neg hT, if_neg (fun q => hT q.2.2)]
            dsimp only
            rw [e2, if_pos next]
            exact Or.inr ⟨rfl, t2, rfl, ht.1.fr f2 c2, ht.2.tr f2⟩
        · rw [if_neg hw, if_neg (show ¬ (bitI (left : Int) (i : Int) = 1 ∧ s 118 ((left - 2 ^ i) * 6 + i) = 0 ∧ tw G O (σ 3) (gL l last) (gL l i) 1 = 1000) from fun q => hw q.2.1)]
          dsimp only
          rw [e2, if_pos next]
          exact Or.inr ⟨rfl, t, rfl, ht⟩
      · rw [if_neg hb, if_neg (show ¬ (bitI (left : Int) (i : Int) = 1 ∧ s 118 ((left - 2 ^ i) * 6 + i) = 0 ∧ tw G O (σ 3) (gL l last) (gL l i) 1 = 1000) from fun q => hb q.1)]
        dsimp only
        rw [e2, if_pos next]
        exact Or.inr ⟨rfl, t, rfl, ht⟩)
  rw [show ((0 : Nat) : Int) = 0 from rfl] at lp
  obtain ⟨y, E, hy⟩ := lp
  have E : L_E_canWin_3 LF (left : Int) (last : Int) (l.length : Int) 0 s = some y := E
  rw [E]
  cases y with
  | inl p =>
    obtain ⟨j, -, j2, j3⟩ := firstN_some hy.l.1
    by_cases c : bitI (left : Int) (j : Int) = 1 ∧ s 118 ((left - 2 ^ j) * 6 + j) = 0 ∧ tw G O (σ 3) (gL l last) (gL l j) 1 = 1000
    · rw [if_pos c] at j3
      have j3 := Option.some.inj j3
      rw [b0MS_l]
      exact ⟨p.1, p.2, rfl, hy.l.2.1, hy.l.2.2, Or.inl ⟨j3.symm, Or.inr ⟨j, by omega, c⟩⟩⟩
    · rw [if_neg c] at j3; exact nomatch j3
  | inr u =>
    rw [b0MS_r]
    have no := firstN_none.mp hy.r.1
    refine ⟨0, u, rfl, hy.r.2.1, hy.r.2.2, Or.inr ⟨rfl, ?_⟩⟩
    rintro (h | ⟨i, i1, i2, i3, i4⟩)
    · omega
    · have := no i (by omega) (by omega)
      rw [if_pos ⟨i2, i3, i4⟩] at this
      exact nomatch this
theorem VC_cg {T : TW} {m : Nat → Int} {n : Nat} {f g : Nat → Int} {left last : Nat} (hl : left < 64) (hn : n < 7) (h : ∀ left2 i, left2 < left → i < n → g (left2 * 6 + i) = f (left2 * 6 + i)) : VC T m n g left last ↔ VC T m n f left last := by
  constructor
  · rintro (h0 | ⟨i, i1, i2, i3, i4⟩)
    · exact Or.inl h0
    · have q := b6_1 left hl i (by omega) i2
      have pi : 1 ≤ 2 ^ i := Nat.one_le_two_pow
      exact Or.inr ⟨i, i1, i2, by rw [← h (left - 2 ^ i) i (by omega) i1]; exact i3, i4⟩
  · rintro (h0 | ⟨i, i1, i2, i3, i4⟩)
    · exact Or.inl h0
    · have q := b6_1 left hl i (by omega) i2
      have pi : 1 ≤ 2 ^ i := Nat.one_le_two_pow
      exact Or.inr ⟨i, i1, i2, by rw [h (left - 2 ^ i) i (by omega) i1]; exact i3, i4⟩
/-- the class's row of the table for what is left -/
theorem rowC {σ s : Mm} {G O M : Law} {l : List Nat} (hs : CG σ s G O M l) (hl6 : l.length < 7) (hl : ∀ j, j < l.length → l.getD j 0 < 10) {left : Nat} (h2 : left < 2 ^ l.length) (hT : TabC (tw G O (σ 3)) (gL l) l.length (s 118) left) :
    ∃ t, L_E_bestBeginning_27 LF (l.length : Int) (left : Int) 0 s = some t ∧ CG σ t G O M l ∧ TabC (tw G O (σ 3)) (gL l) l.length (t 118) (left + 1) := by
  have p6 := pow6 l.length hl6
  obtain ⟨t, E, c1, t1, t2⟩ := loop_inv2 (L := fun N j t => L_E_bestBeginning_27 N (l.length : Int) (left : Int) j t) (I := fun i t => CG σ t G O M l ∧ (∀ left2 last, left2 < left → last < l.length → t 118 (left2 * 6 + last) = s 118 (left2 * 6 + last)) ∧ ∀ last, last < i → (t 118 (left * 6 + last) = 1 ∧ VC (tw G O (σ 3)) (gL l) l.length (s 118) left last) ∨ (t 118 (left * 6 + last) = 0 ∧ ¬ VC (tw G O (σ 3)) (gL l) l.length (s 118) left last)) (x := l.length) (out := fun t => t)
    (fun N t _ => by
      show L_E_bestBeginning_27 (N + 1) (l.length : Int) (left : Int) (l.length : Int) t = _
      rw [L_E_bestBeginning_27, if_pos (Int.le_refl _)]) (m := l.length) (i := 0) (N := LF) (s := s) (by omega) (by unfold LF; omega) ⟨hs, fun _ _ _ _ => rfl, fun last h => by omega⟩ (fun N last t _ hla ht => by
      obtain ⟨c1, t1, t2⟩ := ht
      have e2 : (last : Int) + 1 = ((last + 1 : Nat) : Int) := by omega
      have i1 : ((left : Int) * 6 + (last : Int)).toNat = left * 6 + last := by omega
      have next : r32 ((last + 1 : Nat) : Int) := ⟨by omega, by omega⟩
      have cc : (0 : Int) ≤ (left : Int) * 6 + (last : Int) ∧ (left : Int) * 6 + (last : Int) < 384 := by omega
      have put : ∀ (v : Int) (u : Mm), CG σ u G O M l → Fr [4, 5, 6, 7] t u → ((v = 1 ∧ VC (tw G O (σ 3)) (gL l) l.length (s 118) left last) ∨ (v = 0 ∧ ¬ VC (tw G O (σ 3)) (gL l) l.length (s 118) left last)) → (CG σ (st2 u 118 (left * 6 + last) v) G O M l ∧ (∀ left2 last2, left2 < left → last2 < l.length → st2 u 118 (left * 6 + last) v 118 (left2 * 6 + last2) = s 118 (left2 * 6 + last2)) ∧ ∀ last', last' < last + 1 → (st2 u 118 (left * 6 + last) v 118 (left * 6 + last') = 1 ∧ VC (tw G O (σ 3)) (gL l) l.length (s 118) left last') ∨ (st2 u 118 (left * 6 + last) v 118 (left * 6 + last') = 0 ∧ ¬ VC (tw G O (σ 3)) (gL l) l.length (s 118) left last')) := fun v u hu hf hv => by
        refine ⟨⟨hu.1.frx (S := [118]) (Fr.rf.st (by decide)) (by decide), by rw [st2_ne (by decide)]; exact hu.2⟩, fun left2 last2 h1 h2 => ?_, fun last' h' => ?_⟩
        · rw [st2_sk, if_neg (by omega), hf 118 (by decide)]; exact t1 left2 last2 h1 h2
        · rw [st2_sk]
          by_cases e : last' = last
          · subst e; rw [if_pos rfl]; exact hv
          · rw [if_neg (by omega), hf 118 (by decide)]; exact t2 last' (by omega)
      show ∃ t', L_E_bestBeginning_27 (N + 1) (l.length : Int) (left : Int) (last : Int) t = L_E_bestBeginning_27 N (l.length : Int) (left : Int) ((last + 1 : Nat) : Int) t' ∧ _
      rw [L_E_bestBeginning_27, if_neg (by omega), bindM_eq, bindM_eq]
      by_cases h0 : left = 0
      · rw [if_pos (show (left : Int) = 0 by omega)]
        dsimp only
        rw [if_pos cc, i1, bindM_eq, e2, if_pos next, nz1]
        exact ⟨st2 t 118 (left * 6 + last) 1, rfl, put 1 t c1 Fr.rf (Or.inl ⟨rfl, Or.inl h0⟩)⟩
      · obtain ⟨v, u, E1, hu, hf, hv⟩ := canWin_C c1 hl6 hl (left := left) (last := last) (by omega) h2 hla
        have cg := VC_cg (T := tw G O (σ 3)) (m := gL l) (last := last) (f := s 118) (g := t 118) (left := left) (by omega) hl6 t1
        rw [cg] at hv
        rw [if_neg (show ¬ (left : Int) = 0 by omega), E1, b1M_some]
        rcases hv with ⟨v1, hV⟩ | ⟨v0, hV⟩
        · rw [if_neg (by omega)]
          dsimp only
          rw [if_pos cc, i1, bindM_eq, e2, if_pos next, nz1]
          exact ⟨st2 u 118 (left * 6 + last) 1, rfl, put 1 u hu hf (Or.inl ⟨rfl, hV⟩)⟩
        · rw [if_pos v0]
          dsimp only
          rw [if_pos cc, i1, bindM_eq, e2, if_pos next, nz0]
          exact ⟨st2 u 118 (left * 6 + last) 0, rfl, put 0 u hu hf (Or.inr ⟨rfl, hV⟩)⟩)
  refine ⟨t, E, c1, fun left2 last hl2 hla => ?_⟩
  by_cases e : left2 = left
  · subst e
    rw [VC_cg (f := s 118) (by omega) hl6 t1]
    exact t2 last hla
  · rw [t1 left2 last (by omega) hla, VC_cg (f := s 118) (by omega) hl6 (fun a b h1 h2 => t1 a b (by omega) h2)]
    exact hT left2 last (by omega) hla
theorem tableC {σ s : Mm} {G O M : Law} {l : List Nat} (hs : CG σ s G O M l) (hl6 : l.length < 7) (hl : ∀ j, j < l.length → l.getD j 0 < 10) :
    ∃ t, L_E_bestBeginning_17 LF (l.length : Int) 0 s = some t ∧ CG σ t G O M l ∧ TabC (tw G O (σ 3)) (gL l) l.length (t 118) (2 ^ l.length) := by
  have p6 := pow6 l.length hl6
  exact loop_inv2 (L := fun N j t => L_E_bestBeginning_17 N (l.length : Int) j t) (I := fun i t => CG σ t G O M l ∧ TabC (tw G O (σ 3)) (gL l) l.length (t 118) i) (x := 2 ^ l.length) (out := fun t => t)
    (fun N t _ => by
      show L_E_bestBeginning_17 (N + 1) (l.length : Int) ((2 ^ l.length : Nat) : Int) t = _
      rw [L_E_bestBeginning_17, b6_4 _ hl6, if_pos (Int.le_refl _)]) (m := 2 ^ l.length) (i := 0) (N := LF) (s := s) (by omega) (by unfold LF; omega) ⟨hs, fun a b h => by omega⟩ (fun N left t _ hla ht => by
      have e2 : (left : Int) + 1 = ((left + 1 : Nat) : Int) := by omega
      obtain ⟨u, E1, hu, hT⟩ := rowC ht.1 hl6 hl hla ht.2
      refine ⟨u, ?_, hu, hT⟩
      show L_E_bestBeginning_17 (N + 1) (l.length : Int) (left : Int) t = _
      rw [L_E_bestBeginning_17, b6_4 _ hl6, if_neg (by omega), E1, b0M_some, e2, if_pos (show r32 ((left + 1 : Nat) : Int) from ⟨by omega, by omega⟩)])
