-- `game`: the reference, and both
/-- the reference plays over `l` -/
def MG (σ μ s : Mm) (G O M : Law) (l : List Nat) : Prop := MJ μ s G O M (σ 3) ∧ LiesAt (s 240) l ∧ s 200 62 = (l.length : Int)
theorem MG.fr {σ μ s t : Mm} {G O M : Law} {l : List Nat} (h : MG σ μ s G O M l) (hf : Fr [223, 224] s t) (hc : MJ μ t G O M (σ 3)) : MG σ μ t G O M l := ⟨hc, by rw [hf 240 (by decide)]; exact h.2.1, by rw [hf 200 (by decide)]; exact h.2.2⟩
/-- is it good to set the `i`-th? -/
def GD (T : TW) (m : Nat → Int) (n : Nat) (g : Nat → Int) (mask last i : Nat) : Prop := bitI (mask : Int) (i : Int) = 0 ∧ g (7 * (mask + 2 ^ i) + i) = 0 ∧ (last < n → T (m last) (m i) 1 = 1000)
theorem isGood_M {σ μ s : Mm} {G O M : Law} {l : List Nat} (hs : MG σ μ s G O M l) (hl6 : l.length < 7) (hl : ∀ j, j < l.length → l.getD j 0 < 10) {mask last i : Nat} (h2 : mask < 2 ^ l.length) (hla : last ≤ l.length) (hi : i < l.length) :
    ∃ v t, F_M_isGood (mask : Int) (last : Int) (i : Int) s = some (v, t) ∧ MG σ μ t G O M l ∧ Fr [223, 224] s t ∧ ((v = 1 ∧ GD (tw G O (σ 3)) (gL l) l.length (s 241) mask last i) ∨ (v = 0 ∧ ¬ GD (tw G O (σ 3)) (gL l) l.length (s 241) mask last i)) := by
  have p6 := pow6 l.length hl6
  have m64 : mask < 64 := by omega
  have ei : ((i : Int)).toNat = i := by omega
  unfold F_M_isGood
  rw [hasM_ok (by omega) (by omega) (by omega) (by omega), b1_some]
  rcases bitI_01 (mask : Int) (i : Int) with hb | hb
  · rw [hb, if_pos rfl, bindM_eq]
    have q := b6_2 mask m64 i (by omega) hb
    have q5 := b6_5 l.length hl6 mask h2 i hi hb
    have i1 : (7 * ((mask + 2 ^ i : Nat) : Int) + (i : Int)).toNat = 7 * (mask + 2 ^ i) + i := by omega
    have k0 : (0 : Int) ≤ ((mask + 2 ^ i : Nat) : Int) := Int.natCast_nonneg _
    have k1 : ((mask + 2 ^ i : Nat) : Int) < (64 : Nat) := Int.ofNat_lt.mpr (by omega)
    have cc : (0 : Int) ≤ 7 * ((mask + 2 ^ i : Nat) : Int) + (i : Int) ∧ 7 * ((mask + 2 ^ i : Nat) : Int) + (i : Int) < 448 := by
      generalize ((mask + 2 ^ i : Nat) : Int) = k at k0 k1
      omega
    have J2 : ∀ t, MG σ μ t G O M l → Fr [223, 224] s t → (last < l.length → tw G O (σ 3) (gL l last) (gL l i) 1 = 1000) → ∃ v u, (if 0 ≤ (7 * (ior (mask : Int) (ishl 1 (i : Int)))) + (i : Int) ∧ (7 * (ior (mask : Int) (ishl 1 (i : Int)))) + (i : Int) < 448 then if t 241 (((7 * (ior (mask : Int) (ishl 1 (i : Int)))) + (i : Int)).toNat) = 0 then some ((1 : Int), t) else some (0, t) else none) = some (v, u) ∧ MG σ μ u G O M l ∧ Fr [223, 224] s u ∧ ((v = 1 ∧ GD (tw G O (σ 3)) (gL l) l.length (s 241) mask last i) ∨ (v = 0 ∧ ¬ GD (tw G O (σ 3)) (gL l) l.length (s 241) mask last i)) := fun t ht hf hT => by
      rw [q, if_pos cc, i1, hf 241 (by decide)]
      by_cases hg : s 241 (7 * (mask + 2 ^ i) + i) = 0
      · rw [if_pos hg]
        exact ⟨1, t, rfl, ht, hf, Or.inl ⟨rfl, hb, hg, hT⟩⟩
      · rw [if_neg hg]
        exact ⟨0, t, rfl, ht, hf, Or.inr ⟨rfl, fun q => hg q.2.1⟩⟩
    rw [hs.2.2]
    by_cases hn : (l.length : Int) ≤ (last : Int)
    · rw [if_pos hn]
      exact J2 s hs Fr.rf (fun h => by omega)
    · have ela : ((last : Int)).toNat = last := by omega
      have g1 := hs.2.1 last (by omega)
      have g2 := hs.2.1 i hi
      have b1 := hl last (by omega)
      have b2 := hl i hi
      obtain ⟨t, E1, mt, ft⟩ := hs.1.doQ (l := l.getD last 0) (r := l.getD i 0) (ap := 0) (la := 1) b1 b2 (by omega) (by omega)
      have E1 : F_M_doQuarrel (gL l last) (gL l i) 0 1 s = _ := E1
      have eq : qv G (σ 3) ((l.getD last 0 : Nat) : Int) ((l.getD i 0 : Nat) : Int) 0 1 = q0 (tw G O (σ 3)) (gL l last) (gL l i) 1 := by rw [q0_qv]; rfl
      rw [if_neg hn, if_pos (show 0 ≤ (last : Int) ∧ (last : Int) < 6 by omega), if_pos (show 0 ≤ (i : Int) ∧ (i : Int) < 6 by omega), ela, ei, g1, g2, E1, b1M_some, eq]
      have mt' := hs.fr ft mt
      unfold q0
      by_cases hT : tw G O (σ 3) (gL l last) (gL l i) 1 = 1000
      · rw [if_pos hT, if_pos rfl]
        dsimp only
        exact J2 t mt' ft (fun _ => hT)
      · rw [if_neg hT, if_neg ne10]
        exact ⟨0, t, rfl, mt', ft, Or.inr ⟨rfl, fun q => hT (q.2.2 (by omega))⟩⟩
  · rw [hb, if_neg ne10]
    exact ⟨0, s, rfl, hs, Fr.rf, Or.inr ⟨rfl, fun q => by have := q.1; omega⟩⟩
theorem goodOf_M {σ μ s : Mm} {G O M : Law} {l : List Nat} (hs : MG σ μ s G O M l) (hl6 : l.length < 7) (hl : ∀ j, j < l.length → l.getD j 0 < 10) {mask last : Nat} (h2 : mask < 2 ^ l.length) (hla : last ≤ l.length) :
    ∃ v t, F_M_goodOf (mask : Int) (last : Int) s = some (v, t) ∧ MG σ μ t G O M l ∧ Fr [223, 224] s t ∧ ((∃ i : Nat, i < l.length ∧ v = (i : Int) ∧ GD (tw G O (σ 3)) (gL l) l.length (s 241) mask last i ∧ ∀ j, j < i → ¬ GD (tw G O (σ 3)) (gL l) l.length (s 241) mask last j) ∨ (v = -1 ∧ ∀ j, j < l.length → ¬ GD (tw G O (σ 3)) (gL l) l.length (s 241) mask last j)) := by
  unfold F_M_goodOf
  have loop : ∀ (d N i : Nat) (t : Mm), i + d = l.length → d < N → MG σ μ t G O M l → Fr [223, 224] s t → (∀ j, j < i → ¬ GD (tw G O (σ 3)) (gL l) l.length (s 241) mask last j) → (∃ (k : Nat) (u : Mm), L_M_goodOf_2 N (mask : Int) (last : Int) (i : Int) t = some (.inl ((k : Int), u)) ∧ MG σ μ u G O M l ∧ Fr [223, 224] s u ∧ k < l.length ∧ GD (tw G O (σ 3)) (gL l) l.length (s 241) mask last k ∧ ∀ j, j < k → ¬ GD (tw G O (σ 3)) (gL l) l.length (s 241) mask last j) ∨ (∃ u, L_M_goodOf_2 N (mask : Int) (last : Int) (i : Int) t = some (.inr u) ∧ MG σ μ u G O M l ∧ Fr [223, 224] s u ∧ ∀ j, j < l.length → ¬ GD (tw G O (σ 3)) (gL l) l.length (s 241) mask last j) := by
    intro d
    induction d with
    | zero =>
      intro N i t hi hN ht hf hno
      match N, hN with
      | N + 1, _ =>
        rw [L_M_goodOf_2, ht.2.2, if_pos (by omega)]
        exact Or.inr ⟨t, rfl, ht, hf, fun j hj => hno j (by omega)⟩
    | succ d ih =>
      intro N i t hi hN ht hf hno
      match N, hN with
      | N + 1, hN =>
        have e2 : (i : Int) + 1 = ((i + 1 : Nat) : Int) := by omega
        obtain ⟨v, u, E1, hu, fu, hv⟩ := isGood_M ht hl6 hl (mask := mask) (last := last) (i := i) h2 hla (by omega)
        rw [hf 241 (by decide)] at hv
        rw [L_M_goodOf_2, ht.2.2, if_neg (by omega), E1, b1M_some]
        rcases hv with ⟨v1, hV⟩ | ⟨v0, hV⟩
        · rw [if_neg (by omega)]
          exact Or.inl ⟨i, u, rfl, hu, hf.tr fu, by omega, hV, hno⟩
        · rw [if_pos v0, e2, if_pos (show r32 ((i + 1 : Nat) : Int) from ⟨by omega, by omega⟩)]
          exact ih N (i + 1) u (by omega) (by omega) hu (hf.tr fu) (fun j hj => by
            by_cases e : j = i
            · rw [e]; exact hV
            · exact hno j (by omega))
  rcases loop l.length LF 0 s (by omega) (by unfold LF; omega) hs Fr.rf (fun j hj => by omega) with ⟨k, u, E, h1, h2', h3, h4, h5⟩ | ⟨u, E, h1, h2', h3⟩
  · rw [show ((0 : Nat) : Int) = 0 from rfl] at E
    rw [E, b0MS_l]
    exact ⟨_, u, rfl, h1, h2', Or.inl ⟨k, h3, rfl, h4, h5⟩⟩
  · rw [show ((0 : Nat) : Int) = 0 from rfl] at E
    rw [E, b0MS_r]
    exact ⟨-1, u, rfl, h1, h2', Or.inr ⟨rfl, h3⟩⟩
theorem VM_cg {T : TW} {m : Nat → Int} {n : Nat} {f g : Nat → Int} {mask last : Nat} (h : ∀ mask2 i, mask < mask2 → i < n → g (7 * mask2 + i) = f (7 * mask2 + i)) : VM T m n g mask last ↔ VM T m n f mask last := by
  constructor
  · rintro (h0 | ⟨i, i1, i2, i3, i4⟩)
    · exact Or.inl h0
    · have pi : 1 ≤ 2 ^ i := Nat.one_le_two_pow
      exact Or.inr ⟨i, i1, i2, by rw [← h (mask + 2 ^ i) i (by omega) i1]; exact i3, i4⟩
  · rintro (h0 | ⟨i, i1, i2, i3, i4⟩)
    · exact Or.inl h0
    · have pi : 1 ≤ 2 ^ i := Nat.one_le_two_pow
      exact Or.inr ⟨i, i1, i2, by rw [h (mask + 2 ^ i) i (by omega) i1]; exact i3, i4⟩
theorem rowM_ {σ μ s : Mm} {G O M : Law} {l : List Nat} (hs : MG σ μ s G O M l) (hl6 : l.length < 7) (hl1 : 1 ≤ l.length) (hl : ∀ j, j < l.length → l.getD j 0 < 10) {mask : Nat} (h2 : mask < 2 ^ l.length) (hT : TabM (tw G O (σ 3)) (gL l) l.length (s 241) (mask + 1)) :
    ∃ t, L_M_game_90 LF (mask : Int) 0 s = some t ∧ MG σ μ t G O M l ∧ TabM (tw G O (σ 3)) (gL l) l.length (t 241) mask := by
  have p6 := pow6 l.length hl6
  obtain ⟨t, E, c1, t1, t2⟩ := loop_inv2 (L := fun N j t => L_M_game_90 N (mask : Int) j t) (I := fun i t => MG σ μ t G O M l ∧ (∀ mask2 last2, mask < mask2 → last2 < l.length → t 241 (7 * mask2 + last2) = s 241 (7 * mask2 + last2)) ∧ ∀ last2, last2 < i → (t 241 (7 * mask + last2) = 1 ∧ VM (tw G O (σ 3)) (gL l) l.length (s 241) mask last2) ∨ (t 241 (7 * mask + last2) = 0 ∧ ¬ VM (tw G O (σ 3)) (gL l) l.length (s 241) mask last2)) (x := l.length) (out := fun t => t)
    (fun N t ht => by
      show L_M_game_90 (N + 1) (mask : Int) (l.length : Int) t = _
      rw [L_M_game_90, ht.1.2.2, if_pos (Int.le_refl _)]) (m := l.length) (i := 0) (N := LF) (s := s) (by omega) (by unfold LF; omega) ⟨hs, fun _ _ _ _ => rfl, fun last h => by omega⟩ (fun N last t _ hla ht => by
      obtain ⟨c1, t1, t2⟩ := ht
      have e2 : (last : Int) + 1 = ((last + 1 : Nat) : Int) := by omega
      have i1 : (7 * (mask : Int) + (last : Int)).toNat = 7 * mask + last := by omega
      have next : r32 ((last + 1 : Nat) : Int) := ⟨by omega, by omega⟩
      have cc : (0 : Int) ≤ 7 * (mask : Int) + (last : Int) ∧ 7 * (mask : Int) + (last : Int) < 448 := by omega
      have put : ∀ (v : Int) (u : Mm), MG σ μ u G O M l → Fr [223, 224] t u → ((v = 1 ∧ VM (tw G O (σ 3)) (gL l) l.length (s 241) mask last) ∨ (v = 0 ∧ ¬ VM (tw G O (σ 3)) (gL l) l.length (s 241) mask last)) → (MG σ μ (st2 u 241 (7 * mask + last) v) G O M l ∧ (∀ mask2 last2, mask < mask2 → last2 < l.length → st2 u 241 (7 * mask + last) v 241 (7 * mask2 + last2) = s 241 (7 * mask2 + last2)) ∧ ∀ last2, last2 < last + 1 → (st2 u 241 (7 * mask + last) v 241 (7 * mask + last2) = 1 ∧ VM (tw G O (σ 3)) (gL l) l.length (s 241) mask last2) ∨ (st2 u 241 (7 * mask + last) v 241 (7 * mask + last2) = 0 ∧ ¬ VM (tw G O (σ 3)) (gL l) l.length (s 241) mask last2)) := fun v u hu hf hv => by
        have f1 : Fr [241] u (st2 u 241 (7 * mask + last) v) := Fr.rf.st (by decide)
        refine ⟨⟨hu.1.fr f1 (by decide) (fun k _ => by rw [f1 200 (by decide)]), by rw [f1 240 (by decide)]; exact hu.2.1, by rw [f1 200 (by decide)]; exact hu.2.2⟩, fun mask2 last2 h1 h2 => ?_, fun last2 h' => ?_⟩
        · rw [st2_sk, if_neg (by omega), hf 241 (by decide)]; exact t1 mask2 last2 h1 h2
        · rw [st2_sk]
          by_cases e : last2 = last
          · subst e; rw [if_pos rfl]; exact hv
          · rw [if_neg (by omega), hf 241 (by decide)]; exact t2 last2 (by omega)
      have all : ((2 ^ l.length : Nat) : Int) - 1 = ((2 ^ l.length - 1 : Nat) : Int) := by omega
      have r1 : r32 (((2 ^ l.length - 1 : Nat) : Int)) := ⟨by omega, by
        have : ((2 ^ l.length - 1 : Nat) : Int) ≤ (63 : Nat) := Int.ofNat_le.mpr (by omega)
        omega⟩
      show ∃ t', L_M_game_90 (N + 1) (mask : Int) (last : Int) t = L_M_game_90 N (mask : Int) ((last + 1 : Nat) : Int) t' ∧ _
      rw [L_M_game_90, c1.2.2, if_neg (by omega), b6_4 _ hl6, all, if_pos r1, bindM_eq, bindM_eq]
      by_cases h0 : mask = 2 ^ l.length - 1
      · rw [if_pos (show (mask : Int) = ((2 ^ l.length - 1 : Nat) : Int) from Int.ofNat_inj.mpr h0)]
        dsimp only
        rw [if_pos cc, i1, bindM_eq, e2, if_pos next, nz1]
        exact ⟨_, rfl, put 1 t c1 Fr.rf (Or.inl ⟨rfl, Or.inl h0⟩)⟩
      · obtain ⟨v, u, E1, hu, hf, hv⟩ := goodOf_M c1 hl6 hl (mask := mask) (last := last) h2 (by omega)
        have cg := VM_cg (T := tw G O (σ 3)) (m := gL l) (last := last) (f := s 241) (g := t 241) (mask := mask) t1
        rw [if_neg (show ¬ (mask : Int) = ((2 ^ l.length - 1 : Nat) : Int) from fun q => h0 (Int.ofNat_inj.mp q)), E1, b1M_some]
        rcases hv with ⟨i, hi, v1, hV, -⟩ | ⟨v0, hV⟩
        · rw [if_neg (by omega)]
          dsimp only
          rw [if_pos cc, i1, bindM_eq, e2, if_pos next, nz1]
          exact ⟨_, rfl, put 1 u hu hf (Or.inl ⟨rfl, cg.mp (Or.inr ⟨i, hi, hV.1, hV.2.1, hV.2.2 hla⟩)⟩)⟩
        · rw [if_pos v0]
          dsimp only
          rw [if_pos cc, i1, bindM_eq, e2, if_pos next, nz0]
          refine ⟨_, rfl, put 0 u hu hf (Or.inr ⟨rfl, fun q => ?_⟩)⟩
          rcases cg.mpr q with h | ⟨i, i1, i2, i3, i4⟩
          · exact h0 h
          · exact hV i i1 ⟨i2, i3, fun _ => i4⟩)
  refine ⟨t, E, c1, fun mask2 last hm1 hm2 hla => ?_⟩
  by_cases e : mask2 = mask
  · subst e
    rw [VM_cg (f := s 241) t1]
    exact t2 last hla
  · rw [t1 mask2 last (by omega) hla, VM_cg (f := s 241) (fun a b h1 h2 => t1 a b (by omega) h2)]
    exact hT mask2 last (by omega) hm2 hla
theorem tableM {σ μ : Mm} {G O M : Law} {l : List Nat} (hl6 : l.length < 7) (hl1 : 1 ≤ l.length) (hl : ∀ j, j < l.length → l.getD j 0 < 10) : ∀ (k N : Nat) (s : Mm), k < 2 ^ l.length → k < N → MG σ μ s G O M l → TabM (tw G O (σ 3)) (gL l) l.length (s 241) (k + 1) →
    ∃ t, L_M_game_83 N (k : Int) s = some t ∧ MG σ μ t G O M l ∧ TabM (tw G O (σ 3)) (gL l) l.length (t 241) 1 := by
  intro k
  induction k with
  | zero =>
    intro N s h2 hN hs hT
    match N, hN with
    | N + 1, _ =>
      rw [L_M_game_83, if_pos (by omega)]
      exact ⟨s, rfl, hs, hT⟩
  | succ k ih =>
    intro N s h2 hN hs hT
    match N, hN with
    | N + 1, hN =>
      have p6 := pow6 l.length hl6
      obtain ⟨t, E, ht, hT2⟩ := rowM_ hs hl6 hl1 hl h2 hT
      have e : ((k + 1 : Nat) : Int) + (-1) = (k : Int) := by omega
      rw [L_M_game_83, if_neg (by omega), E, b0M_some, e, if_pos (show r32 (k : Int) from ⟨by omega, by omega⟩)]
      exact ih N t (by omega) (by omega) ht hT2
theorem players_M {x : Int} (hx : 0 ≤ x ∧ x < 2147483648) (h6 : (mem x 10).length ≤ 6) {ν : Mm} (h62 : ν 200 62 = 0) : ∃ s, L_M_game_34 LF x 0 ν = some s ∧ LiesAt (s 240) (mem x 10) ∧ s 200 62 = ((mem x 10).length : Int) ∧ Fr [200, 240] ν s ∧ ∀ k, k ≠ 62 → s 200 k = ν 200 k := by
  obtain ⟨s, E, s1, s2, s3, s4⟩ := loop_inv2 (L := fun N j t => L_M_game_34 N x j t) (I := fun i t => LiesAt (t 240) (mem x i) ∧ t 200 62 = ((mem x i).length : Int) ∧ Fr [200, 240] ν t ∧ ∀ k, k ≠ 62 → t 200 k = ν 200 k) (x := 10) (out := fun t => t)
    (fun N t _ => by
      show L_M_game_34 (N + 1) x 10 t = _
      rw [L_M_game_34, if_pos (by decide)]) (m := 10) (i := 0) (N := LF) (s := ν) (by omega) (by unfold LF; omega) ⟨fun i hi => by simp [mem] at hi, by rw [h62]; rfl, Fr.rf, fun _ _ => rfl⟩ (fun N j t _ hj ht => by
      obtain ⟨t1, t2, t3, t4⟩ := ht
      have e2 : (j : Int) + 1 = ((j + 1 : Nat) : Int) := by omega
      have next : r32 ((j + 1 : Nat) : Int) := ⟨by omega, by omega⟩
      have le := mem_len_le (x := x) (j := j + 1) (d := 10 - (j + 1))
      rw [show j + 1 + (10 - (j + 1)) = 10 by omega] at le
      show ∃ t', L_M_game_34 (N + 1) x (j : Int) t = L_M_game_34 N x ((j + 1 : Nat) : Int) t' ∧ _
      rw [L_M_game_34, if_neg (by omega), hasM_ok hx.1 hx.2 (by omega) (by omega), b1_some, bindM_eq, t2]
      by_cases hb : bitI x (j : Int) = 1
      · have em : mem x (j + 1) = mem x j ++ [j] := by rw [mem, if_pos hb]
        have elen : ((mem x j).length : Int) + 1 = ((mem x (j + 1)).length : Int) := by rw [em]; simp
        have el : (((mem x j).length : Int)).toNat = (mem x j).length := by omega
        have z : st2 t 240 (mem x j).length (j : Int) 200 62 = ((mem x j).length : Int) := by rw [st2_ne (by decide)]; exact t2
        rw [hb, if_neg ne10, if_pos (by omega), el, bindM_eq, z, elen, if_pos (show r32 ((mem x (j + 1)).length : Int) from ⟨by omega, by omega⟩), bindM_eq]
        dsimp only
        rw [e2, if_pos next]
        refine ⟨st2 (st2 t 240 (mem x j).length (j : Int)) 200 62 ((mem x (j + 1)).length : Int), rfl, ?_, st2_ss _ _ _ _, (t3.st (by decide)).st (by decide), fun k hk => by rw [st2_sk, if_neg hk, st2_ne (by decide)]; exact t4 k hk⟩
        rw [st2_ne (by decide), em]
        exact t1.snoc (fun i hi => by rw [st2_sk, if_neg (by omega)]) (st2_ss _ _ _ _)
      · have em : mem x (j + 1) = mem x j := by rw [mem, if_neg hb]
        have hb0 : bitI x (j : Int) = 0 := by
          rcases bitI_01 x (j : Int) with q | q
          · exact q
          · exact absurd q hb
        rw [hb0, if_pos rfl]
        dsimp only
        rw [e2, if_pos next]
        exact ⟨t, rfl, by rw [em]; exact t1, by rw [em]; exact t2, t3, t4⟩)
  exact ⟨s, E, s1, s2, s3, s4⟩
theorem game_rel {σ μ : Mm} {B R : Int} (h : Rel σ μ B R) (hB : B + 400 ≤ 90000000) (hR : R + 1000 < 2147483647) (x y : Int) : Op (F_A_game x y σ) (F_M_game x y μ) B (R + 1000) := by
  obtain ⟨G, O, M, hN, hE⟩ := id h
  have hr := hN.round
  have out : Rel σ μ B (R + 1000) := h.w (Int.le_refl _) (by omega)
  unfold F_A_game F_M_game
  rw [isSet_A, in_ok, b1_some, b1_some]
  by_cases hx : 1 ≤ x ∧ x ≤ 1023
  · obtain ⟨k, rfl⟩ := Int.eq_ofNat_of_zero_le (show 0 ≤ x by omega)
    rw [if_pos hx, if_neg ne10, many_ok (by omega), b1_some, popmem (by omega), mem10 (by omega)]
    by_cases h6 : ((mem (k : Int) 10).length : Int) ≤ 6
    · rw [if_pos (show 1 ≤ (k : Int) ∧ (k : Int) ≤ 1023 ∧ ((mem (k : Int) 10).length : Int) ≤ 6 from ⟨hx.1, hx.2, h6⟩), if_neg ne10, if_pos h6]
      unfold F_E_bestBeginning
      obtain ⟨τ, T1, cj, -⟩ := hN.fresh (by omega) (by omega)
      obtain ⟨ν, E1, mj, -⟩ := hN.lays
      obtain ⟨⟨n, s1⟩, T2, hn, hl1, f1⟩ := listMembers_ok (x := (k : Int)) (most := 10) (s := τ) ⟨by omega, by omega⟩ (by omega) (by omega)
      have hn : n = ((mem (k : Int) 10).length : Int) := hn
      have f1 : Fr [117] τ s1 := f1
      have hl1 : LiesAt (s1 117) (mem (k : Int) 10) := hl1
      have T2 : F_E_listMembers (k : Int) 10 τ = some (n, s1) := T2
      have hlt : ∀ j, j < (mem (k : Int) 10).length → (mem (k : Int) 10).getD j 0 < 10 := fun j hj => by
        rw [List.getD_eq_getElem?_getD, List.getElem?_eq_getElem hj]
        exact mem_lt (List.getElem_mem hj)
      have hpos : 1 ≤ (mem (k : Int) 10).length := by
        have : ∀ a : Nat, a < 32 → ∀ b : Nat, b < 32 → 1 ≤ 32 * a + b → 1 ≤ (mem ((32 * a + b : Nat) : Int) 10).length := by decide +kernel
        have := this (k / 32) (by omega) (k % 32) (by omega) (by omega)
        rw [show 32 * (k / 32) + k % 32 = k by omega] at this; exact this
      obtain ⟨s2, T3, cg, hTC⟩ := tableC (l := mem (k : Int) 10) ⟨cj.frx f1 (by decide), hl1⟩ (by omega) hlt
      have p6 := pow6 (mem (k : Int) 10).length (by omega)
      have all : ((2 ^ (mem (k : Int) 10).length : Nat) : Int) - 1 = ((2 ^ (mem (k : Int) 10).length - 1 : Nat) : Int) := by omega
      have r1 : r32 (((2 ^ (mem (k : Int) 10).length - 1 : Nat) : Int)) := ⟨by omega, by
        have : ((2 ^ (mem (k : Int) 10).length - 1 : Nat) : Int) ≤ (63 : Nat) := Int.ofNat_le.mpr (by omega)
        omega⟩
      rw [T1, b0M_some, T2, b1M_some, hn, T3, b0M_some, b6_4 _ (by omega), bindM_eq, all, if_pos r1]
      -- the reference
      have f62 : Fr [200] ν (st2 ν 200 62 0) := Fr.rf.st (by decide)
      obtain ⟨u1, E2, u2, u3, u4, u5⟩ := players_M (x := (k : Int)) ⟨by omega, by omega⟩ (by omega) (ν := st2 ν 200 62 0) (st2_ss _ _ _ _)
      have mj1 : MJ μ u1 G O M (σ 3) := by
        refine (mj.fr f62 (by decide) (fun q hq => by rw [st2_sk, if_neg (by omega)])).fr u4 (by decide) (fun q hq => u5 q (by omega))
      have mg : MG σ μ u1 G O M (mem (k : Int) 10) := ⟨mj1, u2, u3⟩
      obtain ⟨w, E3, mw, hTM⟩ := tableM (by omega) hpos hlt (2 ^ (mem (k : Int) 10).length - 1) LF u1 (by omega) (by unfold LF; omega) mg (fun mask last h1 h2 h3 => by omega)
      obtain ⟨v, w2, E4, mw2, fw, hv⟩ := goodOf_M mw (by omega) hlt (mask := 0) (last := (mem (k : Int) 10).length) (by omega) (Nat.le_refl _)
      have E4 : F_M_goodOf 0 ((mem (k : Int) 10).length : Int) w = some (v, w2) := E4
      rw [E1, b0M_some, bindM_eq, E2, b0M_some, u3, b6_4 _ (by omega), bindM_eq, all, if_pos r1, E3, b0M_some, mw.2.2, E4, b1M_some]
      have same := tabs (T := tw G O (σ 3)) (m := gL (mem (k : Int) 10)) (n := (mem (k : Int) 10).length) (by omega) hTC hTM
      -- a beginning that wins, by both tables
      have good : ∀ i, i < (mem (k : Int) 10).length → (GD (tw G O (σ 3)) (gL (mem (k : Int) 10)) (mem (k : Int) 10).length (w 241) 0 (mem (k : Int) 10).length i ↔ s2 118 ((2 ^ (mem (k : Int) 10).length - 1 - 2 ^ i) * 6 + i) = 0) := fun i hi => by
        have pi : 1 ≤ 2 ^ i := Nat.one_le_two_pow
        have q := b6_1 (2 ^ (mem (k : Int) 10).length - 1) (by omega) i (by omega) (b6_6 _ (by omega) i hi)
        have := same _ (2 ^ (mem (k : Int) 10).length - 1 - 2 ^ i) i (Nat.le_refl _) (by omega) hi
        rw [this, show 2 ^ (mem (k : Int) 10).length - 1 - (2 ^ (mem (k : Int) 10).length - 1 - 2 ^ i) = 0 + 2 ^ i by omega]
        constructor
        · exact fun q => q.2.1
        · exact fun q => ⟨by
            have b0 : ∀ i : Nat, i < 6 → bitI ((0 : Nat) : Int) (i : Int) = 0 := by decide +kernel
            exact b0 i (by omega), q, fun h => by omega⟩
      have l86 : ∀ (d N i : Nat), i + d = (mem (k : Int) 10).length → d < N → (∀ j, j < i → ¬ s2 118 ((2 ^ (mem (k : Int) 10).length - 1 - 2 ^ j) * 6 + j) = 0) → (∃ c : Nat, c < (mem (k : Int) 10).length ∧ L_E_bestBeginning_86 N ((mem (k : Int) 10).length : Int) ((2 ^ (mem (k : Int) 10).length - 1 : Nat) : Int) (i : Int) s2 = some (.inl (gL (mem (k : Int) 10) c, s2)) ∧ s2 118 ((2 ^ (mem (k : Int) 10).length - 1 - 2 ^ c) * 6 + c) = 0 ∧ ∀ j, j < c → ¬ s2 118 ((2 ^ (mem (k : Int) 10).length - 1 - 2 ^ j) * 6 + j) = 0) ∨ (L_E_bestBeginning_86 N ((mem (k : Int) 10).length : Int) ((2 ^ (mem (k : Int) 10).length - 1 : Nat) : Int) (i : Int) s2 = some (.inr ()) ∧ ∀ j, j < (mem (k : Int) 10).length → ¬ s2 118 ((2 ^ (mem (k : Int) 10).length - 1 - 2 ^ j) * 6 + j) = 0) := by
        intro d
        induction d with
        | zero =>
          intro N i hi hN hno
          match N, hN with
          | N + 1, _ =>
            rw [L_E_bestBeginning_86, if_pos (by omega)]
            exact Or.inr ⟨rfl, fun j hj => hno j (by omega)⟩
        | succ d ih =>
          intro N i hi hN hno
          match N, hN with
          | N + 1, hN =>
            have e2 : (i : Int) + 1 = ((i + 1 : Nat) : Int) := by omega
            have ei : ((i : Int)).toNat = i := by omega
            have q := b6_1 (2 ^ (mem (k : Int) 10).length - 1) (by omega) i (by omega) (b6_6 _ (by omega) i (by omega))
            have i1 : (((2 ^ (mem (k : Int) 10).length - 1 - 2 ^ i : Nat) : Int) * 6 + (i : Int)).toNat = (2 ^ (mem (k : Int) 10).length - 1 - 2 ^ i) * 6 + i := by omega
            have k0 : (0 : Int) ≤ ((2 ^ (mem (k : Int) 10).length - 1 - 2 ^ i : Nat) : Int) := Int.natCast_nonneg _
            have k1 : ((2 ^ (mem (k : Int) 10).length - 1 - 2 ^ i : Nat) : Int) ≤ (63 : Nat) := Int.ofNat_le.mpr (Nat.le_trans (Nat.sub_le _ _) (by omega))
            have cc : (0 : Int) ≤ ((2 ^ (mem (k : Int) 10).length - 1 - 2 ^ i : Nat) : Int) * 6 + (i : Int) ∧ ((2 ^ (mem (k : Int) 10).length - 1 - 2 ^ i : Nat) : Int) * 6 + (i : Int) < 384 := by
              generalize ((2 ^ (mem (k : Int) 10).length - 1 - 2 ^ i : Nat) : Int) = z at k0 k1
              omega
            rw [L_E_bestBeginning_86, if_neg (by omega), q.2, if_pos cc, i1]
            by_cases hz : s2 118 ((2 ^ (mem (k : Int) 10).length - 1 - 2 ^ i) * 6 + i) = 0
            · rw [if_pos hz, if_pos (show 0 ≤ (i : Int) ∧ (i : Int) < 6 by omega), ei, cg.2 i (by omega)]
              exact Or.inl ⟨i, by omega, rfl, hz, hno⟩
            · rw [if_neg hz, e2, if_pos (show r32 ((i + 1 : Nat) : Int) from ⟨by omega, by omega⟩)]
              exact ih N (i + 1) (by omega) (by omega) (fun j hj => by
                by_cases e : j = i
                · rw [e]; exact hz
                · exact hno j (by omega))
      have fin : ∀ a : Int, Op (some (a, s2)) (some (a, w2)) B (R + 1000) := fun a => Op.ret rfl (h.shut (n := 1) (by omega) (by omega) cg.1 mw2.1)
      rcases l86 (mem (k : Int) 10).length LF 0 (by omega) (by unfold LF; omega) (fun j hj => by omega) with ⟨c, c1, c2, c3, c4⟩ | ⟨c2, c3⟩
      · rw [show ((0 : Nat) : Int) = 0 from rfl] at c2
        rw [c2, b0S_l, b1M_some]
        rcases hv with ⟨i, i1, i2, i3, i4⟩ | ⟨v0, hno⟩
        · have ei : i = c := by
            by_cases a : i < c
            · exact absurd ((good i i1).mp i3) (c4 i a)
            · by_cases b : c < i
              · exact absurd ((good c c1).mpr c3) (i4 c b)
              · omega
          subst ei
          have g0 : 0 ≤ gL (mem (k : Int) 10) i := Int.natCast_nonneg _
          have et : ((i : Int)).toNat = i := by omega
          rw [i2, if_neg (show ¬ gL (mem (k : Int) 10) i = -1 by omega), if_neg (show ¬ (i : Int) = -1 by omega), if_neg (show ¬ (i : Int) = -1 by omega), if_pos (show 0 ≤ (i : Int) ∧ (i : Int) < 6 by omega), et, mw2.2.1 i i1]
          by_cases hy : y = 0
          · rw [if_pos hy, if_pos hy]; exact fin _
          · rw [if_neg hy, if_neg hy]; exact fin _
        · exact absurd ((good c c1).mpr c3) (hno c c1)
      · rw [show ((0 : Nat) : Int) = 0 from rfl] at c2
        rw [c2, b0S_r, b1M_some]
        rcases hv with ⟨i, i1, i2, i3, i4⟩ | ⟨v0, hno⟩
        · exact absurd ((good i i1).mp i3) (c3 i i1)
        · rw [v0, if_pos rfl, if_pos rfl]
          by_cases hy : y = 0
          · rw [if_pos hy, if_pos hy]; exact fin _
          · rw [if_neg hy, if_neg hy]; exact fin _
    · rw [if_neg (show ¬ (1 ≤ (k : Int) ∧ (k : Int) ≤ 1023 ∧ ((mem (k : Int) 10).length : Int) ≤ 6) from fun q => h6 q.2.2), if_pos rfl, if_neg h6]
      exact Op.ret rfl out
  · rw [if_neg (show ¬ (1 ≤ x ∧ x ≤ 1023 ∧ ((mem x 10).length : Int) ≤ 6) from fun q => hx ⟨q.1, q.2.1⟩), if_pos rfl, if_neg hx, if_pos rfl]; exact Op.ret rfl out
