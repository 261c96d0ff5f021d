-- rings of DEBTS: the reference; `ring` on both sides
/-- the reference holds a path -/
def MP (σ μ s : Mm) (G O M : Law) (first : Nat) (p : List Nat) : Prop := MJ μ s G O M (σ 3) ∧ PathAt (s 242) p
theorem isIn_ok {s : Mm} {c len : Nat} (hl : len ≤ 6) : ∀ (m N i : Nat), i + m = len → m < N → L_M_isInRound_2 N (c : Int) (len : Int) (i : Int) s = some (if ∀ j, j < len → i ≤ j → ¬ s 242 j = (c : Int) then .inr () else .inl 1) := by
  intro m
  induction m with
  | zero =>
    intro N i hi hN
    match N, hN with
    | N + 1, _ =>
      rw [L_M_isInRound_2, if_pos (by omega), if_pos (fun j h1 h2 => by omega)]
  | succ m ih =>
    intro N i hi hN
    match N, hN with
    | N + 1, hN =>
      have e2 : (i : Int) + 1 = ((i + 1 : Nat) : Int) := by omega
      have ei : ((i : Int)).toNat = i := by omega
      rw [L_M_isInRound_2, if_neg (by omega), if_pos (show 0 ≤ (i : Int) ∧ (i : Int) < 6 by omega), ei, e2, if_pos (show r32 ((i + 1 : Nat) : Int) from ⟨by omega, by omega⟩)]
      by_cases hs : s 242 i = (c : Int)
      · rw [if_pos hs, if_neg (fun q => q i (by omega) (Nat.le_refl _) hs)]
      · rw [if_neg hs, ih N (i + 1) (by omega) (by omega)]
        congr 1
        by_cases hq : ∀ j, j < len → i + 1 ≤ j → ¬ s 242 j = (c : Int)
        · rw [if_pos hq, if_pos (fun j h1 h2 => by
            by_cases hj : j = i
            · rw [hj]; exact hs
            · exact hq j h1 (by omega))]
        · rw [if_neg hq, if_neg (fun q => hq (fun j h1 h2 => q j h1 (by omega)))]
theorem isInRound_ok {s : Mm} {c : Nat} {p : List Nat} (hl : p.length ≤ 6) (h : PathAt (s 242) p) : F_M_isInRound (c : Int) (p.length : Int) s = some (if c ∈ p then 1 else 0) := by
  unfold F_M_isInRound
  have e := isIn_ok (s := s) (c := c) hl p.length LF 0 (by omega) (by unfold LF; omega)
  have e : L_M_isInRound_2 LF (c : Int) (p.length : Int) 0 s = _ := e
  have mem := PathAt.mem (c := c) h
  rw [e]
  by_cases hm : c ∈ p
  · obtain ⟨j, j1, j2⟩ := mem.mp hm
    rw [if_neg (fun q => q j j1 (Nat.zero_le _) j2), if_pos hm, b0S_l]
  · rw [if_pos (fun j j1 _ j2 => hm (mem.mpr ⟨j, j1, j2⟩)), if_neg hm, b0S_r]
def Kb : Nat → Nat
  | 0 => 0
  | r + 1 => 1 + 5 * (1 + Kb r)
theorem MP.frx {σ μ s t : Mm} {G O M : Law} (h : MJ μ s G O M (σ 3)) (hf : Fr [242] s t) : MJ μ t G O M (σ 3) := h.fr hf (by decide) (fun k _ => by rw [hf 200 (by decide)])
theorem isRing_over {σ μ : Mm} {G O M : Law} {first size a : Nat} {t : List Nat} {s : Mm} (hsz : (a :: t).length < size) (h6 : size ≤ 6) (hP : MP σ μ s G O M first (a :: t)) (h5 : s 242 (a :: t).length = 5) : ∃ z, (∀ n, L_M_isRing_16 (n + 1) (first : Int) (size : Int) ((a :: t).length : Int) s = L_M_isRing_16 n (first : Int) (size : Int) (t.length : Int) z) ∧ MP σ μ z G O M first (a :: t) := by
  have el : ((((a :: t).length : Nat) : Int)).toNat = (a :: t).length := by omega
  have b : (0 : Int) ≤ (((a :: t).length : Nat) : Int) ∧ (((a :: t).length : Nat) : Int) < 6 := by omega
  have e1 : (((a :: t).length : Nat) : Int) + (-1) = (t.length : Int) := by simp; omega
  have n0 : ¬ (((a :: t).length : Nat) : Int) ≤ 0 := by simp
  refine ⟨st2 s 242 (a :: t).length 6, fun n => ?_, MP.frx hP.1 (Fr.rf.st (by decide)), PathAt.cong (fun k hk => by rw [st2_sk, if_neg (by omega)]) hP.2⟩
  rw [L_M_isRing_16, if_neg n0, if_pos b, el, h5, if_pos (show r32 ((5 : Int) + 1) from ⟨by omega, by omega⟩), if_pos b, bindM_eq, if_pos b, show ((5 : Int) + 1) = 6 from rfl, st2_ss, if_neg (by decide), e1, if_pos (show r32 (t.length : Int) from ⟨by omega, by simp at hsz; omega⟩)]
theorem isRing_step {σ μ : Mm} {G O M : Law} {first size a c : Nat} {t : List Nat} {s : Mm} (hf : first < 6) (hsz : (a :: t).length < size) (h6 : size ≤ 6) (hD : DebtR (σ 130) (μ 201)) (ha : a < 6) (hP : MP σ μ s G O M first (a :: t)) (hc : c < 6) (hs : s 242 (a :: t).length + 1 = (c : Int)) :
    ∃ z, MP σ μ z G O M first (a :: t) ∧ z 242 (a :: t).length = (c : Int) ∧
      (if c ∈ a :: t ∨ ow (tw G O (σ 3)) (σ 130) (6 * a + c) ≤ 0 then ∀ n, L_M_isRing_16 (n + 1) (first : Int) (size : Int) ((a :: t).length : Int) s = L_M_isRing_16 n (first : Int) (size : Int) ((a :: t).length : Int) z
       else if (a :: t).length + 1 = size then (if 0 < ow (tw G O (σ 3)) (σ 130) (6 * c + first) then ∀ n, L_M_isRing_16 (n + 1) (first : Int) (size : Int) ((a :: t).length : Int) s = some (.inl (1, z)) else ∀ n, L_M_isRing_16 (n + 1) (first : Int) (size : Int) ((a :: t).length : Int) s = L_M_isRing_16 n (first : Int) (size : Int) ((a :: t).length : Int) z)
       else ∀ n, L_M_isRing_16 (n + 1) (first : Int) (size : Int) ((a :: t).length : Int) s = L_M_isRing_16 n (first : Int) (size : Int) ((c :: a :: t).length : Int) (st2 z 242 (c :: a :: t).length (first : Int))) := by
  have el : ((((a :: t).length : Nat) : Int)).toNat = (a :: t).length := by omega
  have el1 : ((((a :: t).length : Nat) : Int) - 1).toNat = t.length := by simp
  have b : (0 : Int) ≤ (((a :: t).length : Nat) : Int) ∧ (((a :: t).length : Nat) : Int) < 6 := by omega
  have bb1 : (0 : Int) ≤ (((a :: t).length : Nat) : Int) - 1 ∧ (((a :: t).length : Nat) : Int) - 1 < 6 := by simp at hsz ⊢; omega
  have n0 : ¬ (((a :: t).length : Nat) : Int) ≤ 0 := by simp
  have q0 : PathAt (st2 s 242 (a :: t).length (c : Int) 242) (a :: t) := PathAt.cong (fun k hk => by rw [st2_sk, if_neg (by omega)]) hP.2
  have m0 : MJ μ (st2 s 242 (a :: t).length (c : Int)) G O M (σ 3) := MP.frx hP.1 (Fr.rf.st (by decide))
  have v0 : st2 s 242 (a :: t).length (c : Int) 242 (a :: t).length = (c : Int) := st2_ss _ _ _ _
  have start : ∀ n, L_M_isRing_16 (n + 1) (first : Int) (size : Int) ((a :: t).length : Int) s = (b1 (F_M_isInRound (c : Int) ((a :: t).length : Int) (st2 s 242 (a :: t).length (c : Int))) fun v5 =>
                  if v5 = 0 then
                    if 0 ≤ (((a :: t).length : Nat) : Int) - 1 ∧ (((a :: t).length : Nat) : Int) - 1 < 6 then
                      if 0 ≤ (((a :: t).length : Nat) : Int) ∧ (((a :: t).length : Nat) : Int) < 6 then
                        b1M (F_M_owedBy (st2 s 242 (a :: t).length (c : Int) 242 t.length) (c : Int) (st2 s 242 (a :: t).length (c : Int))) fun v6 s6 =>
                        if v6 ≤ 0 then
                          L_M_isRing_16 n (first : Int) (size : Int) ((a :: t).length : Int) s6
                        else
                          if r32 ((size : Int) - 1) then
                            if (((a :: t).length : Nat) : Int) = (size : Int) - 1 then
                              if 0 ≤ (((a :: t).length : Nat) : Int) ∧ (((a :: t).length : Nat) : Int) < 6 then
                                b1M (F_M_owedBy (s6 242 (a :: t).length) (first : Int) s6) fun v8 s8 =>
                                if v8 ≤ 0 then
                                  L_M_isRing_16 n (first : Int) (size : Int) ((a :: t).length : Int) s8
                                else
                                  some (.inl (1, s8))
                              else none
                            else
                              if 0 ≤ (((a :: t).length : Nat) : Int) + 1 ∧ (((a :: t).length : Nat) : Int) + 1 < 6 then
                                bindM (st2 s6 242 (((((a :: t).length : Nat) : Int) + 1).toNat) (first : Int)) fun s9 =>
                                if r32 ((((a :: t).length : Nat) : Int) + 1) then
                                  L_M_isRing_16 n (first : Int) (size : Int) ((((a :: t).length : Nat) : Int) + 1) s9
                                else none
                              else none
                          else none
                      else none
                    else none
                  else
                    L_M_isRing_16 n (first : Int) (size : Int) ((a :: t).length : Int) (st2 s 242 (a :: t).length (c : Int))) := fun n => by
    rw [L_M_isRing_16, if_neg n0, if_pos b, el, hs, if_pos (show r32 (c : Int) from ⟨by omega, by omega⟩), if_pos b, bindM_eq, if_pos b, v0, if_pos (by omega), if_pos b, el1]
  have hin := isInRound_ok (s := st2 s 242 (a :: t).length (c : Int)) (c := c) (p := a :: t) (by omega) q0
  have va : st2 s 242 (a :: t).length (c : Int) 242 t.length = (a : Int) := q0.1
  by_cases hm : c ∈ a :: t
  · refine ⟨_, ⟨m0, q0⟩, v0, ?_⟩
    rw [if_pos (Or.inl hm)]
    intro n
    rw [start n, hin, if_pos hm, b1_some, if_neg ne10]
  · have d1 := hD (6 * a + c) (by omega)
    obtain ⟨⟨v, z⟩, E1, v1, m1, f1⟩ := owed_M m0 (d := σ 130) (a := a) (b := c) ha hc d1.1.symm d1.2
    have v1 : v = ow (tw G O (σ 3)) (σ 130) (6 * a + c) := v1
    have m1 : MJ μ z G O M (σ 3) := m1
    have f1 : Fr [200, 223, 224, 229, 230, 231, 232] (st2 s 242 (a :: t).length (c : Int)) z := f1
    have z242 : z 242 = st2 s 242 (a :: t).length (c : Int) 242 := f1 242 (by decide)
    have P1 : MP σ μ z G O M first (a :: t) := ⟨m1, by rw [z242]; exact q0⟩
    have zc : z 242 (a :: t).length = (c : Int) := by rw [z242]; exact v0
    by_cases ho : ow (tw G O (σ 3)) (σ 130) (6 * a + c) ≤ 0
    · refine ⟨z, P1, zc, ?_⟩
      rw [if_pos (Or.inr ho)]
      intro n
      rw [start n, hin, if_neg hm, b1_some, if_pos rfl, if_pos bb1, if_pos b, va, E1, b1M_some, v1, if_pos ho]
    · have nr : ¬ (c ∈ a :: t ∨ ow (tw G O (σ 3)) (σ 130) (6 * a + c) ≤ 0) := fun q => by rcases q with q | q; exact hm q; exact ho q
      have go : ∀ n, L_M_isRing_16 (n + 1) (first : Int) (size : Int) ((a :: t).length : Int) s = _ := fun n => by rw [start n, hin, if_neg hm, b1_some, if_pos rfl, if_pos bb1, if_pos b, va, E1, b1M_some, v1, if_neg ho, if_pos (show r32 ((size : Int) - 1) from ⟨by omega, by omega⟩)]
      by_cases hk : (a :: t).length + 1 = size
      · have d2 := hD (6 * c + first) (by omega)
        obtain ⟨⟨w, y⟩, E2, w1, m2, f2⟩ := owed_M m1 (d := σ 130) (a := c) (b := first) hc hf d2.1.symm d2.2
        have w1 : w = ow (tw G O (σ 3)) (σ 130) (6 * c + first) := w1
        have m2 : MJ μ y G O M (σ 3) := m2
        have f2 : Fr [200, 223, 224, 229, 230, 231, 232] z y := f2
        have y242 : y 242 = z 242 := f2 242 (by decide)
        refine ⟨y, ⟨m2, by rw [y242]; exact P1.2⟩, by rw [y242]; exact zc, ?_⟩
        rw [if_neg nr, if_pos hk]
        by_cases ho2 : 0 < ow (tw G O (σ 3)) (σ 130) (6 * c + first)
        · rw [if_pos ho2]
          intro n
          rw [go n, if_pos (by omega), if_pos b, zc, E2, b1M_some, w1, if_neg (by omega)]
        · rw [if_neg ho2]
          intro n
          rw [go n, if_pos (by omega), if_pos b, zc, E2, b1M_some, w1, if_pos (by omega)]
      · refine ⟨z, P1, zc, ?_⟩
        rw [if_neg nr, if_neg hk]
        intro n
        have e5 : (((a :: t).length : Nat) : Int) + 1 = (((c :: a :: t).length : Nat) : Int) := by simp
        have e6 : ((((c :: a :: t).length : Nat) : Int)).toNat = (c :: a :: t).length := by omega
        have e7 : (c :: a :: t).length = (a :: t).length + 1 := rfl
        rw [go n, if_neg (by omega), e5, if_pos (by omega), bindM_eq, e6, if_pos (show r32 (((c :: a :: t).length : Nat) : Int) from ⟨by omega, by omega⟩)]
theorem isRing_loop {σ μ : Mm} {G O M : Law} {first size : Nat} (hf : first < 6) (hsz : size ≤ 6) (hD : DebtR (σ 130) (μ 201)) : ∀ (r m : Nat) (a c0 : Nat) (t : List Nat) (s : Mm), (a :: t).length + (r + 1) = size → c0 + m = 5 → (∀ c ∈ a :: t, c < 6) → MP σ μ s G O M first (a :: t) → s 242 (a :: t).length = (c0 : Int) →
    ∃ f, f ≤ 1 + m * (1 + Kb r) ∧ ((∃ q z, tryN (dfsG (ow (tw G O (σ 3)) (σ 130)) first r a t) m (c0 + 1) = some q ∧ (∀ n, L_M_isRing_16 (n + f) (first : Int) (size : Int) ((a :: t).length : Int) s = some (.inl (1, z))) ∧ MP σ μ z G O M first q)
      ∨ (tryN (dfsG (ow (tw G O (σ 3)) (σ 130)) first r a t) m (c0 + 1) = none ∧ ∃ z, (∀ n, L_M_isRing_16 (n + f) (first : Int) (size : Int) ((a :: t).length : Int) s = L_M_isRing_16 n (first : Int) (size : Int) (t.length : Int) z) ∧ MP σ μ z G O M first (a :: t))) := by
  intro r
  induction r with
  | zero =>
    intro m
    induction m with
    | zero =>
      intro a c0 t s hl hc hp hP hs
      obtain ⟨z, h1, h2⟩ := isRing_over (first := first) (size := size) (by omega) hsz hP (by rw [hs]; omega)
      exact ⟨1, by omega, Or.inr ⟨rfl, z, h1, h2⟩⟩
    | succ m ihm =>
      intro a c0 t s hl hc hp hP hs
      obtain ⟨z, z1, z2, z3⟩ := isRing_step (c := c0 + 1) hf (by omega) hsz hD (hp a (by simp)) hP (by omega) (by rw [hs]; omega)
      have next : (∀ n, L_M_isRing_16 (n + 1) (first : Int) (size : Int) ((a :: t).length : Int) s = L_M_isRing_16 n (first : Int) (size : Int) ((a :: t).length : Int) z) → dfsG (ow (tw G O (σ 3)) (σ 130)) first 0 a t (c0 + 1) = none → ∃ f, f ≤ 1 + (m + 1) * (1 + Kb 0) ∧ ((∃ q z, tryN (dfsG (ow (tw G O (σ 3)) (σ 130)) first 0 a t) (m + 1) (c0 + 1) = some q ∧ (∀ n, L_M_isRing_16 (n + f) (first : Int) (size : Int) ((a :: t).length : Int) s = some (.inl (1, z))) ∧ MP σ μ z G O M first q)
      ∨ (tryN (dfsG (ow (tw G O (σ 3)) (σ 130)) first 0 a t) (m + 1) (c0 + 1) = none ∧ ∃ z, (∀ n, L_M_isRing_16 (n + f) (first : Int) (size : Int) ((a :: t).length : Int) s = L_M_isRing_16 n (first : Int) (size : Int) (t.length : Int) z) ∧ MP σ μ z G O M first (a :: t))) := fun hn hg => by
        obtain ⟨f, f1, f2⟩ := ihm a (c0 + 1) t z hl (by omega) hp z1 z2
        refine ⟨f + 1, by rw [Nat.add_mul]; omega, ?_⟩
        simp only [tryN, hg]
        rcases f2 with ⟨q, y, g1, g2, g3⟩ | ⟨g1, y, g2, g3⟩
        · exact Or.inl ⟨q, y, g1, fun n => by rw [← Nat.add_assoc, hn]; exact g2 n, g3⟩
        · exact Or.inr ⟨g1, y, fun n => by rw [← Nat.add_assoc, hn]; exact g2 n, g3⟩
      by_cases h1 : c0 + 1 ∈ a :: t ∨ ow (tw G O (σ 3)) (σ 130) (6 * a + (c0 + 1)) ≤ 0
      · rw [if_pos h1] at z3
        exact next z3 (by unfold dfsG; rw [if_pos h1])
      · rw [if_neg h1, if_pos (by omega)] at z3
        by_cases h2 : 0 < ow (tw G O (σ 3)) (σ 130) (6 * (c0 + 1) + first)
        · rw [if_pos h2] at z3
          have hg : dfsG (ow (tw G O (σ 3)) (σ 130)) first 0 a t (c0 + 1) = some ((c0 + 1) :: a :: t) := by unfold dfsG; rw [if_neg h1, dfs0, if_pos h2]
          refine ⟨1, by omega, Or.inl ⟨(c0 + 1) :: a :: t, z, by simp only [tryN, hg], z3, z1.1, z2, z1.2⟩⟩
        · rw [if_neg h2] at z3
          exact next z3 (by unfold dfsG; rw [if_neg h1, dfs0, if_neg h2])
  | succ r ihr =>
    intro m
    induction m with
    | zero =>
      intro a c0 t s hl hc hp hP hs
      obtain ⟨z, h1, h2⟩ := isRing_over (first := first) (size := size) (by omega) hsz hP (by rw [hs]; omega)
      exact ⟨1, by omega, Or.inr ⟨rfl, z, h1, h2⟩⟩
    | succ m ihm =>
      intro a c0 t s hl hc hp hP hs
      obtain ⟨z, z1, z2, z3⟩ := isRing_step (c := c0 + 1) hf (by omega) hsz hD (hp a (by simp)) hP (by omega) (by rw [hs]; omega)
      have next : ∀ (e : Nat) (z : Mm), e ≤ 1 + Kb (r + 1) → (∀ n, L_M_isRing_16 (n + e) (first : Int) (size : Int) ((a :: t).length : Int) s = L_M_isRing_16 n (first : Int) (size : Int) ((a :: t).length : Int) z) → MP σ μ z G O M first (a :: t) → z 242 (a :: t).length = ((c0 + 1 : Nat) : Int) → dfsG (ow (tw G O (σ 3)) (σ 130)) first (r + 1) a t (c0 + 1) = none → ∃ f, f ≤ 1 + (m + 1) * (1 + Kb (r + 1)) ∧ ((∃ q z, tryN (dfsG (ow (tw G O (σ 3)) (σ 130)) first (r + 1) a t) (m + 1) (c0 + 1) = some q ∧ (∀ n, L_M_isRing_16 (n + f) (first : Int) (size : Int) ((a :: t).length : Int) s = some (.inl (1, z))) ∧ MP σ μ z G O M first q)
      ∨ (tryN (dfsG (ow (tw G O (σ 3)) (σ 130)) first (r + 1) a t) (m + 1) (c0 + 1) = none ∧ ∃ z, (∀ n, L_M_isRing_16 (n + f) (first : Int) (size : Int) ((a :: t).length : Int) s = L_M_isRing_16 n (first : Int) (size : Int) (t.length : Int) z) ∧ MP σ μ z G O M first (a :: t))) := fun e z he hn z1 z2 hg => by
        obtain ⟨f, f1, f2⟩ := ihm a (c0 + 1) t z hl (by omega) hp z1 z2
        refine ⟨f + e, by rw [Nat.add_mul]; omega, ?_⟩
        simp only [tryN, hg]
        rcases f2 with ⟨q, y, g1, g2, g3⟩ | ⟨g1, y, g2, g3⟩
        · exact Or.inl ⟨q, y, g1, fun n => by rw [← Nat.add_assoc, hn]; exact g2 n, g3⟩
        · exact Or.inr ⟨g1, y, fun n => by rw [← Nat.add_assoc, hn]; exact g2 n, g3⟩
      by_cases h1 : c0 + 1 ∈ a :: t ∨ ow (tw G O (σ 3)) (σ 130) (6 * a + (c0 + 1)) ≤ 0
      · rw [if_pos h1] at z3
        exact next 1 z (by omega) z3 z1 z2 (by unfold dfsG; rw [if_pos h1])
      · rw [if_neg h1, if_neg (by omega)] at z3
        have hcp : ∀ d ∈ (c0 + 1) :: a :: t, d < 6 := fun d hd => by
          rcases List.mem_cons.mp hd with e | e
          · omega
          · exact hp d e
        have P2 : MP σ μ (st2 z 242 ((c0 + 1) :: a :: t).length (first : Int)) G O M first ((c0 + 1) :: a :: t) := by
          refine ⟨MP.frx z1.1 (Fr.rf.st (by decide)), ?_⟩
          have : PathAt (z 242) ((c0 + 1) :: a :: t) := ⟨z2, z1.2⟩
          exact PathAt.cong (fun k hk => by rw [st2_sk, if_neg (by omega)]) this
        obtain ⟨f, f1, f2⟩ := ihr (5 - first) (c0 + 1) first (a :: t) (st2 z 242 ((c0 + 1) :: a :: t).length (first : Int)) (by simp only [List.length_cons] at hl ⊢; omega) (by omega) hcp P2 (st2_ss _ _ _ _)
        have fb : f + 1 ≤ 1 + Kb (r + 1) := by
          have : (5 - first) * (1 + Kb r) ≤ 5 * (1 + Kb r) := Nat.mul_le_mul_right _ (by omega)
          simp only [Kb]; omega
        have hgd : dfsG (ow (tw G O (σ 3)) (σ 130)) first (r + 1) a t (c0 + 1) = tryN (dfsG (ow (tw G O (σ 3)) (σ 130)) first r (c0 + 1) (a :: t)) (5 - first) (first + 1) := by
          have : dfsG (ow (tw G O (σ 3)) (σ 130)) first (r + 1) a t (c0 + 1) = dfs (ow (tw G O (σ 3)) (σ 130)) first (r + 1) ((c0 + 1) :: a :: t) := by
            unfold dfsG; rw [if_neg h1]
          rw [this, dfsS]
        rcases f2 with ⟨q, y, g1, g2, g3⟩ | ⟨g1, y, g2, g3⟩
        · refine ⟨f + 1, ?_, Or.inl ⟨q, y, ?_, fun n => by rw [← Nat.add_assoc, z3]; exact g2 n, g3⟩⟩
          · rw [Nat.add_mul]; omega
          · simp only [tryN, hgd, g1]
        · exact next (f + 1) y fb (fun n => by rw [← Nat.add_assoc, z3]; exact g2 n) ⟨g3.1, g3.2.2⟩ g3.2.1 (by rw [hgd]; exact g1)
