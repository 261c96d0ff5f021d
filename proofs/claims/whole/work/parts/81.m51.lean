-- rings of DEBTS: what is looked for, and the class
def tryN (g : Nat → Option (List Nat)) : Nat → Nat → Option (List Nat)
  | 0, _ => none
  | m + 1, c => match g c with
    | some q => some q
    | none => tryN g m (c + 1)
def dfs (o : Nat → Int) (first : Nat) : Nat → List Nat → Option (List Nat)
  | 0, p => if 0 < o (6 * p.headD 0 + first) then some p else none
  | r + 1, p => tryN (fun c => if c ∈ p ∨ o (6 * p.headD 0 + c) ≤ 0 then none else dfs o first r (c :: p)) (5 - first) (first + 1)
def PathAt (f : Nat → Int) : List Nat → Prop
  | [] => True
  | c :: t => f t.length = (c : Int) ∧ PathAt f t
theorem PathAt.cong {f g : Nat → Int} : ∀ {p : List Nat}, (∀ k, k < p.length → g k = f k) → PathAt f p → PathAt g p
  | [], _, _ => trivial
  | c :: t, h, hs => ⟨(h t.length (by simp)).trans hs.1, PathAt.cong (fun k hk => h k (by simp; omega)) hs.2⟩
theorem PathAt.mem {f : Nat → Int} {c : Nat} : ∀ {p : List Nat}, PathAt f p → (c ∈ p ↔ ∃ j, j < p.length ∧ f j = (c : Int))
  | [], _ => by simp
  | a :: t, h => by
    rw [List.mem_cons, PathAt.mem h.2]
    constructor
    · rintro (e | ⟨j, h1, h2⟩)
      · exact ⟨t.length, by simp, by rw [h.1, e]⟩
      · exact ⟨j, by simp; omega, h2⟩
    · rintro ⟨j, h1, h2⟩
      by_cases e : j = t.length
      · left
        rw [e, h.1] at h2
        omega
      · right
        exact ⟨j, by simp at h1; omega, h2⟩
theorem loop_try {L : Nat → Int → Mm → Option ((Int × Mm) ⊕ Mm)} {P : Mm → Prop} {Q : List Nat → Int × Mm → Prop} {x : Int} {g : Nat → Option (List Nat)} (stop : ∀ n σ, P σ → L (n + 1) x σ = some (.inr σ)) : ∀ {m i N : Nat} {σ : Mm}, (i : Int) + m = x → m < N → P σ →
    (∀ (n j : Nat) σ, i ≤ j → (j : Int) < x → P σ → (∃ q y, g j = some q ∧ L (n + 1) (j : Int) σ = some (.inl y) ∧ Q q y) ∨ (g j = none ∧ ∃ s, L (n + 1) (j : Int) σ = L n ((j + 1 : Nat) : Int) s ∧ P s)) → (∃ q z, tryN g m i = some q ∧ L N (i : Int) σ = some (.inl z) ∧ Q q z) ∨ (tryN g m i = none ∧ ∃ s, L N (i : Int) σ = some (.inr s) ∧ P s) := by
  intro m
  induction m with
  | zero =>
    intro i N σ hx hN hP step
    match N, hN with
    | N + 1, _ =>
      have e : (i : Int) = x := by omega
      rw [e, stop N σ hP]
      exact Or.inr ⟨rfl, σ, rfl, hP⟩
  | succ m ih =>
    intro i N σ hx hN hP step
    match N, hN with
    | N + 1, hN =>
      rcases step N i σ (Nat.le_refl _) (by omega) hP with ⟨v, s, h1, h2, h3⟩ | ⟨h1, s, h2, h3⟩
      · rw [h2]
        simp only [tryN, h1]
        exact Or.inl ⟨v, s, rfl, rfl, h3⟩
      · rw [h2]
        simp only [tryN, h1]
        exact ih (by omega) (by omega) h3 (fun n j σ hj => step n j σ (by omega))
theorem closes52 {s : Mm} {c len : Nat} (hl : len ≤ 6) : ∀ (m N i : Nat) (x5 : Int), i + m = len → m < N → (x5 = 0 ∨ x5 = 1) → L_B_closes_52 N (len : Int) (c : Int) x5 (i : Int) s = some (if x5 = 1 ∧ ∀ j, j < len → i ≤ j → ¬ s 131 j = (c : Int) then 1 else 0) := by
  intro m
  induction m with
  | zero =>
    intro N i x5 hi hN hx
    match N, hN with
    | N + 1, _ =>
      rw [L_B_closes_52, if_pos (by omega)]
      rcases hx with e | e
      · rw [if_neg (fun q => by omega), e]
      · rw [if_pos ⟨e, fun j h1 h2 => by omega⟩, e]
  | succ m ih =>
    intro N i x5 hi hN hx
    match N, hN with
    | N + 1, hN =>
      have e2 : (i : Int) + 1 = ((i + 1 : Nat) : Int) := by omega
      have ei : ((i : Int)).toNat = i := by omega
      rw [L_B_closes_52, if_neg (by omega)]
      simp only [bindM_eq, e2, ei, if_pos (show r32 ((i + 1 : Nat) : Int) from ⟨by omega, by omega⟩), if_pos (show 0 ≤ (i : Int) ∧ (i : Int) < 6 by omega)]
      have z := ih N (i + 1) 0 (by omega) (by omega) (Or.inl rfl)
      rw [if_neg (fun q => by omega)] at z
      rcases hx with e | e
      · rw [if_pos e, z, if_neg (fun q => by omega)]
      · rw [if_neg (by omega)]
        by_cases hs : s 131 i = (c : Int)
        · rw [if_pos hs, z, if_neg (fun q => q.2 i (by omega) (Nat.le_refl _) hs)]
        · rw [if_neg hs, ih N (i + 1) 1 (by omega) (by omega) (Or.inr rfl)]
          congr 1
          by_cases hq : ∀ j, j < len → i + 1 ≤ j → ¬ s 131 j = (c : Int)
          · rw [if_pos ⟨rfl, hq⟩, if_pos ⟨e, fun j h1 h2 => by
              by_cases hj : j = i
              · rw [hj]; exact hs
              · exact hq j h1 (by omega)⟩]
          · rw [if_neg (fun q => hq q.2), if_neg (fun q => hq (fun j h1 h2 => q.2 j h1 (by omega)))]
theorem dfs0 {o : Nat → Int} {first c : Nat} {t : List Nat} : dfs o first 0 (c :: t) = if 0 < o (6 * c + first) then some (c :: t) else none := rfl
def dfsG (o : Nat → Int) (first r a : Nat) (t : List Nat) (c : Nat) : Option (List Nat) := if c ∈ a :: t ∨ o (6 * a + c) ≤ 0 then none else dfs o first r (c :: a :: t)
theorem dfsS {o : Nat → Int} {first r a : Nat} {t : List Nat} : dfs o first (r + 1) (a :: t) = tryN (dfsG o first r a t) (5 - first) (first + 1) := rfl
/-- the class holds a path -/
def CP (σ s : Mm) (G O M : Law) (first : Nat) (p : List Nat) : Prop := CO σ s G O M ∧ PathAt (s 131) p ∧ s 131 0 = (first : Int)
theorem closes_ok {σ : Mm} {G O M : Law} {first size : Nat} (hf : first < 6) (hsz : size ≤ 6) : ∀ (r n : Nat) (p : List Nat) (s : Mm), r < n → p.length + r = size → 1 ≤ p.length → (∀ c ∈ p, c < 6) → CP σ s G O M first p →
    (∃ q z, dfs (ow (tw G O (σ 3)) (σ 130)) first r p = some q ∧ F_B_closes n (p.length : Int) (size : Int) s = some (1, z) ∧ CP σ z G O M first q ∧ q.length = size ∧ ∀ c ∈ q, c < 6) ∨ (dfs (ow (tw G O (σ 3)) (σ 130)) first r p = none ∧ ∃ z, F_B_closes n (p.length : Int) (size : Int) s = some (0, z) ∧ CP σ z G O M first p) := by
  intro r
  induction r with
  | zero =>
    intro n p s hn hl h1 hp hP
    match n, p, hn, hl, h1, hp, hP with
    | n + 1, c :: t, hn, hl, h1, hp, hP =>
      simp only [List.length_cons] at hl
      have hc := hp c (by simp)
      have e1 : ((((c :: t).length : Nat) : Int) - 1).toNat = t.length := by simp
      have v1 := hP.2.1.1
      have i1 : ((c : Int) * 6 + (first : Int)).toNat = 6 * c + first := by omega
      have w := hP.1.2 (6 * c + first) (by omega)
      rw [F_B_closes]
      rw [bindM_eq, if_pos (by simp; omega), e1, v1, bindM_eq, if_neg (by simp; omega), hP.2.2, i1, w, if_pos (by omega)]
      rw [dfs0]
      by_cases ho : ow (tw G O (σ 3)) (σ 130) (6 * c + first) ≤ 0
      · rw [if_pos ho, if_neg (by omega)]
        exact Or.inr ⟨rfl, s, rfl, hP⟩
      · rw [if_neg ho, if_pos (by omega)]
        exact Or.inl ⟨_, s, rfl, rfl, hP, by simp; omega, hp⟩
  | succ r ih =>
    intro n p s hn hl h1 hp hP
    match n, p, hn, hl, h1, hp, hP with
    | n + 1, a :: t, hn, hl, h1, hp, hP =>
      have hl2 : (a :: t).length + (r + 1) = size := hl
      simp only [List.length_cons] at hl
      have ha := hp a (by simp)
      have e1 : ((((a :: t).length : Nat) : Int) - 1).toNat = t.length := by simp
      have v1 := hP.2.1.1
      have e2 : (first : Int) + 1 = ((first + 1 : Nat) : Int) := by omega
      rw [F_B_closes]
      rw [bindM_eq, if_pos (by simp; omega), e1, v1, bindM_eq, if_pos (by simp; omega), hP.2.2, bindM_eq, e2, if_pos (show r32 ((first + 1 : Nat) : Int) from ⟨by omega, by omega⟩)]
      have hloop := loop_try (L := fun N j s => L_B_closes_39 (F_B_closes n) N ((a :: t).length : Int) (size : Int) (a : Int) j s) (P := fun s => CP σ s G O M first (a :: t)) (Q := fun q z => z.1 = 1 ∧ CP σ z.2 G O M first q ∧ q.length = size ∧ ∀ c ∈ q, c < 6) (x := 6) (g := dfsG (ow (tw G O (σ 3)) (σ 130)) first r a t)
        (fun n s _ => by rw [L_B_closes_39, if_pos (Int.le_refl _)]) (m := 5 - first) (i := first + 1) (N := LF) (σ := s) (by omega) (by unfold LF; omega) hP (fun N c s hj hc hs => by
          have c52 := closes52 (s := s) (c := c) (len := (a :: t).length) (by simp; omega) (a :: t).length LF 0 1 (by omega) (by unfold LF; simp; omega) (Or.inr rfl)
          have mem := PathAt.mem (c := c) hs.2.1
          have e3 : (c : Int) + 1 = ((c + 1 : Nat) : Int) := by omega
          have i1 : ((a : Int) * 6 + (c : Int)).toNat = 6 * a + c := by omega
          have w := hs.1.2 (6 * a + c) (by omega)
          have el : ((((a :: t).length : Nat) : Int)).toNat = (a :: t).length := by omega
          have c52 : L_B_closes_52 LF ((a :: t).length : Int) (c : Int) 1 0 s = _ := c52
          rw [L_B_closes_39, if_neg (show ¬ (6 : Int) ≤ (c : Int) by omega), c52, b1_some]
          rw [bindM_eq]
          unfold dfsG
          by_cases hm : c ∈ a :: t
          · have : ¬ ((1 : Int) = 1 ∧ ∀ j, j < (a :: t).length → 0 ≤ j → ¬ s 131 j = (c : Int)) := fun q => by
              obtain ⟨j, j1, j2⟩ := mem.mp hm
              exact q.2 j j1 (Nat.zero_le _) j2
            rw [if_neg this, if_pos (show (0 : Int) = 0 from rfl), if_pos (show c ∈ a :: t ∨ _ from Or.inl hm), e3]
            dsimp only
            rw [if_pos (show r32 ((c + 1 : Nat) : Int) from ⟨by omega, by omega⟩)]
            exact Or.inr ⟨rfl, s, rfl, hs⟩
          · have : ((1 : Int) = 1 ∧ ∀ j, j < (a :: t).length → 0 ≤ j → ¬ s 131 j = (c : Int)) := ⟨rfl, fun j j1 _ j2 => hm (mem.mpr ⟨j, j1, j2⟩)⟩
            have b1 : (0 : Int) ≤ (a : Int) * 6 + (c : Int) ∧ (a : Int) * 6 + (c : Int) < 36 := by omega
            rw [if_pos this, if_neg ne10, if_pos b1, i1, w]
            by_cases ho : ow (tw G O (σ 3)) (σ 130) (6 * a + c) ≤ 0
            · rw [if_pos ho, if_pos (show c ∈ a :: t ∨ ow (tw G O (σ 3)) (σ 130) (6 * a + c) ≤ 0 from Or.inr ho), e3]
              dsimp only
              rw [if_pos (show r32 ((c + 1 : Nat) : Int) from ⟨by omega, by omega⟩)]
              exact Or.inr ⟨rfl, s, rfl, hs⟩
            · rw [if_neg ho, if_neg (show ¬ (c ∈ a :: t ∨ ow (tw G O (σ 3)) (σ 130) (6 * a + c) ≤ 0) from fun q => by rcases q with q | q; exact hm q; exact ho q)]
              have hP2 : CP σ (st2 s 131 (a :: t).length (c : Int)) G O M first (c :: a :: t) := by
                refine ⟨hs.1.frx (Fr.rf.st (by decide)), ⟨st2_ss _ _ _ _, PathAt.cong (fun k hk => ?_) hs.2.1⟩, ?_⟩
                · rw [st2_sk, if_neg (by omega)]
                · rw [st2_sk, if_neg (by simp)]; exact hs.2.2
              have e4 : (((a :: t).length : Nat) : Int) + 1 = (((c :: a :: t).length : Nat) : Int) := by simp
              have b2 : (0 : Int) ≤ (((a :: t).length : Nat) : Int) ∧ (((a :: t).length : Nat) : Int) < 6 := by simp; omega
              rw [if_pos b2, el, bindM_eq, e4, if_pos (show r32 (((c :: a :: t).length : Nat) : Int) from ⟨by omega, by simp; omega⟩)]
              rcases ih n (c :: a :: t) (st2 s 131 (a :: t).length (c : Int)) (by omega) (by simp; omega) (by simp) (fun d hd => by
                rcases List.mem_cons.mp hd with e | e
                · omega
                · exact hp d e) hP2 with ⟨q, z, q1, q2, q3, q4, q5⟩ | ⟨q1, z, q2, q3⟩
              · rw [q2, b1M_some, if_neg ne10]
                exact Or.inl ⟨q, _, q1, rfl, rfl, q3, q4, q5⟩
              · rw [q2, b1M_some, if_pos (show (0 : Int) = 0 from rfl), e3]
                dsimp only
                rw [if_pos (show r32 ((c + 1 : Nat) : Int) from ⟨by omega, by omega⟩)]
                exact Or.inr ⟨q1, z, rfl, q3.1, q3.2.1.2, q3.2.2⟩)
      rw [dfsS]
      rcases hloop with ⟨q, z, q1, q2, q3⟩ | ⟨q1, z, q2, q3⟩
      · have q2 : L_B_closes_39 (F_B_closes n) LF ((a :: t).length : Int) (size : Int) (a : Int) ((first + 1 : Nat) : Int) s = some (.inl z) := q2
        rw [q2, b0MS_l]
        refine Or.inl ⟨q, z.2, q1, ?_, q3.2⟩
        rw [← q3.1]
      · have q2 : L_B_closes_39 (F_B_closes n) LF ((a :: t).length : Int) (size : Int) (a : Int) ((first + 1 : Nat) : Int) s = some (.inr z) := q2
        rw [q2, b0MS_r]
        exact Or.inr ⟨q1, z, rfl, q3⟩
def ringAt (o : Nat → Int) (size : Nat) : Option (List Nat) := tryN (fun first => dfs o first (size - 1) [first]) 6 0
def ringS (o : Nat → Int) : Option (List Nat) := tryN (ringAt o) 5 2
theorem shortest_ok {σ μ : Mm} {G O M : Law} {B R : Int} (hN : Now σ μ G O M B R) (hB : B ≤ 90000000) (hR : R < 2147483647) (hD : ∀ i, i < 36 → 0 ≤ σ 130 i ∧ σ 130 i ≤ 9999) :
    (∃ q z, ringS (ow (tw G O (σ 3)) (σ 130)) = some q ∧ F_B_shortestRing σ = some ((q.length : Int), z) ∧ CO σ z G O M ∧ PathAt (z 131) q ∧ 2 ≤ q.length ∧ q.length ≤ 6 ∧ ∀ c ∈ q, c < 6) ∨ (ringS (ow (tw G O (σ 3)) (σ 130)) = none ∧ ∃ z, F_B_shortestRing σ = some (0, z) ∧ CO σ z G O M) := by
  unfold F_B_shortestRing
  obtain ⟨s0, E1, co⟩ := reckonAll_ok hN hB hR hD
  rw [E1, b0M_some]
  have l14 : ∀ (size : Nat) s, 2 ≤ size → size ≤ 6 → CO σ s G O M → (∃ q z, ringAt (ow (tw G O (σ 3)) (σ 130)) size = some q ∧ L_B_shortestRing_14 LF (size : Int) ((0 : Nat) : Int) s = some (.inl z) ∧ (z.1 = (size : Int) ∧ CO σ z.2 G O M ∧ PathAt (z.2 131) q ∧ q.length = size ∧ ∀ c ∈ q, c < 6)) ∨ (ringAt (ow (tw G O (σ 3)) (σ 130)) size = none ∧ ∃ z, L_B_shortestRing_14 LF (size : Int) ((0 : Nat) : Int) s = some (.inr z) ∧ CO σ z G O M) := fun size s h1 h2 hs => by
    refine loop_try (L := fun N j s => L_B_shortestRing_14 N (size : Int) j s) (P := fun s => CO σ s G O M) (Q := fun q z => z.1 = (size : Int) ∧ CO σ z.2 G O M ∧ PathAt (z.2 131) q ∧ q.length = size ∧ ∀ c ∈ q, c < 6) (x := 6) (fun n s _ => by rw [L_B_shortestRing_14, if_pos (Int.le_refl _)]) (by omega) (by unfold LF; omega) hs (fun N f s _ hf hs => ?_)
    have e3 : (f : Int) + 1 = ((f + 1 : Nat) : Int) := by omega
    rw [L_B_shortestRing_14, if_neg (by omega), bindM_eq]
    rcases closes_ok (σ := σ) (G := G) (O := O) (M := M) (first := f) (size := size) (by omega) h2 (size - 1) 12 [f] (st2 s 131 0 (f : Int)) (by omega) (by simp; omega) (by simp) (fun c hc => by simp at hc; omega) ⟨hs.frx (Fr.rf.st (by decide)), ⟨st2_ss _ _ _ _, trivial⟩, st2_ss _ _ _ _⟩ with ⟨q, z, q1, q2, q3, q4, q5⟩ | ⟨q1, z, q2, q3⟩
    · have q2 : F_B_closes 12 1 (size : Int) (st2 s 131 0 (f : Int)) = some (1, z) := q2
      rw [q2, b1M_some, if_neg ne10]
      exact Or.inl ⟨q, _, q1, rfl, rfl, q3.1, q3.2.1, q4, q5⟩
    · have q2 : F_B_closes 12 1 (size : Int) (st2 s 131 0 (f : Int)) = some (0, z) := q2
      rw [q2, b1M_some, if_pos rfl, e3, if_pos (show r32 ((f + 1 : Nat) : Int) from ⟨by omega, by omega⟩)]
      exact Or.inr ⟨q1, z, rfl, q3.1⟩
  rcases loop_try (L := fun N j s => L_B_shortestRing_6 N j s) (P := fun s => CO σ s G O M) (Q := fun q z => z.1 = (q.length : Int) ∧ CO σ z.2 G O M ∧ PathAt (z.2 131) q ∧ (2 ≤ q.length ∧ q.length ≤ 6) ∧ ∀ c ∈ q, c < 6) (x := 7) (g := ringAt (ow (tw G O (σ 3)) (σ 130))) (fun n s _ => by rw [L_B_shortestRing_6, if_pos (by decide)]) (m := 5) (i := 2) (N := LF) (by omega) (by unfold LF; omega) co (fun N size s h1 hf hs => by
    have e3 : (size : Int) + 1 = ((size + 1 : Nat) : Int) := by omega
    rcases l14 size s h1 (by omega) hs with ⟨q, z, q1, q2, q3⟩ | ⟨q1, z, q2, q3⟩
    · have q2 : L_B_shortestRing_14 LF (size : Int) 0 s = some (.inl z) := q2
      rw [L_B_shortestRing_6, if_neg (by omega), q2, b0MS_l]
      exact Or.inl ⟨q, z, q1, rfl, by rw [q3.1, q3.2.2.2.1], q3.2.1, q3.2.2.1, ⟨by rw [q3.2.2.2.1]; exact h1, by rw [q3.2.2.2.1]; omega⟩, q3.2.2.2.2⟩
    · have q2 : L_B_shortestRing_14 LF (size : Int) 0 s = some (.inr z) := q2
      rw [L_B_shortestRing_6, if_neg (by omega), q2, b0MS_r, e3, if_pos (show r32 ((size + 1 : Nat) : Int) from ⟨by omega, by omega⟩)]
      exact Or.inr ⟨q1, z, rfl, q3⟩) with ⟨q, z, q1, q2, q3⟩ | ⟨q1, z, q2, q3⟩
  · have q2 : L_B_shortestRing_6 LF 2 s0 = some (.inl z) := q2
    rw [q2, b0MS_l]
    exact Or.inl ⟨q, z.2, q1, by rw [← q3.1], q3.2.1, q3.2.2.1, q3.2.2.2.1.1, q3.2.2.2.1.2, q3.2.2.2.2⟩
  · have q2 : L_B_shortestRing_6 LF 2 s0 = some (.inr z) := q2
    rw [q2, b0MS_r]
    exact Or.inr ⟨q1, z, rfl, q3⟩
