-- loops in general; a row's off, number by number
def firstN (f : Nat → Option Int) : Nat → Nat → Option Int
  | 0, _ => none
  | m + 1, i => match f i with
    | some v => some v
    | none => firstN f m (i + 1)
def FO (r : Option Int) (P : Mm → Prop) (y : (Int × Mm) ⊕ Mm) : Prop := match r, y with
  | some v, .inl p => p.1 = v ∧ P p.2
  | none, .inr s => P s
  | _, _ => False
theorem FO.l {r : Option Int} {P : Mm → Prop} {p : Int × Mm} (h : FO r P (.inl p)) : r = some p.1 ∧ P p.2 := by
  cases r with
  | none => exact absurd h (fun x => x)
  | some v => exact ⟨by rw [h.1], h.2⟩
theorem FO.r {r : Option Int} {P : Mm → Prop} {s : Mm} (h : FO r P (.inr s)) : r = none ∧ P s := by
  cases r with
  | none => exact ⟨rfl, h⟩
  | some v => exact absurd h (fun x => x)
theorem loop_first {L : Nat → Int → Mm → Option ((Int × Mm) ⊕ Mm)} {P : Mm → Prop} {x : Int} {f : Nat → Option Int} (stop : ∀ n σ, P σ → L (n + 1) x σ = some (.inr σ)) : ∀ {m i N : Nat} {σ : Mm}, (i : Int) + m = x → m < N → P σ →
    (∀ (n j : Nat) σ, i ≤ j → (j : Int) < x → P σ → (∃ v s, f j = some v ∧ L (n + 1) (j : Int) σ = some (.inl (v, s)) ∧ P s) ∨ (f j = none ∧ ∃ s, L (n + 1) (j : Int) σ = L n ((j + 1 : Nat) : Int) s ∧ P s)) → Ok (L N (i : Int) σ) (FO (firstN f m i) P) := by
  intro m
  induction m with
  | zero =>
    intro i N σ hx hN hP step
    match N, hN with
    | N + 1, _ =>
      have e : (i : Int) = x := by omega
      rw [e, stop N σ hP]
      exact Ok.ret hP
  | succ m ih =>
    intro i N σ hx hN hP step
    match N, hN with
    | N + 1, hN =>
      rcases step N i σ (Nat.le_refl _) (by omega) hP with ⟨v, s, h1, h2, h3⟩ | ⟨h1, s, h2, h3⟩
      · rw [h2]
        simp only [firstN, h1]
        exact Ok.ret ⟨rfl, h3⟩
      · rw [h2]
        simp only [firstN, h1]
        exact ih (by omega) (by omega) h3 (fun n j σ hj => step n j σ (by omega))
theorem loop_inv {S R : Type} {L : Nat → Int → S → Option R} {I : Nat → S → Prop} {x : Int} {out : S → R} (stop : ∀ n s, L (n + 1) x s = some (out s)) : ∀ {m i N : Nat} {s : S}, (i : Int) + m = x → m < N → I i s →
    (∀ (n j : Nat) s, i ≤ j → (j : Int) < x → I j s → ∃ s', L (n + 1) (j : Int) s = L n ((j + 1 : Nat) : Int) s' ∧ I (j + 1) s') → ∃ s', L N (i : Int) s = some (out s') ∧ I (i + m) s' := by
  intro m
  induction m with
  | zero =>
    intro i N s hx hN hP step
    match N, hN with
    | N + 1, _ =>
      have e : (i : Int) = x := by omega
      rw [e, stop N s]
      exact ⟨s, rfl, hP⟩
  | succ m ih =>
    intro i N s hx hN hP step
    match N, hN with
    | N + 1, hN =>
      obtain ⟨s', h1, h2⟩ := step N i s (Nat.le_refl _) (by omega) hP
      rw [h1]
      have := ih (i := i + 1) (N := N) (s := s') (by omega) (by omega) h2 (fun n j σ hj => step n j σ (by omega))
      have e : i + 1 + m = i + (m + 1) := by omega
      rw [e] at this; exact this
theorem b0MS_l {R α : Type} {y : R} {g : R → Option α} {f : Mm → Option α} : b0MS (some (Sum.inl y : R ⊕ Mm)) g f = g y := rfl
theorem b0MS_r {R α : Type} {s : Mm} {g : R → Option α} {f : Mm → Option α} : b0MS (some (Sum.inr s : R ⊕ Mm)) g f = f s := rfl
theorem firstN_cg {f g : Nat → Option Int} : ∀ {m i : Nat}, (∀ j, i ≤ j → j < i + m → f j = g j) → firstN f m i = firstN g m i
  | 0, _, _ => rfl
  | m + 1, i, h => by
    simp only [firstN]
    rw [h i (Nat.le_refl _) (by omega), firstN_cg (m := m) (i := i + 1) (fun j h1 h2 => h j (by omega) (by omega))]
theorem firstN_none {f : Nat → Option Int} : ∀ {m i : Nat}, firstN f m i = none ↔ ∀ j, i ≤ j → j < i + m → f j = none
  | 0, i => ⟨fun _ j h1 h2 => by omega, fun _ => rfl⟩
  | m + 1, i => by
    simp only [firstN]
    cases hf : f i with
    | some v => exact ⟨(fun h => nomatch h), fun h => by rw [h i (Nat.le_refl _) (by omega)] at hf; exact nomatch hf⟩
    | none =>
      rw [firstN_none (m := m) (i := i + 1)]
      exact ⟨fun h j h1 h2 => by
        by_cases e : j = i
        · rw [e]; exact hf
        · exact h j (by omega) (by omega), fun h j h1 h2 => h j (by omega) (by omega)⟩
/-- skip a stretch of nothing -/
theorem firstN_skip {f : Nat → Option Int} : ∀ {k m i : Nat}, (∀ j, i ≤ j → j < i + k → f j = none) → firstN f (k + m) i = firstN f m (i + k)
  | 0, m, i, _ => by rw [Nat.zero_add]; rfl
  | k + 1, m, i, h => by
    have e : k + 1 + m = (k + m) + 1 := by omega
    have e2 : i + (k + 1) = i + 1 + k := by omega
    rw [e, e2]
    simp only [firstN]
    rw [h i (Nat.le_refl _) (by omega)]
    exact firstN_skip (fun j h1 h2 => h j (by omega) (by omega))
/-! digits of NUMBERS in a row -/
def lastD : Int → DL → Int
  | d, [] => d
  | _, (e, _) :: t => lastD e t
theorem sumL_app {f : Int → Int → Int → Int} : ∀ {A B : DL} {d : Int}, sumL f d (A ++ B) = sumL f d A + sumL f (lastD d A) B
  | [], B, d => by simp [sumL, lastD]
  | (e, m) :: A, B, d => by
    simp only [List.cons_append, sumL, lastD]
    rw [sumL_app]
    omega
theorem lastD_app : ∀ {A B : DL} {d : Int}, lastD d (A ++ B) = lastD (lastD d A) B
  | [], _, _ => rfl
  | (e, m) :: A, B, d => by simp only [List.cons_append, lastD]; exact lastD_app
/-- a NUMBER's digits: the first with how it stands to what is ahead, then those within -/
theorem dn_sum {T : TW} {v ap d : Int} (h0 : 0 ≤ v) (h1 : v ≤ 9999) : sumL (t0 T) d (dn ap v) = t0 T d (fd 5 v) (if 10 ≤ v then ap else ap + 1) + wi T v ∧ lastD d (dn ap v) = v % 10 := by
  have q1 : v / 10 / 10 = v / 100 := by omega
  have q2 : v / 10 / 10 / 10 = v / 1000 := by omega
  have q3 : v / 100 / 10 = v / 1000 := by omega
  unfold dn
  by_cases a3 : v ≤ 999
  · rw [if_pos a3]
    by_cases a2 : v ≤ 99
    · rw [if_pos a2]
      by_cases a1 : v ≤ 9
      · rw [if_pos a1, if_neg (by omega)]
        have e : v % 10 = v := by omega
        have f : fd 5 v = v := by simp only [fd]; rw [if_pos (by omega)]
        have w : wi T v = 0 := by unfold wi; simp only [wiR]; rw [if_pos (by omega)]
        simp only [dnR, sumL, lastD, e, f, w]
        exact ⟨trivial, trivial⟩
      · rw [if_neg a1, if_pos (by omega)]
        have e1 : v / 10 % 10 = v / 10 := by omega
        have f : fd 5 v = v / 10 := by simp only [fd]; rw [if_neg (by omega), if_pos (by omega)]
        have w : wi T v = t0 T (v / 10) (v % 10) 1 := by
          unfold wi; simp only [wiR]
          rw [if_neg (by omega), if_pos (by omega), e1]; omega
        simp only [dnR, sumL, lastD, f, w]
        simp only [show (10 : Int) ^ (0 + 1) = 10 from rfl, e1]
        exact ⟨by simp, trivial⟩
    · rw [if_neg a2, if_pos (by omega)]
      have e1 : v / 100 % 10 = v / 100 := by omega
      have f : fd 5 v = v / 100 := by simp only [fd]; rw [if_neg (by omega), if_neg (by omega), if_pos (by omega), q1]
      have w : wi T v = t0 T (v / 10 % 10) (v % 10) 1 + t0 T (v / 100) (v / 10 % 10) 0 := by
        unfold wi; simp only [wiR]
        rw [if_neg (by omega), if_neg (by omega), if_pos (by omega), q1, e1]; omega
      simp only [dnR, sumL, lastD, f, w]
      simp only [show (10 : Int) ^ (0 + 1) = 10 from rfl, show (10 : Int) ^ (1 + 1) = 100 from rfl, e1]
      exact ⟨by simp; omega, trivial⟩
  · rw [if_neg a3, if_pos (by omega)]
    have e1 : v / 1000 % 10 = v / 1000 := by omega
    have f : fd 5 v = v / 1000 := by simp only [fd]; rw [if_neg (by omega), if_neg (by omega), if_neg (by omega), if_pos (by omega), q2]
    have w : wi T v = t0 T (v / 10 % 10) (v % 10) 1 + t0 T (v / 100 % 10) (v / 10 % 10) 0 + t0 T (v / 1000) (v / 100 % 10) 0 := by
      unfold wi; simp only [wiR]
      rw [if_neg (by omega), if_neg (by omega), if_neg (by omega), if_pos (by omega), q1, q3, e1]; omega
    simp only [dnR, sumL, lastD, f, w]
    simp only [show (10 : Int) ^ (0 + 1) = 10 from rfl, show (10 : Int) ^ (1 + 1) = 100 from rfl, show (10 : Int) ^ (2 + 1) = 1000 from rfl, e1]
    exact ⟨by simp; omega, trivial⟩
theorem dn_ne {ap v : Int} : ∃ d k t, dn ap v = (d, k) :: t := by
  have := dn_len ap v
  cases h : dn ap v with
  | nil => rw [h] at this; simp at this
  | cons a t => exact ⟨a.1, a.2, t, rfl⟩
/-- off of a row, number by number -/
def offN (T : TW) (nums : Nat → Int) : Nat → Int
  | 0 => 0
  | 1 => wi T (nums 0)
  | k + 2 => offN T nums (k + 1) + be T (nums k) (nums (k + 1)) + wi T (nums (k + 1))
theorem offL_N {T : TW} {nums : Nat → Int} : ∀ (k : Nat), (∀ i, i < k + 1 → NN (nums i)) → ∃ d0 k0 t, drw nums (k + 1) = (d0, k0) :: t ∧ sumL (t0 T) d0 t = offN T nums (k + 1) ∧ lastD d0 t = nums k % 10
  | 0, h => by
    have hn := h 0 (by omega)
    obtain ⟨d, m, t, e⟩ := dn_ne (ap := 0) (v := nums 0)
    have s := dn_sum (T := fun a b c => if c = 77 then 1000 else T a b c) (ap := 77) (d := 0) hn.1 hn.2
    have l := (dn_sum (T := T) (ap := 0) (d := 0) hn.1 hn.2)
    have f : ∀ {U : TW} {x y z : Int}, sumL (t0 U) x (dn z (nums 0)) = t0 U x (fd 5 (nums 0)) (if 10 ≤ nums 0 then z else z + 1) + wi U (nums 0) := fun {U x y z} => (dn_sum hn.1 hn.2).1
    refine ⟨d, m, t, by simp [drw, e], ?_, ?_⟩
    · have l1 := l.1
      rw [e] at l1
      simp only [sumL] at l1
      have hd : d = fd 5 (nums 0) ∧ m = if 10 ≤ nums 0 then 0 else 0 + 1 := by
        have q1 : nums 0 / 10 / 10 = nums 0 / 100 := by omega
        have q2 : nums 0 / 10 / 10 / 10 = nums 0 / 1000 := by omega
        unfold dn at e
        by_cases a3 : nums 0 ≤ 999
        · rw [if_pos a3] at e
          by_cases a2 : nums 0 ≤ 99
          · rw [if_pos a2] at e
            by_cases a1 : nums 0 ≤ 9
            · rw [if_pos a1] at e
              simp only [dnR] at e
              injection e with e1 e2
              injection e1 with e3 e4
              rw [if_neg (by omega)]
              refine ⟨?_, by omega⟩
              simp only [fd]; rw [if_pos (by omega)]; omega
            · rw [if_neg a1] at e
              simp only [dnR] at e
              injection e with e1 e2
              injection e1 with e3 e4
              simp only [show (10 : Int) ^ (0 + 1) = 10 from rfl] at e3
              rw [if_pos (by omega)]
              refine ⟨?_, by omega⟩
              simp only [fd]; rw [if_neg (by omega), if_pos (by omega)]; omega
          · rw [if_neg a2] at e
            simp only [dnR] at e
            injection e with e1 e2
            injection e1 with e3 e4
            simp only [show (10 : Int) ^ (1 + 1) = 100 from rfl] at e3
            rw [if_pos (by omega)]
            refine ⟨?_, by omega⟩
            simp only [fd]; rw [if_neg (by omega), if_neg (by omega), if_pos (by omega), q1]; omega
        · rw [if_neg a3] at e
          simp only [dnR] at e
          injection e with e1 e2
          injection e1 with e3 e4
          simp only [show (10 : Int) ^ (2 + 1) = 1000 from rfl] at e3
          rw [if_pos (by omega)]
          refine ⟨?_, by omega⟩
          simp only [fd]; rw [if_neg (by omega), if_neg (by omega), if_neg (by omega), if_pos (by omega), q2]; omega
      rw [hd.1, hd.2] at l1
      rw [hd.1]
      simp only [offN]
      omega
    · have l2 := l.2
      rw [e] at l2
      exact l2
  | k + 1, h => by
    obtain ⟨d0, k0, t, e, s, l⟩ := offL_N (T := T) k (fun i hi => h i (by omega))
    have hn := h (k + 1) (by omega)
    have q := dn_sum (T := T) (ap := 2) (d := lastD d0 t) hn.1 hn.2
    refine ⟨d0, k0, t ++ dn 2 (nums (k + 1)), ?_, ?_, ?_⟩
    · have : drw nums (k + 1 + 1) = drw nums (k + 1) ++ dn 2 (nums (k + 1)) := by rw [drw]; simp
      rw [this, e]; rfl
    · rw [sumL_app, s, q.1, l]
      simp only [offN]
      unfold be
      have : (if 10 ≤ nums (k + 1) then (2 : Int) else 2 + 1) = if 10 ≤ nums (k + 1) then 2 else 3 := rfl
      rw [this]; omega
    · rw [lastD_app]; exact q.2
theorem offL_eq {T : TW} {nums : Nat → Int} {p : Nat} (h1 : 1 ≤ p) (h : ∀ i, i < p → NN (nums i)) : offL T (drw nums p) = offN T nums p := by
  obtain ⟨k, rfl⟩ : ∃ k, p = k + 1 := ⟨p - 1, by omega⟩
  obtain ⟨d0, k0, t, e, s, -⟩ := offL_N (T := T) k h
  rw [e]
  exact s
