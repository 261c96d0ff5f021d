-- words: the class's list, the reference's numbers
def spl : List Int → List Int → List (List Int)
  | _, [] => []
  | acc, c :: r => if c = 32 then acc :: spl [] r else spl (acc ++ [c]) r
def wds : List (List Int) := spl [] ((bytJS.getD 0 []).map Int32.toInt)
def litB : Nat → List (List Int) → Bool
  | o, [] => decide (o = 136)
  | o, w :: ws => (List.range w.length).all (fun k => decide (schI 0 (o + k) = w.getD k 0 ∧ w.getD k 0 ≠ 32)) && decide (schI 0 (o + w.length) = 32) && litB (o + w.length + 1) ws
theorem litW : litB 0 wds = true := by decide +kernel
/-- the tape from one place to another is a word -/
def eqW (f : Nat → Int) (a b : Nat) (w : List Int) : Prop := b = a + w.length ∧ ∀ k, k < w.length → f (a + k) = w.getD k 0
def firstW (f : Nat → Int) (a b : Nat) : List (List Int) → Nat → Option Nat → Prop
  | [], _, r => r = none
  | w :: ws, i, r => (eqW f a b w ∧ r = some i) ∨ (¬ eqW f a b w ∧ firstW f a b ws (i + 1) r)
theorem firstW_ex {f : Nat → Int} {a b : Nat} : ∀ (ws : List (List Int)) (i : Nat), ∃ r, firstW f a b ws i r
  | [], i => ⟨none, rfl⟩
  | w :: ws, i => by
    by_cases h : eqW f a b w
    · exact ⟨some i, Or.inl ⟨h, rfl⟩⟩
    · obtain ⟨r, hr⟩ := firstW_ex ws (i + 1)
      exact ⟨r, Or.inr ⟨h, hr⟩⟩
theorem litB_lt : ∀ {ws : List (List Int)} {o : Nat}, litB o ws = true → o ≤ 136
  | [], o, h => by
    have : o = 136 := of_decide_eq_true h
    omega
  | w :: ws, o, h => by
    unfold litB at h
    rw [Bool.and_eq_true, Bool.and_eq_true] at h
    have := litB_lt h.2
    omega
theorem word_in {a b : Nat} {s : Mm} {w : List Int} {o : Nat} (hb : b ≤ 300) (ho : o + w.length < 136) (hw : ∀ k, k < w.length → schI 0 (o + k) = w.getD k 0 ∧ w.getD k 0 ≠ 32) (x3 : Int) : ∀ (d k n : Nat) (fl : Int), k + d = w.length → d < n → (fl = 0 ∨ fl = 1) → (fl = 1 ↔ ∀ j, j < k → a + j < b ∧ s 91 (a + j) = w.getD j 0) → a ≤ 300 →
    ∃ (m : Nat) (fl2 : Int), n = m + d ∧ L_R_wordFrom_13 n (a : Int) (b : Int) x3 ((a + k : Nat) : Int) fl ((o + k : Nat) : Int) s = L_R_wordFrom_13 m (a : Int) (b : Int) x3 ((a + w.length : Nat) : Int) fl2 ((o + w.length : Nat) : Int) s ∧ (fl2 = 0 ∨ fl2 = 1) ∧ (fl2 = 1 ↔ ∀ j, j < w.length → a + j < b ∧ s 91 (a + j) = w.getD j 0) := by
  intro d
  induction d with
  | zero =>
    intro k n fl hk hn h01 hfl ha
    have e : k = w.length := by omega
    subst e
    exact ⟨n, fl, rfl, rfl, h01, hfl⟩
  | succ d ih =>
    intro k n fl hk hn h01 hfl ha
    match n, hn with
    | n + 1, hn =>
      obtain ⟨w1, w2⟩ := hw k (by omega)
      have e1 : ((a + k : Nat) : Int) + 1 = ((a + (k + 1) : Nat) : Int) := by omega
      have e2 : ((o + k : Nat) : Int) + 1 = ((o + (k + 1) : Nat) : Int) := by omega
      have r1 : r32 ((a + (k + 1) : Nat) : Int) := r32_nat (by omega)
      have r2 : r32 ((o + (k + 1) : Nat) : Int) := r32_nat (by omega)
      have step : ∀ y : Int, (y = 0 ∨ y = 1) → (y = 1 ↔ fl = 1 ∧ a + k < b ∧ s 91 (a + k) = w.getD k 0) → ∃ (m : Nat) (fl2 : Int), n + 1 = m + (d + 1) ∧ L_R_wordFrom_13 n (a : Int) (b : Int) x3 ((a + (k + 1) : Nat) : Int) y ((o + (k + 1) : Nat) : Int) s = L_R_wordFrom_13 m (a : Int) (b : Int) x3 ((a + w.length : Nat) : Int) fl2 ((o + w.length : Nat) : Int) s ∧ (fl2 = 0 ∨ fl2 = 1) ∧ (fl2 = 1 ↔ ∀ j, j < w.length → a + j < b ∧ s 91 (a + j) = w.getD j 0) := fun y h01 hy => by
        obtain ⟨m, fl2, m1, m2, m3, m4⟩ := ih (k + 1) n y (by omega) (by omega) h01 (by
          rw [hy, hfl]
          constructor
          · rintro ⟨q1, q2⟩ j hj
            by_cases e : j = k
            · subst e; exact q2
            · exact q1 j (by omega)
          · exact fun q => ⟨fun j hj => q j (by omega), q k (by omega)⟩) ha
        exact ⟨m, fl2, by omega, m2, m3, m4⟩
      rw [L_R_wordFrom_13, if_neg (by omega), if_pos (by omega), Int.toNat_natCast, w1, bindM_eq, bindM_eq, if_neg w2, bindM_eq, bindM_eq]
      have nx : ∀ y : Int, (fun (y8 : Int) => if r32 (((a + k : Nat) : Int) + 1) then (fun (x3_4 : Int) (x4_4 : Int) (x5_4 : Int) => if r32 (((o + k : Nat) : Int) + 1) then L_R_wordFrom_13 n (a : Int) (b : Int) x3_4 x4_4 x5_4 (((o + k : Nat) : Int) + 1) s else none) x3 (((a + k : Nat) : Int) + 1) y8 else none) y = L_R_wordFrom_13 n (a : Int) (b : Int) x3 ((a + (k + 1) : Nat) : Int) y ((o + (k + 1) : Nat) : Int) s := fun y => by
        dsimp only
        rw [e1, e2, if_pos r1, if_pos r2]
      by_cases f0 : fl = 0
      · rw [if_pos f0]
        refine (fun ⟨m, fl2, q1, q2, q3⟩ => ⟨m, fl2, q1, (nx 0).trans q2, q3⟩) (step 0 (Or.inl rfl) ⟨fun q => by omega, fun q => by omega⟩)
      · rw [if_neg f0]
        by_cases hab : (b : Int) ≤ ((a + k : Nat) : Int)
        · rw [if_pos hab]
          refine (fun ⟨m, fl2, q1, q2, q3⟩ => ⟨m, fl2, q1, (nx 0).trans q2, q3⟩) (step 0 (Or.inl rfl) ⟨fun q => by omega, fun q => by omega⟩)
        · rw [if_neg hab, if_pos (show 0 ≤ ((a + k : Nat) : Int) ∧ ((a + k : Nat) : Int) < 300 by omega), Int.toNat_natCast]
          by_cases he : s 91 (a + k) = w.getD k 0
          · rw [if_pos he]
            refine (fun ⟨m, fl2, q1, q2, q3⟩ => ⟨m, fl2, q1, (nx 1).trans q2, q3⟩) (step 1 (Or.inr rfl) ⟨fun _ => ⟨by omega, by omega, he⟩, fun _ => rfl⟩)
          · rw [if_neg he]
            refine (fun ⟨m, fl2, q1, q2, q3⟩ => ⟨m, fl2, q1, (nx 0).trans q2, q3⟩) (step 0 (Or.inl rfl) ⟨fun q => by omega, fun q => absurd q.2.2 he⟩)
def resW : Option Nat → Int ⊕ Unit
  | some j => .inl ((300 + j : Nat) : Int)
  | none => .inr ()
theorem words_in {a b : Nat} {s : Mm} (hab : a ≤ b) (hb : b ≤ 300) : ∀ (ws : List (List Int)) (o i n : Nat) (r : Option Nat), litB o ws = true → 136 - o < n → i + ws.length ≤ 100 → firstW (s 91) a b ws i r → L_R_wordFrom_13 n (a : Int) (b : Int) ((300 + i : Nat) : Int) (a : Int) 1 (o : Int) s = some (resW r) := by
  intro ws
  induction ws with
  | nil =>
    intro o i n r hl hn hi hr
    have ho : o = 136 := of_decide_eq_true hl
    have hr : r = none := hr
    subst ho hr
    match n, hn with
    | n + 1, _ =>
      rw [L_R_wordFrom_13, if_pos (by omega)]
      rfl
  | cons w ws ih =>
    intro o i n r hl hn hi hr
    unfold litB at hl
    rw [Bool.and_eq_true, Bool.and_eq_true] at hl
    obtain ⟨⟨l1, l2⟩, l3⟩ := hl
    have lt := litB_lt l3
    have l2 : schI 0 (o + w.length) = 32 := of_decide_eq_true l2
    have hw : ∀ k, k < w.length → schI 0 (o + k) = w.getD k 0 ∧ w.getD k 0 ≠ 32 := fun k hk => of_decide_eq_true (List.all_eq_true.mp l1 k (List.mem_range.mpr hk))
    obtain ⟨m, fl, m1, m2, m3, m4⟩ := word_in (a := a) (b := b) (s := s) (w := w) (o := o) hb (by omega) hw ((300 + i : Nat) : Int) w.length 0 n 1 (by omega) (by omega) (Or.inr rfl) ⟨fun _ j hj => by omega, fun _ => rfl⟩ (by omega)
    have m2 : L_R_wordFrom_13 n (a : Int) (b : Int) ((300 + i : Nat) : Int) (a : Int) 1 (o : Int) s = _ := m2
    rw [m2]
    match m, m1 with
    | 0, m1 => omega
    | m + 1, m1 =>
      have e1 : ((300 + i : Nat) : Int) + 1 = ((300 + (i + 1) : Nat) : Int) := by omega
      have e2 : ((o + w.length : Nat) : Int) + 1 = ((o + w.length + 1 : Nat) : Int) := by omega
      have r1 : r32 ((300 + (i + 1) : Nat) : Int) := r32_nat (by simp only [List.length_cons] at hi; omega)
      have r2 : r32 ((o + w.length + 1 : Nat) : Int) := r32_nat (by omega)
      rw [L_R_wordFrom_13, if_neg (by omega), if_pos (by omega), Int.toNat_natCast, l2, bindM_eq, bindM_eq, if_pos rfl, bindM_eq]
      have no : ¬ eqW (s 91) a b w → (if r32 (((300 + i : Nat) : Int) + 1) then (fun (x3_4 : Int) (x4_4 : Int) (x5_4 : Int) => if r32 (((o + w.length : Nat) : Int) + 1) then L_R_wordFrom_13 m (a : Int) (b : Int) x3_4 x4_4 x5_4 (((o + w.length : Nat) : Int) + 1) s else none) (((300 + i : Nat) : Int) + 1) (a : Int) 1 else none) = some (resW r) := fun hne => by
        rcases hr with ⟨h1, -⟩ | ⟨-, h2⟩
        · exact absurd h1 hne
        · rw [e1, if_pos r1]
          dsimp only
          rw [e2, if_pos r2]
          exact ih (o + w.length + 1) (i + 1) m r l3 (by omega) (by simp only [List.length_cons] at hi; omega) h2
      by_cases f0 : fl = 0
      · rw [if_pos f0]
        exact no (fun ⟨q1, q2⟩ => by
          have := m4.mpr (fun j hj => ⟨by omega, q2 j hj⟩)
          omega)
      · rw [if_neg f0]
        by_cases he : ((a + w.length : Nat) : Int) = (b : Int)
        · rw [if_pos he]
          have heq : eqW (s 91) a b w := ⟨by omega, fun k hk => (m4.mp (by omega) k hk).2⟩
          rcases hr with ⟨-, h2⟩ | ⟨h1, -⟩
          · rw [h2]; rfl
          · exact absurd heq h1
        · rw [if_neg he]
          exact no (fun ⟨q1, _⟩ => he (by omega))
theorem wordFrom_ok {a b : Nat} {s : Mm} (hab : a ≤ b) (hb : b ≤ 300) {r : Option Nat} (hr : firstW (s 91) a b wds 0 r) : F_R_wordFrom (a : Int) (b : Int) s = some (match r with | some j => ((300 + j : Nat) : Int) | none => 1) := by
  have q := words_in hab hb wds 0 0 LF r litW (by unfold LF; omega) (by decide +kernel) hr
  have q : L_R_wordFrom_13 LF (a : Int) (b : Int) 300 (a : Int) 1 0 s = _ := q
  unfold F_R_wordFrom
  rw [q]
  cases r <;> rfl
