/-! the reference: laws, names, quarrels -/
def EM (σ : Mm) (k : Nat) : Int := if k < 10 then σ 225 k else if k < 20 then σ 226 (k - 10) else if k < 30 then σ 227 (k - 20) else if k < 40 then σ 228 (k - 30) else σ 200 45
def LawM (σ : Mm) (t w : Nat) (L : Law) : Prop := match L with
  | none => ∀ k : Nat, (k : Int) < σ 204 t → ¬ σ 205 (24 * t + k) = (w : Int)
  | some cs => ∃ i : Nat, (∃ k : Nat, (k : Int) < σ 204 t ∧ σ 205 (24 * t + k) = (w : Int)) ∧ (∀ k : Nat, (k : Int) < σ 204 t → σ 205 (24 * t + k) = (w : Int) → σ 206 (24 * t + k) = (i : Int)) ∧ MCode (σ 210) (σ 211) i cs ∧ i + cs.length < 400 * (t + 1)
def LawsM (σ : Mm) (G O M : Law) : Prop := (σ 201 2 = -1 ∧ G = none ∧ O = none ∧ M = none) ∨ ∃ t : Nat, t < 4 ∧ σ 201 2 = (t : Int) ∧ 0 ≤ σ 204 t ∧ σ 204 t ≤ 24 ∧ LawM σ t 0 G ∧ LawM σ t 1 O ∧ LawM σ t 2 M
theorem LawM.fr {S : List Nat} {σ τ : Mm} {t w : Nat} {L : Law} (hf : Fr S σ τ) (hS : ∀ i ∈ S, i < 204 ∨ 211 < i) (h : LawM σ t w L) : LawM τ t w L := by
  have n : ∀ i, 204 ≤ i → i ≤ 211 → τ i = σ i := fun i h1 h2 => hf i (fun z => by have := hS i z; omega)
  unfold LawM at *
  rw [n 204 (by omega) (by omega), n 205 (by omega) (by omega), n 206 (by omega) (by omega), n 210 (by omega) (by omega), n 211 (by omega) (by omega)]
  exact h
theorem LawsM.fr {S : List Nat} {σ τ : Mm} {G O M : Law} (hf : Fr S σ τ) (h2 : τ 201 2 = σ 201 2) (hS : ∀ i ∈ S, i < 204 ∨ 211 < i) (h : LawsM σ G O M) : LawsM τ G O M := by
  rcases h with ⟨a, b⟩ | ⟨t, h1, h2', h3, h4, h5, h6, h7⟩
  · exact Or.inl ⟨by rw [h2]; exact a, b⟩
  · have e : τ 204 = σ 204 := hf 204 (fun z => by have := hS 204 z; omega)
    exact Or.inr ⟨t, h1, by rw [h2]; exact h2', by rw [e]; exact h3, by rw [e]; exact h4, h5.fr hf hS, h6.fr hf hS, h7.fr hf hS⟩
theorem orders_none {σ : Mm} {t w : Nat} (ht : t < 4) (h2 : σ 201 2 = (t : Int)) (h4 : σ 204 t ≤ 24) (hno : ∀ k : Nat, (k : Int) < σ 204 t → ¬ σ 205 (24 * t + k) = (w : Int)) : ∀ (n k : Nat) (x : Int), k ≤ 24 → 24 < n + k → L_M_ordersOf_4 n (w : Int) x (k : Int) σ = some x := by
  intro n
  induction n with
  | zero => intro k x h1 h; omega
  | succ n ih =>
    intro k x h1 h
    rw [L_M_ordersOf_4]
    simp only [h2, Int.toNat_natCast]
    rw [if_neg (by omega), if_pos (by omega)]
    by_cases hk : σ 204 t ≤ (k : Int)
    · rw [if_pos hk]
    · rw [if_neg hk]
      have e : (24 * (t : Int)) + (k : Int) = ((24 * t + k : Nat) : Int) := by omega
      rw [e]
      simp only [bindM, Int.toNat_natCast]
      rw [if_pos (by omega), if_neg (hno k (by omega)), if_pos ⟨by omega, by omega⟩]
      have e2 : (k : Int) + 1 = ((k + 1 : Nat) : Int) := by omega
      rw [e2]
      exact ih (k + 1) x (by omega) (by omega)
theorem orders_some {σ : Mm} {t w i : Nat} (ht : t < 4) (h2 : σ 201 2 = (t : Int)) (h4 : σ 204 t ≤ 24) (hat : ∀ k : Nat, (k : Int) < σ 204 t → σ 205 (24 * t + k) = (w : Int) → σ 206 (24 * t + k) = (i : Int)) : ∀ (n k : Nat) (x : Int), k ≤ 24 → 24 < n + k → (x = (i : Int) ∨ ∃ j : Nat, k ≤ j ∧ (j : Int) < σ 204 t ∧ σ 205 (24 * t + j) = (w : Int)) → L_M_ordersOf_4 n (w : Int) x (k : Int) σ = some (i : Int) := by
  intro n
  induction n with
  | zero => intro k x h1 h; omega
  | succ n ih =>
    intro k x h1 h hx
    rw [L_M_ordersOf_4]
    simp only [h2, Int.toNat_natCast]
    rw [if_neg (by omega), if_pos (by omega)]
    by_cases hk : σ 204 t ≤ (k : Int)
    · rw [if_pos hk]
      rcases hx with hx | ⟨j, j1, j2, j3⟩
      · rw [hx]
      · omega
    · rw [if_neg hk]
      have e : (24 * (t : Int)) + (k : Int) = ((24 * t + k : Nat) : Int) := by omega
      rw [e]
      simp only [bindM, Int.toNat_natCast]
      rw [if_pos (by omega)]
      have e2 : (k : Int) + 1 = ((k + 1 : Nat) : Int) := by omega
      by_cases hw : σ 205 (24 * t + k) = (w : Int)
      · rw [if_pos hw, if_pos (by omega), if_pos ⟨by omega, by omega⟩, e2]
        exact ih (k + 1) _ (by omega) (by omega) (Or.inl (hat k (by omega) hw))
      · rw [if_neg hw, if_pos ⟨by omega, by omega⟩, e2]
        refine ih (k + 1) x (by omega) (by omega) ?_
        rcases hx with hx | ⟨j, j1, j2, j3⟩
        · exact Or.inl hx
        · refine Or.inr ⟨j, ?_, j2, j3⟩
          rcases Nat.lt_or_ge k j with z | z
          · omega
          · have : j = k := by omega
            subst this
            exact absurd j3 hw
theorem orders_off {σ : Mm} {w : Nat} (h2 : σ 201 2 = -1) : F_M_ordersOf (w : Int) σ = some (-1) := by
  unfold F_M_ordersOf
  have : L_M_ordersOf_4 LF (w : Int) (-1) 0 σ = some (-1) := by
    have e : LF = 999999 + 1 := rfl
    rw [e, L_M_ordersOf_4, if_pos h2]
  rw [this]; rfl
theorem orders_no {σ : Mm} {t w : Nat} (ht : t < 4) (h2 : σ 201 2 = (t : Int)) (h4 : σ 204 t ≤ 24) (h : LawM σ t w none) : F_M_ordersOf (w : Int) σ = some (-1) := by
  unfold F_M_ordersOf
  have := orders_none ht h2 h4 h LF 0 (-1) (by omega) (by unfold LF; omega)
  rw [show ((0 : Nat) : Int) = 0 from rfl] at this
  rw [this]; rfl
theorem orders_yes {σ : Mm} {t w : Nat} {cs : List Int} (ht : t < 4) (h2 : σ 201 2 = (t : Int)) (h4 : σ 204 t ≤ 24) (h : LawM σ t w (some cs)) : ∃ i : Nat, F_M_ordersOf (w : Int) σ = some (i : Int) ∧ MCode (σ 210) (σ 211) i cs ∧ i + cs.length < 1600 := by
  obtain ⟨i, ⟨k, k1, k2⟩, h5, h6, h7⟩ := h
  refine ⟨i, ?_, h6, by omega⟩
  unfold F_M_ordersOf
  have := orders_some ht h2 h4 h5 LF 0 (-1) (by omega) (by unfold LF; omega) (Or.inr ⟨k, by omega, k1, k2⟩)
  rw [show ((0 : Nat) : Int) = 0 from rfl] at this
  rw [this]; rfl
theorem EM_1 {σ : Mm} {k : Nat} (h : k < 10) : EM σ k = σ 225 k := by unfold EM; rw [if_pos h]
theorem EM_2 {σ : Mm} {k : Nat} (h : k < 10) : EM σ (10 + k) = σ 226 k := by unfold EM; rw [if_neg (by omega), if_pos (by omega)]; congr 1; omega
theorem EM_3 {σ : Mm} {k : Nat} (h : k < 10) : EM σ (20 + k) = σ 227 k := by unfold EM; rw [if_neg (by omega), if_neg (by omega), if_pos (by omega)]; congr 1; omega
theorem EM_4 {σ : Mm} {k : Nat} (h : k < 10) : EM σ (30 + k) = σ 228 k := by unfold EM; rw [if_neg (by omega), if_neg (by omega), if_neg (by omega), if_pos (by omega)]; congr 1; omega
theorem EM_5 {σ : Mm} : EM σ 40 = σ 200 45 := by unfold EM; rfl
theorem EM_fr {S : List Nat} {σ τ : Mm} (hf : Fr S σ τ) (h1 : τ 200 45 = σ 200 45) (hS : ∀ i ∈ S, i < 225 ∨ 228 < i) : EM τ = EM σ := by
  funext k
  have n : ∀ i, 225 ≤ i → i ≤ 228 → τ i = σ i := fun i h1 h2 => hf i (fun z => by have := hS i z; omega)
  unfold EM
  rw [n 225 (by omega) (by omega), n 226 (by omega) (by omega), n 227 (by omega) (by omega), n 228 (by omega) (by omega), h1]
theorem names_ok {σ : Mm} (hE : EnvOK (EM σ)) {l r : Nat} {ap la : Int} (hl : l < 10) (hr : r < 10) : Ok (F_M_names (l : Int) (r : Int) ap la σ) (fun s => Fr [223] σ s ∧ ∀ k : Nat, k ≤ 8 → s 223 k = nmE (EM σ) l r ap la k) := by
  obtain ⟨g1, g2, g3, g4, g5⟩ := hE
  have u1 := g2 l hl
  have u2 := g2 r hr
  have b1 := g4 l hl
  rw [EM_2 hl] at u1
  rw [EM_2 hr] at u2
  rw [EM_4 hl] at b1
  unfold F_M_names
  simp only [Int.toNat_natCast]
  refine Ok.bM (Ok.bM (Ok.bM (Ok.ck (by omega) (Ok.bM (Ok.ck (by omega) (Ok.bM (Ok.ck (by omega) (Ok.ck (by omega) ?_))))))))
  simp only [st2_f, Nat.reduceEqDiff, reduceIte]
  refine Ok.ck ⟨by omega, by omega⟩ (Ok.bM (Ok.bM (Ok.bM (Ok.ck (by omega) (Ok.bM (Ok.ret ⟨?_, ?_⟩))))))
  · intro i hi
    simp only [st2_f]
    have : i ≠ 223 := fun z => hi (by rw [z]; decide)
    simp only [this, if_false]
  · intro k hk
    have hbit : iand (ishr (σ 228 l) (r : Int)) 1 = bitI (σ 228 l) r := bit_of (by omega) (by omega) (by omega) (by omega)
    have c9 : k = 0 ∨ k = 1 ∨ k = 2 ∨ k = 3 ∨ k = 4 ∨ k = 5 ∨ k = 6 ∨ k = 7 ∨ k = 8 := by omega
    unfold nmE
    simp only [Int.toNat_natCast, EM_1 hl, EM_1 hr, EM_2 hl, EM_2 hr, EM_4 hl, EM_5]
    rcases c9 with rfl | rfl | rfl | rfl | rfl | rfl | rfl | rfl | rfl
    all_goals simp [st2_f, hbit]
