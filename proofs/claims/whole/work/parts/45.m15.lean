def DF (f : Nat → Int) : Nat → DL → Prop
  | _, [] => True
  | i, (d, _) :: t => f i = d ∧ DF f (i + 1) t
theorem MDR.df {f g h : Nat → Int} : ∀ {L : DL} {i : Nat}, MDR f g h i L → DF f i L
  | [], _, _ => trivial
  | (_, _) :: _, _, hs => ⟨hs.1, MDR.df hs.2.2.2⟩
theorem MRow.df {f g h : Nat → Int} : ∀ {L : DL}, MRow f g h L → DF f 0 L
  | [], _ => trivial
  | (_, _) :: _, hs => ⟨hs.1, MDR.df hs.2⟩
def EqU (E F : Nat → Int) : Prop := ∀ k, ¬ (10 ≤ k ∧ k < 20) → F k = E k
theorem EnvOK.u {E F : Nat → Int} (h : EnvOK E) (he : EqU E F) (hb : ∀ k, k < 10 → 0 ≤ F (10 + k) ∧ F (10 + k) ≤ 999) : EnvOK F := by
  obtain ⟨h1, h2, h3, h4, h5⟩ := h
  refine ⟨fun k hk => ?_, hb, fun k hk => ?_, fun k hk => ?_, ?_⟩
  · rw [he k (by omega)]; exact h1 k hk
  · rw [he (20 + k) (by omega)]; exact h3 k hk
  · rw [he (30 + k) (by omega)]; exact h4 k hk
  · rw [he 40 (by omega)]; exact h5
theorem useD_env : ∀ {L : DL} {E : Nat → Int}, DOK L → EnvOK E → EnvOK (useD L E) ∧ EqU E (useD L E)
  | [], _, _, h => ⟨h, fun _ _ => rfl⟩
  | (d, m) :: t, E, hK, h => by
    have hd := hK.1
    have h1 : EqU E (fun j => if j = 10 + d.toNat then min 999 (E j + 1) else E j) := fun k hk => by
      show (if k = 10 + d.toNat then _ else _) = _
      rw [if_neg (by omega)]
    have h2 : EnvOK (fun j => if j = 10 + d.toNat then min 999 (E j + 1) else E j) := h.u h1 (fun k hk => by
      have := h.2.1 k hk
      show 0 ≤ (if 10 + k = 10 + d.toNat then _ else _) ∧ (if 10 + k = 10 + d.toNat then _ else _) ≤ 999
      split <;> omega)
    obtain ⟨r1, r2⟩ := useD_env (L := t) hK.2 h2
    exact ⟨r1, fun k hk => (r2 k hk).trans (h1 k hk)⟩
theorem uses_loop : ∀ (L : DL) (n i : Nat) (σ : Mm), L.length < n → σ 200 53 = ((i + L.length : Nat) : Int) → i + L.length ≤ 16 → DF (σ 230) i L → DOK L → EnvOK (EM σ) → Ok (L_M_usesDigits_2 n (i : Int) σ) (fun τ => EM τ = useD L (EM σ) ∧ Fr [226] σ τ) := by
  intro L
  induction L with
  | nil =>
    intro n i σ hn hlen hle hD hK hE
    cases n with
    | zero => simp at hn
    | succ n =>
      rw [L_M_usesDigits_2]
      simp only [List.length_nil] at hlen
      exact Ok.it (by omega) (Ok.ret ⟨rfl, Fr.rf⟩)
  | cons p L ih =>
    obtain ⟨d, m⟩ := p
    intro n i σ hn hlen hle hD hK hE
    cases n with
    | zero => simp at hn
    | succ n =>
      rw [L_M_usesDigits_2]
      simp only [List.length_cons] at hn hlen hle
      have hd1 : 0 ≤ d := hK.1.1
      obtain ⟨a, rfl⟩ := Int.eq_ofNat_of_zero_le hd1
      have la : a < 10 := by have := hK.1.2.1; omega
      have hu := hE.2.1 a la
      rw [EM_2 la] at hu
      have hd : σ 230 i = (a : Int) := hD.1
      simp only [Int.toNat_natCast, hd]
      refine Ok.ie (by omega) (Ok.ck (by omega) (Ok.ck (by omega) (Ok.ck (by omega) (Ok.ck (by omega) (Ok.bM (Ok.ck ⟨by split <;> omega, by split <;> omega⟩ (Ok.ck (by omega) (Ok.bM (Ok.ck ⟨by omega, by omega⟩ ?_)))))))))
      have e2 : (i : Int) + 1 = ((i + 1 : Nat) : Int) := by omega
      rw [e2]
      have hEM : EM (st2 σ 226 a (σ 226 a + (if 999 ≤ σ 226 a then 0 else 1))) = fun j => if j = 10 + (a : Int).toNat then min 999 (EM σ j + 1) else EM σ j := by
        rw [EM_u la]
        funext j
        simp only [Int.toNat_natCast]
        by_cases hj : j = 10 + a
        · subst hj
          rw [if_pos rfl, if_pos rfl, EM_2 la]
          split <;> omega
        · rw [if_neg hj, if_neg hj]
      have hE2 := (useD_env (L := [((a : Int), m)]) (E := EM σ) ⟨hK.1, trivial⟩ hE).1
      refine (ih n (i + 1) _ (by omega) ?_ (by omega) ?_ hK.2 (by rw [hEM]; exact hE2)).mono (fun τ hτ => ⟨?_, (Fr.rf.st (by decide)).tr hτ.2⟩)
      · simp only [st2_f, Nat.reduceEqDiff, reduceIte]; rw [hlen]; congr 1; omega
      · simp only [st2_f, Nat.reduceEqDiff, reduceIte]; exact hD.2
      · rw [hτ.1, hEM]; rfl
theorem uses_ok {σ : Mm} {L : DL} (hlen : σ 200 53 = (L.length : Int)) (hle : L.length ≤ 16) (hD : DF (σ 230) 0 L) (hK : DOK L) (hE : EnvOK (EM σ)) : Ok (F_M_usesDigits σ) (fun τ => EM τ = useD L (EM σ) ∧ Fr [226] σ τ) := by
  unfold F_M_usesDigits
  exact Ok.b0M (uses_loop L LF 0 σ (by unfold LF; omega) (by rw [hlen]; congr 1; omega) (by omega) hD hK hE) (fun τ hτ => Ok.ret hτ)
/-- a ROW as the reference keeps it -/
def RowM (a : Nat → Int) (r p : Nat) (mn : Int) (nums : Nat → Int) : Prop := 1 ≤ p ∧ p ≤ 4 ∧ 0 ≤ mn ∧ mn < 2 ^ p ∧ a (10 + r) = (p : Int) ∧ a (70 + r) = mn ∧ (∀ k, k < 4 → a (22 + 4 * r + k) = nums k) ∧ ∀ k, k < p → 0 ≤ nums k ∧ nums k ≤ 9999
theorem mn15 {p : Nat} {mn : Int} (h1 : p ≤ 4) (h2 : mn < 2 ^ p) : mn ≤ 15 := by
  have : p = 0 ∨ p = 1 ∨ p = 2 ∨ p = 3 ∨ p = 4 := by omega
  rcases this with rfl | rfl | rfl | rfl | rfl <;> simp at h2 <;> omega
theorem laysRow_loop {r : Nat} (hr : r < 12) : ∀ (m n k : Nat) (σ : Mm), k + m = 4 → m < n → Ok (L_M_laysRow_28 n (r : Int) (k : Int) σ) (fun τ => (∀ j, k ≤ j → j < 4 → τ 229 j = σ 201 (22 + 4 * r + j)) ∧ (∀ j, j < k → τ 229 j = σ 229 j) ∧ Fr [229] σ τ) := by
  intro m
  induction m with
  | zero =>
    intro n k σ hk hn
    match n, hn with
    | n + 1, _ =>
      rw [L_M_laysRow_28]
      exact Ok.it (by omega) (Ok.ret ⟨fun j h1 h2 => by omega, fun _ _ => rfl, Fr.rf⟩)
  | succ m ih =>
    intro n k σ hk hn
    match n, hn with
    | n + 1, hn =>
      rw [L_M_laysRow_28]
      have e1 : ((22 : Int) + 4 * (r : Int) + (k : Int)).toNat = 22 + 4 * r + k := by omega
      have e2 : (k : Int) + 1 = ((k + 1 : Nat) : Int) := by omega
      simp only [e1, Int.toNat_natCast]
      refine Ok.ie (by omega) (Ok.ck (by omega) (Ok.ck (by omega) (Ok.bM (Ok.ck ⟨by omega, by omega⟩ ?_))))
      rw [e2]
      refine (ih n (k + 1) _ (by omega) (by omega)).mono (fun τ hτ => ⟨fun j h1 h2 => ?_, fun j hj => ?_, (Fr.rf.st (by decide)).tr hτ.2.2⟩)
      · by_cases hj : j = k
        · subst hj
          rw [hτ.2.1 j (by omega)]; simp [st2_f]
        · rw [hτ.1 j (by omega) h2]; simp [st2_f]
      · rw [hτ.2.1 j (by omega)]
        have : j ≠ k := by omega
        simp [st2_f, this]
theorem laysRow_ok {σ : Mm} {r p : Nat} {mn : Int} {nums : Nat → Int} (hr : r < 12) (hR : RowM (σ 201) r p mn nums) : Ok (F_M_laysRow (r : Int) σ) (fun τ => Laid τ p mn ∧ (∀ j, j < 4 → τ 229 j = nums j) ∧ Fr [200, 229] σ τ ∧ (∀ s, s ≠ 48 → s ≠ 49 → τ 200 s = σ 200 s)) := by
  obtain ⟨h1, h2, h3, h4, h5, h6, h7, h8⟩ := hR
  unfold F_M_laysRow
  have e1 : ((10 : Int) + (r : Int)).toNat = 10 + r := by omega
  have e2 : ((70 : Int) + (r : Int)).toNat = 70 + r := by omega
  simp only [e1, e2]
  refine Ok.ck (by omega) (Ok.bM (Ok.ck (by omega) (Ok.bM ?_)))
  refine Ok.b0M (laysRow_loop hr 4 LF 0 _ (by omega) (by unfold LF; omega)) (fun τ hτ => ?_)
  obtain ⟨t1, t2, t3⟩ := hτ
  have n : ∀ j, j < 4 → τ 229 j = nums j := fun j hj => by
    rw [t1 j (by omega) hj]; simp only [st2_f, Nat.reduceEqDiff, reduceIte]; exact h7 j hj
  refine Ok.ret ⟨⟨h2, h1, h3, mn15 h2 h4, ?_, ?_, fun i hi => by rw [n i (by omega)]; exact h8 i hi⟩, n, ?_, ?_⟩
  · rw [t3 200 (by decide)]; simp [st2_f, h5]
  · rw [t3 200 (by decide)]; simp [st2_f, h6]
  · intro j hj
    simp only [List.mem_cons, List.not_mem_nil, or_false, not_or] at hj
    rw [t3 j (by simp [hj.2])]; simp [st2_f, hj.1]
  · intro s h1 h2
    rw [t3 200 (by decide)]; simp [st2_f, h1, h2]
