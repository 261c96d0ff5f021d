-- the steps: the reference's rows
theorem keeps54 {c : Nat} (hc : c < 30) : ∀ (m n k : Nat) (σ : Mm), k + m = 164 → m < n → σ 201 3 = (c : Int) → Ok (L_M_keepsStep_54 n (k : Int) σ) (fun τ => (∀ j, k ≤ j → j < 164 → τ 201 (320 + 164 * c + j) = σ 201 (140 + j)) ∧ (∀ j, (j < 320 + 164 * c + k ∨ 320 + 164 * c + 164 ≤ j) → τ 201 j = σ 201 j) ∧ Fr [201] σ τ) := by
  intro m
  induction m with
  | zero =>
    intro n k σ hk hn h3
    match n, hn with
    | n + 1, _ =>
      rw [L_M_keepsStep_54]
      exact Ok.it (by omega) (Ok.ret ⟨fun j h1 h2 => by omega, fun _ _ => rfl, Fr.rf⟩)
  | succ m ih =>
    intro n k σ hk hn h3
    match n, hn with
    | n + 1, hn =>
      rw [L_M_keepsStep_54]
      have e1 : ((140 : Int) + (k : Int)).toNat = 140 + k := by omega
      have e3 : ((320 : Int) + 164 * (c : Int) + (k : Int)).toNat = 320 + 164 * c + k := by omega
      have e2 : (k : Int) + 1 = ((k + 1 : Nat) : Int) := by omega
      simp only [h3, e1, e3]
      refine Ok.ie (by omega) (Ok.ck (by omega) (Ok.ck (by omega) (Ok.bM (Ok.ck ⟨by omega, by omega⟩ ?_))))
      rw [e2]
      refine (ih n (k + 1) _ (by omega) (by omega) ?_).mono (fun τ hτ => ⟨fun j h1 h2 => ?_, fun j hj => ?_, (Fr.rf.st (by decide)).tr hτ.2.2⟩)
      · simp only [st2_f, reduceIte]; rw [if_neg (by omega)]; exact h3
      · by_cases hj : j = k
        · subst hj
          rw [hτ.2.1 _ (by omega)]; simp only [st2_f, reduceIte]
        · rw [hτ.1 j (by omega) h2]; simp only [st2_f, reduceIte]; rw [if_neg (by omega)]
      · rw [hτ.2.1 j (by omega)]
        simp only [st2_f, reduceIte]; rw [if_neg (by omega)]
theorem keeps15 : ∀ (m n k : Nat) (σ : Mm), k + m = 5076 → m < n → Ok (L_M_keepsStep_15 n (k : Int) σ) (fun τ => (∀ j, k ≤ j → j < 5076 → τ 201 j = σ 201 (j + 164)) ∧ (∀ j, (j < k ∨ 5076 ≤ j) → τ 201 j = σ 201 j) ∧ Fr [201] σ τ) := by
  intro m
  induction m with
  | zero =>
    intro n k σ hk hn
    match n, hn with
    | n + 1, _ =>
      rw [L_M_keepsStep_15]
      exact Ok.it (by omega) (Ok.ret ⟨fun j h1 h2 => by omega, fun _ _ => rfl, Fr.rf⟩)
  | succ m ih =>
    intro n k σ hk hn
    match n, hn with
    | n + 1, hn =>
      rw [L_M_keepsStep_15]
      have e1 : ((k : Int) + 164).toNat = k + 164 := by omega
      have e2 : (k : Int) + 1 = ((k + 1 : Nat) : Int) := by omega
      simp only [e1, Int.toNat_natCast]
      refine Ok.ie (by omega) (Ok.ck (by omega) (Ok.ck (by omega) (Ok.bM (Ok.ck ⟨by omega, by omega⟩ ?_))))
      rw [e2]
      refine (ih n (k + 1) _ (by omega) (by omega)).mono (fun τ hτ => ⟨fun j h1 h2 => ?_, fun j hj => ?_, (Fr.rf.st (by decide)).tr hτ.2.2⟩)
      · by_cases hj : j = k
        · subst hj
          rw [hτ.2.1 j (by omega)]; simp only [st2_f, reduceIte]
        · rw [hτ.1 j (by omega) h2]; simp only [st2_f, reduceIte]; rw [if_neg (by omega)]
      · rw [hτ.2.1 j (by omega)]
        simp only [st2_f, reduceIte]; rw [if_neg (by omega)]
def pushS (c : Nat) : Nat := if c = 30 then 30 else c + 1
theorem keepsStep_ok {σ : Mm} {c : Nat} (hc : c ≤ 30) (h3 : σ 201 3 = (c : Int)) : Ok (F_M_keepsStep σ) (fun τ => τ 201 3 = (pushS c : Int) ∧ (∀ k, k < 320 → k ≠ 3 → τ 201 k = σ 201 k) ∧ (∀ i x, i + 1 < pushS c → x < 164 → τ 201 (320 + 164 * i + x) = σ 201 (320 + 164 * (if c = 30 then i + 1 else i) + x)) ∧ (∀ x, x < 164 → τ 201 (320 + 164 * (pushS c - 1) + x) = σ 201 (140 + x)) ∧ Fr [201] σ τ) := by
  unfold F_M_keepsStep
  have J : ∀ (t1 : Mm) (u : Nat), u < 30 → u + 1 = pushS c → t1 201 3 = (u : Int) → Fr [201] σ t1 → (∀ k, k < 320 → k ≠ 3 → t1 201 k = σ 201 k) → (∀ i x, i < u → x < 164 → t1 201 (320 + 164 * i + x) = σ 201 (320 + 164 * (if c = 30 then i + 1 else i) + x)) → Ok (b0M (L_M_keepsStep_54 LF 0 t1) fun s4 =>
    if r32 ((s4 201 3) + 1) then
      bindM (st2 s4 201 3 ((s4 201 3) + 1)) fun s6 =>
      some s6
    else none) (fun τ => τ 201 3 = (pushS c : Int) ∧ (∀ k, k < 320 → k ≠ 3 → τ 201 k = σ 201 k) ∧ (∀ i x, i + 1 < pushS c → x < 164 → τ 201 (320 + 164 * i + x) = σ 201 (320 + 164 * (if c = 30 then i + 1 else i) + x)) ∧ (∀ x, x < 164 → τ 201 (320 + 164 * (pushS c - 1) + x) = σ 201 (140 + x)) ∧ Fr [201] σ τ) := by
    intro t1 u hu hp h1 hF hS hB
    refine Ok.b0M (keeps54 hu 164 LF 0 t1 (by omega) (by unfold LF; omega) h1) (fun s hs => ?_)
    obtain ⟨l1, l2, l3⟩ := hs
    have e3 : s 201 3 = (u : Int) := by rw [l2 3 (by omega), h1]
    rw [e3]
    refine Ok.ck ⟨by omega, by omega⟩ (Ok.bM (Ok.ret ?_))
    have V : ∀ k, st2 s 201 3 ((u : Int) + 1) 201 k = if k = 3 then (u : Int) + 1 else s 201 k := fun k => by simp only [st2_f, reduceIte]
    refine ⟨?_, fun k h1 h2 => ?_, fun i x hi hx => ?_, fun x hx => ?_, (hF.tr l3).st (by decide)⟩
    · rw [V, if_pos rfl, ← hp]; omega
    · rw [V, if_neg h2, l2 k (by omega), hS k h1 h2]
    · rw [V, if_neg (by omega), l2 _ (by omega), hB i x (by omega) hx]
    · have : pushS c - 1 = u := by omega
      rw [this, V, if_neg (by omega), l1 x (by omega) hx, hS _ (by omega) (by omega)]
  refine Ok.bM ?_
  refine Ok.ite (fun hc4 => ?_) (fun hc4 => ?_)
  · have hc5 : c = 30 := by omega
    refine Ok.b0M (keeps15 4756 LF 320 σ (by omega) (by unfold LF; omega)) (fun s hs => ?_)
    obtain ⟨l1, l2, l3⟩ := hs
    refine Ok.bN (fun t1 ht => ?_)
    have T : ∀ k, t1 201 k = if k = 3 then 29 else s 201 k := fun k => by rw [ht]; simp only [st2_f, reduceIte]
    refine J t1 29 (by omega) (by unfold pushS; rw [if_pos hc5]) (by rw [T, if_pos rfl]; rfl) (by rw [ht]; exact l3.st (by decide)) (fun k h1 h2 => ?_) (fun i x hi hx => ?_)
    · rw [T, if_neg h2, l2 k (by omega)]
    · rw [T, if_neg (by omega), l1 _ (by omega) (by omega), if_pos hc5]
      congr 1; omega
  · have hc5 : ¬ c = 30 := by omega
    exact J σ c (by omega) (by unfold pushS; rw [if_neg hc5]) h3 Fr.rf (fun _ _ _ => rfl) (fun i x hi hx => by rw [if_neg hc5])
