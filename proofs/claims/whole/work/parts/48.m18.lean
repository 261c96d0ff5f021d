-- the book: the class's ring, the reference's shifted rows
def BookC (f : Nat → Int) (w : Nat) (b : Nat → Nat → Int) : Prop := w ≤ 40 ∧ f 43 = (w : Int) ∧ ∃ n : Nat, n < 40 ∧ f 44 = (n : Int) ∧ ∀ i j, i < w → j < 3 → f (45 + 3 * ((n + 40 - w + i) % 40) + j) = b i j
def BookM (a : Nat → Int) (w : Nat) (b : Nat → Nat → Int) : Prop := w ≤ 40 ∧ a 183 = (w : Int) ∧ ∀ i j, i < w → j < 3 → a (184 + 3 * i + j) = b i j
def pushW (w : Nat) : Nat := if w = 40 then 40 else w + 1
def pushB (w : Nat) (b : Nat → Nat → Int) (x d v : Int) (i j : Nat) : Int := if i + 1 = pushW w then (if j = 0 then x else if j = 1 then d else v) else if w = 40 then b (i + 1) j else b i j
theorem writeDown_ok {σ : Mm} {w : Nat} {b : Nat → Nat → Int} {x v : Int} (h : BookC (σ 3) w b) : Ok (F_H_writeDown x v σ) (fun τ => BookC (τ 3) (pushW w) (pushB w b x (σ 3 40) v) ∧ Fr [3] σ τ ∧ ∀ k, k < 43 → τ 3 k = σ 3 k) := by
  obtain ⟨hw, h43, n, hn, h44, hb⟩ := h
  unfold F_H_writeDown
  refine Ok.bN (fun q hq => ?_)
  rw [h44] at hq
  have q0 : q.toNat = 45 + 3 * n := by omega
  have q1 : (q + 1).toNat = 46 + 3 * n := by omega
  have q2 : (q + 2).toNat = 47 + 3 * n := by omega
  simp only [q0, q1, q2]
  refine Ok.ck (by omega) (Ok.bM (Ok.ck (by omega) (Ok.bM (Ok.ck (by omega) (Ok.bN (fun s4 h4 => ?_))))))
  have e40 : st2 σ 3 (45 + 3 * n) x 3 40 = σ 3 40 := by
    simp only [st2_f, reduceIte]; rw [if_neg (by omega)]
  rw [e40] at h4
  have F4 : Fr [3] σ s4 := by rw [h4]; exact ((Fr.rf.st (by decide)).st (by decide)).st (by decide)
  have V4 : ∀ k, s4 3 k = if k = 47 + 3 * n then v else if k = 46 + 3 * n then σ 3 40 else if k = 45 + 3 * n then x else σ 3 k := fun k => by
    rw [h4]; simp only [st2_f, reduceIte]
  have v44 : s4 3 44 = (n : Int) := by rw [V4, if_neg (by omega), if_neg (by omega), if_neg (by omega), h44]
  have v43 : s4 3 43 = (w : Int) := by rw [V4, if_neg (by omega), if_neg (by omega), if_neg (by omega), h43]
  rw [v44]
  have et : ((n : Int) + 1).tmod 40 = (((n + 1) % 40 : Nat) : Int) := by rw [Int.tmod_eq_emod_of_nonneg (by omega)]; omega
  rw [et]
  refine Ok.ck ⟨by omega, by omega⟩ (Ok.bM ?_)
  have e43 : st2 s4 3 44 (((n + 1) % 40 : Nat) : Int) 3 43 = (w : Int) := by
    simp only [st2_f, reduceIte]; rw [if_neg (by omega), v43]
  rw [e43]
  refine Ok.ck ⟨by omega, by omega⟩ (Ok.bM (Ok.ret ?_))
  have V : ∀ k, st2 (st2 s4 3 44 (((n + 1) % 40 : Nat) : Int)) 3 43 (min 40 ((w : Int) + 1)) 3 k = if k = 43 then min 40 ((w : Int) + 1) else if k = 44 then (((n + 1) % 40 : Nat) : Int) else s4 3 k := fun k => by
    simp only [st2_f, reduceIte]
  refine ⟨⟨?_, ?_, (n + 1) % 40, by omega, ?_, fun i j hi hj => ?_⟩, (F4.st (by decide)).st (by decide), fun k hk => ?_⟩
  · unfold pushW; split <;> omega
  · rw [V, if_pos rfl]; unfold pushW; split <;> omega
  · rw [V, if_neg (by decide), if_pos rfl]
  · rw [V, if_neg (by omega), if_neg (by omega)]
    have hpw : pushW w = if w = 40 then 40 else w + 1 := rfl
    by_cases hw4 : w = 40
    · rw [if_pos hw4] at hpw
      rw [hpw] at hi ⊢
      unfold pushB
      rw [hpw]
      by_cases hi2 : i + 1 = 40
      · rw [if_pos hi2]
        have ep : 45 + 3 * (((n + 1) % 40 + 40 - 40 + i) % 40) + j = 45 + 3 * n + j := by omega
        rw [ep, V4]
        by_cases j0 : j = 0
        · rw [if_neg (by omega), if_neg (by omega), if_pos (by omega), if_pos j0]
        · by_cases j1 : j = 1
          · rw [if_neg (by omega), if_pos (by omega), if_neg j0, if_pos j1]
          · rw [if_pos (by omega), if_neg j0, if_neg j1]
      · rw [if_neg hi2, if_pos hw4, ← hb (i + 1) j (by omega) hj, V4, if_neg (by omega), if_neg (by omega), if_neg (by omega)]
        congr 1
        omega
    · rw [if_neg hw4] at hpw
      rw [hpw] at hi ⊢
      unfold pushB
      rw [hpw]
      by_cases hi2 : i + 1 = w + 1
      · rw [if_pos hi2]
        have ep : 45 + 3 * (((n + 1) % 40 + 40 - (w + 1) + i) % 40) + j = 45 + 3 * n + j := by omega
        rw [ep, V4]
        by_cases j0 : j = 0
        · rw [if_neg (by omega), if_neg (by omega), if_pos (by omega), if_pos j0]
        · by_cases j1 : j = 1
          · rw [if_neg (by omega), if_pos (by omega), if_neg j0, if_pos j1]
          · rw [if_pos (by omega), if_neg j0, if_neg j1]
      · rw [if_neg hi2, if_neg hw4, ← hb i j (by omega) hj, V4, if_neg (by omega), if_neg (by omega), if_neg (by omega)]
        congr 1
        omega
  · rw [V, if_neg (by omega), if_neg (by omega), V4, if_neg (by omega), if_neg (by omega), if_neg (by omega)]
theorem writes_loop : ∀ (m n k : Nat) (σ : Mm), k + m = 301 → m < n → Ok (L_M_writes_17 n (k : Int) σ) (fun τ => (∀ j, k ≤ j → j < 301 → τ 201 j = σ 201 (j + 3)) ∧ (∀ j, (j < k ∨ 301 ≤ j) → τ 201 j = σ 201 j) ∧ Fr [201] σ τ) := by
  intro m
  induction m with
  | zero =>
    intro n k σ hk hn
    match n, hn with
    | n + 1, _ =>
      rw [L_M_writes_17]
      exact Ok.it (by omega) (Ok.ret ⟨fun j h1 h2 => by omega, fun _ _ => rfl, Fr.rf⟩)
  | succ m ih =>
    intro n k σ hk hn
    match n, hn with
    | n + 1, hn =>
      rw [L_M_writes_17]
      have e1 : ((k : Int) + 3).toNat = k + 3 := by omega
      have e2 : (k : Int) + 1 = ((k + 1 : Nat) : Int) := by omega
      simp only [e1, Int.toNat_natCast]
      refine Ok.ie (by omega) (Ok.ck (by omega) (Ok.ck (by omega) (Ok.bM (Ok.ck ⟨by omega, by omega⟩ ?_))))
      rw [e2]
      refine (ih n (k + 1) _ (by omega) (by omega)).mono (fun τ hτ => ⟨fun j h1 h2 => ?_, fun j hj => ?_, (Fr.rf.st (by decide)).tr hτ.2.2⟩)
      · by_cases hj : j = k
        · subst hj
          rw [hτ.2.1 j (by omega)]; simp [st2_f]
        · rw [hτ.1 j (by omega) h2]; simp only [st2_f, reduceIte]; rw [if_neg (by omega)]
      · rw [hτ.2.1 j (by omega)]
        simp only [st2_f, reduceIte]; rw [if_neg (by omega)]
theorem writes_ok {σ : Mm} {w : Nat} {b : Nat → Nat → Int} {x v : Int} (h : BookM (σ 201) w b) : Ok (F_M_writes x v σ) (fun τ => BookM (τ 201) (pushW w) (pushB w b x (σ 200 45) v) ∧ Fr [201] σ τ ∧ ∀ k, (k < 183 ∨ 304 ≤ k) → τ 201 k = σ 201 k) := by
  obtain ⟨hw, h183, hb⟩ := h
  unfold F_M_writes
  have J : ∀ (t1 : Mm) (u : Nat), u < 40 → t1 201 183 = (u : Int) → Fr [201] σ t1 → (∀ k, (k < 183 ∨ 304 ≤ k) → t1 201 k = σ 201 k) → pushW w = u + 1 → (∀ i j, i < u → j < 3 → t1 201 (184 + 3 * i + j) = if w = 40 then b (i + 1) j else b i j) → Ok (bindM (184 + (3 * (t1 201 183))) fun v2 =>
    if 0 ≤ v2 ∧ v2 < 5240 then
      bindM (st2 t1 201 v2.toNat x) fun s3 =>
      if 0 ≤ v2 + 1 ∧ v2 + 1 < 5240 then
        bindM (st2 s3 201 ((v2 + 1).toNat) (s3 200 45)) fun s4 =>
        if 0 ≤ v2 + 2 ∧ v2 + 2 < 5240 then
          bindM (st2 s4 201 ((v2 + 2).toNat) v) fun s5 =>
          if r32 ((s5 201 183) + 1) then
            bindM (st2 s5 201 183 ((s5 201 183) + 1)) fun s7 =>
            some s7
          else none
        else none
      else none
    else none) (fun τ => BookM (τ 201) (pushW w) (pushB w b x (σ 200 45) v) ∧ Fr [201] σ τ ∧ ∀ k, (k < 183 ∨ 304 ≤ k) → τ 201 k = σ 201 k) := by
    intro t1 u hu h1 hF hS hp hB
    refine Ok.bN (fun q hq => ?_)
    rw [h1] at hq
    have q0 : q.toNat = 184 + 3 * u := by omega
    have q1 : (q + 1).toNat = 185 + 3 * u := by omega
    have q2 : (q + 2).toNat = 186 + 3 * u := by omega
    simp only [q0, q1, q2]
    refine Ok.ck (by omega) (Ok.bM (Ok.ck (by omega) (Ok.bM (Ok.ck (by omega) (Ok.bN (fun s5 h5 => ?_))))))
    have e45 : st2 t1 201 (184 + 3 * u) x 200 45 = σ 200 45 := by
      rw [st2_ne (by decide), hF 200 (by decide)]
    rw [e45] at h5
    have F5 : Fr [201] σ s5 := by rw [h5]; exact ((hF.st (by decide)).st (by decide)).st (by decide)
    have V5 : ∀ k, s5 201 k = if k = 186 + 3 * u then v else if k = 185 + 3 * u then σ 200 45 else if k = 184 + 3 * u then x else t1 201 k := fun k => by
      rw [h5]; simp only [st2_f, reduceIte]
    have v183 : s5 201 183 = (u : Int) := by rw [V5, if_neg (by omega), if_neg (by omega), if_neg (by omega), h1]
    rw [v183]
    refine Ok.ck ⟨by omega, by omega⟩ (Ok.bM (Ok.ret ?_))
    have V : ∀ k, st2 s5 201 183 ((u : Int) + 1) 201 k = if k = 183 then (u : Int) + 1 else s5 201 k := fun k => by
      simp only [st2_f, reduceIte]
    refine ⟨⟨by omega, ?_, fun i j hi hj => ?_⟩, F5.st (by decide), fun k hk => ?_⟩
    · rw [V, if_pos rfl, hp]; omega
    · rw [V, if_neg (by omega), V5]
      unfold pushB
      by_cases hi2 : i = u
      · rw [if_pos (show i + 1 = pushW w by omega)]
        by_cases j0 : j = 0
        · rw [if_neg (by omega), if_neg (by omega), if_pos (by omega), if_pos j0]
        · by_cases j1 : j = 1
          · rw [if_neg (by omega), if_pos (by omega), if_neg j0, if_pos j1]
          · rw [if_pos (by omega), if_neg j0, if_neg j1]
      · rw [if_neg (by omega), if_neg (by omega), if_neg (by omega), hB i j (by omega) hj, if_neg (show ¬ i + 1 = pushW w by omega)]
    · rw [V, if_neg (by omega), V5, if_neg (by omega), if_neg (by omega), if_neg (by omega)]
      exact hS k hk
  refine Ok.bM ?_
  refine Ok.ite (fun hc => ?_) (fun hc => ?_)
  · have hw4 : w = 40 := by omega
    refine Ok.b0M (writes_loop 117 LF 184 σ (by omega) (by unfold LF; omega)) (fun s hs => ?_)
    obtain ⟨l1, l2, l3⟩ := hs
    refine Ok.bN (fun t1 ht => ?_)
    have T : ∀ k, t1 201 k = if k = 183 then 39 else s 201 k := fun k => by rw [ht]; simp only [st2_f, reduceIte]
    refine J t1 39 (by omega) (by rw [T, if_pos rfl]; rfl) (by rw [ht]; exact l3.st (by decide)) (fun k hk => ?_) (by unfold pushW; rw [if_pos hw4]) (fun i j hi hj => ?_)
    · rw [T, if_neg (by omega), l2 k (by omega)]
    · rw [T, if_neg (by omega), l1 _ (by omega) (by omega), if_pos hw4, ← hb (i + 1) j (by omega) hj]
      congr 1; omega
  · have hw4 : ¬ w = 40 := by omega
    exact J σ w (by omega) h183 Fr.rf (fun _ _ => rfl) (by unfold pushW; rw [if_neg hw4]) (fun i j hi hj => by rw [if_neg hw4]; exact hb i j hi hj)
