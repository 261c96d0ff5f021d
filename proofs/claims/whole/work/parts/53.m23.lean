-- snapshots and steps, both sides
def BookA (a : Nat → Int) (o w : Nat) (b : Nat → Nat → Int) : Prop := w ≤ 40 ∧ a (o + 43) = (w : Int) ∧ ∀ i j, i < w → j < 3 → a (o + 44 + 3 * i + j) = b i j
theorem BookA.m {a : Nat → Int} {w : Nat} {b : Nat → Nat → Int} (h : BookA a 140 w b) : BookM a w b := h
theorem BookM.a {a : Nat → Int} {w : Nat} {b : Nat → Nat → Int} (h : BookM a w b) : BookA a 140 w b := h
def Snap (f a : Nat → Int) (o : Nat) : Prop := (∀ k, k < 43 → f k = a (o + k)) ∧ ∃ w b, BookC f w b ∧ BookA a o w b
theorem BookC.cong {f g : Nat → Int} {w : Nat} {b : Nat → Nat → Int} (h : BookC f w b) (hf : ∀ k, 43 ≤ k → k < 165 → g k = f k) : BookC g w b := by
  obtain ⟨h1, h2, n, h3, h4, h5⟩ := h
  exact ⟨h1, by rw [hf 43 (by omega) (by omega)]; exact h2, n, h3, by rw [hf 44 (by omega) (by omega)]; exact h4, fun i j hi hj => by rw [hf _ (by omega) (by omega)]; exact h5 i j hi hj⟩
theorem BookA.cong {a c : Nat → Int} {o p w : Nat} {b : Nat → Nat → Int} (h : BookA a o w b) (hf : ∀ x, 43 ≤ x → x < 164 → c (p + x) = a (o + x)) : BookA c p w b := by
  obtain ⟨h1, h2, h3⟩ := h
  refine ⟨h1, by rw [hf 43 (by omega) (by omega)]; exact h2, fun i j hi hj => ?_⟩
  have e1 : p + 44 + 3 * i + j = p + (44 + 3 * i + j) := by omega
  have e2 : o + 44 + 3 * i + j = o + (44 + 3 * i + j) := by omega
  have := h3 i j hi hj
  rw [e2] at this
  rw [e1, hf _ (by omega) (by omega)]; exact this
theorem Snap.cong {f g a c : Nat → Int} {o p : Nat} (h : Snap f a o) (h1 : ∀ k, k < 165 → g k = f k) (h2 : ∀ x, x < 164 → c (p + x) = a (o + x)) : Snap g c p := by
  obtain ⟨s1, w, b, s2, s3⟩ := h
  exact ⟨fun k hk => by rw [h1 k (by omega), h2 k (by omega)]; exact s1 k hk, w, b, s2.cong (fun k _ hk => h1 k hk), s3.cong (fun x _ hx => h2 x hx)⟩
def StepsR (σ : Mm) (r0 : Nat) (a : Nat → Int) : Prop := ∃ c n : Nat, c ≤ 30 ∧ n < 30 ∧ σ r0 1 = (n : Int) ∧ σ r0 2 = (c : Int) ∧ a 3 = (c : Int) ∧ ∀ i, i < c → Snap (σ (r0 + 2 + (n + 30 - c + i) % 30)) a (320 + 164 * i)
theorem keepC_ok {σ : Mm} {c n : Nat} (hn : n < 30) (hc : c ≤ 30) (h1 : σ 58 1 = (n : Int)) (h2 : σ 58 2 = (c : Int)) : Ok (F_S_keep 58 σ) (fun τ => τ 58 1 = (((n + 1) % 30 : Nat) : Int) ∧ τ 58 2 = (pushS c : Int) ∧ (∀ k, k < 165 → τ (60 + n) k = σ 3 k) ∧ (∀ i, i ≠ 58 → i ≠ 60 + n → τ i = σ i)) := by
  unfold F_S_keep
  have e1 : 58 + 1 + 1 + (σ 58 1).toNat = 60 + n := by omega
  rw [e1]
  refine Ok.ck (by omega) (Ok.bN (fun s hs => ?_))
  have f1 : ∀ i, i ≠ 60 + n → s i = σ i := fun i hi => by rw [hs]; exact stR_off hi
  have s58 : s 58 = σ 58 := f1 58 (by omega)
  have sr : ∀ k, k < 165 → s (60 + n) k = σ 3 k := fun k hk => by
    rw [hs, stR_row]
    unfold cpyI
    have : (0 : Int).toNat ≤ k ∧ k < (0 : Int).toNat + (165 : Int).toNat := ⟨by omega, by omega⟩
    rw [if_pos this]
    congr 1; omega
  rw [s58, h1]
  have et : ((n : Int) + 1).tmod 30 = (((n + 1) % 30 : Nat) : Int) := by rw [Int.tmod_eq_emod_of_nonneg (by omega)]; omega
  rw [et]
  refine Ok.ck ⟨by omega, by omega⟩ (Ok.bM ?_)
  have e2 : st2 s 58 1 (((n + 1) % 30 : Nat) : Int) 58 2 = (c : Int) := by simp only [st2_f, reduceIte]; rw [if_neg (by omega), s58, h2]
  rw [e2]
  refine Ok.ck ⟨by omega, by omega⟩ (Ok.bM (Ok.ret ⟨?_, ?_, fun k hk => ?_, fun i i1 i2 => ?_⟩))
  · simp [st2_f]
  · simp only [st2_f, reduceIte]; unfold pushS; split <;> omega
  · rw [st2_ne (by omega), st2_ne (by omega)]; exact sr k hk
  · rw [st2_ne i1, st2_ne i1, f1 i i2]
theorem keep_rel {σ μ : Mm} (hS : StepsR σ 58 (μ 201)) (hN : Snap (σ 3) (μ 201) 140) : Ok (F_S_keep 58 σ) (fun τ => Ok (F_M_keepsStep μ) (fun ν => StepsR τ 58 (ν 201) ∧ (∀ i, i ≠ 58 → ¬ (60 ≤ i ∧ i < 90) → τ i = σ i) ∧ Fr [201] μ ν ∧ ∀ k, k < 320 → k ≠ 3 → ν 201 k = μ 201 k)) := by
  obtain ⟨c, n, hc, hn, h1, h2, h3, h4⟩ := hS
  refine (keepC_ok hn hc h1 h2).mono (fun τ hτ => (keepsStep_ok hc h3).mono (fun ν hν => ?_))
  obtain ⟨t1, t2, t3, t4⟩ := hτ
  obtain ⟨n1, n2, n3, n4, n5⟩ := hν
  have hp : pushS c = if c = 30 then 30 else c + 1 := rfl
  refine ⟨⟨pushS c, (n + 1) % 30, by rw [hp]; split <;> omega, by omega, t1, t2, n1, fun i hi => ?_⟩, fun i i1 i2 => t4 i i1 (by omega), n5, n2⟩
  by_cases hi2 : i + 1 = pushS c
  · have ep : 58 + 2 + ((n + 1) % 30 + 30 - pushS c + i) % 30 = 60 + n := by
      rw [hp] at hi2 ⊢
      split at hi2 <;> split <;> omega
    have ei : i = pushS c - 1 := by omega
    rw [ep]
    refine hN.cong t3 (fun x hx => ?_)
    rw [ei]; exact n4 x hx
  · have hb := h4 (if c = 30 then i + 1 else i) (by rw [hp] at hi hi2; split at hi <;> split at hi2 <;> split <;> omega)
    have ep : 58 + 2 + ((n + 1) % 30 + 30 - pushS c + i) % 30 = 58 + 2 + (n + 30 - c + (if c = 30 then i + 1 else i)) % 30 := by
      rw [hp]
      split <;> omega
    have en : 58 + 2 + (n + 30 - c + (if c = 30 then i + 1 else i)) % 30 ≠ 60 + n := by
      rw [hp] at hi hi2
      split at hi <;> split at hi2 <;> split <;> omega
    rw [ep, t4 _ (by omega) en]
    exact hb.cong (fun _ _ => rfl) (fun x hx => n3 i x (by omega) hx)
