-- `undo` on both sides
theorem undo23 {u : Nat} (hu : u < 30) : ∀ (m n k : Nat) (σ : Mm), k + m = 164 → m < n → σ 201 3 = (u : Int) → Ok (L_M_undo_23 n (k : Int) σ) (fun τ => (∀ j, k ≤ j → j < 164 → τ 201 (140 + j) = σ 201 (320 + 164 * u + j)) ∧ (∀ j, (j < 140 + k ∨ 304 ≤ j) → τ 201 j = σ 201 j) ∧ Fr [201] σ τ) := by
  intro m
  induction m with
  | zero =>
    intro n k σ hk hn h3
    match n, hn with
    | n + 1, _ =>
      rw [L_M_undo_23]
      exact Ok.it (by omega) (Ok.ret ⟨fun j h1 h2 => by omega, fun _ _ => rfl, Fr.rf⟩)
  | succ m ih =>
    intro n k σ hk hn h3
    match n, hn with
    | n + 1, hn =>
      rw [L_M_undo_23]
      have e1 : ((140 : Int) + (k : Int)).toNat = 140 + k := by omega
      have e3 : ((320 : Int) + 164 * (u : Int) + (k : Int)).toNat = 320 + 164 * u + k := by omega
      have e2 : (k : Int) + 1 = ((k + 1 : Nat) : Int) := by omega
      simp only [h3, e1, e3]
      refine Ok.ie (by omega) (Ok.ck (by omega) (Ok.ck (by omega) (Ok.bM (Ok.ck ⟨by omega, by omega⟩ ?_))))
      rw [e2]
      refine (ih n (k + 1) _ (by omega) (by omega) ?_).mono (fun τ hτ => ⟨fun j h1 h2 => ?_, fun j hj => ?_, (Fr.rf.st (by decide)).tr hτ.2.2⟩)
      · simp only [st2_f, reduceIte]; rw [if_neg (by omega)]; exact h3
      · by_cases hj : j = k
        · subst hj
          rw [hτ.2.1 _ (by omega)]; simp only [st2_f, reduceIte]
        · rw [hτ.1 j (by omega) h2]; simp only [st2_f, reduceIte]; rw [if_neg (by omega)]
      · rw [hτ.2.1 j (by omega)]
        simp only [st2_f, reduceIte]; rw [if_neg (by omega)]
theorem takeBack_ok {σ : Mm} {c n : Nat} (hn : n < 30) (hc : c ≤ 30) (hc1 : 1 ≤ c) (h1 : σ 58 1 = (n : Int)) (h2 : σ 58 2 = (c : Int)) : Ok (F_S_takeBack 58 σ) (fun r => r.1 = 1 ∧ r.2 58 1 = (((n + 29) % 30 : Nat) : Int) ∧ r.2 58 2 = ((c - 1 : Nat) : Int) ∧ (∀ k, k < 165 → r.2 3 k = σ (60 + (n + 29) % 30) k) ∧ (∀ i, i ≠ 58 → i ≠ 3 → r.2 i = σ i)) := by
  unfold F_S_takeBack
  rw [h1, h2]
  have et : (((n : Int) + 30) - 1).tmod 30 = (((n + 29) % 30 : Nat) : Int) := by rw [Int.tmod_eq_emod_of_nonneg (by omega)]; omega
  rw [et]
  refine Ok.ie (by omega) (Ok.ck ⟨by omega, by omega⟩ (Ok.bM ?_))
  have e2 : st2 σ 58 1 (((n + 29) % 30 : Nat) : Int) 58 2 = (c : Int) := by simp only [st2_f, reduceIte]; rw [if_neg (by omega), h2]
  rw [e2]
  refine Ok.ck ⟨by omega, by omega⟩ (Ok.bN (fun s hs => ?_))
  have f : ∀ i, i ≠ 58 → s i = σ i := fun i hi => by rw [hs, st2_ne hi, st2_ne hi]
  have v1 : s 58 1 = (((n + 29) % 30 : Nat) : Int) := by rw [hs]; simp [st2_f]
  have v2 : s 58 2 = ((c - 1 : Nat) : Int) := by rw [hs]; simp only [st2_f, reduceIte]; omega
  have ea : 58 + 1 + 1 + (s 58 1).toNat = 60 + (n + 29) % 30 := by rw [v1]; omega
  rw [ea]
  refine Ok.ck (by omega) (Ok.bN (fun s2 h2 => Ok.ret ⟨rfl, ?_, ?_, fun k hk => ?_, fun i i1 i2 => ?_⟩))
  · show s2 58 1 = _
    rw [h2, stR_off (by decide)]; exact v1
  · show s2 58 2 = _
    rw [h2, stR_off (by decide)]; exact v2
  · show s2 3 k = _
    rw [h2, stR_row]
    unfold cpyI
    have : (0 : Int).toNat ≤ k ∧ k < (0 : Int).toNat + (165 : Int).toNat := ⟨by omega, by omega⟩
    rw [if_pos this, f _ (by omega)]
    congr 1; omega
  · show s2 i = _
    rw [h2, stR_off i2, f i i1]
theorem laws_58 {σ τ : Mm} {G O M : Law} (h : LawsC σ G O M) (n2 : ∀ i, i ≠ 58 → i ≠ 3 → τ i = σ i) : LawsC τ G O M := by
  obtain ⟨a, b, d, e⟩ := h
  have f2 : τ 2 = σ 2 := n2 2 (by decide) (by decide)
  refine ⟨a, b, d, ?_⟩
  rcases e with ⟨e1, e2⟩ | ⟨t, q, e1, e2, e3, e4⟩
  · exact Or.inl ⟨by rw [f2]; exact e1, e2⟩
  · have ht := isO9 q
    have g : ∀ {w : Nat} {L : Law}, LawC σ t w L → LawC τ t w L := fun {w L} hl => by
      match L, hl with
      | none, hl =>
        show τ (t + 12) w ≤ τ (t + 8) w
        rw [n2 (t + 12) (by omega) (by omega), n2 (t + 8) (by omega) (by omega)]; exact hl
      | some cs, ⟨i, l1, l2, l3, l4⟩ =>
        exact ⟨i, by rw [n2 (t + 8) (by omega) (by omega)]; exact l1, by rw [n2 (t + 12) (by omega) (by omega)]; exact l2, l3, by rw [n2 (t + 4) (by omega) (by omega)]; exact l4⟩
    exact Or.inr ⟨t, q, by rw [f2]; exact e1, g e2, g e3, g e4⟩
theorem undo_rel {σ μ : Mm} {G O M : Law} {B R : Int} (h : Now σ μ G O M B R) : Ok (F_A_undo σ) (fun a => Ok (F_M_undo μ) (fun b => b.1 = a.1 ∧ Now a.2 b.2 G O M B R ∧ FrC σ a.2 ∧ FrM μ b.2)) := by
  obtain ⟨c, n, hc, hn, q1, q2, q3, q4⟩ := h.steps
  unfold F_A_undo F_M_undo
  by_cases c0 : c = 0
  · subst c0
    have e : F_S_takeBack 58 σ = some (0, σ) := by
      unfold F_S_takeBack
      rw [if_pos (by rw [q2]; rfl)]
    rw [e, b1M_some, if_pos rfl, if_pos (by rw [q3]; rfl)]
    exact Ok.ret (Ok.ret ⟨rfl, h, FrC.rf, FrM.rf⟩)
  · obtain ⟨⟨v, s⟩, E1, t0, t1, t2, t3, t4⟩ := takeBack_ok hn hc (by omega) q1 q2
    have t0 : v = 1 := t0
    have t1 : s 58 1 = (((n + 29) % 30 : Nat) : Int) := t1
    have t2 : s 58 2 = ((c - 1 : Nat) : Int) := t2
    have t3 : ∀ k, k < 165 → s 3 k = σ (60 + (n + 29) % 30) k := t3
    have t4 : ∀ i, i ≠ 58 → i ≠ 3 → s i = σ i := t4
    rw [E1, b1M_some, if_neg (by omega), q3, if_neg (by omega)]
    refine Ok.ret (Ok.ck ⟨by omega, by omega⟩ (Ok.bN (fun ν hν => ?_)))
    have w1 : ∀ k, ν 201 k = if k = 3 then ((c - 1 : Nat) : Int) else μ 201 k := fun k => by
      rw [hν]; simp only [st2_f, reduceIte]
      by_cases e : k = 3
      · rw [if_pos e, if_pos e]; omega
      · rw [if_neg e, if_neg e]
    have f1 : Fr [201] μ ν := by rw [hν]; exact Fr.rf.st (by decide)
    refine Ok.b0M (undo23 (u := c - 1) (by omega) 164 LF 0 ν (by omega) (by unfold LF; omega) (by rw [w1, if_pos rfl])) (fun ζ hζ => ?_)
    obtain ⟨z1, z2, z3⟩ := hζ
    have g : ∀ k, (k < 140 ∨ 304 ≤ k) → k ≠ 3 → ζ 201 k = μ 201 k := fun k k1 k2 => by rw [z2 k (by omega), w1, if_neg k2]
    have F : Fr [201] μ ζ := f1.tr z3
    have hsn := q4 (c - 1) (by omega)
    have ep : 58 + 2 + (n + 30 - c + (c - 1)) % 30 = 60 + (n + 29) % 30 := by omega
    rw [ep] at hsn
    have hok := h.oks ((n + 29) % 30) (by omega)
    have z33 : ζ 201 3 = ((c - 1 : Nat) : Int) := by rw [z2 3 (by omega), w1, if_pos rfl]
    refine Ok.ret ⟨?_, ⟨?_, h.lawsM.fr F (g 2 (by omega) (by decide)) (by decide), fun k hk => ?_, ?_, ?_, ?_, ?_, ?_, fun j hj => ?_⟩, ⟨fun i i1 i2 i3 => t4 i i2 (by omega), ?_⟩, fun i i1 i2 i3 => F i (by simp; omega), fun s a b c d e => ?_, fun k k1 k2 => g k (by omega) k2⟩
    · show ζ 201 3 = s 58 2
      rw [z33, t2]
    · exact laws_58 h.laws t4
    · show s 6 k ≤ s 2 5
      rw [t4 6 (by decide) (by decide), t4 2 (by decide) (by decide)]; exact h.memo k hk
    · show 0 ≤ s 2 5 ∧ s 2 5 ≤ R
      rw [t4 2 (by decide) (by decide)]; exact h.round
    · exact hsn.cong t3 (fun x hx => by
        show ζ 201 (140 + x) = _
        rw [z1 x (by omega) hx, w1, if_neg (by omega)])
    · refine ⟨hok.1.ext (fun k hk => t3 k (by omega)), ?_, fun k hk => ?_, ?_⟩
      · show -9999999 ≤ s 3 41 ∧ s 3 41 ≤ 9999999
        rw [t3 41 (by omega)]; exact hok.2.1
      · show 0 ≤ s 3 (20 + k) ∧ s 3 (20 + k) ≤ B
        rw [t3 (20 + k) (by omega)]; exact hok.2.2.1 k hk
      · show s 3 40 ≤ 999 ∧ 0 ≤ s 3 42 ∧ s 3 42 ≤ 40000
        rw [t3 40 (by omega), t3 42 (by omega)]; exact hok.2.2.2
    · obtain ⟨r, r1, r2, r3, r4⟩ := h.rows
      exact ⟨r, r1, by show s 1 4 = _; rw [t4 1 (by decide) (by decide)]; exact r2, by show ζ 201 0 = _; rw [g 0 (by omega) (by decide)]; exact r3, fun x hx => by
        obtain ⟨p, mn, nums, u1, u2⟩ := r4 x hx
        exact ⟨p, mn, nums, u1.fr (fun j j1 j2 => t4 j (by omega) (by omega)) (by omega), u2.fr' (fun k k0 hk => g k (by omega) (by omega)) (by omega)⟩⟩
    · refine ⟨c - 1, (n + 29) % 30, by omega, by omega, t1, t2, z33, fun i hi => ?_⟩
      have hb := q4 i (by omega)
      have ep2 : 58 + 2 + ((n + 29) % 30 + 30 - (c - 1) + i) % 30 = 58 + 2 + (n + 30 - c + i) % 30 := by omega
      show Snap (s (58 + 2 + ((n + 29) % 30 + 30 - (c - 1) + i) % 30)) (ζ 201) (320 + 164 * i)
      rw [ep2, t4 _ (by omega) (by omega)]
      exact hb.cong (fun _ _ => rfl) (fun x hx => g _ (by omega) (by omega))
    · show SnapOK (s (60 + j)) B
      rw [t4 (60 + j) (by omega) (by omega)]; exact h.oks j hj
    · show s 2 6 = σ 2 6
      rw [t4 2 (by decide) (by decide)]
    · show ζ 200 s = μ 200 s
      rw [F 200 (by decide)]
