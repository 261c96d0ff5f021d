-- the class's `reckonRow`, first half: the loop, `use`, `fresh`
def JB (σ : Mm) (G O M : Law) : Prop := LawsC σ G O M ∧ EnvOK (σ 3) ∧ ∀ k, k < 400 → σ 6 k ≤ σ 2 5
theorem JOK.jb {σ : Mm} {G O M : Law} (h : JOK σ G O M) : JB σ G O M := ⟨h.1, h.2.1, h.2.2.1⟩
theorem fresh_ok {σ : Mm} {G O M : Law} (h : JB σ G O M) (hr : -2147483648 ≤ σ 2 5 ∧ σ 2 5 < 2147483647) : Ok (F_J_fresh σ) (fun τ => JOK τ G O M ∧ Fr [2] σ τ ∧ τ 2 5 = σ 2 5 + 1 ∧ τ 2 6 = σ 2 6) := by
  unfold F_J_fresh
  refine Ok.ck ⟨by omega, by omega⟩ (Ok.bM (Ok.ret ?_))
  have hf : Fr [2] σ (st2 σ 2 5 (σ 2 5 + 1)) := Fr.rf.st (by decide)
  have h6 : st2 σ 2 5 (σ 2 5 + 1) 2 6 = σ 2 6 := by simp [st2_f]
  have h5 : st2 σ 2 5 (σ 2 5 + 1) 2 5 = σ 2 5 + 1 := st2_ss _ _ _ _
  refine ⟨⟨h.1.fr hf h6 (by decide), by rw [hf 3 (by decide)]; exact h.2.1, ?_, ?_⟩, hf, h5, h6⟩
  · intro k hk
    have := h.2.2 k hk
    rw [h5, hf 6 (by decide)]; omega
  · intro l r k hl hr hk he
    rw [h5, hf 6 (by decide)] at he
    have := h.2.2 ((l * 10 + r) * 4 + k) (by omega)
    omega
theorem memo_q {σ τ : Mm} {G O : Law} (h : Memo σ G O) (hf : Fr [3] σ τ) (he : EqQ (σ 3) (τ 3)) : Memo τ G O := by
  refine ⟨fun k hk => ?_, fun l r k hl hr hk h1 => ?_⟩
  · rw [hf 6 (by decide), hf 2 (by decide)]; exact h.1 k hk
  · rw [hf 6 (by decide), hf 2 (by decide)] at h1
    rw [hf 7 (by decide), h.2 l r k hl hr hk h1, tw_cong he (by omega) (by omega)]
theorem reckC_loop {ρ : Nat} (hρ : 10 ≤ ρ ∧ ρ ≤ 21) {G O M : Law} {E0 : Nat → Int} : ∀ (L : DL) (n i : Nat) (x d B : Int) (σ : Mm), L.length < n → JOK σ G O M → EqQ E0 (σ 3) → QB (σ 3) B → B + 2 * L.length ≤ 90000000 → σ ρ 4 = ((i + L.length : Nat) : Int) → 1 ≤ i → i + L.length ≤ 16 → σ (ρ + 24) (i - 1) = d → 0 ≤ d ∧ d ≤ 9 → DigR (σ (ρ + 24)) (σ (ρ + 36)) i L → DOK L → -1000000 - 99 * i ≤ x ∧ x ≤ 1000000 + 99 * i →
    Ok (L_H_reckonRow_22 n ρ x (i : Int) σ) (fun r => r.1 = x + sumL (t0 (tw G O E0)) d L ∧ r.2 3 = incQ (tw G O E0) d L (σ 3) ∧ QB (r.2 3) (B + 2 * L.length) ∧ EqQ E0 (r.2 3) ∧ Fr [3, 4, 5, 6, 7] σ r.2 ∧ JOK r.2 G O M) := by
  intro L
  induction L with
  | nil =>
    intro n i x d B σ hn hJ hE hQ hB hlen h1 hle hd hd2 hD hK hx
    cases n with
    | zero => simp at hn
    | succ n =>
      rw [L_H_reckonRow_22]
      simp only [List.length_nil] at hlen ⊢
      exact Ok.it (by omega) (Ok.ret ⟨by simp [sumL], rfl, by simpa using hQ, hE, Fr.rf, hJ⟩)
  | cons p L ih =>
    obtain ⟨e, m⟩ := p
    intro n i x d B σ hn hJ hE hQ hB hlen h1 hle hd hd2 hD hK hx
    cases n with
    | zero => simp at hn
    | succ n =>
      rw [L_H_reckonRow_22]
      simp only [List.length_cons] at hn hlen hle hB ⊢
      have he2 : 0 ≤ e ∧ e ≤ 9 := ⟨hK.1.1, hK.1.2.1⟩
      have e1 : ((i : Int) - 1).toNat = i - 1 := by omega
      have e2 : (i : Int) + 1 = ((i + 1 : Nat) : Int) := by omega
      simp only [e1, Int.toNat_natCast]
      refine Ok.ie (by omega) (Ok.ck (by omega) (Ok.bM (Ok.ck (by omega) (Ok.bM (Ok.ck (by omega) ?_)))))
      rw [hd, hD.1, hD.2.1]
      refine Ok.b1M (two_i hJ hd2 he2 hK.1.2.2) (fun a s hs => ?_)
      obtain ⟨ha, hf, hJ2⟩ := hs
      have ha : a = tw G O E0 d e m := by rw [← tw_cong hE hd2 he2]; exact ha
      have hf : Fr [4, 5, 6, 7] σ s := hf
      have hJ2 : JOK s G O M := hJ2
      have s3 : s 3 = σ 3 := hf 3 (by decide)
      have hb := t0_bd (G := G) (O := O) (E := E0) (l := d) (r := e) (k := m)
      have go : ∀ (τ : Mm) (y B2 : Int), JOK τ G O M → EqQ E0 (τ 3) → QB (τ 3) B2 → B2 ≤ B + 2 → Fr [3, 4, 5, 6, 7] σ τ → y = x + t0 (tw G O E0) d e m → incQ (tw G O E0) d ((e, m) :: L) (σ 3) = incQ (tw G O E0) e L (τ 3) → Ok (if r32 ((i : Int) + 1) then L_H_reckonRow_22 n ρ y ((i : Int) + 1) τ else none) (fun r => r.1 = x + sumL (t0 (tw G O E0)) d ((e, m) :: L) ∧ r.2 3 = incQ (tw G O E0) d ((e, m) :: L) (σ 3) ∧ QB (r.2 3) (B + 2 * ((L.length + 1 : Nat) : Int)) ∧ EqQ E0 (r.2 3) ∧ Fr [3, 4, 5, 6, 7] σ r.2 ∧ JOK r.2 G O M) := by
        intro τ y B2 hJτ hEτ hQτ hB2 hfτ hy hinc
        refine Ok.ck ⟨by omega, by omega⟩ ?_
        rw [e2, hinc]
        have k4 : ∀ j, 10 ≤ j → τ j = σ j := fun j hj => hfτ j (by simp; omega)
        refine (ih n (i + 1) y e B2 τ (by omega) hJτ hEτ hQτ (by omega) ?_ (by omega) (by omega) ?_ he2 ?_ hK.2 (by omega)).mono (fun r hr => ⟨?_, hr.2.1, fun k hk => ?_, hr.2.2.2.1, hfτ.tr hr.2.2.2.2.1, hr.2.2.2.2.2⟩)
        · rw [k4 ρ hρ.1, hlen]; congr 1; omega
        · rw [k4 (ρ + 24) (by omega)]; exact hD.1
        · rw [k4 (ρ + 24) (by omega), k4 (ρ + 36) (by omega)]; exact hD.2.2
        · rw [hr.1, hy]; simp only [sumL]; omega
        · have := hr.2.2.1 k hk; omega
      refine Ok.bM ?_
      by_cases ht : tw G O E0 d e m = 1000
      · refine Ok.it (by omega) (go s x B hJ2 (by rw [s3]; exact hE) (by rw [s3]; exact hQ) (by omega) (hf.w (by decide)) ?_ ?_)
        · unfold t0; rw [if_pos ht]; omega
        · rw [incQ, if_pos ht, s3]
      · refine Ok.ie (by omega) ?_
        have ht0 : t0 (tw G O E0) d e m = a := by unfold t0; rw [if_neg ht, ha]
        obtain ⟨a1, rfl⟩ := Int.eq_ofNat_of_zero_le hd2.1
        obtain ⟨b1, rfl⟩ := Int.eq_ofNat_of_zero_le he2.1
        have l1 : a1 < 10 := by omega
        have l2 : b1 < 10 := by omega
        have q1 := hQ a1 l1
        have q2 := hQ b1 l2
        have t1 : ((20 : Int) + (a1 : Int)).toNat = 20 + a1 := by omega
        have t2 : ((20 : Int) + (b1 : Int)).toNat = 20 + b1 := by omega
        simp only [t1, t2, s3]
        refine Ok.ck (by omega) (Ok.ck ⟨by omega, by omega⟩ (Ok.ck (by omega) (Ok.bM ?_)))
        simp only [st2_f, Nat.reduceEqDiff, reduceIte, s3]
        refine Ok.ck (by omega) (Ok.ck ⟨by split <;> omega, by split <;> omega⟩ (Ok.ck (by omega) (Ok.bM (Ok.ck ⟨by omega, by omega⟩ ?_))))
        have fs : Fr [3] s (st2 (st2 s 3 (20 + a1) (σ 3 (20 + a1) + 1)) 3 (20 + b1) ((if 20 + b1 = 20 + a1 then σ 3 (20 + a1) + 1 else σ 3 (20 + b1)) + 1)) := (Fr.rf.st (by decide)).st (by decide)
        have hEM : (st2 (st2 s 3 (20 + a1) (σ 3 (20 + a1) + 1)) 3 (20 + b1) ((if 20 + b1 = 20 + a1 then σ 3 (20 + a1) + 1 else σ 3 (20 + b1)) + 1)) 3 = bump (bump (σ 3) (20 + a1)) (20 + b1) := by
          funext j
          simp only [st2_f, reduceIte, s3, bump]
          by_cases hj : j = 20 + b1
          · subst hj
            rw [if_pos rfl, if_pos rfl]
            by_cases hab : b1 = a1
            · subst hab; rfl
            · rw [if_neg (by omega), if_neg (by omega)]
          · rw [if_neg hj, if_neg hj]
            by_cases hj2 : j = 20 + a1
            · subst hj2
              rw [if_pos rfl]
            · rw [if_neg hj2, if_neg hj2]
        have hQ2 : QB (bump (bump (σ 3) (20 + a1)) (20 + b1)) (B + 1 + 1) := QB_bump (QB_bump hQ)
        have hE3 : EqQ E0 (bump (bump (σ 3) (20 + a1)) (20 + b1)) := EqQ_bump (EqQ_bump hE l1) l2
        have hE4 : EqQ (σ 3) (bump (bump (σ 3) (20 + a1)) (20 + b1)) := EqQ_bump (EqQ_bump EqQ.rf l1) l2
        refine go _ _ (B + 1 + 1) ⟨hJ2.1.fr fs (by rw [fs 2 (by decide)]) (by decide), ?_, ?_⟩ ?_ ?_ (by omega) ((hf.w (by decide)).tr (fs.w (by decide))) (by rw [ht0]) ?_
        · rw [hEM]
          exact hJ.2.1.q hE4 hQ2 (by omega)
        · exact memo_q hJ2.2.2 fs (by rw [hEM, s3]; exact hE4)
        · rw [hEM]; exact hE3
        · rw [hEM]; exact hQ2
        · rw [hEM, incQ, if_neg ht]
          simp only [Int.toNat_natCast]
theorem useC_loop {ρ : Nat} (hρ : 10 ≤ ρ ∧ ρ ≤ 21) : ∀ (L : DL) (n i : Nat) (σ : Mm), L.length < n → σ ρ 4 = ((i + L.length : Nat) : Int) → i + L.length ≤ 16 → DF (σ (ρ + 24)) i L → DOK L → EnvOK (σ 3) → Ok (L_H_use_2 n ρ (i : Int) σ) (fun τ => τ 3 = useD L (σ 3) ∧ Fr [3] σ τ) := by
  intro L
  induction L with
  | nil =>
    intro n i σ hn hlen hle hD hK hE
    cases n with
    | zero => simp at hn
    | succ n =>
      rw [L_H_use_2]
      simp only [List.length_nil] at hlen
      exact Ok.it (by omega) (Ok.ret ⟨rfl, Fr.rf⟩)
  | cons p L ih =>
    obtain ⟨d, m⟩ := p
    intro n i σ hn hlen hle hD hK hE
    cases n with
    | zero => simp at hn
    | succ n =>
      rw [L_H_use_2]
      simp only [List.length_cons] at hn hlen hle
      have hd1 : 0 ≤ d := hK.1.1
      obtain ⟨a, rfl⟩ := Int.eq_ofNat_of_zero_le hd1
      have la : a < 10 := by have := hK.1.2.1; omega
      have hu := hE.2.1 a la
      have hd : σ (ρ + 24) i = (a : Int) := hD.1
      have t1 : ((10 : Int) + (a : Int)).toNat = 10 + a := by omega
      simp only [Int.toNat_natCast, hd]
      refine Ok.ie (by omega) (Ok.ck (by omega) (Ok.bM ?_))
      simp only [t1]
      refine Ok.ck (by omega) (Ok.ck ⟨by omega, by omega⟩ (Ok.ck (by omega) (Ok.bM (Ok.ck ⟨by omega, by omega⟩ ?_))))
      have e2 : (i : Int) + 1 = ((i + 1 : Nat) : Int) := by omega
      rw [e2]
      have fs : Fr [3] σ (st2 σ 3 (10 + a) (min 999 (σ 3 (10 + a) + 1))) := Fr.rf.st (by decide)
      have h3 : st2 σ 3 (10 + a) (min 999 (σ 3 (10 + a) + 1)) 3 = fun j => if j = 10 + (a : Int).toNat then min 999 (σ 3 j + 1) else σ 3 j := by
        funext j
        simp only [st2_f, reduceIte, Int.toNat_natCast]
        by_cases hj : j = 10 + a
        · subst hj; rw [if_pos rfl]
        · rw [if_neg hj, if_neg hj]
      have hE2 := (useD_env (L := [((a : Int), m)]) (E := σ 3) ⟨hK.1, trivial⟩ hE).1
      refine (ih n (i + 1) _ (by omega) ?_ (by omega) ?_ hK.2 ?_).mono (fun τ hτ => ⟨?_, fs.tr hτ.2⟩)
      · rw [fs ρ (by simp; omega), hlen]; congr 1; omega
      · rw [fs (ρ + 24) (by simp)]; exact hD.2
      · rw [h3]; exact hE2
      · rw [hτ.1, h3]; rfl
