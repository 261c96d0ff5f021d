theorem reckM_loop {G O M : Law} {E0 : Nat → Int} : ∀ (L : DL) (n i : Nat) (d B : Int) (σ : Mm), L.length < n → MOK σ G O M → EqQ E0 (EM σ) → QB (EM σ) B → B + 2 * L.length ≤ 90000000 → σ 200 53 = ((i + 1 + L.length : Nat) : Int) → i + 1 + L.length ≤ 16 → σ 230 i = d → 0 ≤ d ∧ d ≤ 9 → MDR (σ 230) (σ 231) (σ 232) (i + 1) L → DOK L →
    Ok (L_M_reckons_33 n (i : Int) σ) (fun τ => EM τ = incQ (tw G O E0) d L (EM σ) ∧ QB (EM τ) (B + 2 * L.length) ∧ Fr [223, 224, 227] σ τ) := by
  intro L
  induction L with
  | nil =>
    intro n i d B σ hn hM hE hQ hB hlen hle hd hd2 hR hK
    cases n with
    | zero => simp at hn
    | succ n =>
      rw [L_M_reckons_33]
      simp only [List.length_nil] at hlen hle ⊢
      exact Ok.ck ⟨by omega, by omega⟩ (Ok.it (by omega) (Ok.ret ⟨rfl, by simpa using hQ, Fr.rf⟩))
  | cons p L ih =>
    obtain ⟨e, m⟩ := p
    intro n i d B σ hn hM hE hQ hB hlen hle hd hd2 hR hK
    cases n with
    | zero => simp at hn
    | succ n =>
      rw [L_M_reckons_33]
      simp only [List.length_cons] at hn hlen hle hB ⊢
      have he2 : 0 ≤ e ∧ e ≤ 9 := ⟨hK.1.1, hK.1.2.1⟩
      refine Ok.ck ⟨by omega, by omega⟩ (Ok.ie (by omega) ?_)
      refine Ok.b1M (quarrelAt_ok hM (by omega) hd hd2 he2 hK.1.2.2 hR) (fun a s hs => ?_)
      obtain ⟨ha, hf, -⟩ := hs
      have ha : a = qv G E0 d e (m / 2) (m % 2) := by rw [← qv_cong hE hd2 he2]; exact ha
      have hf : Fr [223, 224] σ s := hf
      have hM2 := hM.f2 hf
      have hE2 : EM s = EM σ := EM_f2 hf
      have e2 : (i : Int) + 1 = ((i + 1 : Nat) : Int) := by omega
      have e1 : ((i : Int) + 1).toNat = i + 1 := by omega
      have tq := q0_qv (G := G) (O := O) (E := E0) (l := d) (r := e) (k := m)
      have go : ∀ (τ : Mm) (B2 : Int), MOK τ G O M → EqQ E0 (EM τ) → QB (EM τ) B2 → B2 ≤ B + 2 → Fr [223, 224, 227] σ τ → incQ (tw G O E0) d ((e, m) :: L) (EM σ) = incQ (tw G O E0) e L (EM τ) → Ok (if r32 ((i : Int) + 1) then L_M_reckons_33 n ((i : Int) + 1) τ else none) (fun τ => EM τ = incQ (tw G O E0) d ((e, m) :: L) (EM σ) ∧ QB (EM τ) (B + 2 * ((L.length + 1 : Nat) : Int)) ∧ Fr [223, 224, 227] σ τ) := by
        intro τ B2 hMτ hEτ hQτ hB2 hfτ hinc
        refine Ok.ck ⟨by omega, by omega⟩ ?_
        rw [e2, hinc]
        have k4 : ∀ j, j ≠ 223 → j ≠ 224 → j ≠ 227 → τ j = σ j := fun j h1 h2 h3 => hfτ j (by simp; omega)
        refine (ih n (i + 1) e B2 τ (by omega) hMτ hEτ hQτ (by omega) ?_ (by omega) ?_ he2 ?_ hK.2).mono (fun r hr => ⟨hr.1, fun k hk => ?_, hfτ.tr hr.2.2⟩)
        · rw [k4 200 (by decide) (by decide) (by decide), hlen]; congr 1; omega
        · rw [k4 230 (by decide) (by decide) (by decide)]; exact hR.1
        · rw [k4 230 (by decide) (by decide) (by decide), k4 231 (by decide) (by decide) (by decide), k4 232 (by decide) (by decide) (by decide)]; exact hR.2.2.2
        · have := hr.2.1 k hk; omega
      refine Ok.bM ?_
      rcases qv_01 (G := G) (E := E0) (l := d) (r := e) (ap := m / 2) (la := m % 2) with h0 | h1
      · have ht : tw G O E0 d e m = 1000 := by
          rw [h0] at tq
          unfold q0 at tq
          split at tq
          · assumption
          · omega
        refine Ok.it (by omega) (go s B hM2 (by rw [hE2]; exact hE) (by rw [hE2]; exact hQ) (by omega) (hf.w (by decide)) ?_)
        rw [incQ, if_pos ht, hE2]
      · have ht : ¬ tw G O E0 d e m = 1000 := by
          rw [h1] at tq
          unfold q0 at tq
          split at tq
          · omega
          · assumption
        refine Ok.ie (by omega) ?_
        have sd : s 230 i = d := by rw [hf 230 (by decide)]; exact hd
        have se : s 230 (i + 1) = e := by rw [hf 230 (by decide)]; exact hR.1
        obtain ⟨a1, rfl⟩ := Int.eq_ofNat_of_zero_le hd2.1
        obtain ⟨b1, rfl⟩ := Int.eq_ofNat_of_zero_le he2.1
        have l1 : a1 < 10 := by omega
        have l2 : b1 < 10 := by omega
        have q1 := hQ a1 l1
        have q2 := hQ b1 l2
        rw [EM_3 l1] at q1
        rw [EM_3 l2] at q2
        have s227 : s 227 = σ 227 := hf 227 (by decide)
        simp only [e1, Int.toNat_natCast, sd, s227]
        refine Ok.ck (by omega) (Ok.ck (by omega) (Ok.ck ⟨by omega, by omega⟩ (Ok.ck (by omega) (Ok.bM ?_))))
        simp only [st2_f, Nat.reduceEqDiff, reduceIte, se, Int.toNat_natCast, s227]
        refine Ok.ck (by omega) (Ok.ck (by omega) (Ok.ck ⟨by split <;> omega, by split <;> omega⟩ (Ok.ck (by omega) (Ok.bM ?_))))
        have f3 : Fr [223, 224, 227] σ (st2 (st2 s 227 a1 (σ 227 a1 + 1)) 227 b1 ((if b1 = a1 then σ 227 a1 + 1 else σ 227 b1) + 1)) := ((hf.w (by decide)).st (by decide)).st (by decide)
        have hEM : EM (st2 (st2 s 227 a1 (σ 227 a1 + 1)) 227 b1 ((if b1 = a1 then σ 227 a1 + 1 else σ 227 b1) + 1)) = bump (bump (EM σ) (20 + a1)) (20 + b1) := by
          funext j
          simp only [EM_q l2, EM_q l1, hE2, bump]
          by_cases hj : j = 20 + b1
          · subst hj
            rw [if_pos rfl, if_pos rfl]
            by_cases hab : b1 = a1
            · subst hab
              rw [if_pos rfl, if_pos rfl, EM_3 l1]
            · rw [if_neg hab, if_neg (by omega), EM_3 l2]
          · rw [if_neg hj, if_neg hj]
            by_cases hj2 : j = 20 + a1
            · subst hj2
              rw [if_pos rfl, if_pos rfl, EM_3 l1]
            · rw [if_neg hj2, if_neg hj2]
        have hQ2 : QB (bump (bump (EM σ) (20 + a1)) (20 + b1)) (B + 1 + 1) := QB_bump (QB_bump hQ)
        have hE3 : EqQ E0 (bump (bump (EM σ) (20 + a1)) (20 + b1)) := EqQ_bump (EqQ_bump hE l1) l2
        refine go _ (B + 1 + 1) ⟨hM.1.fr f3 (by rw [f3 201 (by decide)]) (by decide), hM.2.1, hM.2.2.1, hM.2.2.2.1, ?_⟩ ?_ ?_ (by omega) f3 ?_
        · rw [hEM]
          exact hM.2.2.2.2.q (EqQ_bump (EqQ_bump EqQ.rf l1) l2) hQ2 (by omega)
        · rw [hEM]; exact hE3
        · rw [hEM]; exact hQ2
        · rw [hEM, incQ, if_neg ht]
          simp only [Int.toNat_natCast]
