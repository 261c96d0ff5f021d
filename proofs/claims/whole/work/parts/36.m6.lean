theorem st2_f (σ : Mm) (i k a : Nat) (x : Int) : st2 σ i k x a = if a = i then (fun b => if b = k then x else σ a b) else σ a := by
  funext b
  unfold st2
  split <;> rfl
/-- what was said of TWO is so, as long as it is of this round -/
def Memo (σ : Mm) (G O : Law) : Prop := (∀ k, k < 400 → σ 6 k ≤ σ 2 5) ∧ ∀ l r k : Nat, l < 10 → r < 10 → k < 4 → σ 6 ((l * 10 + r) * 4 + k) = σ 2 5 → σ 7 ((l * 10 + r) * 4 + k) = tw G O (σ 3) l r k
theorem kd_ok : ∀ k : Nat, k < 4 → ishr (k : Int) 1 = ((k / 2 : Nat) : Int) ∧ iand (k : Int) 1 = ((k % 2 : Nat) : Int) := by decide +kernel
theorem okw_le {w : Nat} {k : Int} (hw : w ≠ 2) (h : okw w k = true) : 0 ≤ k ∧ k ≤ 8 := by
  unfold okw at h
  rw [if_neg hw] at h
  exact of_decide_eq_true h
theorem okw_m {k : Int} (h : okw 2 k = true) : k = 0 ∨ (9 ≤ k ∧ k ≤ 12) := by
  unfold okw at h
  rw [if_pos rfl] at h
  exact of_decide_eq_true h
set_option maxRecDepth 20000 in
set_option maxHeartbeats 2000000 in
theorem two_ok {σ : Mm} {G O M : Law} (hL : LawsC σ G O M) (hE : EnvOK (σ 3)) (hM : Memo σ G O) {l r k : Nat} (hl : l < 10) (hr : r < 10) (hk : k < 4) :
    Ok (F_J_two (l : Int) (r : Int) (k : Int) σ) (fun x => x.1 = tw G O (σ 3) l r k ∧ Fr [4, 5, 6, 7] σ x.2 ∧ Memo x.2 G O) := by
  obtain ⟨LG, LO, LM, hlaw⟩ := hL
  have hbad := hE.2.2.2.1 l hl
  unfold F_J_two
  have e0 : ((((l : Int) * 10) + (r : Int)) * 4) + (k : Int) = (((l * 10 + r) * 4 + k : Nat) : Int) := by omega
  rw [e0]
  refine Ok.bM ?_
  simp only [Int.toNat_natCast]
  refine Ok.ck (by omega) (Ok.ite (fun hm => Ok.ck (by omega) (Ok.ret ⟨hM.2 l r k hl hr hk hm, Fr.rf, hM⟩)) (fun hm => ?_))
  have e1 : ((30 : Int) + (l : Int)).toNat = 30 + l := by omega
  have e2 : iand (ishr (σ 3 (30 + l)) (r : Int)) 1 = bitI (σ 3 (30 + l)) r := bit_of (by omega) (by omega) (by omega) (by omega)
  refine Ok.ck (by omega) ?_
  rw [e1, e2]
  refine Ok.bM (Ok.bM (Ok.bM ?_))
  have fin : ∀ (x : Int) (τ : Mm), Fr [4, 5] σ τ → x = tw G O (σ 3) l r k → Ok (if 0 ≤ (((l * 10 + r) * 4 + k : Nat) : Int) ∧ (((l * 10 + r) * 4 + k : Nat) : Int) < 400 then bindM (st2 τ 6 ((l * 10 + r) * 4 + k) (τ 2 5)) fun s5 => if 0 ≤ (((l * 10 + r) * 4 + k : Nat) : Int) ∧ (((l * 10 + r) * 4 + k : Nat) : Int) < 400 then bindM (st2 s5 7 ((l * 10 + r) * 4 + k) x) fun s6 => some (x, s6) else none else none) (fun x => x.1 = tw G O (σ 3) l r k ∧ Fr [4, 5, 6, 7] σ x.2 ∧ Memo x.2 G O) := by
    intro x τ hf hx
    refine Ok.ck (by omega) (Ok.bM (Ok.ck (by omega) (Ok.bM (Ok.ret ⟨hx, ((hf.w (by decide)).st (by decide)).st (by decide), ?_, ?_⟩))))
    · intro k1 hk1
      show st2 (st2 τ 6 ((l * 10 + r) * 4 + k) (τ 2 5)) 7 ((l * 10 + r) * 4 + k) x 6 k1 ≤ st2 (st2 τ 6 ((l * 10 + r) * 4 + k) (τ 2 5)) 7 ((l * 10 + r) * 4 + k) x 2 5
      simp only [st2_f, Nat.reduceEqDiff, reduceIte]
      split
      · exact Int.le_refl _
      · rw [hf 6 (by decide), hf 2 (by decide)]; exact hM.1 k1 hk1
    · intro l1 r1 k1 h1 h2 h3 h4
      have h4 : st2 (st2 τ 6 ((l * 10 + r) * 4 + k) (τ 2 5)) 7 ((l * 10 + r) * 4 + k) x 6 ((l1 * 10 + r1) * 4 + k1) = st2 (st2 τ 6 ((l * 10 + r) * 4 + k) (τ 2 5)) 7 ((l * 10 + r) * 4 + k) x 2 5 := h4
      show st2 (st2 τ 6 ((l * 10 + r) * 4 + k) (τ 2 5)) 7 ((l * 10 + r) * 4 + k) x 7 ((l1 * 10 + r1) * 4 + k1) = tw G O (st2 (st2 τ 6 ((l * 10 + r) * 4 + k) (τ 2 5)) 7 ((l * 10 + r) * 4 + k) x 3) l1 r1 k1
      simp only [st2_f, Nat.reduceEqDiff, reduceIte] at h4 ⊢
      rw [hf 3 (by decide)]
      by_cases hi : (l1 * 10 + r1) * 4 + k1 = (l * 10 + r) * 4 + k
      · rw [if_pos hi]
        have a1 : l1 = l := by omega
        have a2 : r1 = r := by omega
        have a3 : k1 = k := by omega
        rw [a1, a2, a3]; exact hx
      · rw [if_neg hi] at h4 ⊢
        rw [hf 6 (by decide), hf 2 (by decide)] at h4
        rw [hf 7 (by decide)]
        exact hM.2 l1 r1 k1 h1 h2 h3 h4
  have hk2 := kd_ok k hk
  have kk1 : ((k / 2 : Nat) : Int) = (k : Int) / 2 := by omega
  have kk2 : ((k % 2 : Nat) : Int) = (k : Int) % 2 := by omega
  rcases hlaw with ⟨d1, rfl, rfl, rfl⟩ | ⟨t, q, d1, d2, d3, d4⟩
  · refine Ok.it d1 (fin _ _ Fr.rf ?_)
    unfold tw qv ov
    rfl
  · have ht := isO9 q
    refine Ok.ie (by omega) ?_
    refine Ok.bM (Ok.bM (Ok.bM (Ok.ck (by omega) (Ok.bM (Ok.ck (by omega) (Ok.bM (Ok.ck (by omega) (Ok.ck (by omega) ?_))))))))
    have t0 : ((0 : Int) + (l : Int)).toNat = l := by omega
    have t1 : ((0 : Int) + (r : Int)).toNat = r := by omega
    have t2 : ((10 : Int) + (l : Int)).toNat = 10 + l := by omega
    have t3 : ((10 : Int) + (r : Int)).toNat = 10 + r := by omega
    rw [t0, t1, t2, t3]
    have u1 := hE.2.1 l hl
    have u2 := hE.2.1 r hr
    -- the names as they are set
    generalize hs11 : st2 (st2 (st2 (st2 (st2 σ 4 0 (σ 3 40)) 4 1 ↑l) 4 2 ↑r) 4 3 (st2 (st2 (st2 σ 4 0 (σ 3 40)) 4 1 ↑l) 4 2 (↑r : Int) 3 l)) 4 4 (st2 (st2 (st2 (st2 σ 4 0 (σ 3 40)) 4 1 ↑l) 4 2 ↑r) 4 3 (st2 (st2 (st2 σ 4 0 (σ 3 40)) 4 1 ↑l) 4 2 (↑r : Int) 3 l) 3 r) = s11
    have f11 : Fr [4, 5] σ s11 := by
      rw [← hs11]
      exact ((((Fr.rf.st (by decide)).st (by decide)).st (by decide)).st (by decide)).st (by decide)
    have g3 : s11 3 = σ 3 := f11 3 (by decide)
    have n11 : s11 4 = fun j => if j = 4 then σ 3 r else if j = 3 then σ 3 l else if j = 2 then (r : Int) else if j = 1 then (l : Int) else if j = 0 then σ 3 40 else σ 4 j := by
      rw [← hs11]
      funext j
      simp only [st2_sk, st2_ne (show (3 : Nat) ≠ 4 by decide)]
    rw [g3]
    refine Ok.ck ⟨by omega, by omega⟩ (Ok.bM (Ok.bM (Ok.bM (Ok.bM ?_))))
    rw [hk2.1, hk2.2]
    generalize hs16 : st2 (st2 (st2 (st2 s11 4 5 (σ 3 (10 + l) + σ 3 (10 + r))) 4 6 ((k / 2 : Nat) : Int)) 4 7 ((k % 2 : Nat) : Int)) 4 8 (bitI (σ 3 (30 + l)) r) = s16
    have f16 : Fr [4, 5] σ s16 := by
      rw [← hs16]
      exact (((f11.st (by decide)).st (by decide)).st (by decide)).st (by decide)
    have hnm16 : ∀ k9 : Nat, k9 ≤ 8 → s16 4 k9 = nmE (σ 3) l r ((k : Int) / 2) ((k : Int) % 2) k9 := by
      intro k9 h9
      rw [← hs16]
      simp only [st2_sk, n11]
      unfold nmE
      have c9 : k9 = 0 ∨ k9 = 1 ∨ k9 = 2 ∨ k9 = 3 ∨ k9 = 4 ∨ k9 = 5 ∨ k9 = 6 ∨ k9 = 7 ∨ k9 = 8 := by omega
      rcases c9 with rfl | rfl | rfl | rfl | rfl | rfl | rfl | rfl | rfl
      all_goals simp [kk1, kk2]
    have hbnd := nmE_bound hE (l := l) (r := r) (ap := (k : Int) / 2) (la := (k : Int) % 2) (by omega) (by omega) (by omega) (by omega)
    have h26 : ∀ τ : Mm, Fr [4, 5] σ τ → τ 2 6 = (t : Int) := fun τ hf => by rw [hf 2 (by decide)]; exact d1
    have lw : ∀ (τ : Mm) (w : Nat) (L : Law), Fr [4, 5] σ τ → LawC σ t w L → LawC τ t w L := fun τ w L hf h => h.fr hf (by simp; omega) (by simp) (by simp)
    have nmw : ∀ (τ : Mm) (w : Nat), w ≠ 2 → τ 4 = s16 4 → ∀ k9 : Int, okw w k9 = true → 0 ≤ k9 ∧ k9 < 13 ∧ τ 4 k9.toNat = nmE (σ 3) l r ((k : Int) / 2) ((k : Int) % 2) k9.toNat := by
      intro τ w hw h4 k9 h9
      have := okw_le hw h9
      exact ⟨by omega, by omega, by rw [h4]; exact hnm16 k9.toNat (by omega)⟩
    -- the second law
    have offs : ∀ (y : Int) (τ : Mm), Fr [4, 5] σ τ → τ 4 = s16 4 → y = qv G (σ 3) l r ((k : Int) / 2) ((k : Int) % 2) → (y = 0 ∨ y = 1) → Ok (if y = 0 then (if 0 ≤ (((l * 10 + r) * 4 + k : Nat) : Int) ∧ (((l * 10 + r) * 4 + k : Nat) : Int) < 400 then bindM (st2 τ 6 ((l * 10 + r) * 4 + k) (τ 2 5)) fun s5 => if 0 ≤ (((l * 10 + r) * 4 + k : Nat) : Int) ∧ (((l * 10 + r) * 4 + k : Nat) : Int) < 400 then bindM (st2 s5 7 ((l * 10 + r) * 4 + k) 1000) fun s6 => some (1000, s6) else none else none) else (if 0 ≤ τ 2 6 ∧ IsO 0 9 (τ 2 6).toNat then b1 (F_T_has (τ 2 6).toNat 1 τ) fun v22 => if v22 = 0 then (if 0 ≤ (((l * 10 + r) * 4 + k : Nat) : Int) ∧ (((l * 10 + r) * 4 + k : Nat) : Int) < 400 then bindM (st2 τ 6 ((l * 10 + r) * 4 + k) (τ 2 5)) fun s5 => if 0 ≤ (((l * 10 + r) * 4 + k : Nat) : Int) ∧ (((l * 10 + r) * 4 + k : Nat) : Int) < 400 then bindM (st2 s5 7 ((l * 10 + r) * 4 + k) 1) fun s6 => some (1, s6) else none else none) else b1M (F_J_run 1 τ) fun v23 s23 => (if 0 ≤ (((l * 10 + r) * 4 + k : Nat) : Int) ∧ (((l * 10 + r) * 4 + k : Nat) : Int) < 400 then bindM (st2 s23 6 ((l * 10 + r) * 4 + k) (s23 2 5)) fun s5 => if 0 ≤ (((l * 10 + r) * 4 + k : Nat) : Int) ∧ (((l * 10 + r) * 4 + k : Nat) : Int) < 400 then bindM (st2 s5 7 ((l * 10 + r) * 4 + k) (max (-99) (min 99 v23))) fun s6 => some (max (-99) (min 99 v23), s6) else none else none) else none)) (fun x => x.1 = tw G O (σ 3) l r k ∧ Fr [4, 5, 6, 7] σ x.2 ∧ Memo x.2 G O) := by
      intro y τ hf h4 hy hy2
      refine Ok.ite (fun y0 => fin _ _ hf ?_) (fun y0 => ?_)
      · unfold tw
        rw [if_neg (by rw [← hy]; omega)]
      · rw [h26 τ hf]
        simp only [Int.toNat_natCast]
        refine Ok.ck ⟨by omega, q⟩ ?_
        have hh := has_ok (t := t) (w := 1) (by omega) LO (lw τ 1 O hf d3)
        refine Ok.b1 (Ok.eq hh) (fun v hv => ?_)
        have htw : tw G O (σ 3) l r k = ov O (σ 3) l r ((k : Int) / 2) ((k : Int) % 2) := by
          unfold tw
          rw [if_pos (by rw [← hy]; omega)]
        match O, LO, d3, hv, htw with
        | none, LO, d3, hv, htw =>
          refine Ok.it (by rw [hv]; rfl) (fin _ _ hf ?_)
          rw [htw]; rfl
        | some cs, LO, d3, hv, htw =>
          refine Ok.ie (by rw [hv]; simp) ?_
          obtain ⟨g1, g2, g4⟩ := law_run q (w := 1) (by omega) LO (lw τ 1 _ hf d3) (h26 τ hf) hbnd (nmw τ 1 (by decide) h4)
          refine Ok.b1M g4 (fun a s hs => ?_)
          obtain ⟨ha, hfs⟩ := hs
          refine fin _ _ (hf.tr (hfs.w (by decide))) ?_
          rw [htw]
          have ha2 : a = evV (nmE (σ 3) l r ((k : Int) / 2) ((k : Int) % 2)) cs := ha
          rw [ha2]; rfl
    rw [h26 s16 f16]
    simp only [Int.toNat_natCast]
    refine Ok.ck ⟨by omega, q⟩ ?_
    have hh := has_ok (t := t) (w := 0) (by omega) LG (lw s16 0 G f16 d2)
    refine Ok.b1 (Ok.eq hh) (fun v hv => ?_)
    refine Ok.bM ?_
    match G, LG, d2, hv, offs with
    | none, LG, d2, hv, offs =>
      have b01 := bitI_01 (σ 3 (30 + l)) r
      refine Ok.it (by rw [hv]; rfl) (Ok.ite (fun b1 => ?_) (fun b1 => ?_))
      · exact offs 1 s16 f16 rfl (by unfold qv; exact b1.symm) (Or.inr rfl)
      · exact offs 0 s16 f16 rfl (by unfold qv; simp only [Int.toNat_natCast]; omega) (Or.inl rfl)
    | some cs, LG, d2, hv, offs =>
      refine Ok.ie (by rw [hv]; simp) ?_
      obtain ⟨g1, g2, g4⟩ := law_run q (w := 0) (by omega) LG (lw s16 0 _ f16 d2) (h26 s16 f16) hbnd (nmw s16 0 (by decide) rfl)
      refine Ok.b1M g4 (fun a s hs => ?_)
      obtain ⟨ha, hfs⟩ := hs
      have ha2 : a = evV (nmE (σ 3) l r ((k : Int) / 2) ((k : Int) % 2)) cs := ha
      have hf2 : Fr [4, 5] σ s := f16.tr (hfs.w (by decide))
      have h4 : s 4 = s16 4 := hfs 4 (by decide)
      refine Ok.ite (fun z => ?_) (fun z => ?_)
      · exact offs 1 s hf2 h4 (by unfold qv; simp only; rw [if_pos (by rw [← ha2]; exact z)]) (Or.inr rfl)
      · exact offs 0 s hf2 h4 (by unfold qv; simp only; rw [if_neg (by rw [← ha2]; exact z)]) (Or.inl rfl)
