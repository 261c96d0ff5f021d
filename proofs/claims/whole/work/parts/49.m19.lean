-- the class's `reckonRow`
def RowC (σ : Mm) (r p : Nat) (mn : Int) (nums : Nat → Int) : Prop := 1 ≤ p ∧ p ≤ 4 ∧ 0 ≤ mn ∧ mn < 2 ^ p ∧ σ (10 + r) 3 = (p : Int) ∧ σ (10 + r) 5 = mn ∧ σ (10 + r) 6 = trs mn nums p ∧ (∀ k, k < p → σ (22 + r) k = nums k) ∧ (∀ k, k < p → 0 ≤ nums k ∧ nums k ≤ 9999) ∧ RowD σ (10 + r) (drw nums p)
theorem EnvOK.ext {E F : Nat → Int} (h : EnvOK E) (he : ∀ k, k ≤ 40 → F k = E k) : EnvOK F := by
  obtain ⟨h1, h2, h3, h4, h5⟩ := h
  refine ⟨fun k hk => ?_, fun k hk => ?_, fun k hk => ?_, fun k hk => ?_, ?_⟩
  · rw [he k (by omega)]; exact h1 k hk
  · rw [he (10 + k) (by omega)]; exact h2 k hk
  · rw [he (20 + k) (by omega)]; exact h3 k hk
  · rw [he (30 + k) (by omega)]; exact h4 k hk
  · rw [he 40 (by omega)]; exact h5
theorem DigR.df {f g : Nat → Int} : ∀ {L : DL} {i : Nat}, DigR f g i L → DF f i L
  | [], _, _ => trivial
  | (_, _) :: _, _, hs => ⟨hs.1, DigR.df hs.2.2⟩
theorem reckonRow_ok {σ : Mm} {G O M : Law} (hJ : JB σ G O M) {r p w : Nat} {mn B : Int} {nums : Nat → Int} {b : Nat → Nat → Int} (hr : r < 12) (hR : RowC σ r p mn nums) (hb : -9999999 ≤ σ 3 41 ∧ σ 3 41 ≤ 9999999) (hQ : QB (σ 3) B) (hB : B + 32 ≤ 90000000) (hK : BookC (σ 3) w b) (hs5 : -2147483648 ≤ σ 2 5 ∧ σ 2 5 < 2147483647) :
    Ok (F_H_reckonRow (r : Int) σ) (fun x => x.1 = trs mn nums p + offL (tw G O (σ 3)) (drw nums p) ∧ (∀ k, k < 43 → k ≠ 41 → x.2 3 k = useD (drw nums p) (incL (tw G O (σ 3)) (drw nums p) (σ 3)) k) ∧ x.2 3 41 = max (-9999999) (min 9999999 (σ 3 41 + x.1)) ∧ BookC (x.2 3) (pushW w) (pushB w b r (σ 3 40) x.1) ∧ Fr [2, 3, 4, 5, 6, 7] σ x.2 ∧ x.2 2 5 = σ 2 5 + 1 ∧ x.2 2 6 = σ 2 6 ∧ QB (x.2 3) (B + 32) ∧ JB x.2 G O M) := by
  obtain ⟨p1, p2, m1, m2, c3, c5, c6, cn, cb, hD⟩ := hR
  obtain ⟨d1, d2, d3, d4, d5⟩ := hD
  unfold F_H_reckonRow
  simp only [Int.toNat_natCast]
  refine Ok.ck (by omega) (Ok.bM ?_)
  rw [c6]
  refine Ok.b0M (fresh_ok hJ hs5) (fun s3 h3 => ?_)
  obtain ⟨hJ3, hf3, h35, h36⟩ := h3
  have e3 : s3 3 = σ 3 := hf3 3 (by decide)
  have k3 : ∀ j, 10 ≤ j → s3 j = σ j := fun j hj => hf3 j (by simp; omega)
  have htb := trs_bd (mn := mn) (k := p) cb
  have hob := offL_bd (G := G) (O := O) (E := σ 3) (drw nums p)
  have hne := drw_ne (nums := nums) p1
  obtain ⟨d, k, t, hd⟩ := hne
  have d1' := d1
  have d2' := d2
  have d4' := d4
  have d5' := d5
  rw [hd] at d1' d2' d4' d5'
  simp only [List.length_cons] at d1' d2'
  refine Ok.b1M (reckC_loop (ρ := 10 + r) (by omega) (E0 := σ 3) t LF 1 _ d B s3 (by unfold LF; omega) hJ3 (by rw [e3]; exact EqQ.rf) (by rw [e3]; exact hQ) (by omega) (by rw [k3 (10 + r) (by omega), d1']; congr 1; omega) (by omega) (by omega) (by rw [k3 (10 + r + 24) (by omega)]; exact d4'.1) ⟨d5'.1.1, d5'.1.2.1⟩ (by rw [k3 (10 + r + 24) (by omega), k3 (10 + r + 36) (by omega)]; exact d4'.2.2) d5'.2 (by omega)) (fun v s4 h4 => ?_)
  obtain ⟨hv, hi4, hQ4, hE4, hf4, hJ4⟩ := h4
  have hv : v = trs mn nums p + offL (tw G O (σ 3)) (drw nums p) := by rw [hd]; exact hv
  have hi4 : s4 3 = incL (tw G O (σ 3)) (drw nums p) (σ 3) := by rw [hd, ← e3]; rw [← e3] at hi4; exact hi4
  have hf4 : Fr [3, 4, 5, 6, 7] s3 s4 := hf4
  have hE4 : EqQ (σ 3) (s4 3) := hE4
  have hQ4 : QB (s4 3) (B + 2 * t.length) := hQ4
  have hJ4 : JOK s4 G O M := hJ4
  have k4 : ∀ j, 10 ≤ j → s4 j = σ j := fun j hj => (hf4 j (by simp; omega)).trans (k3 j hj)
  unfold F_H_use
  have hu := useC_loop (ρ := 10 + r) (by omega) (drw nums p) LF 0 s4 (by unfold LF; omega) (by rw [k4 (10 + r) (by omega), d1]; congr 1; omega) (by omega) (by rw [k4 (10 + r + 24) (by omega)]; exact d4.df) d5 hJ4.2.1
  refine Ok.b0M (Q := fun τ => τ 3 = useD (drw nums p) (s4 3) ∧ Fr [3] s4 τ) (Ok.b0M hu (fun s hs => Ok.ret hs)) (fun s5 h5 => ?_)
  obtain ⟨hu5, hf5⟩ := h5
  obtain ⟨u1, u2⟩ := useD_env d5 hJ4.2.1
  have hQ5 : EqU (s4 3) (s5 3) := by rw [hu5]; exact u2
  have e41 : s5 3 41 = σ 3 41 := by rw [hQ5 41 (by omega), hE4 41 (by omega)]
  rw [e41]
  refine Ok.ck ⟨by omega, by omega⟩ (Ok.bN (fun s6 h6 => ?_))
  have V6 : ∀ k, s6 3 k = if k = 41 then max (-9999999) (min 9999999 (σ 3 41 + v)) else s5 3 k := fun k => by rw [h6]; simp only [st2_f, reduceIte]
  have hf6 : Fr [3] s5 s6 := by rw [h6]; exact Fr.rf.st (by decide)
  have hK6 : BookC (s6 3) w b := by
    obtain ⟨b1, b2, n, b3, b4, b5⟩ := hK
    have z : ∀ k, 43 ≤ k → s6 3 k = σ 3 k := fun k hk => by rw [V6, if_neg (by omega), hQ5 k (by omega), hE4 k (by omega)]
    exact ⟨b1, by rw [z 43 (by omega)]; exact b2, n, b3, by rw [z 44 (by omega)]; exact b4, fun i j hi hj => by rw [z _ (by omega)]; exact b5 i j hi hj⟩
  have e40 : s6 3 40 = σ 3 40 := by rw [V6, if_neg (by omega), hQ5 40 (by omega), hE4 40 (by omega)]
  refine Ok.b0M (writeDown_ok hK6) (fun s7 h7 => ?_)
  obtain ⟨hK7, hf7, h73⟩ := h7
  rw [e40] at hK7
  have V7 : ∀ k, k < 43 → k ≠ 41 → s7 3 k = s5 3 k := fun k h1 h2 => by rw [h73 k h1, V6, if_neg h2]
  have F7 : Fr [3] s4 s7 := (hf5.tr hf6).tr hf7
  have e2 : s7 2 = s3 2 := by rw [F7 2 (by decide), hf4 2 (by decide)]
  refine Ok.ret ⟨hv, fun k h1 h2 => ?_, ?_, hK7, ?_, ?_, ?_, ?_, ?_⟩
  · show s7 3 k = _
    rw [V7 k h1 h2, hu5, hi4]
  · show s7 3 41 = _
    rw [h73 41 (by omega), V6, if_pos rfl]
  · exact ((hf3.w (by decide)).tr (hf4.w (by decide))).tr (F7.w (by decide))
  · show s7 2 5 = _
    rw [e2, h35]
  · show s7 2 6 = _
    rw [e2, h36]
  · intro k hk
    show 0 ≤ s7 3 (20 + k) ∧ s7 3 (20 + k) ≤ B + 32
    have := hQ4 k hk
    rw [V7 (20 + k) (by omega) (by omega), hQ5 (20 + k) (by omega)]
    omega
  · have x1 : LawsC s7 G O M := hJ4.1.fr F7 (by rw [F7 2 (by decide)]) (by decide)
    refine ⟨x1, EnvOK.ext u1 (fun k hk => ?_), fun k hk => ?_⟩
    · show s7 3 k = _
      rw [V7 k (by omega) (by omega), hu5]
    · show s7 6 k ≤ s7 2 5
      rw [F7 6 (by decide), F7 2 (by decide)]; exact hJ4.2.2.1 k hk
