-- `beside` on both sides
theorem split2 : ∀ (D : DL) (i : Nat), i + 1 < D.length → ∃ A d k e m t, D = A ++ (d, k) :: (e, m) :: t ∧ A.length = i
  | [], i, h => by simp at h
  | [(d, k)], i, h => by simp at h
  | (d, k) :: (e, m) :: t, 0, _ => ⟨[], d, k, e, m, t, rfl, rfl⟩
  | (d, k) :: (e, m) :: t, i + 1, h => by
    obtain ⟨A, d2, k2, e2, m2, t2, h1, h2⟩ := split2 ((e, m) :: t) i (by simp at h ⊢; omega)
    exact ⟨(d, k) :: A, d2, k2, e2, m2, t2, by rw [h1]; rfl, by simp [h2]⟩
theorem DigR.app {f g : Nat → Int} : ∀ {A L : DL} {i : Nat}, DigR f g i (A ++ L) → DigR f g (i + A.length) L
  | [], _, _, h => h
  | (a, b) :: A, L, i, h => by
    have := DigR.app (A := A) (L := L) (i := i + 1) h.2.2
    have e : i + ((a, b) :: A).length = i + 1 + A.length := by simp; omega
    rw [e]; exact this
theorem MDR.app {f g h : Nat → Int} : ∀ {A L : DL} {i : Nat}, MDR f g h i (A ++ L) → MDR f g h (i + A.length) L
  | [], _, _, h => h
  | (a, b) :: A, L, i, h => by
    have := MDR.app (A := A) (L := L) (i := i + 1) h.2.2.2
    have e : i + ((a, b) :: A).length = i + 1 + A.length := by simp; omega
    rw [e]; exact this
theorem DOK.app : ∀ {A L : DL}, DOK (A ++ L) → DOK L
  | [], _, h => h
  | (_, _) :: _, _, h => DOK.app h.2
theorem MRow.app {f g h : Nat → Int} {A : DL} {d k : Int} {t : DL} (hr : MRow f g h (A ++ (d, k) :: t)) : f A.length = d ∧ MDR f g h (A.length + 1) t := by
  match A, hr with
  | [], hr => exact hr
  | (a, b) :: A, hr =>
    have := MDR.app (A := A) (L := (d, k) :: t) (i := 1) hr.2
    have e : ((a, b) :: A).length = 1 + A.length := by simp; omega
    rw [e]
    exact ⟨this.1, this.2.2.2⟩
theorem beside_rel {σ μ : Mm} {B R : Int} (h : Rel σ μ B R) (hB : B + 400 ≤ 90000000) (hR : R + 1000 < 2147483647) (x y : Int) : Op (F_A_beside x y σ) (F_M_beside x y μ) B (R + 1000) := by
  obtain ⟨G, O, M, hN, hE⟩ := id h
  obtain ⟨c, c1, c2, c3, c4⟩ := hN.rows
  have hr := hN.round
  obtain ⟨e1, e2⟩ := has_row c1 c2 c3 x
  have out : Rel σ μ B (R + 1000) := h.w (Int.le_refl _) (by omega)
  unfold F_A_beside F_M_beside
  rw [e1, e2, b1_some, b1_some]
  by_cases hx : 0 ≤ x ∧ x < (c : Int)
  · rw [if_pos hx, if_neg ne10, if_neg ne10]
    obtain ⟨r, rfl⟩ := Int.eq_ofNat_of_zero_le hx.1
    have er : ((r : Int)).toNat = r := by omega
    obtain ⟨p, mn, nums, hC, hM⟩ := c4 r (by omega)
    obtain ⟨p1, p2, m1, m2, C3, C5, C6, Cn, Cb, hD⟩ := id hC
    have hlen := drw_len nums p
    obtain ⟨D1, D2, D3, D4, D5⟩ := id hD
    rw [if_pos (show 0 ≤ (r : Int) ∧ (r : Int) < 12 by omega), er, D1, if_pos (show r32 (((drw nums p).length : Int) - 1) from ⟨by omega, by omega⟩)]
    by_cases hy : y < 0
    · rw [if_pos hy, if_neg (show ¬ 0 ≤ y by omega)]; exact Op.ret rfl out
    · obtain ⟨i, rfl⟩ := Int.eq_ofNat_of_zero_le (show 0 ≤ y by omega)
      rw [if_neg hy, if_pos (show 0 ≤ (i : Int) by omega)]
      obtain ⟨ν1, E1, mj1, -⟩ := hN.lays
      obtain ⟨ν2, E2, mj2, L2, n2, -⟩ := mj1.row (r := r) (by omega) hM
      obtain ⟨ν3, E3, mj3, L3, R3, d3, F3, s3⟩ := mj2.digits L2
      have dd : drw (ν2 229) p = drw nums p := drw_cong (fun i hi => n2 i (by omega))
      rw [dd] at d3 R3
      rw [E1, b0M_some, E2, b0M_some, E3, b0M_some, d3, if_pos (show r32 (((drw nums p).length : Int) - 1) from ⟨by omega, by omega⟩)]
      by_cases hi : (i : Int) < ((drw nums p).length : Int) - 1
      · rw [if_pos hi, if_neg (show ¬ ((drw nums p).length : Int) - 1 ≤ (i : Int) by omega)]
        obtain ⟨A, d, k, e, m, t, hS, hA⟩ := split2 (drw nums p) i (by omega)
        obtain ⟨τ, T1, cj, fτ⟩ := hN.fresh (by omega) (by omega)
        have a1 := D4
        rw [hS] at a1 R3
        have a2 := a1.app
        have a3 := R3.app
        have a4 := D5
        rw [hS] at a4
        have a5 := a4.app
        rw [hA] at a2 a3
        have i1 : ((i : Int) + 1).toNat = i + 1 := by omega
        have i0 : ((i : Int)).toNat = i := by omega
        have z1 : τ (10 + r + 24) i = d := by rw [fτ _ (by simp)]; have := a2.1; rwa [Nat.zero_add] at this
        have z2 : τ (10 + r + 24) (i + 1) = e := by rw [fτ _ (by simp)]; have := a2.2.2.1; rwa [Nat.zero_add] at this
        have z3 : τ (10 + r + 36) (i + 1) = m := by rw [fτ _ (by simp)]; have := a2.2.2.2.1; rwa [Nat.zero_add] at this
        rw [T1, b0M_some, i0, i1]
        simp only [bindM_eq, if_pos (show 0 ≤ (i : Int) ∧ (i : Int) < 16 by omega), if_pos (show 0 ≤ (i : Int) + 1 ∧ (i : Int) + 1 < 16 by omega), z1, z2, z3]
        obtain ⟨⟨v, τ2⟩, T2, v1, f2, cj2⟩ := cj.two (d := d) (e := e) (m := m) ⟨a5.1.1, a5.1.2.1⟩ ⟨a5.2.1.1, a5.2.1.2.1⟩ a5.2.1.2.2
        obtain ⟨⟨w, ν4⟩, E4, w1, f4, -⟩ := quarrelAt_ok mj3.1 (i := i) (by omega) a3.1 ⟨a5.1.1, a5.1.2.1⟩ ⟨a5.2.1.1, a5.2.1.2.1⟩ a5.2.1.2.2 a3.2
        have v1 : v = tw G O (σ 3) d e m := v1
        have w1 : w = q0 (tw G O (σ 3)) d e m := by
          rw [q0_qv, ← qv_40 mj3.2.1 ⟨a5.1.1, a5.1.2.1⟩ ⟨a5.2.1.1, a5.2.1.2.1⟩]; exact w1
        have f4 : Fr [223, 224] ν3 ν4 := f4
        have y1 : ν4 230 i = d := by rw [f4 230 (by decide)]; exact a3.1
        have y2 : ν4 230 (i + 1) = e := by rw [f4 230 (by decide)]; exact a3.2.1
        have mj4 : MJ μ ν4 G O M (σ 3) := mj3.fr f4 (by decide) (fun s _ => by rw [f4 200 (by decide)])
        have fin : Rel τ2 ν4 B (R + 1000) := h.shut (n := 1) (by omega) (by omega) cj2 mj4
        have hd := a5.1
        have he := a5.2.1
        have y1 : ν3 230 i = d := a3.1
        have y2 : ν3 230 (i + 1) = e := a3.2.1
        rw [T2, b1M_some, E4, b1M_some, y1, y2, v1, w1]
        unfold q0
        by_cases hq : tw G O (σ 3) d e m = 1000
        · rw [if_pos hq, if_pos hq, if_pos rfl, if_pos (show r32 (0 + 10 * d + e) from ⟨by omega, by omega⟩), if_pos (show r32 (10 * d + e + 0) from ⟨by omega, by omega⟩)]
          exact Op.ret (by omega) fin
        · rw [if_neg hq, if_neg hq, if_neg ne10, if_pos (show r32 (100 + 10 * d + e) from ⟨by omega, by omega⟩), if_pos (show r32 (10 * d + e + 100) from ⟨by omega, by omega⟩)]
          exact Op.ret (by omega) fin
      · rw [if_neg hi, if_pos (show ((drw nums p).length : Int) - 1 ≤ (i : Int) by omega)]
        exact Op.ret rfl (h.askM mj3.2.2 |>.w (Int.le_refl _) (by omega))
  · rw [if_neg hx, if_pos rfl, if_pos rfl]; exact Op.ret rfl out
