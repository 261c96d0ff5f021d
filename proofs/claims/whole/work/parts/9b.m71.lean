-- `spread` of the class's Fitting
theorem fill_ok {r0 : Nat} {v : Int} {s : Mm} (hL : Ln r0 ≤ 5000) : ∃ t, F_K_fill r0 v s = some t ∧ (∀ k, k < Ln r0 → t r0 k = v) ∧ Fr [r0] s t := by
  unfold F_K_fill
  rw [bindM_eq]
  obtain ⟨t, E, h1, h2⟩ := loop_inv2 (L := fun N j t => L_K_fill_5 N r0 v j ((Ln r0 : Nat) : Int) t) (I := fun i t => (∀ k, k < i → t r0 k = v) ∧ Fr [r0] s t) (x := Ln r0) (out := fun t => t)
    (fun N t _ => by
      show L_K_fill_5 (N + 1) r0 v ((Ln r0 : Nat) : Int) ((Ln r0 : Nat) : Int) t = _
      rw [L_K_fill_5, if_pos (Int.le_refl _)]) (m := Ln r0) (i := 0) (N := LF) (s := s) (by omega) (by unfold LF; omega) ⟨fun k h => by omega, Fr.rf⟩ (fun N j t _ hj ht => by
      have e2 : (j : Int) + 1 = ((j + 1 : Nat) : Int) := by omega
      have ej : ((j : Int)).toNat = j := by omega
      refine ⟨st2 t r0 j v, ?_, fun k hk => ?_, ht.2.st (by simp)⟩
      · show L_K_fill_5 (N + 1) r0 v (j : Int) ((Ln r0 : Nat) : Int) t = _
        rw [L_K_fill_5, if_neg (by omega), if_pos (by omega), bindM_eq, ej, e2, if_pos (r32_nat (by omega))]
      · rw [st2_sk]
        by_cases e : k = j
        · rw [if_pos e]
        · rw [if_neg e]; exact ht.1 k (by omega))
  rw [show ((0 : Nat) : Int) = 0 from rfl] at E
  have E : L_K_fill_5 LF r0 v 0 ((Ln r0 : Nat) : Int) s = some t := E
  rw [E, b0M_some]
  exact ⟨t, rfl, h1, h2⟩
theorem wval {x : Int} {c g : Nat} : (if strd x g ≤ 0 then (0 : Int) else ((c : Int).tdiv (strd x g)).tmod 10) = ((wcT x c g : Nat) : Int) := by
  unfold wcT
  by_cases h : bitI x (g : Int) = 1
  · rw [if_neg (show ¬ strd x g ≤ 0 from fun q => (strd_pos.mp q) h), if_pos h]
    unfold strd tpr
    rw [if_pos h]
    rw [Int.tdiv_eq_ediv_of_nonneg (Int.natCast_nonneg _), ← Int.natCast_ediv, Int.tmod_eq_emod_of_nonneg (Int.natCast_nonneg _)]
    rfl
  · rw [if_pos (show strd x g ≤ 0 from strd_pos.mpr h), if_neg h]; rfl
theorem spread74 {x : Int} {G O : Law} {E : Nat → Int} {l r N : Nat} {m : Int} {s : Mm} {A : Nat → Int} (hl : l < 10) (hr : r < 10) (hN : N ≤ 1000) (h9 : s 121 9 = (N : Int)) (hA : ∀ c, c < N → s 126 c = A c ∧ -2000 ≤ A c ∧ A c ≤ 2000) (hT : ∀ w c, w < limT x l → c < limT x r → (l = r → w = c) → s 127 (w * 10 + c) = vT G O x E l r m w c) :
    ∃ t, L_G_spread_74 LF (strd x l) (strd x r) 0 s = some t ∧ Fr [126] s t ∧ ∀ c, c < N → t 126 c = A c + t0 (tw G O (Ex x E c)) l r m := by
  have l10 : ∀ g c, wcT x c g < 10 := fun g c => by
    have := wcT_lim (x := x) (c := c) (g := g)
    unfold limT at this
    split at this <;> omega
  obtain ⟨t, E1, t1, t2⟩ := loop_inv2 (L := fun n j t => L_G_spread_74 n (strd x l) (strd x r) j t) (I := fun i t => Fr [126] s t ∧ ∀ c, c < N → t 126 c = A c + (if c < i then t0 (tw G O (Ex x E c)) l r m else 0)) (x := N) (out := fun t => t)
    (fun n t ht => by
      show L_G_spread_74 (n + 1) (strd x l) (strd x r) (N : Int) t = _
      rw [L_G_spread_74, ht.1 121 (by decide), h9, if_pos (Int.le_refl _)]) (m := N) (i := 0) (N := LF) (s := s) (by omega) (by unfold LF; omega) ⟨Fr.rf, fun c hc => by rw [if_neg (by omega), (hA c hc).1]; omega⟩ (fun n c t _ hc ht => by
      have e2 : (c : Int) + 1 = ((c + 1 : Nat) : Int) := by omega
      have ec : ((c : Int)).toNat = c := by omega
      have ha := hA c hc
      have wl := l10 l c
      have wr := l10 r c
      have tab : t 127 (wcT x c l * 10 + wcT x c r) = t0 (tw G O (Ex x E c)) l r m := by
        rw [ht.1 127 (by decide), hT _ _ wcT_lim wcT_lim (fun q => by rw [q]), vT_Ex hl hr]
      have tb := t0_bd (G := G) (O := O) (E := Ex x E c) (l := (l : Int)) (r := (r : Int)) (k := m)
      have tc : t 126 c = A c := by rw [ht.2 c hc, if_neg (by omega)]; omega
      have i1 : (((wcT x c l : Nat) : Int) * 10 + ((wcT x c r : Nat) : Int)).toNat = wcT x c l * 10 + wcT x c r := by omega
      refine ⟨st2 t 126 c (A c + t0 (tw G O (Ex x E c)) l r m), ?_, ht.1.st (by decide), fun c' hc' => ?_⟩
      · show L_G_spread_74 (n + 1) (strd x l) (strd x r) (c : Int) t = _
        have J10 : ∀ y9 y10 : Int, y9 = ((wcT x c l : Nat) : Int) → y10 = ((wcT x c r : Nat) : Int) → (if 0 ≤ (c : Int) ∧ (c : Int) < 1000 then if 0 ≤ (y9 * 10) + y10 ∧ (y9 * 10) + y10 < 100 then if r32 ((t 126 ((c : Int)).toNat) + (t 127 (((y9 * 10) + y10).toNat))) then if 0 ≤ (c : Int) ∧ (c : Int) < 1000 then bindM (st2 t 126 ((c : Int)).toNat ((t 126 ((c : Int)).toNat) + (t 127 (((y9 * 10) + y10).toNat)))) fun s12 => if r32 ((c : Int) + 1) then L_G_spread_74 n (strd x l) (strd x r) ((c : Int) + 1) s12 else none else none else none else none else none) = L_G_spread_74 n (strd x l) (strd x r) ((c + 1 : Nat) : Int) (st2 t 126 c (A c + t0 (tw G O (Ex x E c)) l r m)) := fun y9 y10 h9 h10 => by
          rw [h9, h10, if_pos (show 0 ≤ (c : Int) ∧ (c : Int) < 1000 by omega), if_pos (show 0 ≤ ((wcT x c l : Nat) : Int) * 10 + ((wcT x c r : Nat) : Int) ∧ ((wcT x c l : Nat) : Int) * 10 + ((wcT x c r : Nat) : Int) < 100 by omega), i1, ec, tc, tab, if_pos (show r32 (A c + t0 (tw G O (Ex x E c)) l r m) from ⟨by omega, by omega⟩), if_pos (show 0 ≤ (c : Int) ∧ (c : Int) < 1000 by omega), bindM_eq, e2, if_pos (r32_nat (show c + 1 < 2147483648 by omega))]
        have wl2 := wval (x := x) (c := c) (g := l)
        have wr2 := wval (x := x) (c := c) (g := r)
        have tdr : ∀ g, ¬ strd x g ≤ 0 → r32 ((c : Int).tdiv (strd x g)) := fun g hg => by
          rw [Int.tdiv_eq_ediv_of_nonneg (by omega)]
          have h1 := Int.ediv_nonneg (show (0 : Int) ≤ (c : Int) by omega) (show 0 ≤ strd x g by omega)
          have h2 := Int.ediv_le_self (b := strd x g) (show (0 : Int) ≤ (c : Int) by omega)
          exact ⟨by omega, by omega⟩
        rw [L_G_spread_74, ht.1 121 (by decide), h9, if_neg (by omega), bindM_eq]
        by_cases hl0 : strd x l ≤ 0
        · rw [if_pos hl0] at wl2 ⊢
          dsimp only
          rw [bindM_eq]
          by_cases hr0 : strd x r ≤ 0
          · rw [if_pos hr0] at wr2 ⊢
            exact J10 _ _ wl2 wr2
          · rw [if_neg hr0] at wr2 ⊢
            rw [if_pos (show ¬ strd x r = 0 by omega), if_pos (tdr r hr0)]
            exact J10 _ _ wl2 wr2
        · rw [if_neg hl0] at wl2 ⊢
          rw [if_pos (show ¬ strd x l = 0 by omega), if_pos (tdr l hl0)]
          dsimp only
          rw [bindM_eq]
          by_cases hr0 : strd x r ≤ 0
          · rw [if_pos hr0] at wr2 ⊢
            exact J10 _ _ wl2 wr2
          · rw [if_neg hr0] at wr2 ⊢
            rw [if_pos (show ¬ strd x r = 0 by omega), if_pos (tdr r hr0)]
            exact J10 _ _ wl2 wr2
      · rw [st2_sk]
        by_cases e : c' = c
        · rw [if_pos e, e, if_pos (by omega)]
        · rw [if_neg e, ht.2 c' hc']
          by_cases h1 : c' < c
          · rw [if_pos h1, if_pos (by omega)]
          · rw [if_neg h1, if_neg (by omega)])
  exact ⟨t, E1, t1, fun c hc => by rw [t2 c hc, if_pos hc]⟩
theorem spread10 {x : Int} {G O M : Law} {E : Nat → Int} {ρ N : Nat} (hρ : 10 ≤ ρ ∧ ρ ≤ 21) (hN : N ≤ 1000) : ∀ (L : DL) (n i : Nat) (d : Int) (s : Mm) (A : Nat → Int), L.length < n → JB s G O M → s 3 = E → s 121 9 = (N : Int) → (∀ g, g < 10 → s 124 g = strd x g) → s ρ 4 = ((i + L.length : Nat) : Int) → 1 ≤ i → i + L.length ≤ 16 → s (ρ + 24) (i - 1) = d → 0 ≤ d ∧ d ≤ 9 → DigR (s (ρ + 24)) (s (ρ + 36)) i L → DOK L → (∀ c, c < N → s 126 c = A c ∧ -99 * i ≤ A c ∧ A c ≤ 99 * i) → (-1 ≤ s 2 5 ∧ s 2 5 + 100 * L.length + 200 < 2147483647) →
    ∃ t, L_G_spread_10 n ρ (i : Int) s = some t ∧ Fr [2, 4, 5, 6, 7, 126, 127] s t ∧ JB t G O M ∧ t 2 6 = s 2 6 ∧ (s 2 5 ≤ t 2 5 ∧ t 2 5 ≤ s 2 5 + 100 * L.length) ∧ ∀ c, c < N → t 126 c = A c + sumL (t0 (tw G O (Ex x E c))) d L := by
  intro L
  induction L with
  | nil =>
    intro n i d s A hn hJ hE h9 h124 h4 h1 hle hd hd2 hD hK hA hR
    match n, hn with
    | n + 1, _ =>
      rw [L_G_spread_10, h4, if_pos (by simp)]
      exact ⟨s, rfl, Fr.rf, hJ, rfl, by simp, fun c hc => by rw [(hA c hc).1]; simp [sumL]⟩
  | cons p L ih =>
    obtain ⟨e, m⟩ := p
    intro n i d s A hn hJ hE h9 h124 h4 h1 hle hd hd2 hD hK hA hR
    match n, hn with
    | n + 1, hn =>
      simp only [List.length_cons] at hn h4 hle hR
      have e1 : ((i : Int) - 1).toNat = i - 1 := by omega
      have ei : ((i : Int)).toNat = i := by omega
      have e2 : (i : Int) + 1 = ((i + 1 : Nat) : Int) := by omega
      have next : r32 ((i + 1 : Nat) : Int) := r32_nat (by omega)
      obtain ⟨l, rfl⟩ := Int.eq_ofNat_of_zero_le hd2.1
      obtain ⟨r, hr⟩ := Int.eq_ofNat_of_zero_le hK.1.1
      subst hr
      have hr10 : r < 10 := by have := hK.1.2.1; omega
      have hl10 : l < 10 := by omega
      have tl : ((l : Int)).toNat = l := by omega
      have tr : ((r : Int)).toNat = r := by omega
      obtain ⟨a, s2, E1, f2, j2, r26, r25, ha, hz, hT⟩ := ask_ok (x := x) (l := l) (r := r) (m := m) hl10 hr10 hK.1.2.2 hJ h124 ⟨hR.1, by omega⟩
      have go : ∀ s3 : Mm, Fr [126] s2 s3 → (∀ c, c < N → s3 126 c = A c + t0 (tw G O (Ex x E c)) l r m) → ∃ t, (if r32 ((i : Int) + 1) then L_G_spread_10 n ρ ((i : Int) + 1) s3 else none) = some t ∧ Fr [2, 4, 5, 6, 7, 126, 127] s t ∧ JB t G O M ∧ t 2 6 = s 2 6 ∧ (s 2 5 ≤ t 2 5 ∧ t 2 5 ≤ s 2 5 + 100 * ((L.length + 1 : Nat) : Int)) ∧ ∀ c, c < N → t 126 c = A c + sumL (t0 (tw G O (Ex x E c))) l ((↑r, m) :: L) := fun s3 f3 hs3 => by
        have F : Fr [2, 4, 5, 6, 7, 126, 127] s s3 := (f2.w (by decide)).tr (f3.w (by decide))
        have hi : ∀ j, 8 ≤ j → j < 126 → s3 j = s j := fun j a b => F j (by simp; omega)
        have j3 : JB s3 G O M := ⟨j2.1.fr f3 (by rw [f3 2 (by decide)]) (by decide), by rw [f3 3 (by decide)]; exact j2.2.1, by rw [f3 6 (by decide), f3 2 (by decide)]; exact j2.2.2⟩
        have q2 : s3 2 = s2 2 := f3 2 (by decide)
        rw [e2, if_pos next]
        obtain ⟨t, E3, c1, c2, c3, c4, c5⟩ := ih n (i + 1) (r : Int) s3 (fun c => A c + t0 (tw G O (Ex x E c)) l r m) (by omega) j3 (by rw [F 3 (by decide)]; exact hE) (by rw [hi 121 (by omega) (by omega)]; exact h9) (fun g hg => by rw [hi 124 (by omega) (by omega)]; exact h124 g hg) (by rw [hi ρ (by omega) (by omega), h4]; omega) (by omega) (by omega) (by rw [hi (ρ + 24) (by omega) (by omega)]; exact hD.1) (by omega) (by rw [hi (ρ + 24) (by omega) (by omega), hi (ρ + 36) (by omega) (by omega)]; exact hD.2.2) hK.2 (fun c hc => by
          have := hA c hc
          have tb := t0_bd (G := G) (O := O) (E := Ex x E c) (l := (l : Int)) (r := (r : Int)) (k := m)
          refine ⟨hs3 c hc, ?_, ?_⟩ <;> omega) ⟨by rw [q2]; omega, by rw [q2]; omega⟩
        refine ⟨t, E3, F.tr c1, c2, by rw [c3, q2]; exact r26, by rw [q2] at c4; omega, fun c hc => ?_⟩
        rw [c5 c hc]; simp only [sumL]; omega
      have hD1 : s (ρ + 24) i = (r : Int) := hD.1
      have hD2 : s (ρ + 36) i = m := hD.2.1
      rw [L_G_spread_10, h4, if_neg (by omega), if_pos (by omega), e1, hd, bindM_eq, if_pos (by omega), ei, hD1, bindM_eq, if_pos (by omega), hD2, E1, b1M_some, bindM_eq]
      by_cases h0 : a = 0
      · rw [if_pos h0]
        dsimp only
        refine go s2 Fr.rf (fun c hc => ?_)
        rw [f2 126 (by decide), (hA c hc).1]
        have := hz h0 (wcT x c l) (wcT x c r) wcT_lim wcT_lim (fun q => by rw [q])
        rw [vT_Ex hl10 hr10, hE] at this
        rw [this]; omega
      · obtain ⟨s3, E3, f3, h3⟩ := spread74 (x := x) (G := G) (O := O) (E := s 3) (l := l) (r := r) (N := N) (m := m) (s := s2) (A := A) hl10 hr10 hN (by rw [f2 121 (by decide)]; exact h9) (fun c hc => by
          have := hA c hc
          refine ⟨by rw [f2 126 (by decide)]; exact this.1, ?_, ?_⟩ <;> omega) hT
        rw [if_neg h0, if_pos (show 0 ≤ (l : Int) ∧ (l : Int) < 10 by omega), tl, bindM_eq, if_pos (show 0 ≤ (r : Int) ∧ (r : Int) < 10 by omega), tr, bindM_eq, f2 124 (by decide), h124 l hl10, h124 r hr10, E3, b0M_some]
        rw [hE] at h3
        exact go s3 f3 h3
theorem spread_ok {x : Int} {G O M : Law} {ρ N : Nat} {L : DL} {s : Mm} (hρ : 10 ≤ ρ ∧ ρ ≤ 21) (hN : N ≤ 1000) (hJ : JB s G O M) (h9 : s 121 9 = (N : Int)) (h124 : ∀ g, g < 10 → s 124 g = strd x g) (hR : RowD s ρ L) (h25 : -1 ≤ s 2 5 ∧ s 2 5 + 2000 < 2147483647) :
    ∃ t, F_G_spread ρ s = some t ∧ Fr [2, 4, 5, 6, 7, 126, 127] s t ∧ JB t G O M ∧ t 2 6 = s 2 6 ∧ (s 2 5 ≤ t 2 5 ∧ t 2 5 ≤ s 2 5 + 1600) ∧ ∀ c, c < N → t 126 c = offL (tw G O (Ex x (s 3) c)) L := by
  obtain ⟨h1, h2, h3, h4, h5⟩ := hR
  unfold F_G_spread
  obtain ⟨s1, E1, z1, f1⟩ := fill_ok (r0 := 126) (v := 0) (s := s) (by decide)
  have L126 : Ln 126 = 1000 := rfl
  rw [L126] at z1
  have hi : ∀ j, j ≠ 126 → s1 j = s j := fun j hj => f1 j (by simpa using hj)
  have j1 : JB s1 G O M := ⟨hJ.1.fr f1 (by rw [hi 2 (by decide)]) (by decide), by rw [hi 3 (by decide)]; exact hJ.2.1, by rw [hi 6 (by decide), hi 2 (by decide)]; exact hJ.2.2⟩
  match L, h1, h2, h3, h4, h5 with
  | (d, k) :: t, h1, h2, h3, h4, h5 =>
    simp only [List.length_cons] at h1 h2
    obtain ⟨u, E2, c1, c2, c3, c4, c5⟩ := spread10 (x := x) (G := G) (O := O) (M := M) (E := s 3) hρ hN t LF 1 d s1 (fun _ => 0) (by unfold LF; omega) j1 (hi 3 (by decide)) (by rw [hi 121 (by decide)]; exact h9) (fun g hg => by rw [hi 124 (by decide)]; exact h124 g hg) (by rw [hi ρ (by omega), h1]; omega) (by omega) (by omega) (by rw [hi (ρ + 24) (by omega)]; exact h4.1) ⟨h5.1.1, h5.1.2.1⟩ (by rw [hi (ρ + 24) (by omega), hi (ρ + 36) (by omega)]; exact h4.2.2) h5.2 (fun c hc => ⟨z1 c (by omega), by omega, by omega⟩) ⟨by rw [hi 2 (by decide)]; omega, by rw [hi 2 (by decide)]; omega⟩
    have E2 : L_G_spread_10 LF ρ 1 s1 = some u := E2
    rw [E1, b0M_some, E2, b0M_some]
    refine ⟨u, rfl, (f1.w (by decide)).tr c1, c2, by rw [c3, hi 2 (by decide)], by rw [hi 2 (by decide)] at c4; omega, fun c hc => ?_⟩
    rw [c5 c hc]
    simp only [offL]; omega
