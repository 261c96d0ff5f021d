-- a row reckoned on both sides; into and out of a day
def Mid (σ μ : Mm) (G O M : Law) (B : Int) : Prop := JB σ G O M ∧ MOK μ G O M ∧ Eq40 (σ 3) (EM μ) ∧ σ 3 41 = μ 200 46 ∧ σ 3 42 = μ 201 182 ∧ (-9999999 ≤ σ 3 41 ∧ σ 3 41 ≤ 9999999) ∧ QB (σ 3) B ∧ ∃ w b, BookC (σ 3) w b ∧ BookM (μ 201) w b
abbrev MF : List Nat := [200, 201, 223, 224, 226, 227, 229, 230, 231, 232]
theorem useD_eqU : ∀ {L : DL} (E : Nat → Int), DOK L → EqU E (useD L E)
  | [], _, _ => fun _ _ => rfl
  | (d, m) :: t, E, hK => fun k hk => by
    have hd := hK.1
    refine (useD_eqU (L := t) _ hK.2 k hk).trans ?_
    show (if k = 10 + d.toNat then _ else _) = _
    rw [if_neg (by omega)]
theorem incQ_eqQ {T : TW} : ∀ {L : DL} {d : Int} {E : Nat → Int}, DOK L → 0 ≤ d ∧ d ≤ 9 → EqQ E (incQ T d L E)
  | [], _, _, _, _ => EqQ.rf
  | (e, m) :: t, d, E, hK, hd => by
    have he : 0 ≤ e ∧ e ≤ 9 := ⟨hK.1.1, hK.1.2.1⟩
    rw [incQ]
    refine EqQ.tr ?_ (incQ_eqQ hK.2 he)
    by_cases hx : T d e m = 1000
    · rw [if_pos hx]; exact EqQ.rf
    · rw [if_neg hx]; exact EqQ_bump (EqQ_bump EqQ.rf (by omega)) (by omega)
theorem incL_eqQ {T : TW} {L : DL} {E : Nat → Int} (hK : DOK L) : EqQ E (incL T L E) := by
  match L, hK with
  | [], _ => exact EqQ.rf
  | (d, m) :: t, hK => exact incQ_eqQ hK.2 ⟨hK.1.1, hK.1.2.1⟩
theorem mid_row {σ μ : Mm} {G O M : Law} {B : Int} (h : Mid σ μ G O M B) {r p : Nat} {mn : Int} {nums : Nat → Int} (hr : r < 12) (hC : RowC σ r p mn nums) (hM : RowM (μ 201) r p mn nums) (hB : B + 32 ≤ 90000000) (hs5 : -2147483648 ≤ σ 2 5 ∧ σ 2 5 < 2147483647) :
    Ok (F_H_reckonRow (r : Int) σ) (fun x => Ok (F_M_reckons (r : Int) μ) (fun y => y.1 = x.1 ∧ (Laid y.2 p mn ∧ ∀ j, j < 4 → y.2 229 j = nums j) ∧ Ok (F_M_writes (r : Int) y.1 y.2) (fun ν => Mid x.2 ν G O M (B + 32) ∧ Fr [2, 3, 4, 5, 6, 7] σ x.2 ∧ x.2 2 5 = σ 2 5 + 1 ∧ x.2 2 6 = σ 2 6 ∧ Fr MF μ ν ∧ (∀ k, (k < 183 ∨ 304 ≤ k) → ν 201 k = μ 201 k) ∧ (∀ s, s ≠ 46 → s ≠ 48 → s ≠ 49 → s ≠ 53 → ν 200 s = μ 200 s) ∧ (∀ k, k < 10 → x.2 3 k = σ 3 k) ∧ (∀ k, 30 ≤ k → k < 43 → k ≠ 41 → x.2 3 k = σ 3 k)))) := by
  obtain ⟨hJ, hMO, h40, h41, h42, hb, hQ, w, b, hw, hbm⟩ := h
  have hK := hC.2.2.2.2.2.2.2.2.2.2.2.2.2
  have hQM : QB (EM μ) B := fun k hk => by rw [h40 (20 + k) (by omega)]; exact hQ k hk
  refine (reckonRow_ok hJ hr hC hb hQ hB hw hs5).mono (fun x hx => ?_)
  obtain ⟨x1, x2, x3, x4, x5, x6, x7, x8, x9⟩ := hx
  refine (reckons_ok hMO hr hM (by rw [← h41]; exact hb) hQM hB).mono (fun y hy => ?_)
  obtain ⟨y1, y2, y3, y4, y5, y6, y7, y8⟩ := hy
  have e1 : y.1 = x.1 := by rw [y1, x1, offL_T (EqT_40 h40) hK]
  have e201 : y.2 201 = μ 201 := y5 201 (by decide)
  refine ⟨e1, y4, ?_⟩
  refine (writes_ok (w := w) (b := b) (by rw [e201]; exact hbm)).mono (fun ν hν => ?_)
  obtain ⟨n1, n2, n3⟩ := hν
  have hEM : EM ν = EM y.2 := EM_fr n2 (by rw [n2 200 (by decide)]) (by decide)
  have eU : Eq40 (useD (drw nums p) (incL (tw G O (σ 3)) (drw nums p) (σ 3))) (EM ν) := by rw [hEM, y2]; exact useD_40 (incL_T (EqT_40 h40) hK h40)
  have d40 : y.2 200 45 = σ 3 40 := by
    have : EM μ 40 = σ 3 40 := h40 40 (by omega)
    rw [y6 45 (by decide) (by decide) (by decide) (by decide), ← this, EM_5]
  have EU : EqU (incL (tw G O (σ 3)) (drw nums p) (σ 3)) (useD (drw nums p) (incL (tw G O (σ 3)) (drw nums p) (σ 3))) := useD_eqU _ hK
  have EQ : EqQ (σ 3) (incL (tw G O (σ 3)) (drw nums p) (σ 3)) := incL_eqQ hK
  have MN : MOK ν G O M := ⟨y8.1.fr n2 (n3 2 (by omega)) (by decide), y8.2.1, y8.2.2.1, y8.2.2.2.1, by rw [hEM]; exact y8.2.2.2.2⟩
  refine ⟨⟨x9, MN, fun k hk => ?_, ?_, ?_, ?_, x8, pushW w, pushB w b r (σ 3 40) x.1, x4, ?_⟩, x5, x6, x7, (y5.w (by decide)).tr (n2.w (by decide)), fun k hk => ?_, fun s s1 s2 s3 s4 => ?_, fun k hk => ?_, fun k k1 k2 k3 => ?_⟩
  · rw [x2 k (by omega) (by omega)]; exact eU k hk
  · rw [x3, n2 200 (by decide), y3, h41, e1]
  · rw [x2 42 (by omega) (by omega), EU 42 (by omega), EQ 42 (by omega), n3 182 (by omega), e201, h42]
  · rw [x3]; omega
  · rw [← e1, ← d40]; exact n1
  · rw [n3 k hk, e201]
  · rw [n2 200 (by decide)]; exact y6 s s1 s2 s3 s4
  · rw [x2 k (by omega) (by omega), EU k (by omega), EQ k (by omega)]
  · rw [x2 k k2 k3, EU k (by omega), EQ k (by omega)]
