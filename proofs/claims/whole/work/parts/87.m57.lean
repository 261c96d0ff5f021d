-- `changed` on both sides
theorem firstN_map {f : Nat → Option Int} {h : Int → Int} : ∀ {m i : Nat}, firstN (fun j => (f j).map h) m i = (firstN f m i).map h
  | 0, _ => rfl
  | m + 1, i => by
    simp only [firstN]
    cases f i with
    | some v => rfl
    | none => exact firstN_map
def updN (nums : Nat → Int) (i : Nat) (v : Int) (k : Nat) : Int := if k = i then v else nums k
theorem offN_cg {T : TW} {f g : Nat → Int} : ∀ {p : Nat}, (∀ i, i < p → f i = g i) → offN T f p = offN T g p
  | 0, _ => rfl
  | 1, h => by simp only [offN]; rw [h 0 (by omega)]
  | k + 2, h => by
    simp only [offN]
    rw [offN_cg (p := k + 1) (fun i hi => h i (by omega)), h k (by omega), h (k + 1) (by omega)]
theorem offN_bd {G O : Law} {E : Nat → Int} {nums : Nat → Int} : ∀ (p : Nat), -594 * p ≤ offN (tw G O E) nums p ∧ offN (tw G O E) nums p ≤ 594 * p
  | 0 => by simp [offN]
  | 1 => by
    have := wi_bd (G := G) (O := O) (E := E) (v := nums 0)
    simp only [offN]; omega
  | k + 2 => by
    have h1 := offN_bd (G := G) (O := O) (E := E) (nums := nums) (k + 1)
    have h2 := wi_bd (G := G) (O := O) (E := E) (v := nums (k + 1))
    have h3 := be_bd (G := G) (O := O) (E := E) (a := nums k) (b := nums (k + 1))
    simp only [offN]; omega
theorem loop_inv2 {S R : Type} {L : Nat → Int → S → Option R} {I : Nat → S → Prop} {x : Nat} {out : S → R} (stop : ∀ n s, I x s → L (n + 1) (x : Int) s = some (out s)) : ∀ {m i N : Nat} {s : S}, i + m = x → m < N → I i s →
    (∀ (n j : Nat) s, i ≤ j → j < x → I j s → ∃ s', L (n + 1) (j : Int) s = L n ((j + 1 : Nat) : Int) s' ∧ I (j + 1) s') → ∃ s', L N (i : Int) s = some (out s') ∧ I x s' := by
  intro m
  induction m with
  | zero =>
    intro i N s hx hN hP step
    match N, hN with
    | N + 1, _ =>
      have e : i = x := by omega
      subst e
      exact ⟨s, stop N s hP, hP⟩
  | succ m ih =>
    intro i N s hx hN hP step
    match N, hN with
    | N + 1, hN =>
      obtain ⟨s', h1, h2⟩ := step N i s (Nat.le_refl _) (by omega) hP
      rw [h1]
      exact ih (i := i + 1) (N := N) (s := s') (by omega) (by omega) h2 (fun n j σ hj => step n j σ (by omega))
theorem offWith_C {σ s : Mm} {G O M : Law} {n1 : Int} (hs : CJ σ s G O M n1) {ρ p w : Nat} {v : Int} {nums : Nat → Int} (hρ : 10 ≤ ρ ∧ ρ ≤ 21) (hp1 : 1 ≤ p) (hp : p ≤ 4) (h3 : σ ρ 3 = (p : Int)) (hn : ∀ k, k < p → σ (ρ + 12) k = nums k) (hN : ∀ k, k < p → NN (nums k)) (hw : w < p) (hv : NN v) :
    ∃ t, F_E_offWith ρ (w : Int) v s = some (offN (tw G O (σ 3)) (updN nums w v) p, t) ∧ CJ σ t G O M n1 := by
  unfold F_E_offWith
  have un : ∀ k, k < p → NN (updN nums w v k) := fun k hk => by
    unfold updN
    by_cases e : k = w
    · rw [if_pos e]; exact hv
    · rw [if_neg e]; exact hN k hk
  obtain ⟨q, E1, a1, a2, a3⟩ := loop_inv2 (L := fun N j (q : Int × Int × Mm) => L_E_offWith_9 N ρ (w : Int) v q.1 q.2.1 j q.2.2) (I := fun i q => q.1 = offN (tw G O (σ 3)) (updN nums w v) i ∧ (q.2.1 = if i = 0 then -1 else updN nums w v (i - 1)) ∧ CJ σ q.2.2 G O M n1) (x := p) (out := fun q => (q.1, q.2.2))
    (fun N q hq => by
      show L_E_offWith_9 (N + 1) ρ (w : Int) v q.1 q.2.1 (p : Int) q.2.2 = _
      rw [L_E_offWith_9, hq.2.2.2.1.1 ρ (by omega), h3, if_pos (Int.le_refl _)]) (m := p) (i := 0) (N := LF) (s := ((0 : Int), (-1 : Int), s)) (by omega) (by unfold LF; omega) ⟨rfl, rfl, hs⟩ (fun N j q _ hj hq => by
      obtain ⟨b1, b2, b3⟩ := hq
      have ej : ((j : Int)).toNat = j := by omega
      have e2 : (j : Int) + 1 = ((j + 1 : Nat) : Int) := by omega
      have nj := un j hj
      have gv : ∀ (X : Int → Option (Int × Mm)), (bindM X fun J1 => if (j : Int) = (w : Int) then J1 v else if 0 ≤ (j : Int) ∧ (j : Int) < 4 then J1 (q.2.2 (ρ + 12) j) else none) = X (updN nums w v j) := fun X => by
        unfold updN
        rw [bindM_eq]
        by_cases e : j = w
        · rw [if_pos e, if_pos (by omega)]
        · rw [if_neg e, if_neg (by omega), if_pos (by omega), b3.2.1.1 (ρ + 12) (by omega), hn j hj]
      obtain ⟨⟨a, s2⟩, E2, a1, c2, -⟩ := b3.wi (v := updN nums w v j) nj.1 (by omega)
      have a1 : a = wi (tw G O (σ 3)) (updN nums w v j) := a1
      have c2 : CJ σ s2 G O M n1 := c2
      have ob := offN_bd (G := G) (O := O) (E := σ 3) (nums := updN nums w v) (j + 1)
      show ∃ s' : Int × Int × Mm, L_E_offWith_9 (N + 1) ρ (w : Int) v q.1 q.2.1 (j : Int) q.2.2 = L_E_offWith_9 N ρ (w : Int) v s'.1 s'.2.1 ((j + 1 : Nat) : Int) s'.2.2 ∧ _
      rw [L_E_offWith_9, b3.2.1.1 ρ (by omega), h3, if_neg (by omega), ej, gv, E2, b1M_some, bindM_eq]
      by_cases j0 : j = 0
      · subst j0
        rw [if_pos (show q.2.1 = -1 from b2)]
        dsimp only
        rw [bindM_eq]
        have e : q.1 + (a + 0) = offN (tw G O (σ 3)) (updN nums w v) (0 + 1) := by
          rw [b1, a1]; simp only [offN]; omega
        rw [e, if_pos (show r32 (offN (tw G O (σ 3)) (updN nums w v) (0 + 1)) from ⟨by omega, by omega⟩), e2, if_pos (show r32 ((0 + 1 : Nat) : Int) from ⟨by omega, by omega⟩)]
        exact ⟨(_, _, s2), rfl, rfl, rfl, c2⟩
      · rw [if_neg j0] at b2
        have np := un (j - 1) (by omega)
        obtain ⟨⟨b, s3⟩, E3, d1, c3, -⟩ := c2.be (a := updN nums w v (j - 1)) (b := updN nums w v j) np.1 nj.1 (by omega)
        have d1 : b = be (tw G O (σ 3)) (updN nums w v (j - 1)) (updN nums w v j) := d1
        rw [b2, if_neg (by omega), E3, b1M_some]
        dsimp only
        rw [bindM_eq]
        obtain ⟨k, rfl⟩ : ∃ k, j = k + 1 := ⟨j - 1, by omega⟩
        have e : q.1 + (a + b) = offN (tw G O (σ 3)) (updN nums w v) (k + 1 + 1) := by
          rw [b1, a1, d1]; simp only [offN, Nat.add_sub_cancel]; omega
        rw [e, if_pos (show r32 (offN (tw G O (σ 3)) (updN nums w v) (k + 1 + 1)) from ⟨by omega, by omega⟩), e2, if_pos (show r32 ((k + 1 + 1 : Nat) : Int) from ⟨by omega, by omega⟩)]
        exact ⟨(offN (tw G O (σ 3)) (updN nums w v) (k + 1 + 1), updN nums w v (k + 1), s3), rfl, rfl, by simp, c3⟩)
  rw [show ((0 : Nat) : Int) = 0 from rfl] at E1
  rw [E1, b1M_some, a1]
  exact ⟨q.2.2, rfl, a3⟩
theorem trueWith_M {μ ν : Mm} {G O M : Law} {E : Nat → Int} (h : MJ μ ν G O M E) {r p w : Nat} {mn v : Int} {nums : Nat → Int} (hr : r < 12) (hR : RowM (μ 201) r p mn nums) (hw : w < p) (hv : NN v) :
    ∃ t, F_M_isTrueWith (r : Int) (w : Int) v ν = some (if offN (tw G O E) (updN nums w v) p = 0 then 1 else 0, t) ∧ MJ μ t G O M E := by
  unfold F_M_isTrueWith
  obtain ⟨s1, E1, m1, L1, n1, -⟩ := h.row hr hR
  obtain ⟨p1, p2, -, -, -, -, -, hN⟩ := hR
  have ew : ((w : Int)).toNat = w := by omega
  rw [E1, b0M_some, if_pos (by omega), ew, bindM_eq]
  have g : ∀ k, k < 4 → st2 s1 229 w v 229 k = updN nums w v k := fun k hk => by
    rw [st2_sk]
    unfold updN
    by_cases e : k = w
    · rw [if_pos e, if_pos e]
    · rw [if_neg e, if_neg e]; exact n1 k hk
  have un : ∀ k, k < p → NN (updN nums w v k) := fun k hk => by
    unfold updN
    by_cases e : k = w
    · rw [if_pos e]; exact hv
    · rw [if_neg e]; exact hN k hk
  obtain ⟨l1, l2, l3, l4, l5, l6, l7⟩ := L1
  have e200 : st2 s1 229 w v 200 = s1 200 := st2_ne (by decide)
  have L2 : Laid (st2 s1 229 w v) p mn := ⟨l1, l2, l3, l4, by rw [e200]; exact l5, by rw [e200]; exact l6, fun i hi => by rw [g i (by omega)]; exact un i hi⟩
  have m2 : MJ μ (st2 s1 229 w v) G O M E := m1.fr (S := [229]) (Fr.rf.st (by decide)) (by decide) (fun k _ => by rw [e200])
  obtain ⟨⟨x, t⟩, E2, x1, x2, x3, x4, x5, -⟩ := m2.out L2
  have x1 : x = trs mn (st2 s1 229 w v 229) p + offL (tw G O E) (drw (st2 s1 229 w v 229) p) := x1
  have x3 : Fr SM (st2 s1 229 w v) t := x3
  have x5 : Laid t p mn := x5
  rw [trs_cong (g := updN nums w v) (fun i hi => g i (by omega)), drw_cong (g := updN nums w v) (fun i hi => g i (by omega)), offL_eq p1 un] at x1
  obtain ⟨y1, y2, y3, y4, y5, y6, y7⟩ := x5
  have E3 : F_M_trueNow t = some (trs mn (updN nums w v) p) := by
    rw [trueNow_ok ⟨y3, y4⟩ y1 y7 y5 y6, trs_cong (g := updN nums w v) (fun i hi => by rw [x3 229 (by decide)]; exact g i (by omega))]
  rw [E2, b1M_some, E3, b1_some, x1]
  by_cases hq : offN (tw G O E) (updN nums w v) p = 0
  · rw [if_pos hq, if_pos (by omega)]; exact ⟨t, rfl, x2⟩
  · rw [if_neg hq, if_neg (by omega)]; exact ⟨t, rfl, x2⟩
def chF (T : TW) (p : Nat) (nums : Nat → Int) (b i : Nat) : Option Int := if 0 ≤ nums i - b ∧ offN T (updN nums i (nums i - b)) p = 0 then some ((i : Int) * 10000 + (nums i - b)) else if nums i + b ≤ 9999 ∧ offN T (updN nums i (nums i + b)) p = 0 then some ((i : Int) * 10000 + (nums i + b)) else none
def decC (y c : Int) : Int := if y = 0 then c / 10000 else c % 10000
theorem decC_of {y i v : Int} (hv : NN v) : decC y (i * 10000 + v) = if y = 0 then i else v := by
  unfold decC
  by_cases h : y = 0
  · rw [if_pos h, if_pos h]; omega
  · rw [if_neg h, if_neg h]; omega
theorem changed_rel {σ μ : Mm} {B R : Int} (h : Rel σ μ B R) (hB : B + 400 ≤ 90000000) (hR : R + 1000 < 2147483647) (x y : Int) : Op (F_A_changed x y σ) (F_M_changed x y μ) B (R + 1000) := by
  obtain ⟨G, O, M, hN, hE⟩ := id h
  obtain ⟨c, c1, c2, c3, c4⟩ := hN.rows
  have hr := hN.round
  have out : Rel σ μ B (R + 1000) := h.w (Int.le_refl _) (by omega)
  obtain ⟨e1, e2⟩ := has_row c1 c2 c3 x
  unfold F_A_changed F_M_changed
  rw [e1, e2, b1_some, b1_some, in_ok, b1_some]
  by_cases hx : 0 ≤ x ∧ x < (c : Int)
  · rw [if_pos hx, if_neg ne10, if_neg ne10]
    by_cases hy : 0 ≤ y ∧ y ≤ 1
    · rw [if_neg (show ¬ y < 0 by omega), if_pos (show y ≤ 1 by omega), if_pos hy, if_neg ne10]
      obtain ⟨r, rfl⟩ := Int.eq_ofNat_of_zero_le hx.1
      have er : ((r : Int)).toNat = r := by omega
      obtain ⟨p, mn, nums, hC, hM⟩ := c4 r (by omega)
      obtain ⟨p1, p2, m1, m2, C3, C5, C6, Cn, Cb, hD⟩ := id hC
      rw [if_pos (show 0 ≤ (r : Int) ∧ (r : Int) < 12 by omega), er]
      obtain ⟨ν1, E1, mj1, -⟩ := hN.lays
      obtain ⟨ν2, E2, mj2, L2, n2, -⟩ := mj1.row (r := r) (by omega) hM
      obtain ⟨⟨v, ν3⟩, E3, v1, mj3, f3, -, L3, -⟩ := mj2.out L2
      have v1 : v = trs mn (ν2 229) p + offL (tw G O (σ 3)) (drw (ν2 229) p) := v1
      have mj3 : MJ μ ν3 G O M (σ 3) := mj3
      have f3 : Fr SM ν2 ν3 := f3
      have L3 : Laid ν3 p mn := L3
      rw [trs_cong (g := nums) (fun i hi => n2 i (by omega)), drw_cong (g := nums) (fun i hi => n2 i (by omega)), offL_eq p1 Cb] at v1
      obtain ⟨y1, y2, y3, y4, y5, y6, y7⟩ := L3
      have E4 : F_M_trueNow ν3 = some (trs mn nums p) := by
        rw [trueNow_ok ⟨y3, y4⟩ y1 y7 y5 y6, trs_cong (g := nums) (fun i hi => by rw [f3 229 (by decide)]; exact n2 i (by omega))]
      rw [E1, b0M_some, E2, b0M_some, E3, b1M_some, E4, b1_some, v1]
      unfold F_E_bestChange
      obtain ⟨τ, T1, cj, fτ⟩ := hN.fresh (by omega) (by omega)
      have hDτ : RowD τ (10 + r) (drw nums p) := by
        obtain ⟨d1, d2, d4, d5, d6⟩ := hD
        exact ⟨by rw [fτ (10 + r) (by simp; omega)]; exact d1, d2, d4, d5.fr (fτ _ (by simp)) (fτ _ (by simp)), d6⟩
      obtain ⟨⟨u, τ2⟩, T2, u1, f2, j2⟩ := offOf_ok (isO10 r (by omega)) cj.1 hDτ
      have u1 : u = offN (tw G O (σ 3)) nums p := by rw [← offL_eq p1 Cb, ← cj.2.2.2]; exact u1
      have cj2 : CJ σ τ2 G O M 1 := cj.fr f2 j2
      rw [T1, b0M_some, T2, b1M_some, u1]
      by_cases hz : offN (tw G O (σ 3)) nums p = 0
      · rw [if_pos hz, b1M_some, if_pos rfl, if_pos (by omega)]
        exact Op.ret rfl (h.shut (n := 1) (by omega) (by omega) cj2 mj3)
      · rw [if_neg hz, if_neg (by omega)]
        have Cn' : ∀ k, k < p → σ (10 + r + 12) k = nums k := fun k hk => by
          have e : 10 + r + 12 = 22 + r := by omega
          rw [e]; exact Cn k hk
        -- the class
        have l30 : ∀ (b : Nat) s, 1 ≤ b → b ≤ 50 → CJ σ s G O M 1 → Ok (L_E_bestChange_30 LF (10 + r) (b : Int) ((0 : Nat) : Int) s) (FO (firstN (chF (tw G O (σ 3)) p nums b) p 0) (fun s => CJ σ s G O M 1)) := fun b s b1 b2 hs => by
          refine loop_first (L := fun n j s => L_E_bestChange_30 n (10 + r) (b : Int) j s) (x := (p : Int)) (fun n s hs => by rw [L_E_bestChange_30, hs.2.1.1 (10 + r) (by omega), C3, if_pos (Int.le_refl _)]) (by omega) (by unfold LF; omega) hs (fun n i s _ hi hs => ?_)
          have ei : ((i : Int)).toNat = i := by omega
          have e2 : (i : Int) + 1 = ((i + 1 : Nat) : Int) := by omega
          have ni := Cb i (by omega)
          have k1 : s (10 + r + 12) i = nums i := by rw [hs.2.1.1 (10 + r + 12) (by omega)]; exact Cn' i (by omega)
          have hi4 : (0 : Int) ≤ (i : Int) ∧ (i : Int) < 4 := by omega
          have two : ∀ t, CJ σ t G O M 1 → ¬ (0 ≤ nums i - (b : Int) ∧ offN (tw G O (σ 3)) (updN nums i (nums i - b)) p = 0) → (∃ v s', chF (tw G O (σ 3)) p nums b i = some v ∧ (if 0 ≤ (i : Int) ∧ (i : Int) < 4 then bindM ((t (10 + r + 12) i) + (b : Int)) fun v6 => if r32 v6 then bindM (fun (t8 : Mm) => if r32 ((i : Int) + 1) then L_E_bestChange_30 n (10 + r) (b : Int) ((i : Int) + 1) t8 else none) fun J8 => if 9999 < v6 then J8 t else b1M (F_E_offWith (10 + r) (i : Int) v6 t) fun v10 s10 => if v10 = 0 then if r32 (((i : Int) * 10000) + v6) then some (.inl (((i : Int) * 10000) + v6, s10)) else none else J8 s10 else none else none) = some (.inl (v, s')) ∧ CJ σ s' G O M 1) ∨ (chF (tw G O (σ 3)) p nums b i = none ∧ ∃ s', (if 0 ≤ (i : Int) ∧ (i : Int) < 4 then bindM ((t (10 + r + 12) i) + (b : Int)) fun v6 => if r32 v6 then bindM (fun (t8 : Mm) => if r32 ((i : Int) + 1) then L_E_bestChange_30 n (10 + r) (b : Int) ((i : Int) + 1) t8 else none) fun J8 => if 9999 < v6 then J8 t else b1M (F_E_offWith (10 + r) (i : Int) v6 t) fun v10 s10 => if v10 = 0 then if r32 (((i : Int) * 10000) + v6) then some (.inl (((i : Int) * 10000) + v6, s10)) else none else J8 s10 else none else none) = L_E_bestChange_30 n (10 + r) (b : Int) ((i + 1 : Nat) : Int) s' ∧ CJ σ s' G O M 1) := fun t ht hno => by
            have k2 : t (10 + r + 12) i = nums i := by rw [ht.2.1.1 (10 + r + 12) (by omega)]; exact Cn' i (by omega)
            unfold chF
            rw [if_neg hno, if_pos hi4, k2, bindM_eq, if_pos (show r32 (nums i + (b : Int)) from ⟨by omega, by omega⟩), bindM_eq]
            by_cases h3 : 9999 < nums i + (b : Int)
            · rw [if_pos h3, if_neg (show ¬ (nums i + (b : Int) ≤ 9999 ∧ offN (tw G O (σ 3)) (updN nums i (nums i + b)) p = 0) from fun q => by omega)]
              dsimp only
              rw [e2, if_pos (show r32 ((i + 1 : Nat) : Int) from ⟨by omega, by omega⟩)]
              exact Or.inr ⟨rfl, t, rfl, ht⟩
            · obtain ⟨t2, E5, ht2⟩ := offWith_C ht (ρ := 10 + r) (p := p) (w := i) (v := nums i + (b : Int)) (nums := nums) (by omega) p1 p2 C3 Cn' Cb (by omega) ⟨by omega, by omega⟩
              rw [if_neg h3, E5, b1M_some]
              by_cases hq : offN (tw G O (σ 3)) (updN nums i (nums i + b)) p = 0
              · rw [if_pos hq, if_pos (show nums i + (b : Int) ≤ 9999 ∧ offN (tw G O (σ 3)) (updN nums i (nums i + b)) p = 0 from ⟨by omega, hq⟩), if_pos (show r32 ((i : Int) * 10000 + (nums i + (b : Int))) from ⟨by omega, by omega⟩)]
                exact Or.inl ⟨_, t2, rfl, rfl, ht2⟩
              · rw [if_neg hq, if_neg (show ¬ (nums i + (b : Int) ≤ 9999 ∧ offN (tw G O (σ 3)) (updN nums i (nums i + b)) p = 0) from fun q => hq q.2)]
                dsimp only
                rw [e2, if_pos (show r32 ((i + 1 : Nat) : Int) from ⟨by omega, by omega⟩)]
                exact Or.inr ⟨rfl, t2, rfl, ht2⟩
          rw [L_E_bestChange_30, hs.2.1.1 (10 + r) (by omega), C3, if_neg (show ¬ (p : Int) ≤ (i : Int) by omega), if_pos hi4, ei, k1, bindM_eq, if_pos (show r32 (nums i - (b : Int)) from ⟨by omega, by omega⟩), bindM_eq]
          by_cases h3 : nums i - (b : Int) < 0
          · rw [if_pos h3]
            exact two s hs (fun q => by omega)
          · obtain ⟨t2, E5, ht2⟩ := offWith_C hs (ρ := 10 + r) (p := p) (w := i) (v := nums i - (b : Int)) (nums := nums) (by omega) p1 p2 C3 Cn' Cb (by omega) ⟨by omega, by omega⟩
            rw [if_neg h3, E5, b1M_some]
            by_cases hq : offN (tw G O (σ 3)) (updN nums i (nums i - b)) p = 0
            · rw [if_pos hq, if_pos (show r32 ((i : Int) * 10000 + (nums i - (b : Int))) from ⟨by omega, by omega⟩)]
              exact Or.inl ⟨_, t2, by unfold chF; rw [if_pos ⟨by omega, hq⟩], rfl, ht2⟩
            · rw [if_neg hq]
              exact two t2 ht2 (fun q => hq q.2)
        have l22 : Ok (L_E_bestChange_22 LF (10 + r) ((1 : Nat) : Int) τ2) (FO (firstN (fun b => firstN (chF (tw G O (σ 3)) p nums b) p 0) 50 1) (fun s => CJ σ s G O M 1)) := by
          refine loop_first (L := fun n j s => L_E_bestChange_22 n (10 + r) j s) (x := 51) (fun n s _ => by rw [L_E_bestChange_22, if_pos (by omega)]) (by omega) (by unfold LF; omega) cj2 (fun n b s hb1 hb hs => ?_)
          have e2 : (b : Int) + 1 = ((b + 1 : Nat) : Int) := by omega
          obtain ⟨z, E5, hz⟩ := l30 b s hb1 (by omega) hs
          rw [L_E_bestChange_22, if_neg (show ¬ (50 : Int) < (b : Int) by omega), show (0 : Int) = ((0 : Nat) : Int) from rfl, E5]
          cases z with
          | inl q => exact Or.inl ⟨q.1, q.2, hz.l.1, rfl, hz.l.2⟩
          | inr s2 => exact Or.inr ⟨hz.r.1, s2, by rw [b0MS_r, e2, if_pos (show r32 ((b + 1 : Nat) : Int) from ⟨by omega, by omega⟩)], hz.r.2⟩
        -- the reference
        have R10 : ∀ t, MJ μ t G O M (σ 3) → t 201 (10 + r) = (p : Int) ∧ ∀ k, k < p → t 201 (22 + 4 * r + k) = nums k := fun t ht => by
          obtain ⟨-, -, -, -, q5, -, q7, -⟩ := hM
          rw [ht.2.2.1 201 (by omega)]
          exact ⟨q5, fun k hk => q7 k (by omega)⟩
        have k52 : ∀ (b : Nat) s, 1 ≤ b → b ≤ 50 → MJ μ s G O M (σ 3) → Ok (L_M_changed_52 LF (r : Int) y (b : Int) ((0 : Nat) : Int) s) (FO (firstN (fun i => (chF (tw G O (σ 3)) p nums b i).map (decC y)) p 0) (fun s => MJ μ s G O M (σ 3))) := fun b s b1 b2 hs => by
          have er10 : ((10 : Int) + (r : Int)).toNat = 10 + r := by omega
          have c10 : (0 : Int) ≤ 10 + (r : Int) ∧ (10 : Int) + (r : Int) < 5240 := by omega
          refine loop_first (L := fun n j s => L_M_changed_52 n (r : Int) y (b : Int) j s) (x := (p : Int)) (fun n s hs => by rw [L_M_changed_52, if_pos c10, er10, (R10 s hs).1, if_pos (Int.le_refl _)]) (by omega) (by unfold LF; omega) hs (fun n i s _ hi hs => ?_)
          have e2 : (i : Int) + 1 = ((i + 1 : Nat) : Int) := by omega
          have ni := Cb i (by omega)
          have i22 : ((22 : Int) + 4 * (r : Int) + (i : Int)).toNat = 22 + 4 * r + i := by omega
          have two : ∀ t, MJ μ t G O M (σ 3) → ¬ (0 ≤ nums i - (b : Int) ∧ offN (tw G O (σ 3)) (updN nums i (nums i - b)) p = 0) → (∃ v s', (chF (tw G O (σ 3)) p nums b i).map (decC y) = some v ∧ (if r32 (nums i + (b : Int)) then bindM (fun (t10 : Mm) => if r32 ((i : Int) + 1) then L_M_changed_52 n (r : Int) y (b : Int) ((i : Int) + 1) t10 else none) fun J10 => if 10000 ≤ nums i + (b : Int) then J10 t else if r32 (nums i + (b : Int)) then b1M (F_M_isTrueWith (r : Int) (i : Int) (nums i + (b : Int)) t) fun v12 s12 => if v12 = 0 then J10 s12 else if y = 0 then some (.inl ((i : Int), s12)) else if r32 (nums i + (b : Int)) then some (.inl (nums i + (b : Int), s12)) else none else none else none) = some (.inl (v, s')) ∧ MJ μ s' G O M (σ 3)) ∨ ((chF (tw G O (σ 3)) p nums b i).map (decC y) = none ∧ ∃ s', (if r32 (nums i + (b : Int)) then bindM (fun (t10 : Mm) => if r32 ((i : Int) + 1) then L_M_changed_52 n (r : Int) y (b : Int) ((i : Int) + 1) t10 else none) fun J10 => if 10000 ≤ nums i + (b : Int) then J10 t else if r32 (nums i + (b : Int)) then b1M (F_M_isTrueWith (r : Int) (i : Int) (nums i + (b : Int)) t) fun v12 s12 => if v12 = 0 then J10 s12 else if y = 0 then some (.inl ((i : Int), s12)) else if r32 (nums i + (b : Int)) then some (.inl (nums i + (b : Int), s12)) else none else none else none) = L_M_changed_52 n (r : Int) y (b : Int) ((i + 1 : Nat) : Int) s' ∧ MJ μ s' G O M (σ 3)) := fun t ht hno => by
            unfold chF
            rw [if_neg hno, if_pos (show r32 (nums i + (b : Int)) from ⟨by omega, by omega⟩), bindM_eq]
            by_cases h3 : 10000 ≤ nums i + (b : Int)
            · rw [if_pos h3, if_neg (show ¬ (nums i + (b : Int) ≤ 9999 ∧ offN (tw G O (σ 3)) (updN nums i (nums i + b)) p = 0) from fun q => by omega)]
              dsimp only
              rw [e2, if_pos (show r32 ((i + 1 : Nat) : Int) from ⟨by omega, by omega⟩)]
              exact Or.inr ⟨rfl, t, rfl, ht⟩
            · obtain ⟨t2, E5, ht2⟩ := trueWith_M ht (r := r) (p := p) (w := i) (v := nums i + (b : Int)) (by omega) hM (by omega) ⟨by omega, by omega⟩
              rw [if_neg h3, if_pos (show r32 (nums i + (b : Int)) from ⟨by omega, by omega⟩), E5, b1M_some]
              by_cases hq : offN (tw G O (σ 3)) (updN nums i (nums i + b)) p = 0
              · rw [if_pos hq, if_neg ne10, if_pos (show nums i + (b : Int) ≤ 9999 ∧ offN (tw G O (σ 3)) (updN nums i (nums i + b)) p = 0 from ⟨by omega, hq⟩)]
                refine Or.inl ⟨_, t2, rfl, ?_, ht2⟩
                rw [decC_of ⟨by omega, by omega⟩]
                by_cases hy0 : y = 0
                · rw [if_pos hy0, if_pos hy0]
                · rw [if_neg hy0, if_neg hy0, if_pos (show r32 (nums i + (b : Int)) from ⟨by omega, by omega⟩)]
              · rw [if_neg hq, if_pos rfl, if_neg (show ¬ (nums i + (b : Int) ≤ 9999 ∧ offN (tw G O (σ 3)) (updN nums i (nums i + b)) p = 0) from fun q => hq q.2)]
                dsimp only
                rw [e2, if_pos (show r32 ((i + 1 : Nat) : Int) from ⟨by omega, by omega⟩)]
                exact Or.inr ⟨rfl, t2, rfl, ht2⟩
          rw [L_M_changed_52, if_pos c10, er10, (R10 s hs).1, if_neg (show ¬ (p : Int) ≤ (i : Int) by omega), if_pos (show 0 ≤ 22 + 4 * (r : Int) + (i : Int) ∧ 22 + 4 * (r : Int) + (i : Int) < 5240 by omega), i22, (R10 s hs).2 i (by omega), bindM_eq, bindM_eq]
          by_cases h3 : nums i < (b : Int)
          · rw [if_pos h3]
            exact two s hs (fun q => by omega)
          · obtain ⟨t2, E5, ht2⟩ := trueWith_M hs (r := r) (p := p) (w := i) (v := nums i - (b : Int)) (by omega) hM (by omega) ⟨by omega, by omega⟩
            rw [if_neg h3, if_pos (show r32 (nums i - (b : Int)) from ⟨by omega, by omega⟩), E5, b1M_some]
            by_cases hq : offN (tw G O (σ 3)) (updN nums i (nums i - b)) p = 0
            · rw [if_pos hq, if_neg ne10]
              refine Or.inl ⟨_, t2, by unfold chF; rw [if_pos ⟨by omega, hq⟩]; rfl, ?_, ht2⟩
              rw [decC_of ⟨by omega, by omega⟩]
              by_cases hy0 : y = 0
              · rw [if_pos hy0, if_pos hy0]
              · rw [if_neg hy0, if_neg hy0, if_pos (show r32 (nums i - (b : Int)) from ⟨by omega, by omega⟩)]
            · rw [if_neg hq, if_pos rfl]
              exact two t2 ht2 (fun q => hq q.2)
        have k43 : Ok (L_M_changed_43 LF (r : Int) y ((1 : Nat) : Int) ν3) (FO (firstN (fun b => (firstN (chF (tw G O (σ 3)) p nums b) p 0).map (decC y)) 50 1) (fun s => MJ μ s G O M (σ 3))) := by
          refine loop_first (L := fun n j s => L_M_changed_43 n (r : Int) y j s) (x := 51) (fun n s _ => by rw [L_M_changed_43, if_pos (by omega)]) (by omega) (by unfold LF; omega) mj3 (fun n b s hb1 hb hs => ?_)
          have e2 : (b : Int) + 1 = ((b + 1 : Nat) : Int) := by omega
          obtain ⟨z, E5, hz⟩ := k52 b s hb1 (by omega) hs
          rw [firstN_map] at hz
          rw [L_M_changed_43, if_neg (show ¬ (51 : Int) ≤ (b : Int) by omega), show (0 : Int) = ((0 : Nat) : Int) from rfl, E5]
          cases z with
          | inl q => exact Or.inl ⟨q.1, q.2, hz.l.1, rfl, hz.l.2⟩
          | inr s2 => exact Or.inr ⟨hz.r.1, s2, by rw [b0MS_r, e2, if_pos (show r32 ((b + 1 : Nat) : Int) from ⟨by omega, by omega⟩)], hz.r.2⟩
        rw [firstN_map] at k43
        obtain ⟨z, E5, hz⟩ := l22
        obtain ⟨w, E6, hw⟩ := k43
        have nn : ∀ q : Int, firstN (fun b => firstN (chF (tw G O (σ 3)) p nums b) p 0) 50 1 = some q → 0 ≤ q := fun q hq => by
          have gen : ∀ (f : Nat → Option Int), (∀ j v, f j = some v → 0 ≤ v) → ∀ m i v, firstN f m i = some v → 0 ≤ v := fun f hf m => by
            induction m with
            | zero => intro i v h; exact nomatch h
            | succ m ih =>
              intro i v h
              simp only [firstN] at h
              cases hc : f i with
              | some u => rw [hc] at h; injection h with h; rw [← h]; exact hf i u hc
              | none => rw [hc] at h; exact ih _ _ h
          refine gen _ (fun b v hv => ?_) _ _ _ hq
          -- the indices stay below p
          have gen2 : ∀ m i v, i + m = p → firstN (chF (tw G O (σ 3)) p nums b) m i = some v → 0 ≤ v := fun m => by
            induction m with
            | zero => intro i v _ h; exact nomatch h
            | succ m ih =>
              intro i v hi h
              have ni := Cb i (by omega)
              simp only [firstN] at h
              cases hc : chF (tw G O (σ 3)) p nums b i with
              | some u =>
                rw [hc] at h; injection h with h; rw [← h]
                unfold chF at hc
                by_cases q1 : 0 ≤ nums i - (b : Int) ∧ offN (tw G O (σ 3)) (updN nums i (nums i - b)) p = 0
                · rw [if_pos q1] at hc; injection hc with hc; omega
                · rw [if_neg q1] at hc
                  by_cases q2 : nums i + (b : Int) ≤ 9999 ∧ offN (tw G O (σ 3)) (updN nums i (nums i + b)) p = 0
                  · rw [if_pos q2] at hc; injection hc with hc; omega
                  · rw [if_neg q2] at hc; exact nomatch hc
              | none => rw [hc] at h; exact ih _ _ (by omega) h
          exact gen2 _ _ _ (by omega) hv
        rw [show ((1 : Nat) : Int) = 1 from rfl] at E5 E6
        rw [E5, E6]
        cases z with
        | inl q =>
          cases w with
          | inl v =>
            have q0 := nn q.1 hz.l.1
            have e : v.1 = decC y q.1 := by
              have := hw.l.1
              rw [hz.l.1] at this
              exact (Option.some.inj this).symm
            rw [b0MS_l, b0MS_l, b1M_some, if_neg (show ¬ q.1 = -1 by omega)]
            have fin : Op (some (decC y q.1, q.2)) (some (v.1, v.2)) B (R + 1000) := Op.ret e (h.shut (n := 1) (by omega) (by omega) hz.l.2 hw.l.2)
            unfold decC at fin
            by_cases hy0 : y = 0
            · rw [if_pos hy0] at fin ⊢
              rw [Int.tdiv_eq_ediv_of_nonneg q0]; exact fin
            · rw [if_neg hy0] at fin ⊢
              rw [Int.tmod_eq_emod_of_nonneg q0]; exact fin
          | inr s =>
            have := hw.r.1
            rw [hz.l.1] at this
            exact nomatch this
        | inr s =>
          cases w with
          | inl v =>
            have := hw.l.1
            rw [hz.r.1] at this
            exact nomatch this
          | inr t =>
            rw [b0MS_r, b0MS_r, b1M_some, if_pos rfl]
            exact Op.ret rfl (h.shut (n := 1) (by omega) (by omega) hz.r.2 hw.r.2)
    · rw [if_neg hy, if_pos rfl]
      by_cases h1 : y < 0
      · rw [if_pos h1]; exact Op.ret rfl out
      · rw [if_neg h1, if_neg (by omega)]; exact Op.ret rfl out
  · rw [if_neg hx, if_pos rfl, if_pos rfl]; exact Op.ret rfl out
