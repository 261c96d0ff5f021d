-- small calls
theorem Op.ret {v1 v2 : Int} {s u : Mm} {B R : Int} (h : v2 = v1) (k : Rel s u B R) : Op (some (v1, s)) (some (v2, u)) B R := Ok.ret (Ok.ret ⟨h, k⟩)
theorem ne10 : ¬ (1 : Int) = 0 := by decide
theorem of_rel {σ μ : Mm} {B R : Int} (h : Rel σ μ B R) (x y : Int) : ∃ v, F_A_of x y σ = some v ∧ F_M_of x y μ = some v := by
  obtain ⟨G, O, M, hN, hE⟩ := h
  unfold F_A_of F_M_of
  rw [fig_A, fig_M, b1_some, b1_some]
  by_cases hx : 0 ≤ x ∧ x < 10
  · rw [if_pos hx, if_neg ne10, if_neg ne10]
    obtain ⟨k, rfl⟩ := Int.eq_ofNat_of_zero_le hx.1
    have s := hN.snap.1
    have t0 : ((0 : Int) + (k : Int)).toNat = k := by omega
    have t1 : ((10 : Int) + (k : Int)).toNat = 10 + k := by omega
    have t2 : ((20 : Int) + (k : Int)).toNat = 20 + k := by omega
    have t3 : ((30 : Int) + (k : Int)).toNat = 30 + k := by omega
    have u0 : ((140 : Int) + (k : Int)).toNat = 140 + k := by omega
    have u1 : ((150 : Int) + (k : Int)).toNat = 140 + (10 + k) := by omega
    have u2 : ((160 : Int) + (k : Int)).toNat = 140 + (20 + k) := by omega
    have u3 : ((170 : Int) + (k : Int)).toNat = 140 + (30 + k) := by omega
    rw [t0, t1, t2, t3, u0, u1, u2, u3, ← s k (by omega), ← s (10 + k) (by omega), ← s (20 + k) (by omega), ← s (30 + k) (by omega)]
    repeat rw [if_pos (show (0 : Int) ≤ 0 + (k : Int) ∧ (0 : Int) + (k : Int) < 165 by omega)]
    rw [if_pos (show (0 : Int) ≤ 10 + (k : Int) ∧ (10 : Int) + (k : Int) < 165 by omega), if_pos (show (0 : Int) ≤ 20 + (k : Int) ∧ (20 : Int) + (k : Int) < 165 by omega), if_pos (show (0 : Int) ≤ 30 + (k : Int) ∧ (30 : Int) + (k : Int) < 165 by omega), if_pos (show (0 : Int) ≤ 140 + (k : Int) ∧ (140 : Int) + (k : Int) < 5240 by omega), if_pos (show (0 : Int) ≤ 150 + (k : Int) ∧ (150 : Int) + (k : Int) < 5240 by omega), if_pos (show (0 : Int) ≤ 160 + (k : Int) ∧ (160 : Int) + (k : Int) < 5240 by omega), if_pos (show (0 : Int) ≤ 170 + (k : Int) ∧ (170 : Int) + (k : Int) < 5240 by omega)]
    repeat' (first | exact ⟨_, rfl, rfl⟩ | split)
  · rw [if_neg hx, if_pos rfl, if_pos rfl]; exact ⟨_, rfl, rfl⟩
theorem about_rel {σ μ : Mm} {B R : Int} (h : Rel σ μ B R) (x : Int) : ∃ v, F_A_about x σ = some v ∧ F_M_about x μ = some v := by
  obtain ⟨G, O, M, hN, hE⟩ := h
  obtain ⟨r, r1, r2, r3, -⟩ := hN.rows
  have s := hN.snap.1
  obtain ⟨T, q1, q2, q3, -, q4⟩ := hE.rule
  obtain ⟨n, n1, n2, n3, -⟩ := hE.tape
  obtain ⟨c, c1, k, k1, k2, k3, -⟩ := hE.seen
  obtain ⟨u, v, v1, v2, v3, v4, v5, -⟩ := hN.steps
  have e5 : σ 0 9 = μ 201 2 := by
    rcases q4 with ⟨a, b, -⟩ | ⟨t, -, a, b, -⟩
    · rw [a, b]
    · rw [a, b]
  unfold F_A_about F_M_about
  rw [r2, r3, s 40 (by omega), s 41 (by omega), s 42 (by omega), q2, q3, e5, v4, v5, k2, k3, n2, n3]
  repeat' (first | exact ⟨_, rfl, rfl⟩ | split)
theorem floor40 : ∀ k : Nat, k < 120 → F_K_floorMod ((k : Int) - 40) 40 = some ((k % 40 : Nat) : Int) := by decide +kernel
theorem book_rel {σ μ : Mm} {B R : Int} (h : Rel σ μ B R) (x y : Int) : ∃ v, F_A_book x y σ = some v ∧ F_M_book x y μ = some v := by
  obtain ⟨G, O, M, hN, hE⟩ := h
  obtain ⟨-, w, b, ⟨w1, w2, n, n1, n2, n3⟩, -, a2, a3⟩ := hN.snap
  have a2 : μ 201 183 = (w : Int) := a2
  unfold F_A_book F_M_book
  rw [w2, a2, n2]
  by_cases hx : x = -1
  · rw [if_pos hx, if_pos hx]; exact ⟨_, rfl, rfl⟩
  · rw [if_neg hx, if_neg hx, if_pos (show r32 ((w : Int) - 1) from ⟨by omega, by omega⟩), in_ok, b1_some, in_ok, b1_some]
    by_cases h1 : 0 ≤ x ∧ x ≤ (w : Int) - 1
    · rw [if_pos h1, if_neg ne10, if_neg (show ¬ x < 0 by omega), if_neg (show ¬ (w : Int) ≤ x by omega)]
      by_cases h2 : 0 ≤ y ∧ y ≤ 2
      · obtain ⟨i, rfl⟩ := Int.eq_ofNat_of_zero_le h1.1
        obtain ⟨j, rfl⟩ := Int.eq_ofNat_of_zero_le h2.1
        have e : (n : Int) - (w : Int) + (i : Int) = ((n + 40 - w + i : Nat) : Int) - 40 := by omega
        have u1 : ((45 : Int) + 3 * (((n + 40 - w + i) % 40 : Nat) : Int) + (j : Int)).toNat = 45 + 3 * ((n + 40 - w + i) % 40) + j := by omega
        have u2 : ((184 : Int) + 3 * (i : Int) + (j : Int)).toNat = 140 + 44 + 3 * i + j := by omega
        rw [if_pos h2, if_neg ne10, if_neg (show ¬ (j : Int) < 0 by omega), if_pos (show (j : Int) ≤ 2 by omega), if_pos (show r32 ((n : Int) - (w : Int) + (i : Int)) from ⟨by omega, by omega⟩), e, floor40 _ (by omega), b1_some, if_pos (by omega), if_pos (by omega), u1, u2, n3 i j (by omega) (by omega), a3 i j (by omega) (by omega)]
        exact ⟨_, rfl, rfl⟩
      · rw [if_neg h2, if_pos rfl]
        by_cases h3 : y < 0
        · rw [if_pos h3]; exact ⟨_, rfl, rfl⟩
        · rw [if_neg h3, if_neg (show ¬ y ≤ 2 by omega)]; exact ⟨_, rfl, rfl⟩
    · rw [if_neg h1, if_pos rfl]
      by_cases h3 : x < 0
      · rw [if_pos h3]; exact ⟨_, rfl, rfl⟩
      · rw [if_neg h3, if_pos (show (w : Int) ≤ x by omega)]; exact ⟨_, rfl, rfl⟩
theorem fault_rel {σ μ : Mm} {B R : Int} (h : Rel σ μ B R) (x : Int) : ∃ v, F_A_fault x σ = some v ∧ F_M_fault x μ = some v := by
  obtain ⟨G, O, M, hN, hE⟩ := h
  unfold F_A_fault F_M_fault
  rcases hE.fault with ⟨a, b, c⟩ | ⟨a, b, c⟩
  · rw [if_pos a, b, c]
    by_cases h0 : x = 0
    · rw [if_pos h0]; exact ⟨_, rfl, rfl⟩
    · rw [if_neg h0]
      by_cases h1 : x = 1
      · rw [if_pos h1]; exact ⟨_, rfl, rfl⟩
      · rw [if_neg h1]; exact ⟨_, rfl, rfl⟩
  · rw [if_neg (show ¬ σ 90 2 = 0 by omega), b, c]
    repeat' (first | exact ⟨_, rfl, rfl⟩ | split)
/-! what stays when a few cells change -/
theorem Now.cells {σ τ μ ν : Mm} {G O M G2 O2 M2 : Law} {B R : Int} (h : Now σ μ G O M B R) (hl : LawsC τ G2 O2 M2) (hm : LawsM ν G2 O2 M2) (hc : ∀ i, (1 ≤ i ∧ i < 90) → i ≠ 2 → τ i = σ i) (h5 : τ 2 5 = σ 2 5) (fm : ∀ k, (k = 0 ∨ k = 3 ∨ (10 ≤ k ∧ k < 82) ∨ 140 ≤ k) → ν 201 k = μ 201 k) : Now τ ν G2 O2 M2 B R := by
  obtain ⟨a1, a2, a3, a4, a5, a6, a7, a8, a9⟩ := h
  have e : ∀ i, (1 ≤ i ∧ i < 90) → i ≠ 2 → τ i = σ i := hc
  refine ⟨hl, hm, by rw [e 6 (by omega) (by omega), h5]; exact a3, by rw [h5]; exact a4, by rw [e 3 (by omega) (by omega)]; exact a5.cong (fun _ _ => rfl) (fun x _ => fm _ (by omega)), by rw [e 3 (by omega) (by omega)]; exact a6, ?_, ?_, fun j hj => by rw [e _ (by omega) (by omega)]; exact a9 j hj⟩
  · obtain ⟨r, r1, r2, r3, r4⟩ := a7
    refine ⟨r, r1, by rw [e 1 (by omega) (by omega)]; exact r2, by rw [fm 0 (by omega)]; exact r3, fun x hx => ?_⟩
    obtain ⟨p, mn, nums, u1, u2⟩ := r4 x hx
    exact ⟨p, mn, nums, u1.fr (fun j j1 j2 => e j (by omega) (by omega)) (by omega), u2.fr2 (fm _ (by omega)) (fm _ (by omega)) (fun k _ => fm _ (by omega))⟩
  · obtain ⟨u, n, b1, b2, b3, b4, b5, b6⟩ := a8
    exact ⟨u, n, b1, b2, by rw [e 58 (by omega) (by omega)]; exact b3, by rw [e 58 (by omega) (by omega)]; exact b4, by rw [fm 3 (by omega)]; exact b5, fun i hi => by rw [e _ (by omega) (by omega)]; exact (b6 i hi).cong (fun _ _ => rfl) (fun x _ => fm _ (by omega))⟩
theorem TapeR.fr {σ τ μ ν : Mm} (h : TapeR σ μ) (h1 : τ 90 1 = σ 90 1) (h2 : τ 91 = σ 91) (h3 : ν 200 3 = μ 200 3) (h4 : ν 203 = μ 203) : TapeR τ ν := by
  obtain ⟨n, n1, n2, n3, n4⟩ := h
  exact ⟨n, n1, h1.trans n2, h3.trans n3, fun i hi => by rw [h2, h4]; exact n4 i hi⟩
theorem FaultR.fr {σ τ μ ν : Mm} (h : FaultR σ μ) (h1 : ∀ s, 2 ≤ s → s ≤ 4 → τ 90 s = σ 90 s) (h3 : ν 200 4 = μ 200 4) (h4 : ν 200 5 = μ 200 5) : FaultR τ ν := by
  unfold FaultR
  rw [h1 2 (by omega) (by omega), h1 3 (by omega) (by omega), h1 4 (by omega) (by omega), h3, h4]; exact h
theorem ImgR.fr2 {σ τ μ ν : Mm} {B : Int} (h : ImgR σ μ B) (hc : ∀ i, ((10 ≤ i ∧ i < 58) ∨ 133 ≤ i) → τ i = σ i) (h1 : τ 1 4 = σ 1 4) (h0 : σ 0 8 ≤ τ 0 8) (hm : ν 202 = μ 202) : ImgR τ ν B := by
  obtain ⟨h1', h2, h3, h4, c, T, hcT, ⟨k1, k2, k3, k4, k5, k6⟩, k7, k8, k9, k10⟩ := h
  have e : ∀ i, 133 ≤ i → τ i = σ i := fun i hi => hc i (by omega)
  refine ⟨by rw [e 134 (by omega), hm]; exact h1', by rw [e 134 (by omega)]; exact h2, ?_, fun j hj => by rw [e _ (by omega)]; exact h4 j hj, c, T, hcT, ⟨by rw [e 133 (by omega)]; exact k1, by rw [hm]; exact k2, by rw [e 133 (by omega)]; exact k3, by rw [hm]; exact k4, by rw [h1]; exact k5, by omega⟩, ?_, by rw [e 133 (by omega), hm]; exact k8, by rw [e 133 (by omega), e 167 (by omega), e 168 (by omega), hm]; exact k9, by rw [e 169 (by omega), hm]; exact k10⟩
  · obtain ⟨u, n, a1, a2, a3, a4, a5, a6⟩ := h3
    exact ⟨u, n, a1, a2, by rw [e 135 (by omega)]; exact a3, by rw [e 135 (by omega)]; exact a4, by rw [hm]; exact a5, fun i hi => by rw [e _ (by omega), hm]; exact a6 i hi⟩
  · intro r hr
    obtain ⟨p, mn, nums, r1, r2⟩ := k7 r hr
    exact ⟨p, mn, nums, r1.fr (fun j j1 j2 => hc j (by omega)) (by omega), by rw [hm]; exact r2⟩
theorem isO94 : ∀ t : Nat, t < 4 → IsO 0 9 (94 + t) := by decide +kernel
theorem by_rel {σ μ : Mm} {B R : Int} (h : Rel σ μ B R) (x : Int) : Op (F_A_by x σ) (F_M_by x μ) B R := by
  obtain ⟨G, O, M, hN, hE⟩ := h
  have h : Rel σ μ B R := ⟨G, O, M, hN, hE⟩
  obtain ⟨hT, hF, ⟨T, t1, t2, t3, t4, t5⟩, ⟨c, hS1, hS2⟩, hD, hI⟩ := hE
  have key : ∀ (y : Int) (G2 O2 M2 : Law), LawsC (st2 (st2 σ 0 9 x) 2 6 y) G2 O2 M2 → LawsM (st2 μ 201 2 x) G2 O2 M2 → ((x = -1 ∧ y = -1) ∨ ∃ t : Nat, t < T ∧ x = (t : Int) ∧ y = ((94 + t : Nat) : Int)) → Rel (st2 (st2 σ 0 9 x) 2 6 y) (st2 μ 201 2 x) B R := fun y G2 O2 M2 l1 l2 l3 => by
    have e : ∀ i, i ≠ 0 → i ≠ 2 → st2 (st2 σ 0 9 x) 2 6 y i = σ i := fun i i1 i2 => by rw [st2_ne i2, st2_ne i1]
    have e0 : ∀ s, s ≠ 9 → st2 (st2 σ 0 9 x) 2 6 y 0 s = σ 0 s := fun s hs => by rw [st2_ne (by decide), st2_sk, if_neg hs]
    have m : ∀ i, i ≠ 201 → st2 μ 201 2 x i = μ i := fun i hi => st2_ne hi
    have m1 : ∀ k, k ≠ 2 → st2 μ 201 2 x 201 k = μ 201 k := fun k hk => by rw [st2_sk, if_neg hk]
    refine ⟨G2, O2, M2, hN.cells l1 l2 (fun i i1 i2 => e i (by omega) i2) ?_ (fun k hk => m1 k (by omega)), ?_, ?_, ⟨T, t1, ?_, ?_, fun t ht => ?_, ?_⟩, ⟨c, ?_, ?_⟩, ?_, ?_⟩
    · rw [st2_sk, if_neg (by decide), st2_ne (by decide)]
    · exact hT.fr (by rw [e 90 (by decide) (by decide)]) (e 91 (by decide) (by decide)) (by rw [m 200 (by decide)]) (m 203 (by decide))
    · exact hF.fr (fun s _ _ => by rw [e 90 (by decide) (by decide)]) (by rw [m 200 (by decide)]) (by rw [m 200 (by decide)])
    · rw [e0 8 (by decide)]; exact t2
    · rw [m1 1 (by decide)]; exact t3
    · exact (t4 t ht).fr (by omega) (fun i hi => e i (by omega) (by omega)) (fun i hi => m i (by omega))
    · have z0 : st2 (st2 σ 0 9 x) 2 6 y 0 9 = x := by rw [st2_ne (by decide), st2_ss]
      rw [z0, st2_ss, st2_ss]
      rcases l3 with ⟨a, b⟩ | ⟨t, a, b, d⟩
      · exact Or.inl ⟨a, a, b⟩
      · exact Or.inr ⟨t, a, b, b, d⟩
    · rw [e 1 (by decide) (by decide)]; exact hS1
    · obtain ⟨s, s1, s2, s3, s4⟩ := hS2
      refine ⟨s, s1, by rw [e 121 (by decide) (by decide)]; exact s2, by rw [m1 4 (by decide)]; exact s3, fun k hk => ?_⟩
      rw [e 122 (by decide) (by decide), e 123 (by decide) (by decide), m1 _ (by omega), m1 _ (by omega)]; exact s4 k hk
    · intro i hi
      rw [e 130 (by decide) (by decide), m1 _ (by omega)]; exact hD i hi
    · exact hI.fr2 (fun i hi => e i (by omega) (by omega)) (by rw [e 1 (by decide) (by decide)]) (by rw [e0 8 (by decide)]; exact Int.le_refl _) (m 202 (by decide))
  have out : Op (some ((0 : Int), σ)) (some (0, μ)) B R := Ok.ret (Ok.ret ⟨rfl, h⟩)
  unfold F_A_by F_M_by F_A_ruleBy
  simp only [bindM_eq, b0M_some]
  by_cases hx : x = -1
  · subst hx
    rw [if_pos rfl, if_pos rfl, if_pos (by decide), b0M_some]
    refine Ok.ret (Ok.ret ⟨rfl, key (-1) none none none ⟨(fun _ q => nomatch q), (fun _ q => nomatch q), (fun _ q => nomatch q), Or.inl ⟨by rw [st2_ss]; decide, rfl, rfl, rfl⟩⟩ (Or.inl ⟨by rw [st2_ss], rfl, rfl, rfl⟩) (Or.inl ⟨rfl, rfl⟩)⟩)
  · rw [if_neg hx, if_neg hx, t3, if_pos (show r32 ((T : Int) - 1) from ⟨by omega, by omega⟩), in_ok, b1_some, t2]
    by_cases h1 : x < 0
    · rw [if_pos h1, if_neg (show ¬ (0 ≤ x ∧ x ≤ (T : Int) - 1) by omega), if_pos rfl]; exact out
    · rw [if_neg h1]
      by_cases h2 : x < (T : Int)
      · obtain ⟨t, rfl⟩ := Int.eq_ofNat_of_zero_le (show 0 ≤ x by omega)
        have et : ((t : Int)).toNat = t := by omega
        rw [if_pos h2, if_pos (show 0 ≤ (t : Int) ∧ (t : Int) ≤ (T : Int) - 1 by omega), if_neg h1, if_pos (show (t : Int) < 4 by omega), if_pos (show 0 ≤ (t : Int) ∧ (t : Int) < 4 by omega), et, b0M_some, if_neg ne10]
        obtain ⟨⟨n, n1, n2, n3, n4⟩, G2, O2, M2, l1, ⟨b1, b2, b3⟩, c1, c2, c3⟩ := t4 t (by omega)
        have q : ∀ i, 94 ≤ i → st2 (st2 σ 0 9 (t : Int)) 2 6 ((94 + t : Nat) : Int) i = σ i := fun i hi => by rw [st2_ne (by omega), st2_ne (by omega)]
        refine Ok.ret (Ok.ret ⟨rfl, key _ G2 O2 M2 ⟨l1.1, l1.2.1, l1.2.2, Or.inr ⟨94 + t, isO94 t (by omega), by rw [st2_ss], b1.e (q _ (by omega)) (q _ (by omega)) (q _ (by omega)), b2.e (q _ (by omega)) (q _ (by omega)) (q _ (by omega)), b3.e (q _ (by omega)) (q _ (by omega)) (q _ (by omega))⟩⟩ (Or.inr ⟨t, by omega, by rw [st2_ss], ?_, ?_, c1.e (fun i hi => st2_ne (by omega)), c2.e (fun i hi => st2_ne (by omega)), c3.e (fun i hi => st2_ne (by omega))⟩) (Or.inr ⟨t, by omega, rfl, rfl⟩)⟩)
        · rw [st2_ne (by decide), n3]; omega
        · rw [st2_ne (by decide), n3]; omega
      · rw [if_neg h2, if_neg (show ¬ (0 ≤ x ∧ x ≤ (T : Int) - 1) by omega), if_pos rfl]; exact out
