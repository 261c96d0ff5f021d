-- a ROW is told: the reference, and both
theorem row34 : ∀ (m n c : Nat) (σ : Mm), c + m = 4 → m < n → σ 200 48 = (c : Int) → Ok (L_M_row_34 n σ) (fun τ => ∃ q : Nat, c ≤ q ∧ q ≤ 4 ∧ (∀ k, c ≤ k → k < q → ¬ σ 229 k = -1) ∧ (q < 4 → σ 229 q = -1) ∧ τ 200 48 = (q : Int) ∧ Fr [200] σ τ ∧ ∀ s, s ≠ 48 → τ 200 s = σ 200 s) := by
  intro m
  induction m with
  | zero =>
    intro n c σ hc hn h
    match n, hn with
    | n + 1, _ =>
      rw [L_M_row_34, h, if_pos (by omega)]
      exact Ok.ret ⟨c, by omega, by omega, fun k h1 h2 => by omega, fun h => by omega, h, Fr.rf, fun _ _ => rfl⟩
  | succ m ih =>
    intro n c σ hc hn h
    match n, hn with
    | n + 1, hn =>
      have ec : ((c : Int)).toNat = c := by omega
      rw [L_M_row_34, h, if_neg (by omega), if_pos (by omega), ec]
      by_cases hx : σ 229 c = -1
      · rw [if_pos hx]
        exact Ok.ret ⟨c, by omega, by omega, fun k h1 h2 => by omega, fun _ => hx, h, Fr.rf, fun _ _ => rfl⟩
      · rw [if_neg hx, if_pos (show r32 ((c : Int) + 1) from ⟨by omega, by omega⟩), bindM_eq]
        refine (ih n (c + 1) _ (by omega) (by omega) ?_).mono (fun τ hτ => ?_)
        · simp only [st2_f, if_true]; omega
        · obtain ⟨q, q1, q2, q3, q4, q5, q6, q7⟩ := hτ
          have e229 : st2 σ 200 48 ((c : Int) + 1) 229 = σ 229 := st2_ne (by decide)
          rw [e229] at q3 q4
          refine ⟨q, by omega, q2, fun k h1 h2 => ?_, q4, q5, (Fr.rf.st (by decide)).tr q6, fun s hs => ?_⟩
          · by_cases hk : k = c
            · rw [hk]; exact hx
            · exact q3 k (by omega) h2
          · rw [q7 s hs, st2_sk, if_neg hs]
def Good (σ : Mm) (q j : Nat) : Prop := if j < q then NN (σ 229 j) else σ 229 j = -1
theorem row71 {σ : Mm} {q : Nat} (h : σ 200 48 = (q : Int)) : ∀ (m n k : Nat), k + m = 4 → m < n → (L_M_row_71 n (k : Int) σ = some (.inr ()) ∧ ∀ j, k ≤ j → j < 4 → Good σ q j) ∨ (L_M_row_71 n (k : Int) σ = some (.inl (-1, σ)) ∧ ∃ j, k ≤ j ∧ j < 4 ∧ ¬ Good σ q j) := by
  intro m
  induction m with
  | zero =>
    intro n k hk hn
    match n, hn with
    | n + 1, _ =>
      rw [L_M_row_71, if_pos (by omega)]
      exact Or.inl ⟨rfl, fun j h1 h2 => by omega⟩
  | succ m ih =>
    intro n k hk hn
    match n, hn with
    | n + 1, hn =>
      have ek : ((k : Int)).toNat = k := by omega
      have e2 : (k : Int) + 1 = ((k + 1 : Nat) : Int) := by omega
      have rek : Good σ q k → (L_M_row_71 n ((k + 1 : Nat) : Int) σ = some (.inr ()) ∧ ∀ j, k ≤ j → j < 4 → Good σ q j) ∨ (L_M_row_71 n ((k + 1 : Nat) : Int) σ = some (.inl (-1, σ)) ∧ ∃ j, k ≤ j ∧ j < 4 ∧ ¬ Good σ q j) := fun hg => by
        rcases ih n (k + 1) (by omega) (by omega) with ⟨a, b⟩ | ⟨a, j, b, c, d⟩
        · exact Or.inl ⟨a, fun j h1 h2 => by
            by_cases e : j = k
            · rw [e]; exact hg
            · exact b j (by omega) h2⟩
        · exact Or.inr ⟨a, j, by omega, c, d⟩
      rw [L_M_row_71, if_neg (by omega), bindM_eq, h, ek, e2, if_pos (show r32 ((k + 1 : Nat) : Int) from ⟨by omega, by omega⟩)]
      simp only [if_pos (show (0 : Int) ≤ (k : Int) ∧ (k : Int) < 4 by omega)]
      by_cases hq : (q : Int) ≤ (k : Int)
      · rw [if_pos hq]
        by_cases hx : σ 229 k = -1
        · rw [if_pos hx]
          exact rek (by unfold Good; rw [if_neg (by omega)]; exact hx)
        · rw [if_neg hx]
          exact Or.inr ⟨rfl, k, by omega, by omega, by unfold Good; rw [if_neg (by omega)]; exact hx⟩
      · rw [if_neg hq, in_ok, b1_some]
        by_cases hx : 0 ≤ σ 229 k ∧ σ 229 k ≤ 9999
        · rw [if_pos hx, if_neg (by decide)]
          exact rek (by unfold Good; rw [if_pos (by omega)]; exact hx)
        · rw [if_neg hx, if_pos rfl]
          exact Or.inr ⟨rfl, k, by omega, by omega, by unfold Good; rw [if_pos (by omega)]; exact hx⟩
theorem adds43 {r p : Nat} (hr : r < 12) (hp : p ≤ 4) : ∀ (m n k : Nat) (σ : Mm), k + m = 4 → m < n → σ 200 48 = (p : Int) → Ok (L_M_addsRow_43 n (r : Int) (k : Int) σ) (fun τ => (∀ j, k ≤ j → j < 4 → τ 201 (22 + 4 * r + j) = if j < p then σ 229 j else 0) ∧ (∀ j, (j < 22 + 4 * r + k ∨ 26 + 4 * r ≤ j) → τ 201 j = σ 201 j) ∧ Fr [201] σ τ) := by
  intro m
  induction m with
  | zero =>
    intro n k σ hk hn h
    match n, hn with
    | n + 1, _ =>
      rw [L_M_addsRow_43, if_pos (by omega)]
      exact Ok.ret ⟨fun j h1 h2 => by omega, fun _ _ => rfl, Fr.rf⟩
  | succ m ih =>
    intro n k σ hk hn h
    match n, hn with
    | n + 1, hn =>
      have ek : ((k : Int)).toNat = k := by omega
      have e2 : (k : Int) + 1 = ((k + 1 : Nat) : Int) := by omega
      have e3 : ((22 : Int) + 4 * (r : Int) + (k : Int)).toNat = 22 + 4 * r + k := by omega
      have c1 : (0 : Int) ≤ 22 + 4 * (r : Int) + (k : Int) ∧ (22 : Int) + 4 * (r : Int) + (k : Int) < 5240 := by omega
      have step : ∀ v : Int, v = (if k < p then σ 229 k else 0) → Ok (L_M_addsRow_43 n (r : Int) ((k + 1 : Nat) : Int) (st2 σ 201 (22 + 4 * r + k) v)) (fun τ => (∀ j, k ≤ j → j < 4 → τ 201 (22 + 4 * r + j) = if j < p then σ 229 j else 0) ∧ (∀ j, (j < 22 + 4 * r + k ∨ 26 + 4 * r ≤ j) → τ 201 j = σ 201 j) ∧ Fr [201] σ τ) := fun v hv => by
        refine (ih n (k + 1) _ (by omega) (by omega) (by rw [st2_ne (by decide)]; exact h)).mono (fun τ hτ => ?_)
        obtain ⟨t1, t2, t3⟩ := hτ
        have e229 : st2 σ 201 (22 + 4 * r + k) v 229 = σ 229 := st2_ne (by decide)
        rw [e229] at t1
        refine ⟨fun j h1 h2 => ?_, fun j hj => ?_, (Fr.rf.st (by decide)).tr t3⟩
        · by_cases e : j = k
          · rw [e, t2 _ (by omega), st2_ss]; exact hv
          · exact t1 j (by omega) h2
        · rw [t2 j (by omega), st2_sk, if_neg (by omega)]
      rw [L_M_addsRow_43, if_neg (by omega)]
      simp only [bindM_eq, e2, e3, if_pos c1, if_pos (show r32 ((k + 1 : Nat) : Int) from ⟨by omega, by omega⟩), h, ek]
      by_cases hq : (p : Int) ≤ (k : Int)
      · rw [if_pos hq]; exact step 0 (by rw [if_neg (by omega)])
      · rw [if_neg hq, if_pos (by omega)]; exact step _ (by rw [if_pos (by omega)])
/-- the reference writes the row down -/
theorem adds_ok {σ : Mm} {r p : Nat} {mn : Int} (hr : r < 12) (h1 : 1 ≤ p) (h2 : p ≤ 4) (hm : 0 ≤ mn ∧ mn < 2 ^ p) (h0 : σ 201 0 = (r : Int)) (h48 : σ 200 48 = (p : Int)) (h49 : σ 200 49 = mn) (hn : ∀ k, k < p → NN (σ 229 k)) :
    Ok (F_M_addsRow σ) (fun y => y.1 = (r : Int) ∧ RowM (y.2 201) r p mn (fun k => if k < p then σ 229 k else 0) ∧ y.2 201 0 = ((r + 1 : Nat) : Int) ∧ (∀ j, j ≠ 0 → j ≠ 10 + r → j ≠ 70 + r → (j < 22 + 4 * r ∨ 26 + 4 * r ≤ j) → y.2 201 j = σ 201 j) ∧ Fr [201] σ y.2) := by
  unfold F_M_addsRow
  have e1 : ((10 : Int) + (r : Int)).toNat = 10 + r := by omega
  have e2 : ((70 : Int) + (r : Int)).toNat = 70 + r := by omega
  rw [h0, if_neg (by omega), if_pos (by omega), bindM_eq, if_pos (by omega), bindM_eq, e1, e2, h48]
  have g200 : st2 σ 201 (10 + r) (p : Int) 200 = σ 200 := st2_ne (by decide)
  rw [g200, h49]
  have f0 : Fr [201] σ (st2 (st2 σ 201 (10 + r) (p : Int)) 201 (70 + r) mn) := (Fr.rf.st (by decide)).st (by decide)
  have w : ∀ j, st2 (st2 σ 201 (10 + r) (p : Int)) 201 (70 + r) mn 201 j = if j = 70 + r then mn else if j = 10 + r then (p : Int) else σ 201 j := fun j => by rw [st2_sk, st2_sk]
  refine Ok.b0M (adds43 (r := r) (p := p) hr h2 4 LF 0 _ (by omega) (by unfold LF; omega) (by rw [f0 200 (by decide)]; exact h48)) (fun s hs => ?_)
  obtain ⟨s1, s2, s3⟩ := hs
  have z0 : s 201 0 = (r : Int) := by rw [s2 0 (by omega), w, if_neg (by omega), if_neg (by omega)]; exact h0
  rw [z0]
  refine Ok.ck ⟨by omega, by omega⟩ (Ok.bM (Ok.ret ⟨rfl, ?_, ?_, fun j j1 j2 j3 j4 => ?_, (f0.tr s3).st (by decide)⟩))
  · show RowM (st2 s 201 0 ((r : Int) + 1) 201) r p mn _
    refine ⟨h1, h2, hm.1, hm.2, ?_, ?_, fun k hk => ?_, fun k hk => ?_⟩
    · rw [st2_sk, if_neg (by omega), s2 _ (by omega), w, if_neg (by omega), if_pos rfl]
    · rw [st2_sk, if_neg (by omega), s2 _ (by omega), w, if_pos rfl]
    · rw [st2_sk, if_neg (by omega), s1 k (by omega) hk, f0 229 (by decide)]
    · simp only [if_pos hk]; exact hn k hk
  · show st2 s 201 0 ((r : Int) + 1) 201 0 = _
    rw [st2_ss]; omega
  · show st2 s 201 0 ((r : Int) + 1) 201 j = _
    rw [st2_sk, if_neg j1, s2 j (by omega), w, if_neg j3, if_neg j2]
theorem RowC.fr2 {σ τ : Mm} {r p : Nat} {mn : Int} {nums : Nat → Int} (h : RowC σ r p mn nums) (h1 : τ (10 + r) = σ (10 + r)) (h2 : τ (22 + r) = σ (22 + r)) (h3 : τ (34 + r) = σ (34 + r)) (h4 : τ (46 + r) = σ (46 + r)) : RowC τ r p mn nums := by
  obtain ⟨a1, a2, a3, a4, a5, a6, a7, a8, a9, b1, b2, b3, b4, b5⟩ := h
  have e3 : 10 + r + 24 = 34 + r := by omega
  have e4 : 10 + r + 36 = 46 + r := by omega
  rw [e3, e4] at b4
  refine ⟨a1, a2, a3, a4, by rw [h1]; exact a5, by rw [h1]; exact a6, by rw [h1]; exact a7, fun k hk => by rw [h2]; exact a8 k hk, a9, by rw [h1]; exact b1, b2, b3, ?_, b5⟩
  rw [e3, e4, h3, h4]; exact b4
theorem RowM.fr2 {a c : Nat → Int} {r p : Nat} {mn : Int} {nums : Nat → Int} (h : RowM a r p mn nums) (h1 : c (10 + r) = a (10 + r)) (h2 : c (70 + r) = a (70 + r)) (h3 : ∀ k, k < 4 → c (22 + 4 * r + k) = a (22 + 4 * r + k)) : RowM c r p mn nums := by
  obtain ⟨a1, a2, a3, a4, a5, a6, a7, a8⟩ := h
  exact ⟨a1, a2, a3, a4, h1.trans a5, h2.trans a6, fun k hk => (h3 k hk).trans (a7 k hk), a8⟩
/-- one ROW more on both sides: all else stays -/
theorem Rel.more {σ τ μ ν : Mm} {B R : Int} (h : Rel σ μ B R) {r p : Nat} {mn : Int} {nums : Nat → Int} (hr : r < 12) (h14 : σ 1 4 = (r : Int)) (hC : RowC τ r p mn nums) (hM : RowM (ν 201) r p mn nums) (c14 : τ 1 4 = ((r + 1 : Nat) : Int)) (m0 : ν 201 0 = ((r + 1 : Nat) : Int))
    (fc : Fr [1, 10 + r, 22 + r, 34 + r, 46 + r] σ τ) (fm : ∀ i, i ≠ 200 → i ≠ 201 → i ≠ 229 → ν i = μ i) (f0 : ∀ s, s ≠ 48 → s ≠ 49 → ν 200 s = μ 200 s) (f1 : ∀ j, j ≠ 0 → j ≠ 10 + r → j ≠ 70 + r → (j < 22 + 4 * r ∨ 26 + 4 * r ≤ j) → ν 201 j = μ 201 j) : Rel τ ν B R := by
  obtain ⟨G, O, M, hN, hE⟩ := h
  have e : ∀ i, i ≠ 1 → (i < 10 ∨ 58 ≤ i) → τ i = σ i := fun i h1 h2 => fc i (by simp; omega)
  obtain ⟨a1, a2, a3, a4, a5, a6, a7, a8, a9⟩ := hN
  obtain ⟨hT, hF, hR, ⟨c, hS1, hS2⟩, hD, hI⟩ := hE
  have ec : c = r := by omega
  subst ec
  refine ⟨G, O, M, ⟨?_, ?_, ?_, ?_, ?_, ?_, ?_, ?_, fun j hj => ?_⟩, ?_, ?_, ?_, ⟨c + 1, c14, ?_⟩, ?_, ?_⟩
  · exact a1.fr fc (by rw [e 2 (by decide) (by omega)]) (by simp; omega)
  · unfold LawsM at *
    rw [f1 2 (by omega) (by omega) (by omega) (by omega), fm 204 (by omega) (by omega) (by omega)]
    rcases a2 with a2 | ⟨t, q, q2, q2b, q2c, q3, q4, q5⟩
    · exact Or.inl a2
    · exact Or.inr ⟨t, q, q2, q2b, q2c, q3.e (fun i hi => fm i (by omega) (by omega) (by omega)), q4.e (fun i hi => fm i (by omega) (by omega) (by omega)), q5.e (fun i hi => fm i (by omega) (by omega) (by omega))⟩
  · rw [e 6 (by decide) (by omega), e 2 (by decide) (by omega)]; exact a3
  · rw [e 2 (by decide) (by omega)]; exact a4
  · rw [e 3 (by decide) (by omega)]
    exact a5.cong (fun _ _ => rfl) (fun x hx => f1 _ (by omega) (by omega) (by omega) (by omega))
  · rw [e 3 (by decide) (by omega)]; exact a6
  · obtain ⟨c', r1, r2, r3, r4⟩ := a7
    have ec : c' = c := by omega
    subst ec
    refine ⟨c' + 1, by omega, c14, m0, fun x hx => ?_⟩
    by_cases hx2 : x = c'
    · subst hx2; exact ⟨p, mn, nums, hC, hM⟩
    · obtain ⟨p', mn', nums', u1, u2⟩ := r4 x (by omega)
      exact ⟨p', mn', nums', u1.fr2 (fc _ (by simp; omega)) (fc _ (by simp; omega)) (fc _ (by simp; omega)) (fc _ (by simp; omega)), u2.fr2 (f1 _ (by omega) (by omega) (by omega) (by omega)) (f1 _ (by omega) (by omega) (by omega) (by omega)) (fun k hk => f1 _ (by omega) (by omega) (by omega) (by omega))⟩
  · obtain ⟨u, n, b1, b2, b3, b4, b5, b6⟩ := a8
    exact ⟨u, n, b1, b2, by rw [e 58 (by omega) (by omega)]; exact b3, by rw [e 58 (by omega) (by omega)]; exact b4, by rw [f1 3 (by omega) (by omega) (by omega) (by omega)]; exact b5, fun i hi => by rw [e _ (by omega) (by omega)]; exact (b6 i hi).cong (fun _ _ => rfl) (fun x hx => f1 _ (by omega) (by omega) (by omega) (by omega))⟩
  · rw [e _ (by omega) (by omega)]; exact a9 j hj
  · obtain ⟨n, n1, n2, n3, n4⟩ := hT
    exact ⟨n, n1, by rw [e 90 (by omega) (by omega)]; exact n2, by rw [f0 3 (by omega) (by omega)]; exact n3, fun i hi => by rw [e 91 (by omega) (by omega), fm 203 (by omega) (by omega) (by omega)]; exact n4 i hi⟩
  · unfold FaultR
    rw [e 90 (by omega) (by omega), f0 4 (by omega) (by omega), f0 5 (by omega) (by omega)]; exact hF
  · obtain ⟨T, t1, t2, t3, t4, t5⟩ := hR
    refine ⟨T, t1, by rw [e 0 (by omega) (by omega)]; exact t2, by rw [f1 1 (by omega) (by omega) (by omega) (by omega)]; exact t3, fun t ht => (t4 t ht).fr (by omega) (fun i hi => e i (by omega) (by omega)) (fun i hi => fm i (by omega) (by omega) (by omega)), ?_⟩
    rw [e 0 (by omega) (by omega), f1 2 (by omega) (by omega) (by omega) (by omega), e 2 (by omega) (by omega)]; exact t5
  · obtain ⟨s, s1, s2, s3, s4⟩ := hS2
    refine ⟨s, s1, by rw [e 121 (by omega) (by omega)]; exact s2, by rw [f1 4 (by omega) (by omega) (by omega) (by omega)]; exact s3, fun k hk => ?_⟩
    rw [e 122 (by omega) (by omega), e 123 (by omega) (by omega), f1 _ (by omega) (by omega) (by omega) (by omega), f1 _ (by omega) (by omega) (by omega) (by omega)]
    have := s4 k hk
    exact ⟨this.1, this.2.1, this.2.2.1, by omega, this.2.2.2.2⟩
  · intro i hi
    rw [e 130 (by omega) (by omega), f1 _ (by omega) (by omega) (by omega) (by omega)]; exact hD i hi
  · obtain ⟨h1, h2, h3, h4, c', T, hcT, ⟨k1, k2, k3, k4, k5, k6⟩, k7, k8, k9, k10⟩ := hI
    have g : ∀ i, 133 ≤ i → τ i = σ i := fun i hi => e i (by omega) (by omega)
    have g2 : ν 202 = μ 202 := fm 202 (by omega) (by omega) (by omega)
    refine ⟨by rw [g 134 (by omega), g2]; exact h1, by rw [g 134 (by omega)]; exact h2, ?_, fun j hj => by rw [g _ (by omega)]; exact h4 j hj, c', T, hcT, ⟨by rw [g 133 (by omega)]; exact k1, by rw [g2]; exact k2, by rw [g 133 (by omega)]; exact k3, by rw [g2]; exact k4, by rw [c14]; omega, by rw [e 0 (by omega) (by omega)]; exact k6⟩, fun x hx => ?_, by rw [g 133 (by omega), g2]; exact k8, by rw [g 133 (by omega), g 167 (by omega), g 168 (by omega), g2]; exact k9, by rw [g 169 (by omega), g2]; exact k10⟩
    · obtain ⟨u, n, b1, b2, b3, b4, b5, b6⟩ := h3
      exact ⟨u, n, b1, b2, by rw [g 135 (by omega)]; exact b3, by rw [g 135 (by omega)]; exact b4, by rw [g2]; exact b5, fun i hi => by rw [g _ (by omega), g2]; exact b6 i hi⟩
    · obtain ⟨p', mn', nums', u1, u2⟩ := k7 x hx
      exact ⟨p', mn', nums', u1.fr2 (fc _ (by simp; omega)) (fc _ (by simp; omega)) (fc _ (by simp; omega)) (fc _ (by simp; omega)), by rw [g2]; exact u2⟩
