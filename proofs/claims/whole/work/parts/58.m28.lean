-- the state between two calls (core), and `reckon`
def SnapOK (f : Nat → Int) (B : Int) : Prop := EnvOK f ∧ (-9999999 ≤ f 41 ∧ f 41 ≤ 9999999) ∧ QB f B ∧ (f 40 ≤ 999 ∧ 0 ≤ f 42 ∧ f 42 ≤ 40000)
def RowsB (σ μ : Mm) : Prop := ∃ c : Nat, c ≤ 12 ∧ σ 1 4 = (c : Int) ∧ μ 201 0 = (c : Int) ∧ RowsR σ μ c
theorem RowM.fr' {a c : Nat → Int} {r p : Nat} {mn : Int} {nums : Nat → Int} (h : RowM a r p mn nums) (hf : ∀ k, 10 ≤ k → k < 140 → c k = a k) (hr : r < 12) : RowM c r p mn nums := by
  obtain ⟨a1, a2, a3, a4, a5, a6, a7, a8⟩ := h
  refine ⟨a1, a2, a3, a4, ?_, ?_, fun k hk => ?_, a8⟩
  · rw [hf _ (by omega) (by omega)]; exact a5
  · rw [hf _ (by omega) (by omega)]; exact a6
  · rw [hf _ (by omega) (by omega)]; exact a7 k hk
def Now (σ μ : Mm) (G O M : Law) (B R : Int) : Prop := (LawsC σ G O M) ∧ (LawsM μ G O M) ∧ (∀ k, k < 400 → σ 6 k ≤ σ 2 5) ∧ (0 ≤ σ 2 5 ∧ σ 2 5 ≤ R) ∧ (Snap (σ 3) (μ 201) 140) ∧ (SnapOK (σ 3) B) ∧ (RowsB σ μ) ∧ (StepsR σ 58 (μ 201)) ∧ (∀ j, j < 30 → SnapOK (σ (60 + j)) B)
theorem Now.laws {σ μ : Mm} {G O M : Law} {B R : Int} (h : Now σ μ G O M B R) : LawsC σ G O M := h.1
theorem Now.lawsM {σ μ : Mm} {G O M : Law} {B R : Int} (h : Now σ μ G O M B R) : LawsM μ G O M := h.2.1
theorem Now.memo {σ μ : Mm} {G O M : Law} {B R : Int} (h : Now σ μ G O M B R) : ∀ k, k < 400 → σ 6 k ≤ σ 2 5 := h.2.2.1
theorem Now.round {σ μ : Mm} {G O M : Law} {B R : Int} (h : Now σ μ G O M B R) : 0 ≤ σ 2 5 ∧ σ 2 5 ≤ R := h.2.2.2.1
theorem Now.snap {σ μ : Mm} {G O M : Law} {B R : Int} (h : Now σ μ G O M B R) : Snap (σ 3) (μ 201) 140 := h.2.2.2.2.1
theorem Now.ok {σ μ : Mm} {G O M : Law} {B R : Int} (h : Now σ μ G O M B R) : SnapOK (σ 3) B := h.2.2.2.2.2.1
theorem Now.rows {σ μ : Mm} {G O M : Law} {B R : Int} (h : Now σ μ G O M B R) : RowsB σ μ := h.2.2.2.2.2.2.1
theorem Now.steps {σ μ : Mm} {G O M : Law} {B R : Int} (h : Now σ μ G O M B R) : StepsR σ 58 (μ 201) := h.2.2.2.2.2.2.2.1
theorem Now.oks {σ μ : Mm} {G O M : Law} {B R : Int} (h : Now σ μ G O M B R) : ∀ j, j < 30 → SnapOK (σ (60 + j)) B := h.2.2.2.2.2.2.2.2
def FrC (σ τ : Mm) : Prop := (∀ i, (i < 2 ∨ 8 ≤ i) → i ≠ 58 → ¬ (60 ≤ i ∧ i < 90) → τ i = σ i) ∧ τ 2 6 = σ 2 6
def FrM (μ ν : Mm) : Prop := (∀ i, i ≠ 200 → i ≠ 201 → (i < 223 ∨ 233 < i) → ν i = μ i) ∧ (∀ s, s ≠ 45 → s ≠ 46 → s ≠ 48 → s ≠ 49 → s ≠ 53 → ν 200 s = μ 200 s) ∧ ∀ k, k < 140 → k ≠ 3 → ν 201 k = μ 201 k
theorem FrC.rf {σ : Mm} : FrC σ σ := ⟨fun _ _ _ _ => rfl, rfl⟩
theorem FrC.tr {a b c : Mm} (h : FrC a b) (k : FrC b c) : FrC a c := ⟨fun i h1 h2 h3 => (k.1 i h1 h2 h3).trans (h.1 i h1 h2 h3), k.2.trans h.2⟩
theorem FrM.rf {σ : Mm} : FrM σ σ := ⟨fun _ _ _ _ => rfl, fun _ _ _ _ _ _ => rfl, fun _ _ _ => rfl⟩
theorem FrM.tr {a b c : Mm} (h : FrM a b) (k : FrM b c) : FrM a c := ⟨fun i h1 h2 h3 => (k.1 i h1 h2 h3).trans (h.1 i h1 h2 h3), fun s a b c d e => (k.2.1 s a b c d e).trans (h.2.1 s a b c d e), fun j h1 h2 => (k.2.2 j h1 h2).trans (h.2.2 j h1 h2)⟩
theorem SnapOK.w {f : Nat → Int} {B C : Int} (h : SnapOK f B) (hb : B ≤ C) : SnapOK f C := ⟨h.1, h.2.1, fun k hk => by have := h.2.2.1 k hk; omega, h.2.2.2⟩
theorem Now.w {σ μ : Mm} {G O M : Law} {B C R S : Int} (h : Now σ μ G O M B R) (hb : B ≤ C) (hr : R ≤ S) : Now σ μ G O M C S :=
  ⟨h.laws, h.lawsM, h.memo, ⟨h.round.1, by have := h.round.2; omega⟩, h.snap, h.ok.w hb, h.rows, h.steps, fun j hj => (h.oks j hj).w hb⟩
/-- the reference lays the present state out -/
theorem lays_mid {σ μ : Mm} {G O M : Law} {B : Int} (h1 : LawsC σ G O M) (h2 : LawsM μ G O M) (h3 : ∀ k, k < 400 → σ 6 k ≤ σ 2 5) (h4 : Snap (σ 3) (μ 201) 140) (h5 : SnapOK (σ 3) B) : Ok (F_M_laysNow μ) (fun ν => Mid σ ν G O M B ∧ Fr [200, 225, 226, 227, 228] μ ν ∧ ∀ s, s ≠ 45 → s ≠ 46 → ν 200 s = μ 200 s) := by
  refine (laysNow_ok μ).mono (fun ν hν => ?_)
  obtain ⟨n1, n2, n3, n4⟩ := hν
  obtain ⟨s1, w, b, s2, s3⟩ := h4
  have e201 : ν 201 = μ 201 := n3 201 (by decide)
  have E : Eq40 (σ 3) (EM ν) := fun k hk => (n1 k hk).trans (s1 k (by omega)).symm
  refine ⟨⟨⟨h1, h5.1, h3⟩, ⟨h2.fr n3 (by rw [e201]) (by decide), h1.1, h1.2.1, h1.2.2.1, h5.1.ext E⟩, E, ?_, ?_, h5.2.1, h5.2.2.1, w, b, s2, ?_⟩, n3, n4⟩
  · rw [n2]; exact s1 41 (by omega)
  · rw [e201]; exact s1 42 (by omega)
  · rw [e201]; exact s3.m
/-- and keeps it -/
theorem keeps_snap {σ μ : Mm} {G O M : Law} {B : Int} (h : Mid σ μ G O M B) (hb : ∀ k, k < 10 → σ 3 (30 + k) = μ 201 (170 + k)) : Ok (F_M_keepsNow μ) (fun ν => Snap (σ 3) (ν 201) 140 ∧ Fr [201] μ ν ∧ ∀ k, (k < 140 ∨ 304 ≤ k) → ν 201 k = μ 201 k) := by
  obtain ⟨-, -, m3, m4, m5, -, -, w, b, m8, m9⟩ := h
  refine (keepsNow_ok μ).mono (fun ν hν => ?_)
  obtain ⟨n1, n2, n3, n4⟩ := hν
  refine ⟨⟨fun k hk => ?_, w, b, m8, ?_⟩, n4, fun k hk => n3 k (by omega) (by omega) (by omega)⟩
  · by_cases k1 : k < 30 ∨ k = 40
    · rw [n1 k k1]; exact (m3 k (by omega)).symm
    · by_cases k2 : k < 40
      · have e := hb (k - 30) (by omega)
        have e1 : 30 + (k - 30) = k := by omega
        have e2 : 170 + (k - 30) = 140 + k := by omega
        rw [e1, e2] at e
        rw [n3 (140 + k) (by omega) (by omega) (by omega)]; exact e
      · by_cases k3 : k = 41
        · rw [k3]; exact m4.trans n2.symm
        · have k4 : k = 42 := by omega
          rw [k4, n3 (140 + 42) (by omega) (by omega) (by omega)]; exact m5
  · obtain ⟨a1, a2, a3⟩ := m9
    exact ⟨a1, by rw [n3 (140 + 43) (by omega) (by omega) (by omega)]; exact a2, fun i j hi hj => by rw [n3 (140 + 44 + 3 * i + j) (by omega) (by omega) (by omega)]; exact a3 i j hi hj⟩
theorem StepsR.fr {σ τ : Mm} {a c : Nat → Int} (h : StepsR σ 58 a) (hf : ∀ i, 58 ≤ i → i < 90 → τ i = σ i) (hg : ∀ k, (k = 3 ∨ 304 ≤ k) → c k = a k) : StepsR τ 58 c := by
  obtain ⟨q, n, h1, h2, h3, h4, h5, h6⟩ := h
  refine ⟨q, n, h1, h2, by rw [hf 58 (by omega) (by omega)]; exact h3, by rw [hf 58 (by omega) (by omega)]; exact h4, by rw [hg 3 (by omega)]; exact h5, fun i hi => ?_⟩
  rw [hf _ (by omega) (by omega)]
  exact (h6 i hi).cong (fun _ _ => rfl) (fun x hx => hg _ (by omega))
/-- a step kept on both sides -/
theorem keep_now {σ μ : Mm} {G O M : Law} {B R : Int} (h : Now σ μ G O M B R) : Ok (F_S_keep 58 σ) (fun τ => Ok (F_M_keepsStep μ) (fun ν => Now τ ν G O M B R ∧ (∀ i, i ≠ 58 → ¬ (60 ≤ i ∧ i < 90) → τ i = σ i) ∧ Fr [201] μ ν ∧ ∀ k, k < 320 → k ≠ 3 → ν 201 k = μ 201 k)) := by
  obtain ⟨c, n, hc, hn, q1, q2, q3, q4⟩ := h.steps
  have hk := keepC_ok hn hc q1 q2
  have hr := keep_rel h.steps h.snap
  obtain ⟨τ, E, t1, t2, t3, t4⟩ := hk
  have hr := hr.of E
  refine ⟨τ, E, hr.mono (fun ν hν => ⟨?_, hν.2⟩)⟩
  obtain ⟨n1, n2, n3, n4⟩ := hν
  have f2 : τ 2 = σ 2 := n2 2 (by decide) (by omega)
  have f3 : τ 3 = σ 3 := n2 3 (by decide) (by omega)
  refine ⟨?_, h.lawsM.fr n3 (n4 2 (by omega) (by decide)) (by decide), fun k hk => ?_, by rw [f2]; exact h.round, ?_, by rw [f3]; exact h.ok, ?_, n1, fun j hj => ?_⟩
  · obtain ⟨a, b, d, e⟩ := h.laws
    refine ⟨a, b, d, ?_⟩
    rcases e with ⟨e1, e2⟩ | ⟨t, q, e1, e2, e3, e4⟩
    · exact Or.inl ⟨by rw [f2]; exact e1, e2⟩
    · have ht := isO9 q
      have g : ∀ {w : Nat} {L : Law}, LawC σ t w L → LawC τ t w L := fun {w L} hl => by
        match L, hl with
        | none, hl => 
          show τ (t + 12) w ≤ τ (t + 8) w
          rw [n2 (t + 12) (by omega) (by omega), n2 (t + 8) (by omega) (by omega)]; exact hl
        | some cs, ⟨i, l1, l2, l3, l4⟩ =>
          exact ⟨i, by rw [n2 (t + 8) (by omega) (by omega)]; exact l1, by rw [n2 (t + 12) (by omega) (by omega)]; exact l2, l3, by rw [n2 (t + 4) (by omega) (by omega)]; exact l4⟩
      exact Or.inr ⟨t, q, by rw [f2]; exact e1, g e2, g e3, g e4⟩
  · rw [n2 6 (by decide) (by omega), f2]; exact h.memo k hk
  · exact h.snap.cong (fun k _ => by rw [f3]) (fun x hx => n4 _ (by omega) (by omega))
  · obtain ⟨r, r1, r2, r3, r4⟩ := h.rows
    exact ⟨r, r1, by rw [n2 1 (by decide) (by omega)]; exact r2, by rw [n4 0 (by omega) (by decide)]; exact r3, fun x hx => by
      obtain ⟨p, mn, nums, u1, u2⟩ := r4 x hx
      exact ⟨p, mn, nums, u1.fr (fun j j1 j2 => n2 j (by omega) (by omega)) (by omega), u2.fr' (fun k k0 hk => n4 k (by omega) (by omega)) (by omega)⟩⟩
  · by_cases hj2 : j = n
    · subst hj2
      have hok := h.ok
      refine ⟨hok.1.ext (fun k hk => t3 k (by omega)), ?_, fun k hk => ?_, ?_⟩
      · rw [t3 41 (by omega)]; exact hok.2.1
      · rw [t3 (20 + k) (by omega)]; exact hok.2.2.1 k hk
      · rw [t3 40 (by omega), t3 42 (by omega)]; exact hok.2.2.2
    · rw [t4 (60 + j) (by omega) (by omega)]; exact h.oks j hj
