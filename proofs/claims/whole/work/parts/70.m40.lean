-- `row` on both sides, put together
theorem b0S_r {R α : Type} {g : R → Option α} {f : Option α} : b0S (some (Sum.inr () : R ⊕ Unit)) g f = f := rfl
theorem b0S_l {R α : Type} {y : R} {g : R → Option α} {f : Option α} : b0S (some (Sum.inl y : R ⊕ Unit)) g f = g y := rfl
theorem Rel.askM {σ μ ν : Mm} {B R : Int} (h : Rel σ μ B R) (hm : QM μ ν) : Rel σ ν B R := by
  obtain ⟨G, O, M, h1, h2⟩ := h
  exact Rel.ask ⟨G, O, M, h1, h2⟩ QC.rf hm h1.memo h1.round
theorem args_un {xs : Nat → Int} {m : Int} {p q : Nat} (h : Args xs m p) (h1 : q ≤ 4) (h2 : ∀ k, k < q → ¬ xs k = -1) (h3 : q < 4 → xs q = -1) : q = p := by
  obtain ⟨a1, a2, a3, a4, a5, a6⟩ := h
  by_cases c1 : q < p
  · have e1 := h3 (by omega)
    have e2 := a3 q c1
    rw [e1] at e2
    exact absurd e2 (by decide)
  · by_cases c2 : p < q
    · exact absurd (a4 p (Nat.le_refl _) (by omega)) (h2 p c2)
    · omega
theorem ishlq {q : Nat} (h1 : 1 ≤ q) (h2 : q ≤ 4) : ishl 1 (q : Int) = 2 ^ q := by
  obtain ⟨s1, s2, s3, s4⟩ := ishl1
  have : q = 1 ∨ q = 2 ∨ q = 3 ∨ q = 4 := by omega
  rcases this with rfl | rfl | rfl | rfl
  · exact s1
  · exact s2
  · exact s3
  · exact s4
theorem pow2_le {q : Nat} (h1 : 1 ≤ q) (h2 : q ≤ 4) : (2 : Int) ≤ 2 ^ q ∧ (2 : Int) ^ q ≤ 16 := by
  have : q = 1 ∨ q = 2 ∨ q = 3 ∨ q = 4 := by omega
  rcases this with rfl | rfl | rfl | rfl <;> decide
/-- what the reference's row comes to ahead of `addsRow` -/
theorem row_M (μ : Mm) (a b c d m : Int) : (∃ p s, Args (xs4 a b c d) m p ∧ F_M_row a b c d m μ = b1M (F_M_addsRow s) (fun v19 s19 => some (v19, s19)) ∧ (∀ k, k < 4 → s 229 k = xs4 a b c d k) ∧ s 200 48 = (p : Int) ∧ s 200 49 = m ∧ Fr [200, 229] μ s ∧ ∀ i, i ≠ 48 → i ≠ 49 → s 200 i = μ 200 i)
    ∨ ((¬ ∃ p, Args (xs4 a b c d) m p) ∧ ∃ s, F_M_row a b c d m μ = some (-1, s) ∧ Fr [200, 229] μ s ∧ ∀ i, i ≠ 48 → i ≠ 49 → s 200 i = μ 200 i) := by
  unfold F_M_row
  simp only [bindM_eq]
  have hx : ∀ s6, s6 = st2 (st2 (st2 (st2 (st2 μ 229 0 a) 229 1 b) 229 2 c) 229 3 d) 200 48 0 → (∀ k, k < 4 → s6 229 k = xs4 a b c d k) ∧ s6 200 48 = ((0 : Nat) : Int) ∧ Fr [200, 229] μ s6 ∧ ∀ i, i ≠ 48 → i ≠ 49 → s6 200 i = μ 200 i := fun s6 hs => by
    subst hs
    refine ⟨fun k hk => ?_, ?_, ((((Fr.rf.st (by decide)).st (by decide)).st (by decide)).st (by decide)).st (by decide), fun i h1 h2 => ?_⟩
    · have : k = 0 ∨ k = 1 ∨ k = 2 ∨ k = 3 := by omega
      rcases this with rfl | rfl | rfl | rfl <;> simp [st2_f, xs4]
    · simp [st2_f]
    · simp [st2_f, h1]
  generalize st2 (st2 (st2 (st2 (st2 μ 229 0 a) 229 1 b) 229 2 c) 229 3 d) 200 48 0 = s6 at hx
  obtain ⟨x1, x2, x3, x4⟩ := hx s6 rfl
  obtain ⟨s, E1, q, q1, q2, q3, q4, q5, q6, q7⟩ := row34 4 LF 0 s6 (by omega) (by unfold LF; omega) x2
  rw [E1, b0M_some]
  have f1 : Fr [200, 229] μ s := x3.tr (q6.w (by simp))
  have f2 : ∀ i, i ≠ 48 → i ≠ 49 → s 200 i = μ 200 i := fun i h1 h2 => (q7 i h1).trans (x4 i h1 h2)
  have f3 : ∀ k, k < 4 → s 229 k = xs4 a b c d k := fun k hk => by rw [q6 229 (by decide)]; exact x1 k hk
  have q3' : ∀ k, k < q → ¬ xs4 a b c d k = -1 := fun k hk => by rw [← x1 k (by omega)]; exact q3 k (by omega) hk
  have q4' : q < 4 → xs4 a b c d q = -1 := fun hq => by rw [← x1 q hq]; exact q4 hq
  rcases row71 (σ := s) (q := q) q5 4 LF 0 (by omega) (by unfold LF; omega) with ⟨E2, hg⟩ | ⟨E2, j, j1, j2, j3⟩
  · rw [show ((0 : Nat) : Int) = 0 from rfl] at E2
    rw [E2, b0S_r, q5]
    by_cases q0 : q = 0
    · subst q0
      rw [if_pos (by rfl)]
      refine Or.inr ⟨fun ⟨p, hp⟩ => ?_, s, rfl, f1, f2⟩
      have := args_un hp (by omega) (fun k hk => by omega) q4'
      have := hp.1
      omega
    · have hq1 : 1 ≤ q := by omega
      have hpw := pow2_le hq1 q2
      rw [if_neg (by omega), ishlq hq1 q2, if_pos (show r32 ((2 : Int) ^ q - 1) from ⟨by omega, by omega⟩), in_ok, b1_some]
      by_cases hm : 0 ≤ m ∧ m ≤ 2 ^ q - 1
      · rw [if_pos hm, if_neg (by decide)]
        refine Or.inl ⟨q, st2 s 200 49 m, ⟨hq1, q2, fun j hj => ?_, fun j h1 h2 => ?_, hm.1, by omega⟩, rfl, fun k hk => ?_, ?_, ?_, f1.st (by decide), fun i h1 h2 => ?_⟩
        · have := hg j (by omega) (by omega)
          unfold Good at this
          rw [if_pos hj, f3 j (by omega)] at this; exact this
        · have := hg j (by omega) (by omega)
          unfold Good at this
          rw [if_neg (by omega), f3 j (by omega)] at this; exact this
        · rw [st2_ne (by decide)]; exact f3 k hk
        · rw [st2_sk, if_neg (by decide)]; exact q5
        · rw [st2_ss]
        · rw [st2_sk, if_neg h2]; exact f2 i h1 h2
      · rw [if_neg hm, if_pos rfl]
        refine Or.inr ⟨fun ⟨p, hp⟩ => ?_, s, rfl, f1, f2⟩
        have e := args_un hp q2 q3' q4'
        subst e
        have := hp.2.2.2.2
        omega
  · rw [show ((0 : Nat) : Int) = 0 from rfl] at E2
    rw [E2, b0S_l]
    refine Or.inr ⟨fun ⟨p, hp⟩ => ?_, s, rfl, f1, f2⟩
    have e := args_un hp q2 q3' q4'
    subst e
    apply j3
    unfold Good
    rw [f3 j j2]
    by_cases hj : j < q
    · rw [if_pos hj]; exact hp.2.2.1 j hj
    · rw [if_neg hj]; exact hp.2.2.2.1 j (by omega) j2
/-- the class tells the row -/
theorem puts_ok {σ : Mm} {r p : Nat} {m : Int} {a b c d : Int} (hr : r < 12) (hA : Args (xs4 a b c d) m p) (hf : RowP σ (10 + r) 0 m (fun k => if k < p then xs4 a b c d k else 0)) {α : Type} {P : α → Prop} {f : Mm → Option α}
    (k : ∀ τ, RowC τ r p m (fun k => if k < p then xs4 a b c d k else 0) → Fr [10 + r, 22 + r, 34 + r, 46 + r] σ τ → Ok (f τ) P) :
    Ok (bindM ((if iand m 1 = 0 then 0 else 1 : Int)) fun v4 => b0M (F_W_put (10 + r) a v4 σ) fun s5 => bindM ((if iand m 2 = 0 then 0 else 1 : Int)) fun v6 => b0M (F_W_put (10 + r) b v6 s5) fun s7 => bindM ((if iand m 4 = 0 then 0 else 1 : Int)) fun v8 => b0M (F_W_put (10 + r) c v8 s7) fun s9 => bindM ((if iand m 8 = 0 then 0 else 1 : Int)) fun v10 => b0M (F_W_put (10 + r) d v10 s9) fun s11 => f s11) P := by
  have hp4 := hA.2.1
  have hpw := pow2_le hA.1 hA.2.1
  have hm : 0 ≤ m ∧ m < 16 := by have := hA.2.2.2.2; omega
  have hρ : 10 ≤ 10 + r ∧ 10 + r ≤ 21 := by omega
  have hn : ∀ k, k < p → NN ((fun k => if k < p then xs4 a b c d k else 0) k) := fun k hk => by simp only [if_pos hk]; exact hA.2.2.1 k hk
  have hx : ∀ j, j < 4 → xs4 a b c d j = if j < p then (fun k => if k < p then xs4 a b c d k else 0) j else -1 := fun j hj => by
    by_cases h : j < p
    · simp only [if_pos h]
    · rw [if_neg h]; exact hA.2.2.2.1 j (by omega) hj
  refine Ok.bM (Ok.b0M (put_ok (c := 0) (p := p) (mn := m) hρ (by omega) hp4 hm hn (hx 0 (by omega)) (by simpa using hf)) (fun s1 h1 => ?_))
  refine Ok.bM (Ok.b0M (put_ok (c := 1) (p := p) (mn := m) hρ (by omega) hp4 hm hn (hx 1 (by omega)) h1.1) (fun s2 h2 => ?_))
  refine Ok.bM (Ok.b0M (put_ok (c := 2) (p := p) (mn := m) hρ (by omega) hp4 hm hn (hx 2 (by omega)) h2.1) (fun s3 h3 => ?_))
  refine Ok.bM (Ok.b0M (put_ok (c := 3) (p := p) (mn := m) hρ (by omega) hp4 hm hn (hx 3 (by omega)) h3.1) (fun s4 h4 => ?_))
  have e4 : min (3 + 1) p = p := by omega
  have h5 := h4.1
  rw [e4] at h5
  obtain ⟨g3, g4, g5, g6, g12, gD⟩ := h5
  have hlen := drw_len (fun k => if k < p then xs4 a b c d k else 0) p
  have ee : 10 + r + 12 = 22 + r := by omega
  have ee2 : 10 + r + 24 = 34 + r := by omega
  have ee3 : 10 + r + 36 = 46 + r := by omega
  refine k s4 ⟨hA.1, hp4, hA.2.2.2.2.1, hA.2.2.2.2.2, g3, ?_, g6, fun k hk => ?_, hn, g4, by omega, fun q => ?_, gD, drw_ok (fun i hi => (hn i hi).1)⟩ ?_
  · rw [g5]; exact Int.emod_eq_of_lt hA.2.2.2.2.1 hA.2.2.2.2.2
  · have := g12 k hk
    rw [ee] at this; exact this
  · rw [q] at hlen; simp at hlen; have := hA.1; omega
  · have := ((h1.2.tr h2.2).tr h3.2).tr h4.2
    rw [ee, ee2, ee3] at this; exact this
theorem row_rel {σ μ : Mm} {B R : Int} (h : Rel σ μ B R) (a b c d m : Int) : Op (F_A_row a b c d m σ) (F_M_row a b c d m μ) B R := by
  obtain ⟨G, O, M, hN, hE⟩ := h
  have h : Rel σ μ B R := ⟨G, O, M, hN, hE⟩
  obtain ⟨r, r1, r2, r3, r4⟩ := hN.rows
  have qm : ∀ {s : Mm}, Fr [200, 229] μ s → (∀ i, i ≠ 48 → i ≠ 49 → s 200 i = μ 200 i) → QM μ s := fun {s} f1 f2 => QM.f0 f1 (by simp) (fun i hi => f2 i (by omega) (by omega))
  unfold Op F_A_row
  by_cases hc : 12 ≤ σ 1 4
  · rw [if_pos hc]
    refine Ok.ret ?_
    rcases row_M μ a b c d m with ⟨p, s, hA, E, w1, w2, w3, w4, w5⟩ | ⟨-, s, E, w4, w5⟩
    · rw [E]
      unfold F_M_addsRow
      rw [if_pos (by rw [w4 201 (by decide)]; omega), b1M_some]
      exact Ok.ret ⟨rfl, h.askM (qm w4 w5)⟩
    · rw [E]; exact Ok.ret ⟨rfl, h.askM (qm w4 w5)⟩
  · rw [if_neg hc]
    rcases row_M μ a b c d m with ⟨p, s, hA, E, w1, w2, w3, w4, w5⟩ | ⟨hA, s, E, w4, w5⟩
    · rcases canBe_ok a b c d m with ⟨E2, -⟩ | ⟨-, hno⟩
      · have er : (σ 1 4).toNat = r := by omega
        rw [E2, b1_some, if_neg (by decide), if_pos (by omega), er]
        unfold F_W_clear
        simp only [bindM_eq, b0M_some]
        have hcl : ∀ τ, τ = st2 (st2 (st2 (st2 σ (10 + r) 3 0) (10 + r) 4 0) (10 + r) 5 0) (10 + r) 6 0 → RowP τ (10 + r) 0 m (fun k => if k < p then xs4 a b c d k else 0) ∧ Fr [10 + r] σ τ := fun τ hτ => by
          subst hτ
          refine ⟨⟨?_, ?_, ?_, ?_, fun k hk => by omega, trivial⟩, (((Fr.rf.st (by simp)).st (by simp)).st (by simp)).st (by simp)⟩
          · simp [st2_f]
          · simp [st2_f, drw]
          · simp [st2_f]
          · simp [st2_f, trs]
        generalize st2 (st2 (st2 (st2 σ (10 + r) 3 0) (10 + r) 4 0) (10 + r) 5 0) (10 + r) 6 0 = τ0 at hcl
        obtain ⟨p0, p1⟩ := hcl τ0 rfl
        refine puts_ok (by omega) hA p0 (fun τ hC hF => ?_)
        have t14 : τ 1 4 = (r : Int) := by rw [hF 1 (by simp; omega), p1 1 (by simp; omega)]; exact r2
        rw [t14, if_pos (show r32 ((r : Int) + 1) from ⟨by omega, by omega⟩)]
        have u14 : st2 τ 1 4 ((r : Int) + 1) 1 4 = (r : Int) + 1 := st2_ss _ _ _ _
        simp only [u14]
        rw [if_pos (show r32 ((r : Int) + 1 - 1) from ⟨by omega, by omega⟩)]
        refine Ok.ret ?_
        rw [E]
        obtain ⟨⟨v, u⟩, E3, v1, v2, v3, v4, v5⟩ := adds_ok (σ := s) (r := r) (p := p) (mn := m) (by omega) hA.1 hA.2.1 hA.2.2.2.2 (by rw [w4 201 (by decide)]; exact r3) w2 w3 (fun k hk => by rw [w1 k (by have := hA.2.1; omega)]; exact hA.2.2.1 k hk)
        have v1 : v = (r : Int) := v1
        have v5 : Fr [201] s u := v5
        rw [E3, b1M_some, v1]
        have hM : RowM (u 201) r p m (fun k => if k < p then xs4 a b c d k else 0) := by
          have e : (fun k => if k < p then s 229 k else 0) = (fun k => if k < p then xs4 a b c d k else 0) := by
            funext k
            by_cases hk : k < p
            · rw [if_pos hk, if_pos hk, w1 k (by have := hA.2.1; omega)]
            · rw [if_neg hk, if_neg hk]
          rw [← e]; exact v2
        refine Ok.ret ⟨by show (r : Int) = (r : Int) + 1 - 1; omega, ?_⟩
        refine h.more (r := r) (by omega) r2 (hC.fr2 (st2_ne (by omega)) (st2_ne (by omega)) (st2_ne (by omega)) (st2_ne (by omega))) hM ?_ v3 ?_ ?_ ?_ ?_
        · show st2 τ 1 4 ((r : Int) + 1) 1 4 = _
          rw [u14]; omega
        · exact ((p1.w (by simp)).tr (hF.w (by simp))).st (by simp)
        · exact fun i h1 h2 h3 => (v5 i (by simp; omega)).trans (w4 i (by simp; omega))
        · exact fun i h1 h2 => (congrFun (v5 200 (by decide)) i).trans (w5 i h1 h2)
        · exact fun j j1 j2 j3 j4 => (v4 j j1 j2 j3 j4).trans (by rw [w4 201 (by decide)])
      · exact absurd ⟨p, hA⟩ hno
    · rcases canBe_ok a b c d m with ⟨-, hyes⟩ | ⟨E2, -⟩
      · exact absurd hyes hA
      · rw [E2, b1_some, if_pos rfl, E]
        exact Ok.ret (Ok.ret ⟨rfl, h.askM (qm w4 w5)⟩)
