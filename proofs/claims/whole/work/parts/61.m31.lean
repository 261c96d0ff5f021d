-- `soothe`, `turn` on both sides
theorem set_now {σ μ : Mm} {G O M : Law} {B R : Int} (h : Now σ μ G O M B R) {k : Nat} {v : Int} (hk : k < 43) (hok : SnapOK (st2 σ 3 k v 3) B) : Now (st2 σ 3 k v) (st2 μ 201 (140 + k) v) G O M B R ∧ FrC σ (st2 σ 3 k v) ∧ FrM μ (st2 μ 201 (140 + k) v) := by
  have f1 : Fr [3] σ (st2 σ 3 k v) := Fr.rf.st (by decide)
  have f2 : Fr [201] μ (st2 μ 201 (140 + k) v) := Fr.rf.st (by decide)
  have v1 : ∀ j, st2 σ 3 k v 3 j = if j = k then v else σ 3 j := fun j => by simp only [st2_f, reduceIte]
  have v2 : ∀ j, st2 μ 201 (140 + k) v 201 j = if j = 140 + k then v else μ 201 j := fun j => by simp only [st2_f, reduceIte]
  refine ⟨⟨h.laws.fr f1 (by rw [f1 2 (by decide)]) (by decide), h.lawsM.fr f2 (by rw [v2, if_neg (by omega)]) (by decide), fun j hj => ?_, ?_, ?_, hok, ?_, ?_, fun j hj => ?_⟩, ⟨fun i i1 i2 i3 => f1 i (by simp; omega), by rw [f1 2 (by decide)]⟩, fun i i1 i2 i3 => f2 i (by simp; omega), fun s a b c d e => by rw [f2 200 (by decide)], fun j j1 j2 => by rw [v2, if_neg (by omega)]⟩
  · rw [f1 6 (by decide), f1 2 (by decide)]; exact h.memo j hj
  · rw [f1 2 (by decide)]; exact h.round
  · obtain ⟨s1, w, b, s2, s3⟩ := h.snap
    refine ⟨fun j hj => ?_, w, b, s2.cong (fun j j1 _ => by rw [v1, if_neg (by omega)]), s3.cong (fun x x1 _ => by rw [v2, if_neg (by omega)])⟩
    rw [v1, v2]
    by_cases e : j = k
    · rw [if_pos e, if_pos (by omega)]
    · rw [if_neg e, if_neg (by omega)]; exact s1 j hj
  · obtain ⟨r, r1, r2, r3, r4⟩ := h.rows
    exact ⟨r, r1, by rw [f1 1 (by decide)]; exact r2, by rw [v2, if_neg (by omega)]; exact r3, r4.fr r1 (fun j j1 _ => f1 j (by simp; omega)) (fun j hj => by rw [v2, if_neg (by omega)])⟩
  · exact h.steps.fr (fun i i1 _ => f1 i (by simp; omega)) (fun j hj => by rw [v2, if_neg (by omega)])
  · rw [f1 (60 + j) (by simp; omega)]; exact h.oks j hj
theorem fig_A (x : Int) : F_A_isFigure x = some (if 0 ≤ x ∧ x < 10 then 1 else 0) := by
  unfold F_A_isFigure
  by_cases a : x < 0
  · rw [if_pos a, if_neg (by omega)]
  · rw [if_neg a]
    by_cases b : 10 ≤ x
    · rw [if_pos b, if_neg (by omega)]
    · rw [if_neg b, if_pos (by omega)]
theorem in_9 (x : Int) : F_M_in x 0 9 = some (if 0 ≤ x ∧ x < 10 then 1 else 0) := by
  unfold F_M_in
  by_cases a : x < 0
  · rw [if_pos a, if_neg (by omega)]
  · rw [if_neg a]
    by_cases b : 9 < x
    · rw [if_pos b, if_neg (by omega)]
    · rw [if_neg b, if_pos (by omega)]
theorem fig_M (x : Int) : F_M_isFigure x = some (if 0 ≤ x ∧ x < 10 then 1 else 0) := by
  unfold F_M_isFigure
  rw [in_9, b1_some]
theorem keep_frs {σ τ μ ν : Mm} (k1 : ∀ i, i ≠ 58 → ¬ (60 ≤ i ∧ i < 90) → τ i = σ i) (k2 : Fr [201] μ ν) (k3 : ∀ k, k < 320 → k ≠ 3 → ν 201 k = μ 201 k) : FrC σ τ ∧ FrM μ ν :=
  ⟨⟨fun i i1 i2 i3 => k1 i i2 i3, by rw [k1 2 (by decide) (by omega)]⟩, fun i i1 i2 i3 => k2 i (by simp; omega), fun s a b c d e => by rw [k2 200 (by decide)], fun k h1 h2 => k3 k (by omega) h2⟩
theorem soothe_rel {σ μ : Mm} {G O M : Law} {B R : Int} (h : Now σ μ G O M B R) (x y : Int) : Ok (F_A_soothe x y σ) (fun a => Ok (F_M_soothe x y μ) (fun b => b.1 = a.1 ∧ Now a.2 b.2 G O M B R ∧ FrC σ a.2 ∧ FrM μ b.2)) := by
  unfold F_A_soothe F_M_soothe
  rw [fig_A, fig_A, fig_M, in_9]
  simp only [b1_some]
  have nop : ∀ v : Int, Ok (some (v, σ)) (fun a => Ok (some (v, μ)) (fun b => b.1 = a.1 ∧ Now a.2 b.2 G O M B R ∧ FrC σ a.2 ∧ FrM μ b.2)) := fun v => Ok.ret (Ok.ret ⟨rfl, h, FrC.rf, FrM.rf⟩)
  by_cases hx : 0 ≤ x ∧ x < 10
  · rw [if_pos hx, if_neg (show ¬ (1 : Int) = 0 by decide), if_neg (show ¬ (1 : Int) = 0 by decide)]
    by_cases hy : 0 ≤ y ∧ y < 10
    · rw [if_pos hy, if_neg (show ¬ (1 : Int) = 0 by decide), if_neg (show ¬ (1 : Int) = 0 by decide)]
      obtain ⟨k, rfl⟩ := Int.eq_ofNat_of_zero_le hx.1
      have t0 : ((0 : Int) + (k : Int)).toNat = k := by omega
      have t1 : ((140 : Int) + (k : Int)).toNat = 140 + k := by omega
      have c1 : (0 : Int) ≤ 0 + (k : Int) ∧ (0 : Int) + (k : Int) < 165 := by omega
      have c2 : (0 : Int) ≤ 140 + (k : Int) ∧ (140 : Int) + (k : Int) < 5240 := by omega
      simp only [t0, t1, if_pos c1, if_pos c2]
      rw [← h.snap.1 k (by omega)]
      by_cases he : σ 3 k = y
      · rw [if_pos he, if_pos he]; exact nop 0
      · rw [if_neg he, if_neg he]
        obtain ⟨τ, E1, hk⟩ := keep_now h
        obtain ⟨ν, E2, hN, k1, k2, k3⟩ := hk
        rw [E1, E2, b0M_some, b0M_some, bindM_eq, bindM_eq]
        have hok := hN.ok
        have v1 : ∀ j, st2 τ 3 k y 3 j = if j = k then y else τ 3 j := fun j => by simp only [st2_f, reduceIte]
        have hs := set_now hN (k := k) (v := y) (by omega) ⟨⟨fun j hj => ?_, fun j hj => ?_, fun j hj => ?_, fun j hj => ?_, ?_⟩, ?_, fun j hj => ?_, ?_⟩
        · have fr := keep_frs k1 k2 k3
          exact Ok.ret (Ok.ret ⟨rfl, hs.1, fr.1.tr hs.2.1, fr.2.tr hs.2.2⟩)
        · rw [v1]
          split
          · omega
          · exact hok.1.1 j hj
        · rw [v1, if_neg (by omega)]; exact hok.1.2.1 j hj
        · rw [v1, if_neg (by omega)]; exact hok.1.2.2.1 j hj
        · rw [v1, if_neg (by omega)]; exact hok.1.2.2.2.1 j hj
        · rw [v1, if_neg (by omega)]; exact hok.1.2.2.2.2
        · rw [v1, if_neg (by omega)]; exact hok.2.1
        · rw [v1, if_neg (by omega)]; exact hok.2.2.1 j hj
        · rw [v1, if_neg (by omega), v1, if_neg (by omega)]; exact hok.2.2.2
    · rw [if_neg hy, if_pos rfl, if_pos rfl]; exact nop 0
  · rw [if_neg hx, if_pos rfl, if_pos rfl]; exact nop 0
