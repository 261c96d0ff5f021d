-- a row's clause; what was told; how a clause begins
theorem row_read {s u : Mm} {T n e c K Om : Nat} (q : IsO 0 9 T) (h : Ic s u T n e c K Om) (f0 : s (T + 16) (6 * K) = 3) (fm : ∀ j, 1 ≤ j → j < 6 → s (T + 16) (6 * K + j) = -1) (w3 : u 216 K = 3) :
    (∃ t v e2, F_R_readRow s = some t ∧ (b0M (F_M_rowTold u) fun x => rEnd x) = some v ∧ SucR s t u v T n K Om e2 c) ∨ (∃ t v, F_R_readRow s = some t ∧ (b0M (F_M_rowTold u) fun x => rEnd x) = some v ∧ ErrT s t u v T) := by
  have hq := isO9 q
  have hT := hq.1
  obtain ⟨tok, z, ⟨h15, h5, hK⟩, ⟨m29, m25, m36, hOm⟩, pg⟩ := h
  have ks := pmin_k tok.2.2.2
  -- what both do from the first NUMBER on
  have main : ∀ (l e1 c1 : Nat) (s1 u1 : Mm), l ≤ 1 → c ≤ c1 → Rw s u s1 u1 T n e1 c1 K 0 →
      (∃ t v e2, (b1MS (L_R_readRow_19 LF (l : Int) 0 s1) (fun y => some y) fun x1_10 s10 => if 0 ≤ s10 90 15 ∧ IsO 0 9 (s10 90 15).toNat then b0M (F_T_put ((s10 90 15).toNat) 5 x1_10 s10) fun s12 => b1M (F_R_takeToken 59 s12) fun v13 s13 => some s13 else none) = some t ∧ (b0M (b2M (L_M_rowTold_23 LF 0 0 1 (l : Int) u1) fun x1_17 x2_17 s17 => dJ x1_17 x2_17 s17) fun x => rEnd x) = some v ∧ SucR s t u v T n K Om e2 c)
      ∨ (∃ t v, (b1MS (L_R_readRow_19 LF (l : Int) 0 s1) (fun y => some y) fun x1_10 s10 => if 0 ≤ s10 90 15 ∧ IsO 0 9 (s10 90 15).toNat then b0M (F_T_put ((s10 90 15).toNat) 5 x1_10 s10) fun s12 => b1M (F_R_takeToken 59 s12) fun v13 s13 => some s13 else none) = some t ∧ (b0M (b2M (L_M_rowTold_23 LF 0 0 1 (l : Int) u1) fun x1_17 x2_17 s17 => dJ x1_17 x2_17 s17) fun x => rEnd x) = some v ∧ ErrT s t u v T) := fun l e1 c1 s1 u1 hl hc1 R => by
    have el : ((0 + l * 2 ^ 0 : Nat) : Int) = (l : Int) := by rw [Nat.zero_add, Nat.pow_zero, Nat.mul_one]
    rcases rowL_ok q z h15 h5 hK m29 4 LF LF 0 0 l e1 c1 s1 u1 rfl (by unfold LF; omega) (by unfold LF; omega) (by decide) hl R with ⟨t1, v1, e2, c2, p, mn, E1, E2, R1, hc2, p1, p4, hmn⟩ | ⟨t1, v1, a, b, E1, E2, F1, F2, F3, F4⟩
    · rw [el] at E1
      have E1 : L_R_readRow_19 LF (l : Int) 0 s1 = some (.inr (((mn : Nat) : Int), t1)) := E1
      have E2 : L_M_rowTold_23 LF 0 0 1 (l : Int) u1 = some (((p : Nat) : Int), ((mn : Nat) : Int), v1) := E2
      obtain ⟨tok1, pg1, ⟨a1, a2, a3⟩, ⟨b1, b2, b3⟩, g1, g2⟩ := R1
      have t15 : t1 90 15 = (T : Int) := by rw [a2 15 (by omega)]; exact h15
      have t5 : t1 T 5 = ((K + 1 : Nat) : Int) := by rw [a1 T (by omega) (by omega)]; exact h5
      have P := put_raw (p := 5) (v := ((mn : Nat) : Int)) t5 (by decide) hK
      have P : F_T_put T 5 ((mn : Nat) : Int) t1 = some (st2 t1 (T + 16) (6 * K + 5) ((mn : Nat) : Int)) := P
      have v29 : v1 200 29 = (K : Int) := by rw [b2 29 (by omega)]; exact m29
      have D := dJ_ok (one := ((p : Nat) : Int)) (two := ((mn : Nat) : Int)) v29 hK
      have eC : (b1MS (L_R_readRow_19 LF (l : Int) 0 s1) (fun y => some y) fun x1_10 s10 => if 0 ≤ s10 90 15 ∧ IsO 0 9 (s10 90 15).toNat then b0M (F_T_put ((s10 90 15).toNat) 5 x1_10 s10) fun s12 => b1M (F_R_takeToken 59 s12) fun v13 s13 => some s13 else none) = b1M (F_R_takeToken 59 (st2 t1 (T + 16) (6 * K + 5) ((mn : Nat) : Int))) fun v13 s13 => some s13 := by
        rw [E1, b1MS_r, t15, if_pos (show 0 ≤ (T : Int) ∧ IsO 0 9 (T : Int).toNat from ⟨by omega, q⟩), Int.toNat_natCast, P, b0M_some]
      have eM : (b0M (b2M (L_M_rowTold_23 LF 0 0 1 (l : Int) u1) fun x1_17 x2_17 s17 => dJ x1_17 x2_17 s17) fun x => rEnd x) = rEnd (st2 (st2 v1 218 K ((p : Nat) : Int)) 219 K ((mn : Nat) : Int)) := by
        rw [E2]
        show (b0M (dJ ((p : Nat) : Int) ((mn : Nat) : Int) v1) fun x => rEnd x) = _
        rw [D, b0M_some]
      have z0 : ∀ k, st2 (st2 v1 218 K ((p : Nat) : Int)) 219 K ((mn : Nat) : Int) 200 k = v1 200 k := fun k => by rw [st2_ne (by decide), st2_ne (by decide)]
      have t90 : st2 t1 (T + 16) (6 * K + 5) ((mn : Nat) : Int) 90 = t1 90 := st2_ne (by omega)
      have tok2 : TokR (st2 t1 (T + 16) (6 * K + 5) ((mn : Nat) : Int)) (st2 (st2 v1 218 K ((p : Nat) : Int)) 219 K ((mn : Nat) : Int)) n e2 := tok1.mv (fun _ _ => by rw [t90]) (st2_ne (by omega)) (fun k _ _ => z0 k) (by rw [st2_ne (by decide), st2_ne (by decide)])
      have cl : ClR (fun j => st2 t1 (T + 16) (6 * K + 5) ((mn : Nat) : Int) (T + 16) (6 * K + j)) (u 216 K) ((p : Nat) : Int) ((mn : Nat) : Int) (fun i => st2 (st2 v1 218 K ((p : Nat) : Int)) 219 K ((mn : Nat) : Int) 220 (4 * K + i)) := by
        refine Or.inr (Or.inl ⟨?_, w3, p, p1, p4, rfl, ?_, by omega, ?_, fun i hi => ?_, fun i h1 h2 => ?_⟩)
        · show st2 t1 (T + 16) (6 * K + 5) ((mn : Nat) : Int) (T + 16) (6 * K + 0) = 3
          rw [st2_sk, if_neg (by omega), a3 _ (by omega)]; exact f0
        · exact (st2_ss _ _ _ _).symm
        · rcases (show p = 1 ∨ p = 2 ∨ p = 3 ∨ p = 4 by omega) with rfl | rfl | rfl | rfl <;> omega
        · show st2 t1 (T + 16) (6 * K + 5) ((mn : Nat) : Int) (T + 16) (6 * K + (1 + i)) = st2 (st2 v1 218 K ((p : Nat) : Int)) 219 K ((mn : Nat) : Int) 220 (4 * K + i) ∧ 0 ≤ st2 (st2 v1 218 K ((p : Nat) : Int)) 219 K ((mn : Nat) : Int) 220 (4 * K + i) ∧ st2 (st2 v1 218 K ((p : Nat) : Int)) 219 K ((mn : Nat) : Int) 220 (4 * K + i) ≤ 9999
          rw [st2_sk, if_neg (by omega), st2_ne (by decide), st2_ne (by decide)]; exact g1 i hi
        · show st2 t1 (T + 16) (6 * K + 5) ((mn : Nat) : Int) (T + 16) (6 * K + (1 + i)) = -1
          rw [st2_sk, if_neg (by omega)]; exact g2 i h1 (by omega)
      rcases close_ok (s := s) (u := u) (c := c) hT tok2 ⟨by rw [t90, a2 3 (by omega)]; exact z.1, by rw [z0, b2 19 (by omega)]; exact z.2⟩ (show Pg _ e2 c by have := pg1.w (show c ≤ c2 by omega); unfold Pg at *; rw [t90]; exact this) (by rw [z0, b2 25 (by omega)]; exact m25) (by rw [z0, b2 36 (by omega)]; exact m36) hOm (by rw [z0]; exact v29) hK (fun i h1 h2 => by rw [st2_ne h2]; exact a1 i h1 h2) (fun k hk => by rw [t90]; exact a2 k hk) (fun k hk => by rw [st2_sk, if_neg (by omega)]; exact a3 k (by omega)) (fun i h1 h2 => by rw [st2_ne (by omega), st2_ne (by omega)]; exact b1 i h1 (by omega)) (fun k hk => by rw [z0]; exact b2 k hk) (fun k hk => ⟨by rw [st2_ne (by decide), st2_sk, if_neg (by omega), b1 218 (by decide) (by decide)], by rw [st2_sk, if_neg (by omega), st2_ne (by decide), b1 219 (by decide) (by decide)]⟩) (fun k hk => by rw [st2_ne (by decide), st2_ne (by decide)]; exact b3 k hk) (by rw [st2_ne (by decide), st2_ss]) (st2_ss _ _ _ _) cl with ⟨t, v, e3, G1, G2, SR⟩ | ⟨t, v, G1, G2, ER⟩
      · exact Or.inl ⟨t, v, e3, by rw [eC, G1, b1M_some], by rw [eM, G2], SR⟩
      · exact Or.inr ⟨t, v, by rw [eC, G1, b1M_some], by rw [eM, G2], ER⟩
    · right
      rw [el] at E1
      have E1 : L_R_readRow_19 LF (l : Int) 0 s1 = some (.inl t1) := E1
      have E2 : L_M_rowTold_23 LF 0 0 1 (l : Int) u1 = some (a, b, v1) := E2
      have D := dJ_ok (one := a) (two := b) F4 hK
      have F5 := (F1.put (j := 218) (k := K) (x := a) (by decide)).put (j := 219) (k := K) (x := b) (by decide)
      refine ⟨t1, st2 (st2 v1 218 K a) 219 K b, by rw [E1, b1MS_l], ?_, F5, F2, (F3.pA (by omega)).pA (by omega)⟩
      rw [E2]
      show (b0M (dJ a b v1) fun x => rEnd x) = _
      rw [D, b0M_some, rEnd_bad (by have := F5.1; omega)]
  unfold F_R_readRow F_M_rowTold
  rw [bindM_eq, isS, b1_some, bindM_eq]
  by_cases c45 : s 90 7 = 45
  · obtain ⟨e2, s1, u1, E1, E2, tok1, s2, s3, p1, p2⟩ := tok.step
    rw [if_pos c45, E1, b0M_some, if_pos (ks.2.mp c45), if_neg ne10, E2, b0M_some]
    have t16 : s1 (T + 16) = s (T + 16) := s2.2 (T + 16) (by simp; omega)
    exact main 1 e2 (c + 1) s1 u1 (Nat.le_refl _) (by omega) ⟨tok1, pg.go (by omega) p1 p2, ⟨fun j h1 _ => s2.2 j (by simpa using h1), fun k hk => s2.1 k hk, fun k _ => by rw [t16]⟩, ⟨fun j h1 _ => s3.2 j (by simpa using h1), fun k hk => s3.1 k hk, fun k _ => by rw [s3.2 220 (by decide)]⟩, fun j hj => by omega, fun j _ hj => by rw [t16]; exact fm _ (by omega) (by omega)⟩
  · rw [if_neg c45, if_neg (fun zz => c45 (ks.2.mpr zz)), if_pos rfl]
    exact main 0 e c s u (by omega) (Nat.le_refl _) ⟨tok, pg, ⟨fun _ _ _ => rfl, fun _ _ => rfl, fun _ _ => rfl⟩, ⟨fun _ _ _ => rfl, fun _ _ => rfl, fun _ _ => rfl⟩, fun j hj => by omega, fun j _ hj => fm _ (by omega) (by omega)⟩
/-- laws told so far -/
def LwX (s : Mm) (T w S : Nat) (L : Law) : Prop := match L with
  | none => s (T + 12) w ≤ s (T + 8) w
  | some cs => ∃ i : Nat, s (T + 8) w = (i : Int) ∧ s (T + 12) w = ((i + cs.length : Nat) : Int) ∧ i + cs.length ≤ S ∧ CodeAt (s (T + 4)) i cs
def LwY (u : Mm) (w K Om : Nat) (L : Law) : Prop := match L with
  | none => ∀ k, k < K → ¬ u 216 k = (w : Int)
  | some cs => ∃ i : Nat, (∃ k, k < K ∧ u 216 k = (w : Int)) ∧ (∀ k, k < K → u 216 k = (w : Int) → u 217 k = (i : Int)) ∧ MCode (u 221) (u 222) i cs ∧ i + cs.length < Om
theorem LwX.c {s : Mm} {T w S : Nat} {L : Law} (h : LwX s T w S L) (hS : S ≤ 300) : LawC s T w L := by
  match L, h with
  | none, h => exact h
  | some cs, ⟨i, h1, h2, h3, h4⟩ => exact ⟨i, h1, h2, by omega, h4⟩
theorem wt1 {u : Mm} {K w : Nat} (hK : K ≤ 24) (h29 : u 200 29 = (K : Int)) : ∀ (d N k : Nat), k + d = K → d < N → L_M_wasTold_4 N (w : Int) 1 (k : Int) u = some 1 := by
  intro d
  induction d with
  | zero =>
    intro N k hk hN
    obtain ⟨m, rfl⟩ : ∃ m, N = m + 1 := ⟨N - 1, by omega⟩
    rw [L_M_wasTold_4, h29, if_pos (by omega)]
  | succ d ih =>
    intro N k hk hN
    obtain ⟨m, rfl⟩ : ∃ m, N = m + 1 := ⟨N - 1, by omega⟩
    have e : (k : Int) + 1 = ((k + 1 : Nat) : Int) := by omega
    have I := ih m (k + 1) (by omega) (by omega)
    rw [L_M_wasTold_4, h29, if_neg (by omega), bindM_eq, bindM_eq, if_neg ne10, e]
    dsimp only
    rw [if_pos (r32_nat (by omega)), I]
theorem wt_ok {u : Mm} {K w : Nat} (hK : K ≤ 24) (h29 : u 200 29 = (K : Int)) : ∀ (d N k : Nat), k + d = K → d < N → ((∀ j, k ≤ j → j < K → ¬ u 216 j = (w : Int)) → L_M_wasTold_4 N (w : Int) 0 (k : Int) u = some 0) ∧ ((∃ j, k ≤ j ∧ j < K ∧ u 216 j = (w : Int)) → L_M_wasTold_4 N (w : Int) 0 (k : Int) u = some 1) := by
  intro d
  induction d with
  | zero =>
    intro N k hk hN
    obtain ⟨m, rfl⟩ : ∃ m, N = m + 1 := ⟨N - 1, by omega⟩
    rw [L_M_wasTold_4, h29, if_pos (by omega)]
    exact ⟨fun _ => rfl, fun ⟨j, a, b, _⟩ => by omega⟩
  | succ d ih =>
    intro N k hk hN
    obtain ⟨m, rfl⟩ : ∃ m, N = m + 1 := ⟨N - 1, by omega⟩
    have e : (k : Int) + 1 = ((k + 1 : Nat) : Int) := by omega
    obtain ⟨I1, I2⟩ := ih m (k + 1) (by omega) (by omega)
    have W := wt1 (w := w) hK h29 d m (k + 1) (by omega) (by omega)
    have st : L_M_wasTold_4 (m + 1) (w : Int) 0 (k : Int) u = if u 216 k = (w : Int) then L_M_wasTold_4 m (w : Int) 1 ((k + 1 : Nat) : Int) u else L_M_wasTold_4 m (w : Int) 0 ((k + 1 : Nat) : Int) u := by
      rw [L_M_wasTold_4, h29, if_neg (by omega), bindM_eq, bindM_eq, if_pos (show (0 : Int) = 0 from rfl), if_pos (show 0 ≤ (k : Int) ∧ (k : Int) < 24 by omega), Int.toNat_natCast, e]
      dsimp only
      rw [if_pos (r32_nat (by omega)), if_pos (r32_nat (by omega))]
    rw [st]
    by_cases c : u 216 k = (w : Int)
    · rw [if_pos c]
      exact ⟨fun h => absurd c (h k (Nat.le_refl _) (by omega)), fun _ => W⟩
    · rw [if_neg c]
      refine ⟨fun h => I1 (fun j a b => h j (by omega) b), fun ⟨j, a, b, d⟩ => I2 ⟨j, ?_, b, d⟩⟩
      by_cases cj : j = k
      · rw [cj] at d; exact absurd d c
      · omega
theorem told_ok {u : Mm} {K w Om : Nat} {L : Law} (hK : K ≤ 24) (h29 : u 200 29 = (K : Int)) (h : LwY u w K Om L) : F_M_wasTold (w : Int) u = some (if L = none then 0 else 1) := by
  obtain ⟨a, b⟩ := wt_ok (w := w) hK h29 K LF 0 (by omega) (by unfold LF; omega)
  unfold F_M_wasTold
  match L, h with
  | none, h =>
    have := a (fun j _ hj => h j hj)
    have this : L_M_wasTold_4 LF (w : Int) 0 0 u = some 0 := this
    rw [this, b1_some, if_pos (Or.inl rfl), if_pos rfl]
  | some cs, ⟨i, ⟨k, k1, k2⟩, _⟩ =>
    have := b ⟨k, Nat.zero_le _, k1, k2⟩
    have this : L_M_wasTold_4 LF (w : Int) 0 0 u = some 1 := this
    rw [this, b1_some, if_pos (Or.inr rfl), if_neg (by simp)]
