-- `tells`
/-- the reference while it goes through the cases -/
def MX (μ t : Mm) (G O M : Law) (x : Int) (E : Nat → Int) : Prop := LiesAt (t 236) (mem x 10) ∧ ∃ F, MJ μ t G O M F ∧ AgX x E F
theorem mostAlike_M {μ ν : Mm} {G O M : Law} {x : Int} {E φ : Nat → Int} {r p N : Nat} {mn : Int} {nums : Nat → Int} (h : MX μ ν G O M x E) (hE : EnvOK E) (h3 : (mem x 10).length ≤ 3) (hN : N ≤ 1000) (h237 : LiesAt (ν 237) (fl φ N)) (hr : r < 12) (hR : RowM (μ 201) r p mn nums) :
    ∃ t, F_M_mostAlike (r : Int) ((fl φ N).length : Int) ((mem x 10).length : Int) ν = some (((mM φ (fun c => offL (tw G O (Ex x E c)) (drw nums p)) N : Nat) : Int), t) ∧ MX μ t G O M x E ∧ LiesAt (t 237) (fl φ N) := by
  have lN : (fl φ N).length ≤ 1000 := by rw [fl_len]; have := cntF_le (f := φ) N; omega
  obtain ⟨t, E1, t1, t2, t3⟩ := loop_inv2 (L := fun n j t => L_M_mostAlike_3 n (r : Int) ((fl φ N).length : Int) ((mem x 10).length : Int) j t) (I := fun i t => MX μ t G O M x E ∧ LiesAt (t 237) (fl φ N) ∧ ∀ j, j < i → t 238 j = trs mn nums p + offL (tw G O (Ex x E ((fl φ N).getD j 0))) (drw nums p)) (x := (fl φ N).length) (out := fun t => t)
    (fun n t _ => by
      show L_M_mostAlike_3 (n + 1) (r : Int) ((fl φ N).length : Int) ((mem x 10).length : Int) ((fl φ N).length : Int) t = _
      rw [L_M_mostAlike_3, if_pos (Int.le_refl _)]) (m := (fl φ N).length) (i := 0) (N := LF) (s := ν) (by omega) (by unfold LF; omega) ⟨h, h237, fun j hj => by omega⟩ (fun n i t _ hi ht => by
      obtain ⟨⟨l1, F, mj, ag⟩, l2, l3⟩ := ht
      have e2 : (i : Int) + 1 = ((i + 1 : Nat) : Int) := by omega
      have ei : ((i : Int)).toNat = i := by omega
      have ci : 0 ≤ (i : Int) ∧ (i : Int) < 1000 := by omega
      have dl : (fl φ N).getD i 0 < N := by
        rw [List.getD_eq_getElem?_getD, List.getElem?_eq_getElem hi]
        exact fl_lt (List.getElem_mem hi)
      have z237 : t 237 ((i : Int)).toNat = (((fl φ N).getD i 0 : Nat) : Int) := by rw [ei]; exact l2 i hi
      obtain ⟨u1, U1, m1, f1⟩ := tempers_M mj ag hE l1 h3 (c := (fl φ N).getD i 0) (by omega)
      obtain ⟨u2, U2, m2, L2, n2, f2, -⟩ := m1.row hr hR
      obtain ⟨⟨v, u3⟩, U3, v1, m3, f3, -⟩ := m2.out L2
      have v1 : v = trs mn (u2 229) p + offL (tw G O (Ex x E ((fl φ N).getD i 0))) (drw (u2 229) p) := v1
      have m3 : MJ μ u3 G O M (Ex x E ((fl φ N).getD i 0)) := m3
      have f3 : Fr SM u2 u3 := f3
      have p4 : p ≤ 4 := hR.2.1
      rw [trs_cong (f := u2 229) (g := nums) (fun i hi => n2 i (by omega)), drw_cong (f := u2 229) (g := nums) (fun i hi => n2 i (by omega))] at v1
      show ∃ t', L_M_mostAlike_3 (n + 1) (r : Int) ((fl φ N).length : Int) ((mem x 10).length : Int) (i : Int) t = L_M_mostAlike_3 n (r : Int) ((fl φ N).length : Int) ((mem x 10).length : Int) ((i + 1 : Nat) : Int) t' ∧ _
      rw [L_M_mostAlike_3, if_neg (by omega), if_pos ci, z237, U1, b0M_some, U2, b0M_some, U3, b1M_some, if_pos ci, bindM_eq, ei, e2, if_pos (r32_nat (by omega))]
      have f4 : Fr [238] u3 (st2 u3 238 i v) := Fr.rf.st (by decide)
      have same : ∀ j, j = 236 ∨ j = 237 ∨ j = 238 → u3 j = t j := fun j hj => by
        rw [f3 j (by simp; omega), f2 j (by simp; omega), f1 j (by simp; omega)]
      refine ⟨st2 u3 238 i v, rfl, ⟨by rw [f4 236 (by decide), same 236 (by omega)]; exact l1, _, m3.fr f4 (by decide) (fun s _ => by rw [f4 200 (by decide)]), AgX.ex⟩, by rw [f4 237 (by decide), same 237 (by omega)]; exact l2, fun j hj => ?_⟩
      rw [st2_sk]
      by_cases e : j = i
      · rw [if_pos e, e]; exact v1
      · rw [if_neg e, same 238 (by omega)]; exact l3 j (by omega))
  have E1 : L_M_mostAlike_3 LF (r : Int) ((fl φ N).length : Int) ((mem x 10).length : Int) 0 ν = some t := E1
  unfold F_M_mostAlike
  rw [E1, b0M_some, alike49 (a := fun c => offL (tw G O (Ex x E c)) (drw nums p)) (T := trs mn nums p) hN t3, b1_some]
  exact ⟨t, rfl, t1, t2⟩
theorem tells22 {μ ν : Mm} {G O M : Law} {x : Int} {E : Nat → Int} {S : Nat} {P : Nat → Nat} {Mn : Nat → Int} {NU : Nat → Nat → Int} {rw : Nat → Nat} {ow : Nat → Int} (h : MX μ ν G O M x E) (hE : EnvOK E) (h3 : (mem x 10).length ≤ 3) (hS : S ≤ 6) (hs : μ 201 4 = (S : Int)) (hrw : ∀ k, k < S → rw k < 12 ∧ μ 201 (82 + 2 * k) = ((rw k : Nat) : Int) ∧ μ 201 (83 + 2 * k) = ow k ∧ RowM (μ 201) (rw k) (P (rw k)) (Mn (rw k)) (NU (rw k))) :
    ∃ t, L_M_tells_22 LF ((mem x 10).length : Int) 0 0 ν = some ((((fl (fun c => fz (Xf G O (Ex x E c) P Mn NU rw ow) S) (10 ^ (mem x 10).length)).length : Nat) : Int), t) ∧ MX μ t G O M x E ∧ LiesAt (t 237) (fl (fun c => fz (Xf G O (Ex x E c) P Mn NU rw ow) S) (10 ^ (mem x 10).length)) := by
  generalize hφ : (fun c => fz (Xf G O (Ex x E c) P Mn NU rw ow) S) = φ
  have hv : ∀ c, fz (Xf G O (Ex x E c) P Mn NU rw ow) S = φ c := fun c => by rw [← hφ]
  have pw : ∀ k : Nat, k ≤ 3 → 10 ^ k ≤ 1000 := by decide
  have b0 := pw _ h3
  obtain ⟨q, E1, t1, t2, t3⟩ := loop_inv2 (L := fun n j (q : Int × Mm) => L_M_tells_22 n ((mem x 10).length : Int) q.1 j q.2) (I := fun i q => MX μ q.2 G O M x E ∧ LiesAt (q.2 237) (fl φ i) ∧ q.1 = (((fl φ i).length : Nat) : Int)) (x := 10 ^ (mem x 10).length) (out := fun q => q)
    (fun n q _ => by
      show L_M_tells_22 (n + 1) ((mem x 10).length : Int) q.1 ((10 ^ (mem x 10).length : Nat) : Int) q.2 = _
      rw [L_M_tells_22, tens_ok h3, b1_some, if_pos (Int.le_refl _)]) (m := 10 ^ (mem x 10).length) (i := 0) (N := LF) (s := ((0 : Int), ν)) (by omega) (by unfold LF; omega) ⟨h, fun i hi => by simp [fl] at hi, rfl⟩ (fun n c q _ hc hq => by
      obtain ⟨⟨l1, F, mj, ag⟩, l2, l3⟩ := hq
      have e2 : (c : Int) + 1 = ((c + 1 : Nat) : Int) := by omega
      have lt : ¬ ((10 ^ (mem x 10).length : Nat) : Int) ≤ (c : Int) := by
        intro q
        have := Int.ofNat_le.mp q
        omega
      have le : (fl φ c).length ≤ c := by rw [fl_len]; exact cntF_le c
      obtain ⟨u1, U1, m1, f1⟩ := tempers_M mj ag hE l1 h3 (c := c) (by omega)
      obtain ⟨u2, U2, m2, f2⟩ := isAsSeen_ok (P := P) (Mn := Mn) (NU := NU) (rw := rw) (ow := ow) m1 hS hs hrw
      have same : ∀ j, j = 236 ∨ j = 237 → u2 j = q.2 j := fun j hj => by
        rw [f2 j (by simp; omega), f1 j (by simp; omega)]
      have L2 : LiesAt (u2 236) (mem x 10) := by rw [same 236 (by omega)]; exact l1
      show ∃ q' : Int × Mm, L_M_tells_22 (n + 1) ((mem x 10).length : Int) q.1 (c : Int) q.2 = L_M_tells_22 n ((mem x 10).length : Int) q'.1 ((c + 1 : Nat) : Int) q'.2 ∧ _
      rw [L_M_tells_22, tens_ok h3, b1_some, if_neg lt, U1, b0M_some, U2, b1M_some, bindM_eq, hv, l3]
      by_cases hz : φ c = 0
      · have ef : fl φ (c + 1) = fl φ c := by rw [fl, if_pos hz]
        rw [if_pos hz]
        dsimp only
        rw [e2, if_pos (r32_nat (show c + 1 < 2147483648 by omega))]
        exact ⟨((((fl φ c).length : Nat) : Int), u2), rfl, ⟨L2, _, m2, AgX.ex⟩, by rw [ef]; show LiesAt (u2 237) _; rw [same 237 (by omega)]; exact l2, by rw [ef]⟩
      · have ef : fl φ (c + 1) = fl φ c ++ [c] := by rw [fl, if_neg hz]
        have el : (((fl φ c).length : Nat) : Int) + 1 = (((fl φ (c + 1)).length : Nat) : Int) := by rw [ef]; simp
        have et : ((((fl φ c).length : Nat) : Int)).toNat = (fl φ c).length := by omega
        rw [if_neg hz, if_pos (show 0 ≤ (((fl φ c).length : Nat) : Int) ∧ (((fl φ c).length : Nat) : Int) < 1000 by omega), et, bindM_eq, el, if_pos (r32_nat (by rw [ef]; simp; omega))]
        dsimp only
        rw [e2, if_pos (r32_nat (show c + 1 < 2147483648 by omega))]
        have f4 : Fr [237] u2 (st2 u2 237 (fl φ c).length (c : Int)) := Fr.rf.st (by decide)
        have mx4 : MX μ (st2 u2 237 (fl φ c).length (c : Int)) G O M x E := ⟨by rw [f4 236 (by decide)]; exact L2, _, m2.fr f4 (by decide) (fun s _ => by rw [f4 200 (by decide)]), AgX.ex⟩
        refine ⟨((((fl φ (c + 1)).length : Nat) : Int), st2 u2 237 (fl φ c).length (c : Int)), rfl, mx4, ?_, rfl⟩
        rw [ef]
        show LiesAt (st2 u2 237 (fl φ c).length (c : Int) 237) _
        exact l2.snoc (fun i hi => by rw [st2_sk, if_neg (by omega), same 237 (by omega)]) (st2_ss _ _ _ _))
  have E1 : L_M_tells_22 LF ((mem x 10).length : Int) 0 0 ν = some (q.1, q.2) := E1
  exact ⟨q.2, by rw [E1, t3], t1, t2⟩
/-- the first of the least -/
def bst (W : Nat → Int) (s : Int) : Nat → Int × Int
  | 0 => (-1, s)
  | r + 1 => if (bst W s r).2 ≤ W r then bst W s r else ((r : Int), W r)
theorem bst_eq {W : Nat → Int} {s t : Int} : ∀ {c : Nat}, (∀ r, r < c → W r < s ∧ W r < t) → (bst W s c).1 = (bst W t c).1 ∧ ((bst W s c).2 = (bst W t c).2 ∨ ((bst W s c).2 = s ∧ (bst W t c).2 = t))
  | 0, _ => ⟨rfl, Or.inr ⟨rfl, rfl⟩⟩
  | c + 1, h => by
    obtain ⟨h1, h2⟩ := bst_eq (W := W) (s := s) (t := t) (c := c) (fun r hr => h r (by omega))
    have hc := h c (by omega)
    rw [bst, bst]
    rcases h2 with q | ⟨q1, q2⟩
    · rw [q]
      by_cases hw : (bst W t c).2 ≤ W c
      · rw [if_pos hw, if_pos hw]; exact ⟨h1, Or.inl q⟩
      · rw [if_neg hw, if_neg hw]; exact ⟨rfl, Or.inl rfl⟩
    · rw [if_neg (by omega), if_neg (by omega)]; exact ⟨rfl, Or.inl rfl⟩
/-- how many cases agree on a ROW, at the most -/
def Wr (G O : Law) (x : Int) (E φ : Nat → Int) (P : Nat → Nat) (NU : Nat → Nat → Int) (N r : Nat) : Int := ((mM φ (fun c => offL (tw G O (Ex x E c)) (drw (NU r) (P r))) N : Nat) : Int)
theorem Wr_bd {G O : Law} {x : Int} {E φ : Nat → Int} {P : Nat → Nat} {NU : Nat → Nat → Int} {N r : Nat} (hN : N ≤ 1000) : 0 ≤ Wr G O x E φ P NU N r ∧ Wr G O x E φ P NU N r ≤ 1000 := by
  have := mM_le (φ := φ) (a := fun c => offL (tw G O (Ex x E c)) (drw (NU r) (P r))) (N := N)
  unfold Wr
  omega
theorem tellsMost_ok {σ t : Mm} {G O M : Law} {x : Int} {φ : Nat → Int} {c N : Nat} {P : Nat → Nat} {Mn : Nat → Int} {NU : Nat → Nat → Int} (hN : N ≤ 1000) (hc : c ≤ 12) (h14 : σ 1 4 = (c : Int)) (hrows : ∀ r, r < c → RowC σ r (P r) (Mn r) (NU r)) (hR : 0 ≤ σ 2 5 ∧ σ 2 5 + 40000 < 2147483647) (hC : CB σ t G O M 9600) (h9 : t 121 9 = (N : Int)) (h124 : ∀ g, g < 10 → t 124 g = strd x g) (h125 : ∀ c, c < N → t 125 c = φ c) :
    ∃ u, F_G_tellsMost t = some ((bst (Wr G O x (σ 3) φ P NU N) 10000000 c).1, u) ∧ CB σ u G O M 28800 := by
  obtain ⟨q, E, k1, k2, k3, k4, k5⟩ := loop_inv2 (L := fun n j (q : Int × Int × Mm) => L_G_tellsMost_7 n q.1 q.2.1 j q.2.2) (I := fun i q => (q.1, q.2.1) = bst (Wr G O x (σ 3) φ P NU N) 10000000 i ∧ CB σ q.2.2 G O M (9600 + 1600 * i) ∧ q.2.2 121 9 = (N : Int) ∧ (∀ g, g < 10 → q.2.2 124 g = strd x g) ∧ ∀ c, c < N → q.2.2 125 c = φ c) (x := c) (out := fun q => (q.1, q.2.2))
    (fun n q hq => by
      show L_G_tellsMost_7 (n + 1) q.1 q.2.1 (c : Int) q.2.2 = _
      rw [L_G_tellsMost_7, hq.2.1.2.1 1 (by decide), h14, if_pos (Int.le_refl _)]) (m := c) (i := 0) (N := LF) (s := ((-1 : Int), (10000000 : Int), t)) (by omega) (by unfold LF; omega) ⟨rfl, by simpa using hC, h9, h124, h125⟩ (fun n r q _ hr hq => by
      obtain ⟨g1, ⟨j0, f0, q6, q121, q5, q5b⟩, g3, g4, g5⟩ := hq
      have e2 : (r : Int) + 1 = ((r + 1 : Nat) : Int) := by omega
      have er : ((r : Int)).toNat = r := by omega
      obtain ⟨p1, p2, m1, m2, C3, C5, C6, Cn, Cb, hD⟩ := hrows r hr
      have t3 : q.2.2 3 = σ 3 := f0 3 (by decide)
      have rowc : ∀ j, 10 ≤ j → j < 58 → q.2.2 j = σ j := fun j a b => f0 j (by simp; omega)
      have hDt : RowD q.2.2 (10 + r) (drw (NU r) (P r)) := by
        obtain ⟨d1, d2, d4, d5, d6⟩ := hD
        exact ⟨by rw [rowc _ (by omega) (by omega)]; exact d1, d2, d4, by rw [rowc (10 + r + 24) (by omega) (by omega), rowc (10 + r + 36) (by omega) (by omega)]; exact d5, d6⟩
      obtain ⟨t1, E1, f1, j1, v6, v5, v126⟩ := spread_ok (x := x) (N := N) (ρ := 10 + r) (by omega) hN j0 g3 g4 hDt ⟨by omega, by omega⟩
      obtain ⟨t2, E2, f2⟩ := mostAlike_C (s := t1) (φ := φ) (a := fun c => offL (tw G O (Ex x (σ 3) c)) (drw (NU r) (P r))) hN (by rw [f1 121 (by decide)]; exact g3) (fun c hc => by rw [f1 125 (by decide)]; exact g5 c hc) (fun c hc => by
        have ob := offL_1485 (G := G) (O := O) (E := Ex x (σ 3) c) (L := drw (NU r) (P r)) hD.2.1
        exact ⟨by rw [v126 c hc, t3], ob.1, ob.2⟩)
      have w121 : t2 121 = q.2.2 121 := by rw [f2 121 (by decide)]; exact f1 121 (by decide)
      have w2 : t2 2 = t1 2 := f2 2 (by decide)
      have F : Fr [2, 4, 5, 6, 7, 121, 124, 125, 126, 127, 128] σ t2 := (f0.tr (f1.w (by decide))).tr (f2.w (by decide))
      have cb2 : CB σ t2 G O M (9600 + 1600 * ((r + 1 : Nat) : Int)) := ⟨j1.fr f2 (by decide), F, by rw [w2, v6]; exact q6, fun i hi => by rw [w121]; exact q121 i hi, by rw [w2]; omega, by rw [w2]; omega⟩
      have a3 : t2 121 9 = (N : Int) := by rw [w121]; exact g3
      have a4 : ∀ g, g < 10 → t2 124 g = strd x g := fun g hg => by rw [f2 124 (by decide), f1 124 (by decide)]; exact g4 g hg
      have a5 : ∀ c, c < N → t2 125 c = φ c := fun c hc => by rw [f2 125 (by decide), f1 125 (by decide)]; exact g5 c hc
      have E2 : F_G_mostAlike t1 = some (Wr G O x (σ 3) φ P NU N r, t2) := E2
      have b1 : q.1 = (bst (Wr G O x (σ 3) φ P NU N) 10000000 r).1 := by rw [← g1]
      have b2 : q.2.1 = (bst (Wr G O x (σ 3) φ P NU N) 10000000 r).2 := by rw [← g1]
      show ∃ q' : Int × Int × Mm, L_G_tellsMost_7 (n + 1) q.1 q.2.1 (r : Int) q.2.2 = L_G_tellsMost_7 n q'.1 q'.2.1 ((r + 1 : Nat) : Int) q'.2.2 ∧ _
      rw [L_G_tellsMost_7, f0 1 (by decide), h14, if_neg (by omega), if_pos (show 0 ≤ (r : Int) ∧ (r : Int) < 12 by omega), er, E1, b0M_some, E2, b1M_some, bindM_eq]
      by_cases hw : q.2.1 ≤ Wr G O x (σ 3) φ P NU N r
      · rw [if_pos hw]
        dsimp only
        rw [e2, if_pos (r32_nat (show r + 1 < 2147483648 by omega))]
        exact ⟨(q.1, q.2.1, t2), rfl, by rw [bst, ← b2, if_pos hw]; exact g1, cb2, a3, a4, a5⟩
      · rw [if_neg hw]
        dsimp only
        rw [e2, if_pos (r32_nat (show r + 1 < 2147483648 by omega))]
        exact ⟨((r : Int), Wr G O x (σ 3) φ P NU N r, t2), rfl, by rw [bst, ← b2, if_neg hw], cb2, a3, a4, a5⟩)
  have E : L_G_tellsMost_7 LF (-1) 10000000 0 t = some (q.1, q.2.2) := E
  unfold F_G_tellsMost
  obtain ⟨j0, f0, q6, q121, q5, q5b⟩ := k2
  rw [E, b1M_some, ← k1]
  exact ⟨q.2.2, rfl, j0, f0, q6, q121, q5, by omega⟩
theorem tells73 {μ ν : Mm} {G O M : Law} {x : Int} {E φ : Nat → Int} {c N : Nat} {P : Nat → Nat} {Mn : Nat → Int} {NU : Nat → Nat → Int} (h : MX μ ν G O M x E) (hE : EnvOK E) (h3 : (mem x 10).length ≤ 3) (hN : N ≤ 1000) (h237 : LiesAt (ν 237) (fl φ N)) (hc : c ≤ 12) (h201 : μ 201 0 = (c : Int)) (hrows : ∀ r, r < c → RowM (μ 201) r (P r) (Mn r) (NU r)) (hpos : 0 < (fl φ N).length) :
    ∃ t, L_M_tells_73 LF ((mem x 10).length : Int) ((fl φ N).length : Int) (-1) 1001 0 ν = some ((bst (Wr G O x E φ P NU N) 1001 c).1, t) ∧ MX μ t G O M x E := by
  obtain ⟨q, E1, k1, k2, k3⟩ := loop_inv2 (L := fun n j (q : Int × Int × Mm) => L_M_tells_73 n ((mem x 10).length : Int) ((fl φ N).length : Int) q.1 q.2.1 j q.2.2) (I := fun i q => (q.1, q.2.1) = bst (Wr G O x E φ P NU N) 1001 i ∧ MX μ q.2.2 G O M x E ∧ LiesAt (q.2.2 237) (fl φ N)) (x := c) (out := fun q => (q.1, q.2.2))
    (fun n q hq => by
      show L_M_tells_73 (n + 1) ((mem x 10).length : Int) ((fl φ N).length : Int) q.1 q.2.1 (c : Int) q.2.2 = _
      obtain ⟨-, ⟨-, F, mj, -⟩, -⟩ := hq
      rw [L_M_tells_73, mj.2.2.1 201 (by omega), h201, if_pos (Int.le_refl _)]) (m := c) (i := 0) (N := LF) (s := ((-1 : Int), (1001 : Int), ν)) (by omega) (by unfold LF; omega) ⟨rfl, h, h237⟩ (fun n r q _ hr hq => by
      obtain ⟨g1, g2, g3⟩ := hq
      have e2 : (r : Int) + 1 = ((r + 1 : Nat) : Int) := by omega
      have z201 : q.2.2 201 = μ 201 := by obtain ⟨-, F, mj, -⟩ := g2; exact mj.2.2.1 201 (by omega)
      obtain ⟨t2, E2, m2, l2⟩ := mostAlike_M g2 hE h3 hN g3 (r := r) (by omega) (hrows r hr)
      have E2 : F_M_mostAlike (r : Int) ((fl φ N).length : Int) ((mem x 10).length : Int) q.2.2 = some (Wr G O x E φ P NU N r, t2) := E2
      have b2 : q.2.1 = (bst (Wr G O x E φ P NU N) 1001 r).2 := by rw [← g1]
      show ∃ q' : Int × Int × Mm, L_M_tells_73 (n + 1) ((mem x 10).length : Int) ((fl φ N).length : Int) q.1 q.2.1 (r : Int) q.2.2 = L_M_tells_73 n ((mem x 10).length : Int) ((fl φ N).length : Int) q'.1 q'.2.1 ((r + 1 : Nat) : Int) q'.2.2 ∧ _
      rw [L_M_tells_73, z201, h201, if_neg (by omega), if_neg (by omega), E2, b1M_some, bindM_eq]
      by_cases hw : q.2.1 ≤ Wr G O x E φ P NU N r
      · rw [if_pos hw]
        dsimp only
        rw [e2, if_pos (r32_nat (show r + 1 < 2147483648 by omega))]
        exact ⟨(q.1, q.2.1, t2), rfl, by rw [bst, ← b2, if_pos hw]; exact g1, m2, l2⟩
      · rw [if_neg hw]
        dsimp only
        rw [e2, if_pos (r32_nat (show r + 1 < 2147483648 by omega))]
        exact ⟨((r : Int), Wr G O x E φ P NU N r, t2), rfl, by rw [bst, ← b2, if_neg hw], m2, l2⟩)
  have E1 : L_M_tells_73 LF ((mem x 10).length : Int) ((fl φ N).length : Int) (-1) 1001 0 ν = some (q.1, q.2.2) := E1
  rw [E1, ← k1]
  exact ⟨q.2.2, rfl, k2⟩
theorem tells_rel {σ μ : Mm} {B R : Int} (h : Rel σ μ B R) (hB : B + 400 ≤ 90000000) (hR : R + 40000 < 2147483647) (x : Int) : Op (F_A_tells x σ) (F_M_tells x μ) B (R + 40000) := by
  obtain ⟨G, O, M, c, S, P, Mn, NU, rw, ow, hN, c1, c2, c3, c4, S6, S1, S2, rC, rM⟩ := fit_data h
  have hr := hN.round
  have out : Rel σ μ B (R + 40000) := h.w (Int.le_refl _) (by omega)
  unfold F_A_tells F_M_tells
  rw [isSet_A, b1_some]
  by_cases hx : 1 ≤ x ∧ x ≤ 1023 ∧ ((mem x 10).length : Int) ≤ 3
  · have hx0 : 0 ≤ x ∧ x < 2147483648 := by omega
    have h3 : (mem x 10).length ≤ 3 := by omega
    have pw : ∀ k : Nat, k ≤ 3 → 10 ^ k ≤ 1000 ∧ 1 ≤ 10 ^ k := by decide
    have b0 := pw _ h3
    obtain ⟨ν1, E1, l1, f1⟩ := (figures_M (x := x) (ν := μ)).2 hx
    have q1 : QM μ ν1 := QM.of f1 (by decide)
    have hN1 : Now σ ν1 G O M B R := hN.ask QC.rf q1 hN.memo hr
    obtain ⟨ν2, E2, mj2, g2, -⟩ := hN1.lays
    have mj2 : MJ μ ν2 G O M (σ 3) := ⟨mj2.1, mj2.2.1, q1.tr mj2.2.2⟩
    have l2 : LiesAt (ν2 236) (mem x 10) := by rw [g2 236 (by decide)]; exact l1
    have mx2 : MX μ ν2 G O M x (σ 3) := ⟨l2, σ 3, mj2, AgX.rf⟩
    obtain ⟨ν3, E3, mx3, l3⟩ := tells22 (P := P) (Mn := Mn) (NU := NU) (rw := rw) (ow := ow) mx2 hN.ok.1 h3 S6 S2 rM
    obtain ⟨t, T1, cb, t9, t124, t125⟩ := find_ok (x := x) (P := P) (Mn := Mn) (NU := NU) (rw := rw) (ow := ow) (σ := σ) (G := G) (O := O) (M := M) ⟨hN.laws, hN.ok.1, hN.memo⟩ hx0 h3 S6 S1 rC ⟨hr.1, by omega⟩
    rw [if_pos hx, if_neg ne10, E1, b1M_some, if_neg (show ¬ ((mem x 10).length : Int) = -1 by omega), E2, b0M_some, E3, b1M_some]
    generalize hφ : (fun c => fz (Xf G O (Ex x (σ 3) c) P Mn NU rw ow) S) = φ at T1 l3
    have t125 : ∀ c, c < 10 ^ (mem x 10).length → t 125 c = φ c := fun c hc => by rw [t125 c hc, ← hφ]
    have z201 : ν3 201 0 = (c : Int) := by obtain ⟨-, F, mj, -⟩ := mx3; rw [mj.2.2.1 201 (by omega)]; exact c3
    have end0 : ∀ n : Nat, (c = 0 ∨ (fl φ (10 ^ (mem x 10).length)).length = 0) → L_M_tells_73 (n + 1) ((mem x 10).length : Int) ((fl φ (10 ^ (mem x 10).length)).length : Int) (-1) 1001 0 ν3 = some (-1, ν3) := fun n hz => by
      rw [L_M_tells_73, z201]
      by_cases h0 : (c : Int) ≤ 0
      · rw [if_pos h0]
      · rw [if_neg h0, if_pos (by omega)]
    have q3 : QM μ ν3 := by obtain ⟨-, F, mj, -⟩ := mx3; exact mj.2.2
    rw [c2]
    by_cases hc0 : c = 0
    · rw [if_pos (show (c : Int) = 0 by omega), show LF = (LF - 1) + 1 by decide, end0 _ (Or.inl hc0), b1M_some]
      exact Op.ret rfl (out.askM q3)
    · rw [if_neg (show ¬ (c : Int) = 0 by omega), T1, b1M_some]
      have fc := fl_len (φ := φ) (10 ^ (mem x 10).length)
      by_cases hm : cntF φ (10 ^ (mem x 10).length) = 0
      · rw [if_pos (show ((cntF φ (10 ^ (mem x 10).length) : Nat) : Int) = 0 by omega), show LF = (LF - 1) + 1 by decide, end0 _ (Or.inr (by omega)), b1M_some]
        exact Op.ret rfl (cb.rel h q3 ⟨by have := cb.2.2.2.2; omega, by have := cb.2.2.2.2; omega⟩)
      · rw [if_neg (show ¬ ((cntF φ (10 ^ (mem x 10).length) : Nat) : Int) = 0 by omega)]
        obtain ⟨u, T2, cu⟩ := tellsMost_ok (P := P) (Mn := Mn) (NU := NU) b0.1 c1 c2 (fun r hr => (c4 r hr).1) ⟨hr.1, by omega⟩ cb t9 t124 t125
        obtain ⟨ν4, E4, mx4⟩ := tells73 (P := P) (Mn := Mn) (NU := NU) mx3 hN.ok.1 h3 b0.1 l3 c1 c3 (fun r hr => (c4 r hr).2) (by omega)
        rw [T2, b1M_some, E4, b1M_some]
        have q4 : QM μ ν4 := by obtain ⟨-, F, mj, -⟩ := mx4; exact mj.2.2
        refine Op.ret (bst_eq (fun r _ => ?_)).1 (cu.rel h q4 ⟨by have := cu.2.2.2.2; omega, by have := cu.2.2.2.2; omega⟩)
        have := Wr_bd (G := G) (O := O) (x := x) (E := σ 3) (φ := φ) (P := P) (NU := NU) (r := r) b0.1
        exact ⟨by omega, by omega⟩
  · rw [if_neg hx, if_pos rfl, (figures_M (x := x) (ν := μ)).1 hx, b1M_some, if_pos rfl]
    exact Op.ret rfl out
