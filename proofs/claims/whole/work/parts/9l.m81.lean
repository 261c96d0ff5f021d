-- `ledger`, put together
theorem fac_pos : ∀ n : Nat, n < 6 → 1 ≤ fac n ∧ fac n ≤ 120 := by decide
theorem ledger90 {σ μ ν : Mm} {G O M : Law} {B R : Int} {n : Nat} {ml : List Nat} {P : Nat → Nat} {Mn : Nat → Int} {NU : Nat → Nat → Int} (hN : Now σ μ G O M B R) (h : QM μ ν) (hl : LiesAt (ν 239) ml) (hn : n < 6) (hml : ml.length = n) (hm12 : ∀ i, i < n → ml.getD i 0 < 12) (hrow : ∀ i, i < n → RowM (μ 201) (ml.getD i 0) (P (ml.getD i 0)) (Mn (ml.getD i 0)) (NU (ml.getD i 0))) (hL : ∀ i, (drw (NU (ml.getD i 0)) (P (ml.getD i 0))).length ≤ 16) :
    ∃ (l : List Nat) (t : Mm), L_M_ledger_90 LF (n : Int) (-1) 0 ν = some (csts (cost G O (σ 3) (fun i => drw (NU (ml.getD i 0)) (P (ml.getD i 0))) n) 0 l, t) ∧ FM (csts (cost G O (σ 3) (fun i => drw (NU (ml.getD i 0)) (P (ml.getD i 0))) n) 0) ((List.range (fac n)).map (prm n)) l ∧ (∀ j, j < n → t 235 j = gL l j) ∧ QM μ t ∧ LiesAt (t 239) ml := by
  have hr := hN.round
  have fp := fac_pos n hn
  generalize hcs : cost G O (σ 3) (fun i => drw (NU (ml.getD i 0)) (P (ml.getD i 0))) n = cs
  have cbd : ∀ S i, 0 ≤ cs S i ∧ cs S i ≤ 2000 := fun S i => by rw [← hcs]; exact cost_bd hL S i
  let I : Nat → Int × Mm → Prop := fun k q => QM μ q.2 ∧ LiesAt (q.2 239) ml ∧ ((k = 0 ∧ q.1 = -1) ∨ (1 ≤ k ∧ ∃ l, FM (csts cs 0) ((List.range k).map (prm n)) l ∧ q.1 = csts cs 0 l ∧ ∀ j, j < n → q.2 235 j = gL l j))
  obtain ⟨q, E, k1, k2, k3⟩ := loop_inv2 (L := fun N j (q : Int × Mm) => L_M_ledger_90 N (n : Int) q.1 j q.2) (I := I) (x := fac n) (out := fun q => q)
    (fun N q _ => by
      show L_M_ledger_90 (N + 1) (n : Int) q.1 ((fac n : Nat) : Int) q.2 = _
      rw [L_M_ledger_90, ways_ok n hn, b1_some, if_pos (Int.le_refl _)]) (m := fac n) (i := 0) (N := LF) (s := ((-1 : Int), ν)) (by omega) (by unfold LF; omega) ⟨h, hl, Or.inl ⟨rfl, rfl⟩⟩ (fun N k q _ hk hq => by
      obtain ⟨mj, l239, hst⟩ := hq
      have e2 : (k : Int) + 1 = ((k + 1 : Nat) : Int) := by omega
      have next : r32 ((k + 1 : Nat) : Int) := r32_nat (by omega)
      obtain ⟨vp, vl⟩ := VP_prm hn hk
      obtain ⟨s1, E1, g1, g2⟩ := laysOrder_ok hn hk q.2
      have mj1 : QM μ s1 := mj.tr (QM.of g2 (by decide))
      have hN1 : Now σ s1 G O M B R := hN.ask QC.rf mj1 hN.memo hr
      obtain ⟨s2, E2, mj2, f2, -⟩ := hN1.lays
      have mj2 : MJ μ s2 G O M (σ 3) := ⟨mj2.1, mj2.2.1, mj1.tr mj2.2.2⟩
      have eu : EU (σ 3) (gS (fun i => drw (NU (ml.getD i 0)) (P (ml.getD i 0))) n 0) = σ 3 := by
        have e0 : gS (fun i => drw (NU (ml.getD i 0)) (P (ml.getD i 0))) n 0 = fun _ => 0 := by
          funext d
          unfold gS
          rw [List.eq_nil_of_length_eq_zero (len_0 n hn).1]; rfl
        rw [e0]; exact EU_0 hN.ok.1
      have h239 : LiesAt (s2 239) ml := by rw [f2 239 (by decide), g2 239 (by decide)]; exact l239
      obtain ⟨u, E3, ⟨F3, u1⟩, u2, u3, u4⟩ := apart8 (E := σ 3) (P := P) (Mn := Mn) (NU := NU) hn hml hm12 hrow hL (prm n k) LF 0 0 s2 0 (by rw [vl]; unfold LF; omega) (by omega) vp (fun i hi => by rw [f2 234 (by decide), Nat.zero_add]; exact g1 i (by omega)) h239 (by rw [eu]; exact mj2) ⟨by omega, by rw [vl]; omega⟩
      rw [hcs, Int.zero_add] at E3
      have E3 : L_M_apartSo_8 LF (n : Int) 0 0 s2 = some (csts cs 0 (prm n k), u) := E3
      have E4 : F_M_apartSo (n : Int) s1 = some (csts cs 0 (prm n k), u) := by
        unfold F_M_apartSo
        rw [E2, b0M_some, E3, b1M_some]
      have h239u : LiesAt (u 239) ml := by rw [u2]; exact h239
      have cb := csts_bd cbd (r := prm n k) (S := 0)
      obtain ⟨w, E5, w1, w2⟩ := keeps_ok hn u
      have take : FM (csts cs 0) ((List.range (k + 1)).map (prm n)) (prm n k) → ∃ q' : Int × Mm, (b0M (F_M_keepsOrder (n : Int) u) fun s19 => (fun (x4_16 : Int) (t16 : Mm) => if r32 ((k : Int) + 1) then L_M_ledger_90 N (n : Int) x4_16 ((k : Int) + 1) t16 else none) (csts cs 0 (prm n k)) s19) = L_M_ledger_90 N (n : Int) q'.1 ((k + 1 : Nat) : Int) q'.2 ∧ I (k + 1) q' := fun hF => by
        rw [E5, b0M_some]
        dsimp only
        rw [e2, if_pos next]
        refine ⟨(csts cs 0 (prm n k), w), rfl, u1.2.2.tr (QM.of w2 (by decide)), by show LiesAt (w 239) ml; rw [w2 239 (by decide)]; exact h239u, Or.inr ⟨by omega, prm n k, hF, rfl, fun j hj => ?_⟩⟩
        show w 235 j = _
        rw [w1 j hj, u3, f2 234 (by decide)]; exact g1 j hj
      have ers : (List.range (k + 1)).map (prm n) = (List.range k).map (prm n) ++ [prm n k] := by rw [List.range_succ, List.map_append]; rfl
      show ∃ q' : Int × Mm, L_M_ledger_90 (N + 1) (n : Int) q.1 (k : Int) q.2 = L_M_ledger_90 N (n : Int) q'.1 ((k + 1 : Nat) : Int) q'.2 ∧ I (k + 1) q'
      rw [L_M_ledger_90, ways_ok n hn, b1_some, if_neg (by omega), E1, b0M_some, E4, b1M_some, bindM_eq, bindM_eq]
      rcases hst with ⟨k0, q1⟩ | ⟨k1, l, hF, q1, q235⟩
      · rw [if_pos q1]
        subst k0
        exact take ⟨[], [], rfl, fun y hy => by simp at hy, fun y hy => by simp at hy⟩
      · have cl := csts_bd cbd (r := l) (S := 0)
        rw [if_neg (by omega)]
        by_cases hle : q.1 ≤ csts cs 0 (prm n k)
        · rw [if_pos hle]
          dsimp only
          rw [e2, if_pos next]
          refine ⟨(q.1, u), rfl, u1.2.2, h239u, Or.inr ⟨by omega, l, ?_, q1, fun j hj => ?_⟩⟩
          · rw [ers]; exact (FM_snoc hF).1 (by omega)
          · show u 235 j = _
            rw [u4, f2 235 (by decide), g2 235 (by decide)]; exact q235 j hj
        · rw [if_neg hle]
          exact take (by rw [ers]; exact (FM_snoc hF).2 (by omega)))
  have E : L_M_ledger_90 LF (n : Int) (-1) 0 ν = some (q.1, q.2) := E
  rcases k3 with ⟨k0, -⟩ | ⟨-, l, hF, q1, q235⟩
  · omega
  · exact ⟨l, q.2, by rw [E, q1], hF, q235, k1, k2⟩
theorem CA.rel {σ t μ ν : Mm} {G O M : Law} {ml : List Nat} {B R S m : Int} (h : Rel σ μ B R) (hC : CA σ t G O M ml m) (hm : QM μ ν) (hr : 0 ≤ t 2 5 ∧ t 2 5 ≤ S) : Rel t ν B S := by
  obtain ⟨j0, e3, f0, q6, q5, -⟩ := hC
  exact h.ask ⟨fun i hi => f0 i (by simp; omega), q6, e3⟩ hm j0.2.2 hr
theorem ledger_rel {σ μ : Mm} {B R : Int} (h : Rel σ μ B R) (hB : B + 400 ≤ 90000000) (hR : R + 1000 < 2147483647) (x y : Int) : Op (F_A_ledger x y σ) (F_M_ledger x y μ) B (R + 1000) := by
  obtain ⟨G, O, M, c, S, P, Mn, NU, rw, ow, hN, c1, c2, c3, c4, -, -, -, -, -⟩ := fit_data h
  have hr := hN.round
  have out : Rel σ μ B (R + 1000) := h.w (Int.le_refl _) (by omega)
  have Out : Op (some ((-1 : Int), σ)) (some (-1, μ)) B (R + 1000) := Op.ret rfl out
  obtain ⟨s1, s2, s3⟩ := sh12 c (by omega)
  have pc : ((2 ^ c : Nat) : Int) ≤ (4096 : Nat) := Int.ofNat_le.mpr s2
  have pc1 : ((1 : Nat) : Int) ≤ ((2 ^ c : Nat) : Int) := Int.ofNat_le.mpr s3
  unfold F_A_ledger F_M_ledger
  obtain ⟨v, hv⟩ : ∃ v, F_K_bitCount x = some v := ⟨_, rfl⟩
  rw [c2, c3, s1, hv, b1_some, if_pos (show r32 (((2 ^ c : Nat) : Int) - 1) from ⟨by omega, by omega⟩), in_ok, b1_some]
  by_cases hx : 1 ≤ x ∧ x ≤ ((2 ^ c : Nat) : Int) - 1
  · obtain ⟨k, rfl⟩ := Int.eq_ofNat_of_zero_le (show 0 ≤ x by omega)
    have k1 : k < 2 ^ c := Int.ofNat_lt.mp (by omega)
    have k12 : k < 2 ^ 12 := by omega
    have hv2 : v = ((mem (k : Int) 12).length : Int) := by
      have q := bitc k12
      rw [hv, popmem k12] at q
      exact Option.some.inj q
    have m12 : mem (k : Int) 12 = mem (k : Int) c := by
      have := mem_top k1 (12 - c)
      rw [show c + (12 - c) = 12 by omega] at this; exact this
    have hpos : 1 ≤ (mem (k : Int) 12).length := by
      have : ∀ a : Nat, a < 64 → ∀ b : Nat, b < 64 → 1 ≤ 64 * a + b → 1 ≤ (mem ((64 * a + b : Nat) : Int) 12).length := by decide +kernel
      have := this (k / 64) (by omega) (k % 64) (by omega) (by omega)
      rw [show 64 * (k / 64) + k % 64 = k by omega] at this; exact this
    rw [if_neg (show ¬ (k : Int) ≤ 0 by omega), if_neg (show ¬ ((2 ^ c : Nat) : Int) ≤ (k : Int) by omega), if_pos hx, if_neg ne10, many_ok k12, b1_some, b1_some, popmem k12, hv2]
    by_cases h5 : 5 < ((mem (k : Int) 12).length : Int)
    · rw [if_pos h5, if_pos h5]; exact Out
    · rw [if_neg h5, if_neg h5, if_pos (show r32 (((mem (k : Int) 12).length : Int) - 1) from ⟨by omega, by omega⟩), in_ok, b1_some]
      by_cases hy : -1 ≤ y ∧ y ≤ ((mem (k : Int) 12).length : Int) - 1
      · rw [if_neg (show ¬ y < -1 by omega), if_pos (show y < ((mem (k : Int) 12).length : Int) by omega), if_pos hy, if_neg ne10]
        -- the members
        obtain ⟨n, hn⟩ : ∃ n, (mem (k : Int) 12).length = n := ⟨_, rfl⟩
        obtain ⟨⟨z, t1⟩, T1, z1, l1, f1⟩ := listMembers_ok (x := (k : Int)) (most := 12) (s := σ) ⟨by omega, by omega⟩ (by omega) (by omega)
        have z1 : z = ((mem (k : Int) 12).length : Int) := z1
        have l1 : LiesAt (t1 117) (mem (k : Int) 12) := l1
        have f1 : Fr [117] σ t1 := f1
        have T1 : F_E_listMembers (k : Int) 12 σ = some (z, t1) := T1
        obtain ⟨ν1, E1, l2, f2⟩ := list47 k1 c1 (by rw [← m12]; omega) c3 (ν := μ)
        rw [← m12] at E1 l2
        generalize hml : mem (k : Int) 12 = ml at hn z1 l1 l2 E1 m12 hpos h5 hy
        have mlt : ∀ i, i < n → ml.getD i 0 < c := fun i hi => by
          rw [List.getD_eq_getElem?_getD, List.getElem?_eq_getElem (by omega)]
          exact mem_lt (x := (k : Int)) (by rw [← m12]; exact List.getElem_mem (by omega))
        have n6 : n < 6 := by omega
        -- beyond the members nothing is asked
        let NU' : Nat → Nat → Int := fun r => if r < c then NU r else fun _ => 0
        let P' : Nat → Nat := fun r => if r < c then P r else 1
        have hP : ∀ r, r < c → P' r = P r ∧ NU' r = NU r := fun r hr => ⟨if_pos hr, if_pos hr⟩
        have hL : ∀ i, (drw (NU' (ml.getD i 0)) (P' (ml.getD i 0))).length ≤ 16 := fun i => by
          by_cases hr : ml.getD i 0 < c
          · rw [(hP _ hr).1, (hP _ hr).2]
            exact (c4 _ hr).1.2.2.2.2.2.2.2.2.2.2.1
          · have e1 : P' (ml.getD i 0) = 1 := if_neg hr
            rw [e1]
            have := (drw_len (NU' (ml.getD i 0)) 1).2
            omega
        have hRowM : ∀ i, i < n → RowM (μ 201) (ml.getD i 0) (P' (ml.getD i 0)) (Mn (ml.getD i 0)) (NU' (ml.getD i 0)) := fun i hi => by
          rw [(hP _ (mlt i hi)).1, (hP _ (mlt i hi)).2]; exact (c4 _ (mlt i hi)).2
        have hRowD : ∀ i, i < n → ml.getD i 0 < 12 ∧ RowD σ (10 + ml.getD i 0) (drw (NU' (ml.getD i 0)) (P' (ml.getD i 0))) := fun i hi => by
          rw [(hP _ (mlt i hi)).1, (hP _ (mlt i hi)).2]
          exact ⟨by have := mlt i hi; omega, (c4 _ (mlt i hi)).1.2.2.2.2.2.2.2.2.2⟩
        have a1 := b6_4 n (by omega)
        have a2 := pow6 n (by omega)
        have p32 : 2 ^ n ≤ 2 ^ 5 := Nat.pow_le_pow_right (by omega) (by omega)
        have p2 : 2 ^ 1 ≤ 2 ^ n := Nat.pow_le_pow_right (by omega) (by omega)
        -- the reference
        have q1 : QM μ ν1 := QM.of f2 (by decide)
        obtain ⟨l, ν2, E2, hF, l235, q2, l239⟩ := ledger90 (P := P') (Mn := Mn) (NU := NU') hN q1 l2 n6 hn (fun i hi => by have := mlt i hi; omega) hRowM hL
        -- the class
        have cbd : ∀ S i, 0 ≤ cost G O (σ 3) (fun i => drw (NU' (ml.getD i 0)) (P' (ml.getD i 0))) n S i ∧ cost G O (σ 3) (fun i => drw (NU' (ml.getD i 0)) (P' (ml.getD i 0))) n S i ≤ 2000 := cost_bd hL
        have f3 : Fr [117, 119] σ (st2 t1 119 (2 ^ n - 1) 0) := (f1.w (by decide)).st (by decide)
        have f4 : Fr [119] t1 (st2 t1 119 (2 ^ n - 1) 0) := Fr.rf.st (by decide)
        have jb : JB σ G O M := ⟨hN.laws, hN.ok.1, hN.memo⟩
        have z2 : st2 t1 119 (2 ^ n - 1) 0 2 = σ 2 := f3 2 (by decide)
        obtain ⟨t2, T2, ca, hTB⟩ := table36 (σ := σ) (G := G) (O := O) (M := M) (ml := ml) (n := n) (Li := fun i => drw (NU' (ml.getD i 0)) (P' (ml.getD i 0))) hN.ok.1 n6 hn hL hRowD ⟨hr.1, by omega⟩ (2 ^ n - 1) LF (st2 t1 119 (2 ^ n - 1) 0) (by omega) (by unfold LF; omega) ⟨jb.fr f3 (by decide), fun j _ => by rw [f3 3 (by decide)], f3.w (by decide), by rw [z2], by rw [z2]; omega, by rw [f4 117 (by decide)]; exact l1⟩ (fun S h1 h2 => by
          have e : S = 2 ^ n - 1 := by omega
          subst e
          refine ⟨?_, fun i hi hb => ?_⟩
          · rw [st2_ss, (len_0 n n6).2, Nat.sub_self]; rfl
          · have := b6_6 n (by omega) i hi
            omega)
        obtain ⟨-, -, l0, hg, hl0, hlt0⟩ := best_bd cbd n6 n 0 Nat.one_le_two_pow (by rw [(len_0 n n6).1]; omega)
        obtain ⟨hF0, hc0⟩ := FM_ord hg
        rw [ord_prm n n6] at hF0
        have el : l = l0 := FM_uniq hF hF0
        subst el
        have e119 : t2 119 0 = best n (cost G O (σ 3) (fun i => drw (NU' (ml.getD i 0)) (P' (ml.getD i 0))) n) n 0 := by
          rw [(hTB 0 (Nat.le_refl _) Nat.one_le_two_pow).1, (len_0 n n6).1]; rfl
        have all : ((2 ^ n : Nat) : Int) - 1 = ((2 ^ n - 1 : Nat) : Int) := by omega
        have shut : Rel t2 ν2 B (R + 1000) := ca.rel h q2 ⟨by have := ca.2.2.2.2.1; omega, by have := ca.2.2.2.2.1; omega⟩
        unfold F_E_bestLedger
        rw [T1, b1M_some, z1, hn, if_pos (show (n : Int) ≤ 5 by omega), a1, bindM_eq, all, if_pos (show 0 ≤ ((2 ^ n - 1 : Nat) : Int) ∧ ((2 ^ n - 1 : Nat) : Int) < 32 by omega), Int.toNat_natCast, bindM_eq, if_pos (show r32 (((2 ^ n - 1 : Nat) : Int) - 1) from ⟨by omega, by omega⟩), T2, b0M_some, E1, b1M_some, hn, E2, b1M_some]
        by_cases y1 : y = -1
        · rw [if_pos y1, if_pos y1, b1M_some]
          exact Op.ret (by rw [hc0, e119]) shut
        · obtain ⟨j, rfl⟩ := Int.eq_ofNat_of_zero_le (show 0 ≤ y by omega)
          have jn : j < n := by omega
          have ej : ((j : Int)).toNat = j := by omega
          have l5 := hlt0 j jn
          have eg : gL l j = ((l.getD j 0 : Nat) : Int) := rfl
          rw [if_neg y1, if_neg y1, rowAt_ok n6 cbd hTB hn ca.2.2.2.2.2 jn hg, b1_some, b1M_some, if_pos (show 0 ≤ (j : Int) ∧ (j : Int) < 6 by omega), ej, l235 j jn, eg, if_pos (show 0 ≤ ((l.getD j 0 : Nat) : Int) ∧ ((l.getD j 0 : Nat) : Int) < 5 by omega), Int.toNat_natCast, l239 _ (by omega)]
          exact Op.ret rfl shut
      · rw [if_neg hy, if_pos rfl]
        by_cases h1 : y < -1
        · rw [if_pos h1]; exact Out
        · rw [if_neg h1, if_neg (by omega)]; exact Out
  · rw [if_neg hx, if_pos rfl]
    by_cases h1 : x ≤ 0
    · rw [if_pos h1]; exact Out
    · rw [if_neg h1, if_pos (by omega)]; exact Out
