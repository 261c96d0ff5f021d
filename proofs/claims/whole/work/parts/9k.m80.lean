-- `ledger`
theorem sh12 : ∀ n : Nat, n < 13 → ishl 1 (n : Int) = ((2 ^ n : Nat) : Int) ∧ 2 ^ n ≤ 4096 ∧ 1 ≤ 2 ^ n := by decide +kernel
theorem bit_top {x : Nat} {c j : Nat} (h : x < 2 ^ c) (hj : c ≤ j) : bitI (x : Int) (j : Int) = 0 := by
  unfold bitI
  have : 2 ^ c ≤ 2 ^ j := Nat.pow_le_pow_right (by omega) hj
  have e : ((x : Int) / 2 ^ ((j : Int)).toNat) = ((x / 2 ^ j : Nat) : Int) := by
    rw [Int.toNat_natCast]
    have : (2 : Int) ^ j = ((2 ^ j : Nat) : Int) := by simp
    rw [this, Int.natCast_ediv]
  rw [e, Nat.div_eq_of_lt (by omega)]; rfl
theorem mem_top {x c : Nat} (h : x < 2 ^ c) : ∀ d, mem (x : Int) (c + d) = mem (x : Int) c
  | 0 => rfl
  | d + 1 => by
    show mem (x : Int) (c + d + 1) = _
    rw [mem, bit_top h (show c ≤ c + d by omega), if_neg (by decide), mem_top h d]
theorem list47 {x c : Nat} (hx : x < 2 ^ c) (hc : c ≤ 12) (h5 : (mem (x : Int) c).length ≤ 5) {ν : Mm} (h201 : ν 201 0 = (c : Int)) : ∃ s, L_M_ledger_47 LF (x : Int) 0 0 ν = some (((mem (x : Int) c).length : Int), s) ∧ LiesAt (s 239) (mem (x : Int) c) ∧ Fr [239] ν s := by
  have p := (sh12 c (by omega)).2.1
  obtain ⟨q, E, s1, s2, s3⟩ := loop_inv2 (L := fun N j (q : Int × Mm) => L_M_ledger_47 N (x : Int) q.1 j q.2) (I := fun i q => LiesAt (q.2 239) (mem (x : Int) i) ∧ q.1 = ((mem (x : Int) i).length : Int) ∧ Fr [239] ν q.2) (x := c) (out := fun q => q)
    (fun N q hq => by
      show L_M_ledger_47 (N + 1) (x : Int) q.1 (c : Int) q.2 = _
      rw [L_M_ledger_47, hq.2.2 201 (by decide), h201, if_pos (Int.le_refl _)]) (m := c) (i := 0) (N := LF) (s := ((0 : Int), ν)) (by omega) (by unfold LF; omega) ⟨fun i hi => by simp [mem] at hi, rfl, Fr.rf⟩ (fun N j q _ hj hq => by
      obtain ⟨t1, t2, t3⟩ := hq
      have e2 : (j : Int) + 1 = ((j + 1 : Nat) : Int) := by omega
      have next : r32 ((j + 1 : Nat) : Int) := r32_nat (by omega)
      have le := mem_len_le (x := (x : Int)) (j := j + 1) (d := c - (j + 1))
      rw [show j + 1 + (c - (j + 1)) = c by omega] at le
      show ∃ q' : Int × Mm, L_M_ledger_47 (N + 1) (x : Int) q.1 (j : Int) q.2 = L_M_ledger_47 N (x : Int) q'.1 ((j + 1 : Nat) : Int) q'.2 ∧ _
      rw [L_M_ledger_47, t3 201 (by decide), h201, if_neg (by omega), hasM_ok (by omega) (by omega) (by omega) (by omega), b1_some, bindM_eq, t2]
      by_cases hb : bitI (x : Int) (j : Int) = 1
      · have em : mem (x : Int) (j + 1) = mem (x : Int) j ++ [j] := by rw [mem, if_pos hb]
        have elen : ((mem (x : Int) j).length : Int) + 1 = ((mem (x : Int) (j + 1)).length : Int) := by rw [em]; simp
        have el : (((mem (x : Int) j).length : Int)).toNat = (mem (x : Int) j).length := by omega
        rw [hb, if_neg ne10, if_pos (by omega), el, bindM_eq, elen, if_pos (show r32 ((mem (x : Int) (j + 1)).length : Int) from ⟨by omega, by omega⟩)]
        dsimp only
        rw [e2, if_pos next]
        refine ⟨(((mem (x : Int) (j + 1)).length : Int), st2 q.2 239 (mem (x : Int) j).length (j : Int)), rfl, ?_, rfl, t3.st (by decide)⟩
        rw [em]
        show LiesAt (st2 q.2 239 (mem (x : Int) j).length (j : Int) 239) (mem (x : Int) j ++ [j])
        exact t1.snoc (fun i hi => by rw [st2_sk, if_neg (by omega)]) (st2_ss _ _ _ _)
      · have em : mem (x : Int) (j + 1) = mem (x : Int) j := by rw [mem, if_neg hb]
        have hb0 : bitI (x : Int) (j : Int) = 0 := by
          rcases bitI_01 (x : Int) (j : Int) with h | h
          · exact h
          · exact absurd h hb
        rw [hb0, if_pos rfl]
        dsimp only
        rw [e2, if_pos next]
        exact ⟨(((mem (x : Int) j).length : Int), q.2), rfl, by rw [em]; exact t1, by rw [em], t3⟩)
  have E : L_M_ledger_47 LF (x : Int) 0 0 ν = some (q.1, q.2) := E
  exact ⟨q.2, by rw [E, s2], s1, s3⟩
/-- an order that may be -/
def VP (n : Nat) : Nat → List Nat → Prop
  | _, [] => True
  | S, i :: r => i < n ∧ S < 2 ^ n ∧ bitI (S : Int) (i : Int) = 0 ∧ VP n (S + 2 ^ i) r
theorem VP_ord {n : Nat} (hn : n < 6) : ∀ {m S : Nat} {y : List Nat}, S < 2 ^ n → y ∈ ord n m S → VP n S y ∧ y.length = m
  | 0, S, y, _, h => by
    have : y = [] := by simpa [ord] using h
    subst this
    exact ⟨trivial, rfl⟩
  | m + 1, S, y, hS, h => by
    obtain ⟨i, i1, i2⟩ := fm_mem h
    obtain ⟨hb, y', e, hy⟩ := ord_mem i2
    subst e
    have := VP_ord hn (b6_5 n (by omega) S hS i i1 hb) hy
    exact ⟨⟨i1, hS, hb, this.1⟩, by simp [this.2]⟩
theorem VP_prm {n k : Nat} (hn : n < 6) (hk : k < fac n) : VP n 0 (prm n k) ∧ (prm n k).length = n := by
  refine VP_ord hn Nat.one_le_two_pow ?_
  rw [ord_prm n hn]
  exact List.mem_map.mpr ⟨k, List.mem_range.mpr hk, rfl⟩
theorem csts_bd {cs : Nat → Nat → Int} (hc : ∀ S i, 0 ≤ cs S i ∧ cs S i ≤ 2000) : ∀ {r : List Nat} {S : Nat}, 0 ≤ csts cs S r ∧ csts cs S r ≤ 2000 * r.length
  | [], _ => by simp [csts]
  | i :: r, S => by
    have := csts_bd hc (r := r) (S := S + 2 ^ i)
    have := hc S i
    simp only [csts, List.length_cons]
    omega
theorem size_L {v : Int} (h : -9000 ≤ v ∧ v ≤ 9000) : F_M_size v = some ((v.natAbs : Nat) : Int) := by
  unfold F_M_size
  by_cases h0 : 0 ≤ v
  · rw [if_pos h0]; congr 1; omega
  · rw [if_neg h0, if_pos (show r32 (-v) from ⟨by omega, by omega⟩)]; congr 1; omega
theorem MJ.use {μ ν : Mm} {G O M : Law} {F : Nat → Int} {L : DL} (h : MJ μ ν G O M F) (h53 : ν 200 53 = (L.length : Int)) (hle : L.length ≤ 16) (hD : DF (ν 230) 0 L) (hK : DOK L) : ∃ t, F_M_usesDigits ν = some t ∧ MJ μ t G O M (useD L F) ∧ Fr [226] ν t := by
  obtain ⟨⟨o1, o2, o3, o4, o5⟩, o6, o7⟩ := h
  obtain ⟨t, E, t1, f1⟩ := uses_ok h53 hle hD hK o5
  exact ⟨t, E, ⟨⟨o1.fr f1 (by rw [f1 201 (by decide)]) (by decide), o2, o3, o4, by rw [t1]; exact (useD_env hK o5).1⟩, by rw [t1]; exact useD_40 o6, o7.tr (QM.of f1 (by decide))⟩, f1⟩
theorem apart8 {μ : Mm} {G O M : Law} {E : Nat → Int} {n : Nat} {ml : List Nat} {P : Nat → Nat} {Mn : Nat → Int} {NU : Nat → Nat → Int} (hn : n < 6) (hml : ml.length = n) (hm12 : ∀ i, i < n → ml.getD i 0 < 12) (hrow : ∀ i, i < n → RowM (μ 201) (ml.getD i 0) (P (ml.getD i 0)) (Mn (ml.getD i 0)) (NU (ml.getD i 0))) (hL : ∀ i, (drw (NU (ml.getD i 0)) (P (ml.getD i 0))).length ≤ 16) :
    ∀ (r : List Nat) (N j S : Nat) (t : Mm) (x2 : Int), r.length < N → j + r.length = n → VP n S r → (∀ i, i < r.length → t 234 (j + i) = gL r i) → LiesAt (t 239) ml → MJ μ t G O M (EU E (gS (fun i => drw (NU (ml.getD i 0)) (P (ml.getD i 0))) n S)) → 0 ≤ x2 ∧ x2 + 2000 * r.length ≤ 20000 →
    ∃ u, L_M_apartSo_8 N (n : Int) x2 (j : Int) t = some (x2 + csts (cost G O E (fun i => drw (NU (ml.getD i 0)) (P (ml.getD i 0))) n) S r, u) ∧ (∃ F, MJ μ u G O M F) ∧ u 239 = t 239 ∧ u 234 = t 234 ∧ u 235 = t 235 := by
  intro r
  induction r with
  | nil =>
    intro N j S t x2 hN hj hV h234 h239 hM hx
    match N, hN with
    | N + 1, _ =>
      simp only [List.length_nil] at hj
      rw [L_M_apartSo_8, if_pos (by omega), csts, Int.add_zero]
      exact ⟨t, rfl, ⟨_, hM⟩, rfl, rfl, rfl⟩
  | cons i r ih =>
    intro N j S t x2 hN hj hV h234 h239 hM hx
    match N, hN with
    | N + 1, hN =>
      obtain ⟨i1, hS, hb, hV'⟩ := hV
      simp only [List.length_cons] at hN hj hx h234
      have e2 : (j : Int) + 1 = ((j + 1 : Nat) : Int) := by omega
      have ej : ((j : Int)).toNat = j := by omega
      have z234 : t 234 j = (i : Int) := by have := h234 0 (by omega); exact this
      have ei : ((i : Int)).toNat = i := by omega
      have z239 : t 239 i = ((ml.getD i 0 : Nat) : Int) := h239 i (by omega)
      have hR := hrow i i1
      obtain ⟨t1, E1, m1, L1, n1, f1, -⟩ := hM.row (hm12 i i1) hR
      obtain ⟨⟨v, t2⟩, E2, v1, m2, f2, -, L2, R2, d2⟩ := m1.out L1
      have v1 : v = trs (Mn (ml.getD i 0)) (t1 229) (P (ml.getD i 0)) + offL (tw G O (EU E (gS (fun i => drw (NU (ml.getD i 0)) (P (ml.getD i 0))) n S))) (drw (t1 229) (P (ml.getD i 0))) := v1
      have m2 : MJ μ t2 G O M (EU E (gS (fun i => drw (NU (ml.getD i 0)) (P (ml.getD i 0))) n S)) := m2
      have f2 : Fr SM t1 t2 := f2
      have p4 : P (ml.getD i 0) ≤ 4 := hR.2.1
      have dd : drw (t1 229) (P (ml.getD i 0)) = drw (NU (ml.getD i 0)) (P (ml.getD i 0)) := drw_cong (fun i hi => n1 i (by omega))
      have R2 : MRow (t2 230) (t2 231) (t2 232) (drw (t1 229) (P (ml.getD i 0))) := R2
      have d2 : t2 200 53 = ((drw (t1 229) (P (ml.getD i 0))).length : Int) := d2
      rw [dd] at v1 R2 d2
      obtain ⟨y1, y2, y3, y4, y5, y6, y7⟩ := L2
      have E3 : F_M_trueNow t2 = some (trs (Mn (ml.getD i 0)) (t1 229) (P (ml.getD i 0))) := by
        rw [trueNow_ok ⟨y3, y4⟩ y1 y7 y5 y6, trs_cong (g := t1 229) (fun i hi => congrFun (f2 229 (by decide)) i)]
      have dok : DOK (drw (NU (ml.getD i 0)) (P (ml.getD i 0))) := drw_ok (fun i hi => (hR.2.2.2.2.2.2.2 i hi).1)
      have lb := hL i
      obtain ⟨t3, E4, m3, f3⟩ := m2.use d2 lb R2.df dok
      have ob := offL_bd (G := G) (O := O) (E := EU E (gS (fun i => drw (NU (ml.getD i 0)) (P (ml.getD i 0))) n S)) (drw (NU (ml.getD i 0)) (P (ml.getD i 0)))
      have ev : v - trs (Mn (ml.getD i 0)) (t1 229) (P (ml.getD i 0)) = offL (tw G O (EU E (gS (fun i => drw (NU (ml.getD i 0)) (P (ml.getD i 0))) n S))) (drw (NU (ml.getD i 0)) (P (ml.getD i 0))) := by rw [v1]; omega
      have ec : (((offL (tw G O (EU E (gS (fun i => drw (NU (ml.getD i 0)) (P (ml.getD i 0))) n S))) (drw (NU (ml.getD i 0)) (P (ml.getD i 0)))).natAbs : Nat) : Int) = cost G O E (fun i => drw (NU (ml.getD i 0)) (P (ml.getD i 0))) n S i := rfl
      have cb := cost_bd (G := G) (O := O) (E := E) (n := n) hL S i
      have em : useD (drw (NU (ml.getD i 0)) (P (ml.getD i 0))) (EU E (gS (fun i => drw (NU (ml.getD i 0)) (P (ml.getD i 0))) n S)) = EU E (gS (fun i => drw (NU (ml.getD i 0)) (P (ml.getD i 0))) n (S + 2 ^ i)) := by
        rw [useD_EU dok]
        exact congrArg (EU E) (funext fun d => (gS_s (Li := fun i => drw (NU (ml.getD i 0)) (P (ml.getD i 0))) hn hS i1 hb).symm)
      rw [em] at m3
      have same : ∀ k, k = 239 ∨ k = 234 ∨ k = 235 → t3 k = t k := fun k hk => by
        rw [f3 k (by simp; omega), f2 k (by simp; omega), f1 k (by simp; omega)]
      have rr : r32 (v - trs (Mn (ml.getD i 0)) (t1 229) (P (ml.getD i 0))) := by rw [ev]; exact ⟨by omega, by omega⟩
      obtain ⟨u, E5, u1, u2, u3, u4⟩ := ih N (j + 1) (S + 2 ^ i) t3 (x2 + cost G O E (fun i => drw (NU (ml.getD i 0)) (P (ml.getD i 0))) n S i) (by omega) (by omega) hV' (fun k hk => by
        rw [same 234 (by omega)]
        have := h234 (k + 1) (by omega)
        rw [show j + 1 + k = j + (k + 1) by omega]
        exact this) (by rw [same 239 (by omega)]; exact h239) m3 ⟨by omega, by omega⟩
      rw [L_M_apartSo_8, if_neg (by omega), if_pos (show 0 ≤ (j : Int) ∧ (j : Int) < 6 by omega), ej, z234, if_pos (show 0 ≤ (i : Int) ∧ (i : Int) < 5 by omega), ei, z239, E1, b0M_some, E2, b1M_some, E3, b1_some, if_pos rr, ev, size_L ⟨by omega, by omega⟩, b1_some, E4, b0M_some, ec, if_pos (show r32 (x2 + cost G O E (fun i => drw (NU (ml.getD i 0)) (P (ml.getD i 0))) n S i) from ⟨by omega, by omega⟩), e2, if_pos (r32_nat (by omega)), E5]
      refine ⟨u, ?_, u1, by rw [u2]; exact same 239 (by omega), by rw [u3]; exact same 234 (by omega), by rw [u4]; exact same 235 (by omega)⟩
      rw [csts, Int.add_assoc]
