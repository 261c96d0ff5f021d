-- `feed`
theorem byte_w (a : BitVec 32) (k : Nat) (hk : k ≤ 24) : (a.sshiftRight k).setWidth 8 = (a >>> k).setWidth 8 := by
  ext i hi
  simp only [BitVec.getElem_setWidth, BitVec.getLsbD_sshiftRight, BitVec.getLsbD_ushiftRight]
  rw [if_pos (by omega)]
  simp
  omega
theorem byte_nn (b : BitVec 8) : (b.toInt = (b.toNat : Int) ∧ (b.toNat : Int) < 128) ∨ (b.toInt = (b.toNat : Int) - 256 ∧ 128 ≤ (b.toNat : Int)) := by
  have h := b.isLt
  rw [BitVec.toInt_eq_toNat_cond]
  by_cases c : 2 * b.toNat < 2 ^ 8
  · rw [if_pos c]; left; omega
  · rw [if_neg c]; right; omega
theorem byte_ok {x : Int} {k : Nat} (hk : k = 0 ∨ k = 8 ∨ k = 16 ∨ k = 24) : 0 ≤ iand (iushr x (k : Int)) 255 ∧ iand (iushr x (k : Int)) 255 ≤ 255 ∧ ((nbI (i2bI (ishr x (k : Int))) = iand (iushr x (k : Int)) 255 ∧ iand (iushr x (k : Int)) 255 < 128) ∨ (nbI (i2bI (ishr x (k : Int))) = iand (iushr x (k : Int)) 255 - 256 ∧ 128 ≤ iand (iushr x (k : Int)) 255)) := by
  have hk24 : k ≤ 24 := by omega
  have e1 : iand (iushr x (k : Int)) 255 = ((((i32 x).toBitVec >>> k).setWidth 8).toNat : Int) := by
    unfold iand iushr
    rw [i32_of]
    have h255 : i32 255 = 255 := by decide
    rw [h255]
    have hs : ((i32 (k : Int)).toUInt32 &&& Int32.toUInt32 31).toNat % 32 = k := by
      rcases hk with rfl | rfl | rfl | rfl <;> decide
    have hv : (((i32 x).toUInt32 >>> ((i32 (k : Int)).toUInt32 &&& Int32.toUInt32 31)).toInt32 &&& 255).toBitVec = ((i32 x).toBitVec >>> k) &&& 255#32 := by
      rw [Int32.toBitVec_and]
      congr 1
      show ((i32 x).toUInt32 >>> ((i32 (k : Int)).toUInt32 &&& Int32.toUInt32 31)).toBitVec = _
      rw [UInt32.toBitVec_shiftRight]
      apply BitVec.eq_of_toNat_eq
      rw [BitVec.toNat_ushiftRight]
      rcases hk with rfl | rfl | rfl | rfl <;> simp <;> rfl
    have ht : (((i32 x).toBitVec >>> k) &&& 255#32).toNat = (((i32 x).toBitVec >>> k).setWidth 8).toNat := by
      rw [BitVec.toNat_and, BitVec.toNat_setWidth]
      have : (255#32).toNat = 2 ^ 8 - 1 := rfl
      rw [this, Nat.and_two_pow_sub_one_eq_mod]
    rw [← Int32.toInt_toBitVec, hv, BitVec.toInt_eq_toNat_cond, ht]
    have := (((i32 x).toBitVec >>> k).setWidth 8).isLt
    rw [if_pos (by omega)]
  have e2 : nbI (i2bI (ishr x (k : Int))) = (((i32 x).toBitVec.sshiftRight k).setWidth 8).toInt := by
    unfold nbI i2bI ishr
    rw [i32_of, i32_of]
    have hv : (i32 x >>> (i32 (k : Int) &&& 31)).toBitVec = (i32 x).toBitVec.sshiftRight k := by
      rw [Int32.toBitVec_shiftRight]
      show (i32 x).toBitVec.sshiftRight (((i32 (k : Int) &&& 31).toBitVec.smod 32).toNat) = _
      congr 1
      rcases hk with rfl | rfl | rfl | rfl <;> decide
    have hn : ∀ z : Int32, vp_nar .byte z = z.toInt8.toInt32 := fun z => rfl
    rw [hn]
    have h8 : ∀ z : Int32, z.toInt8.toInt32.toInt8 = z.toInt8 := fun z => by simp
    rw [h8, Int8.toInt_toInt32, ← Int8.toInt_toBitVec]
    rw [Int32.toBitVec_toInt8, hv, BitVec.signExtend_eq_setWidth_of_le _ (by decide)]
  rw [e1, e2, byte_w _ k hk24]
  have := (((i32 x).toBitVec >>> k).setWidth 8).isLt
  refine ⟨by omega, by omega, ?_⟩
  rcases byte_nn (((i32 x).toBitVec >>> k).setWidth 8) with h | h
  · exact Or.inl h
  · exact Or.inr h
def Byt (a b : Int) : Prop := 0 ≤ a ∧ a ≤ 255 ∧ (b = a ∧ a < 128 ∨ b = a - 256 ∧ 128 ≤ a)
theorem take_one {n : Nat} {x : Int} {k l : Nat} {σ : Mm} (hl : σ 90 1 = (l : Int)) (hl2 : l < 300) (hk : k ≤ 24) : L_R_take_3 (n + 1) x (k : Int) σ = L_R_take_3 n x ((k : Int) + -8) (st2 (st2 σ 91 l (iand (iushr x (k : Int)) 255)) 90 1 ((l : Int) + 1)) := by
  have el : ((l : Int)).toNat = l := by omega
  have z : st2 σ 91 l (iand (iushr x (k : Int)) 255) 90 1 = (l : Int) := by rw [st2_ne (by decide)]; exact hl
  rw [L_R_take_3, if_neg (by omega)]
  simp only [bindM_eq, hl, el, z]
  rw [if_neg (by omega), if_pos (by omega), if_pos (show r32 ((l : Int) + 1) from ⟨by omega, by omega⟩), if_pos (show r32 ((k : Int) + -8) from ⟨by omega, by omega⟩)]
theorem put_byte {n : Nat} {x : Int} {k l : Nat} {σ : Mm} (hl : σ 200 3 = (l : Int)) (hl2 : l < 300) (hk : k ≤ 24) : L_M_put_3 (n + 1) x (k : Int) σ = L_M_put_3 n x ((k : Int) - 8) (st2 (st2 σ 203 l (nbI (i2bI (ishr x (k : Int))))) 200 3 ((l : Int) + 1)) := by
  have el : ((l : Int)).toNat = l := by omega
  have z : st2 σ 203 l (nbI (i2bI (ishr x (k : Int)))) 200 3 = (l : Int) := by rw [st2_ne (by decide)]; exact hl
  rw [L_M_put_3, if_neg (by omega)]
  simp only [bindM_eq, hl, el, z]
  rw [if_pos (by omega), if_pos (show r32 ((l : Int) + 1) from ⟨by omega, by omega⟩), if_pos (show r32 ((k : Int) - 8) from ⟨by omega, by omega⟩)]
/-- both tapes are alike so far -/
def Tp (σ μ : Mm) (l : Nat) : Prop := σ 90 1 = (l : Int) ∧ μ 200 3 = (l : Int) ∧ ∀ i, i < l → Byt (σ 91 i) (μ 203 i)
theorem Tp.one {σ μ : Mm} {l k : Nat} (x : Int) (h : Tp σ μ l) (hk : k = 0 ∨ k = 8 ∨ k = 16 ∨ k = 24) : Tp (st2 (st2 σ 91 l (iand (iushr x (k : Int)) 255)) 90 1 ((l : Int) + 1)) (st2 (st2 μ 203 l (nbI (i2bI (ishr x (k : Int))))) 200 3 ((l : Int) + 1)) (l + 1) := by
  obtain ⟨h1, h2, h3⟩ := h
  refine ⟨by rw [st2_ss]; omega, by rw [st2_ss]; omega, fun i hi => ?_⟩
  rw [st2_ne (show (91 : Nat) ≠ 90 by decide), st2_ne (show (203 : Nat) ≠ 200 by decide), st2_sk, st2_sk]
  by_cases e : i = l
  · rw [if_pos e, if_pos e]; exact byte_ok hk
  · rw [if_neg e, if_neg e]; exact h3 i (by omega)
theorem four_ok {x : Int} {σ μ : Mm} {l : Nat} (h : Tp σ μ l) (hl : l + 4 ≤ 300) : ∃ s u, F_R_take x σ = some s ∧ F_M_put x μ = some u ∧ Tp s u (l + 4) ∧ Fr [90, 91] σ s ∧ Fr [200, 203] μ u ∧ (∀ k, k ≠ 1 → s 90 k = σ 90 k) ∧ (∀ k, k ≠ 3 → u 200 k = μ 200 k) := by
  unfold F_R_take F_M_put
  have a0 := h
  have a1 := a0.one (k := 24) x (by omega)
  have a2 := a1.one (k := 16) x (by omega)
  have a3 := a2.one (k := 8) x (by omega)
  have a4 := a3.one (k := 0) x (by omega)
  have f : LF = 999995 + 1 + 1 + 1 + 1 + 1 := rfl
  rw [f]
  rw [show (24 : Int) = ((24 : Nat) : Int) from rfl, take_one a0.1 (by omega) (by omega), put_byte a0.2.1 (by omega) (by omega)]
  rw [show ((24 : Nat) : Int) + -8 = ((16 : Nat) : Int) from rfl, show ((24 : Nat) : Int) - 8 = ((16 : Nat) : Int) from rfl, take_one a1.1 (by omega) (by omega), put_byte a1.2.1 (by omega) (by omega)]
  rw [show ((16 : Nat) : Int) + -8 = ((8 : Nat) : Int) from rfl, show ((16 : Nat) : Int) - 8 = ((8 : Nat) : Int) from rfl, take_one a2.1 (by omega) (by omega), put_byte a2.2.1 (by omega) (by omega)]
  rw [show ((8 : Nat) : Int) + -8 = ((0 : Nat) : Int) from rfl, show ((8 : Nat) : Int) - 8 = ((0 : Nat) : Int) from rfl, take_one a3.1 (by omega) (by omega), put_byte a3.2.1 (by omega) (by omega)]
  rw [L_R_take_3, if_pos (by decide), L_M_put_3, if_pos (by decide), b0M_some, b0M_some]
  refine ⟨_, _, rfl, rfl, a4, ?_, ?_, fun k hk => ?_, fun k hk => ?_⟩
  · exact (((((((Fr.rf.st (by decide)).st (by decide)).st (by decide)).st (by decide)).st (by decide)).st (by decide)).st (by decide)).st (by decide)
  · exact (((((((Fr.rf.st (by decide)).st (by decide)).st (by decide)).st (by decide)).st (by decide)).st (by decide)).st (by decide)).st (by decide)
  · rw [st2_sk, if_neg hk, st2_ne (by decide), st2_sk, if_neg hk, st2_ne (by decide), st2_sk, if_neg hk, st2_ne (by decide), st2_sk, if_neg hk, st2_ne (by decide)]
  · rw [st2_sk, if_neg hk, st2_ne (by decide), st2_sk, if_neg hk, st2_ne (by decide), st2_sk, if_neg hk, st2_ne (by decide), st2_sk, if_neg hk, st2_ne (by decide)]
theorem feed_rel {σ μ : Mm} {B R : Int} (h : Rel σ μ B R) (a b c d e : Int) : Op (F_A_feed a b c d e σ) (F_M_feed a b c d e μ) B R := by
  obtain ⟨G, O, M, hN, hE⟩ := h
  have h : Rel σ μ B R := ⟨G, O, M, hN, hE⟩
  obtain ⟨⟨n, n1, n2, n3, n4⟩, hF, ⟨T, t1, t2, t3, t4, t5⟩, ⟨c', hS1, hS2⟩, hD, hI⟩ := hE
  have out : Op (some ((-1 : Int), σ)) (some (-1, μ)) B R := Ok.ret (Ok.ret ⟨rfl, h⟩)
  unfold F_A_feed F_M_feed
  rw [n2, n3, if_pos (show r32 ((n : Int) + 20) from ⟨by omega, by omega⟩), if_pos (show r32 ((n : Int) + 20) from ⟨by omega, by omega⟩)]
  by_cases hn : (n : Int) + 20 ≤ 300
  · rw [if_pos hn, if_pos hn]
    obtain ⟨s1, u1, A1, B1, p1, f1, g1, x1, y1⟩ := four_ok (x := a) (σ := σ) (μ := μ) (l := n) ⟨n2, n3, n4⟩ (by omega)
    obtain ⟨s2, u2, A2, B2, p2, f2, g2, x2, y2⟩ := four_ok (x := b) p1 (by omega)
    obtain ⟨s3, u3, A3, B3, p3, f3, g3, x3, y3⟩ := four_ok (x := c) p2 (by omega)
    obtain ⟨s4, u4, A4, B4, p4, f4, g4, x4, y4⟩ := four_ok (x := d) p3 (by omega)
    obtain ⟨s5, u5, A5, B5, p5, f5, g5, x5, y5⟩ := four_ok (x := e) p4 (by omega)
    rw [A1, B1, b0M_some, b0M_some, A2, B2, b0M_some, b0M_some, A3, B3, b0M_some, b0M_some, A4, B4, b0M_some, b0M_some, A5, B5, b0M_some, b0M_some]
    have F := (((f1.tr f2).tr f3).tr f4).tr f5
    have H := (((g1.tr g2).tr g3).tr g4).tr g5
    have ee : ∀ i, i ≠ 90 → i ≠ 91 → s5 i = σ i := fun i h1 h2 => F i (by simp; omega)
    have mm : ∀ i, i ≠ 200 → i ≠ 203 → u5 i = μ i := fun i h1 h2 => H i (by simp; omega)
    have xx : ∀ k, k ≠ 1 → s5 90 k = σ 90 k := fun k hk => by rw [x5 k hk, x4 k hk, x3 k hk, x2 k hk, x1 k hk]
    have yy : ∀ k, k ≠ 3 → u5 200 k = μ 200 k := fun k hk => by rw [y5 k hk, y4 k hk, y3 k hk, y2 k hk, y1 k hk]
    refine Op.ret (by rw [p5.1, p5.2.1]) ⟨G, O, M, hN.cells (hN.laws.fr F (by rw [ee 2 (by decide) (by decide)]) (by decide)) (hN.lawsM.fr H (by rw [mm 201 (by decide) (by decide)]) (by decide)) (fun i i1 i2 => ee i (by omega) (by omega)) (by rw [ee 2 (by decide) (by decide)]) (fun k _ => by rw [mm 201 (by decide) (by decide)]), ?_, ?_, ⟨T, t1, by rw [ee 0 (by decide) (by decide)]; exact t2, by rw [mm 201 (by decide) (by decide)]; exact t3, fun t ht => ?_, by rw [ee 0 (by decide) (by decide), mm 201 (by decide) (by decide), ee 2 (by decide) (by decide)]; exact t5⟩, ⟨c', by rw [ee 1 (by decide) (by decide)]; exact hS1, by rw [ee 121 (by decide) (by decide), ee 122 (by decide) (by decide), ee 123 (by decide) (by decide), mm 201 (by decide) (by decide)]; exact hS2⟩, by rw [ee 130 (by decide) (by decide), mm 201 (by decide) (by decide)]; exact hD, hI.fr2 (fun i hi => ee i (by omega) (by omega)) (by rw [ee 1 (by decide) (by decide)]) (by rw [ee 0 (by decide) (by decide)]; exact Int.le_refl _) (mm 202 (by decide) (by decide))⟩
    · exact ⟨n + 4 + 4 + 4 + 4 + 4, by omega, p5.1, p5.2.1, p5.2.2⟩
    · exact hF.fr (fun s s1 s2 => xx s (by omega)) (yy 4 (by decide)) (yy 5 (by decide))
    · obtain ⟨q1, G2, O2, M2, l1, l2, l3⟩ := t4 t ht
      obtain ⟨m, m1, m2, m3, m4⟩ := q1
      have z : ∀ i, 204 ≤ i → u5 i = μ i := fun i hi => mm i (by omega) (by omega)
      refine ⟨⟨m, m1, by rw [ee _ (by omega) (by omega)]; exact m2, by rw [z _ (by omega)]; exact m3, fun k hk => ?_⟩, G2, O2, M2, l1, ⟨l2.1.e (ee _ (by omega) (by omega)) (ee _ (by omega) (by omega)) (ee _ (by omega) (by omega)), l2.2.1.e (ee _ (by omega) (by omega)) (ee _ (by omega) (by omega)) (ee _ (by omega) (by omega)), l2.2.2.e (ee _ (by omega) (by omega)) (ee _ (by omega) (by omega)) (ee _ (by omega) (by omega))⟩, ⟨l3.1.fr H (by decide), l3.2.1.fr H (by decide), l3.2.2.fr H (by decide)⟩⟩
      rw [ee _ (by omega) (by omega), z 205 (by omega), z 207 (by omega), z 208 (by omega), z 209 (by omega)]; exact m4 k hk
  · rw [if_neg hn, if_neg hn]; exact out
