-- asking: the class's judge and the reference's laid state
def CJ (σ τ : Mm) (G O M : Law) (n : Int) : Prop := JOK τ G O M ∧ QC σ τ ∧ τ 2 5 = σ 2 5 + n ∧ τ 3 = σ 3
def MJ (μ ν : Mm) (G O M : Law) (E : Nat → Int) : Prop := MOK ν G O M ∧ Eq40 E (EM ν) ∧ QM μ ν
theorem Now.fresh {σ μ : Mm} {G O M : Law} {B R : Int} (h : Now σ μ G O M B R) (hB : B ≤ 90000000) (hR : R < 2147483647) : Ok (F_J_fresh σ) (fun τ => CJ σ τ G O M 1 ∧ Fr [2] σ τ) := by
  have hr := h.round
  refine (fresh_ok (σ := σ) (G := G) (O := O) (M := M) ⟨h.laws, h.ok.1, h.memo⟩ ⟨by omega, by omega⟩).mono (fun τ hτ => ?_)
  obtain ⟨t1, t2, t3, t4⟩ := hτ
  exact ⟨⟨t1, ⟨fun i hi => t2 i (by simp; omega), t4, fun k _ => by rw [t2 3 (by decide)]⟩, t3, t2 3 (by decide)⟩, t2⟩
theorem CJ.fr {σ τ ρ : Mm} {G O M : Law} {n : Int} (h : CJ σ τ G O M n) (hf : Fr [4, 5, 6, 7] τ ρ) (hj : JOK ρ G O M) : CJ σ ρ G O M n :=
  ⟨hj, h.2.1.tr (QC.of hf (by decide)), by rw [hf 2 (by decide)]; exact h.2.2.1, (hf 3 (by decide)).trans h.2.2.2⟩
/-- other cells of the class's own -/
theorem CJ.frx {σ τ ρ : Mm} {G O M : Law} {n : Int} {S : List Nat} (h : CJ σ τ G O M n) (hf : Fr S τ ρ) (hS : ∀ i ∈ S, i = 9 ∨ (114 ≤ i ∧ i < 121) ∨ (124 ≤ i ∧ i < 130) ∨ i = 131 ∨ i = 132) : CJ σ ρ G O M n := by
  have e : ∀ i, i < 9 ∨ (94 ≤ i ∧ i < 114) → ρ i = τ i := fun i hi => hf i (fun q => by have := hS i q; omega)
  obtain ⟨⟨l1, l2, l3, l4⟩, q1, q2, q3⟩ := h
  refine ⟨⟨l1.e (by rw [e 2 (by omega)]) (fun i a b => e i (by omega)), by rw [e 3 (by omega)]; exact l2, by rw [e 6 (by omega), e 2 (by omega)]; exact l3, ?_⟩, q1.tr (QC.of hf (fun i hi => by have := hS i hi; omega)), by rw [e 2 (by omega)]; exact q2, (e 3 (by omega)).trans q3⟩
  intro l r k h1 h2 h3 h4
  rw [e 7 (by omega), e 3 (by omega)]
  exact l4 l r k h1 h2 h3 (by rw [e 6 (by omega), e 2 (by omega)] at h4; exact h4)
theorem CJ.two {σ τ : Mm} {G O M : Law} {n : Int} (h : CJ σ τ G O M n) {d e m : Int} (hd : 0 ≤ d ∧ d ≤ 9) (he : 0 ≤ e ∧ e ≤ 9) (hm : 0 ≤ m ∧ m ≤ 3) : Ok (F_J_two d e m τ) (fun x => x.1 = tw G O (σ 3) d e m ∧ Fr [4, 5, 6, 7] τ x.2 ∧ CJ σ x.2 G O M n) := by
  refine (two_i h.1 hd he hm).mono (fun x hx => ⟨by rw [hx.1, h.2.2.2], hx.2.1, h.fr hx.2.1 hx.2.2⟩)
theorem Rel.shut {σ τ μ ν : Mm} {G O M : Law} {B R n S : Int} {E : Nat → Int} (h : Rel σ μ B R) (hR : σ 2 5 + n ≤ S) (hn : 0 ≤ n) (hc : CJ σ τ G O M n) (hm : MJ μ ν G O M E) : Rel τ ν B S := by
  obtain ⟨G', O', M', hN, hE⟩ := id h
  have hr := hN.round
  exact h.ask hc.2.1 hm.2.2 hc.1.2.2.1 ⟨by rw [hc.2.2.1]; omega, by rw [hc.2.2.1]; omega⟩
theorem Now.lays {σ μ : Mm} {G O M : Law} {B R : Int} (h : Now σ μ G O M B R) : Ok (F_M_laysNow μ) (fun ν => MJ μ ν G O M (σ 3) ∧ Fr [200, 225, 226, 227, 228] μ ν ∧ (∀ s, s ≠ 45 → s ≠ 46 → ν 200 s = μ 200 s) ∧ Mid σ ν G O M B) := by
  refine (lays_mid h.laws h.lawsM h.memo h.snap h.ok).mono (fun ν hν => ?_)
  obtain ⟨v1, v2, v3⟩ := hν
  exact ⟨⟨v1.2.1, v1.2.2.1, QM.f0 v2 (by decide) (fun s hs => v3 s (by omega) (by omega))⟩, v2, v3, v1⟩
theorem MJ.fr {μ ν ξ : Mm} {G O M : Law} {E : Nat → Int} {S : List Nat} (h : MJ μ ν G O M E) (hf : Fr S ν ξ) (hS : ∀ i ∈ S, i = 200 ∨ (222 < i ∧ (i < 225 ∨ 228 < i))) (h2 : ∀ s, s = 3 ∨ s = 4 ∨ s = 5 ∨ s = 45 → ξ 200 s = ν 200 s) : MJ μ ξ G O M E := by
  have h45 := h2 45 (by omega)
  have h201 : ξ 201 = ν 201 := hf 201 (fun q => by have := hS 201 q; omega)
  refine ⟨h.1.fr hf (by rw [h201]) h45 (fun i hi => by have := hS i hi; omega), ?_, h.2.2.tr (QM.f0 hf (fun i hi => by have := hS i hi; omega) (fun s hs => h2 s (by omega)))⟩
  rw [EM_fr hf h45 (fun i hi => by have := hS i hi; omega)]; exact h.2.1
theorem MJ.out {μ ν : Mm} {G O M : Law} {E : Nat → Int} (h : MJ μ ν G O M E) {p : Nat} {mn : Int} (hL : Laid ν p mn) : Ok (F_M_outNow ν) (fun r => r.1 = trs mn (ν 229) p + offL (tw G O E) (drw (ν 229) p) ∧ MJ μ r.2 G O M E ∧ Fr SM ν r.2 ∧ (∀ s, s ≠ 53 → r.2 200 s = ν 200 s) ∧ Laid r.2 p mn ∧ MRow (r.2 230) (r.2 231) (r.2 232) (drw (ν 229) p) ∧ r.2 200 53 = ((drw (ν 229) p).length : Int)) := by
  refine (outNow_ok h.1 hL).mono (fun r hr => ?_)
  obtain ⟨r1, r2, r3, r4, r5⟩ := hr
  obtain ⟨l1, l2, l3, l4, l5, l6, l7⟩ := hL
  refine ⟨by rw [r1, offL_T (EqT_40 h.2.1) (drw_ok (fun i hi => (l7 i hi).1))], h.fr r2 (by decide) (fun s hs => r3 s (by omega)), r2, r3, ⟨l1, l2, l3, l4, by rw [r3 48 (by decide)]; exact l5, by rw [r3 49 (by decide)]; exact l6, fun i hi => by rw [r2 229 (by decide)]; exact l7 i hi⟩, r4, r5⟩
theorem MJ.quarrels {μ ν : Mm} {G O M : Law} {E : Nat → Int} (h : MJ μ ν G O M E) {p : Nat} {mn : Int} (hL : Laid ν p mn) : Ok (F_M_quarrelsNow ν) (fun r => r.1 = qL (tw G O E) (drw (ν 229) p) ∧ MJ μ r.2 G O M E ∧ Fr SM ν r.2 ∧ (∀ s, s ≠ 53 → r.2 200 s = ν 200 s)) := by
  refine (quarrelsNow_ok h.1 hL).mono (fun r hr => ?_)
  obtain ⟨r1, r2, r3⟩ := hr
  obtain ⟨l1, l2, l3, l4, l5, l6, l7⟩ := hL
  exact ⟨by rw [r1, qL_T (EqT_40 h.2.1) (drw_ok (fun i hi => (l7 i hi).1))], h.fr r2 (by decide) (fun s hs => r3 s (by omega)), r2, r3⟩
theorem MJ.row {μ ν : Mm} {G O M : Law} {E : Nat → Int} (h : MJ μ ν G O M E) {r p : Nat} {mn : Int} {nums : Nat → Int} (hr : r < 12) (hR : RowM (μ 201) r p mn nums) : Ok (F_M_laysRow (r : Int) ν) (fun τ => MJ μ τ G O M E ∧ Laid τ p mn ∧ (∀ j, j < 4 → τ 229 j = nums j) ∧ Fr [200, 229] ν τ ∧ (∀ s, s ≠ 48 → s ≠ 49 → τ 200 s = ν 200 s)) := by
  refine (laysRow_ok hr (by rw [h.2.2.1 201 (by omega)]; exact hR)).mono (fun τ hτ => ?_)
  obtain ⟨t1, t2, t3, t4⟩ := hτ
  exact ⟨h.fr t3 (by decide) (fun s hs => t4 s (by omega) (by omega)), t1, t2, t3, t4⟩
theorem quarrelsIn_loop {G O M : Law} {E : Nat → Int} {ρ : Nat} (hρ : 10 ≤ ρ ∧ ρ ≤ 21) : ∀ (L : DL) (n i : Nat) (x d : Int) (σ : Mm), L.length < n → JOK σ G O M → σ 3 = E → σ ρ 4 = ((i + L.length : Nat) : Int) → 1 ≤ i → i + L.length ≤ 16 → σ (ρ + 24) (i - 1) = d → 0 ≤ d ∧ d ≤ 9 → DigR (σ (ρ + 24)) (σ (ρ + 36)) i L → DOK L → 0 ≤ x ∧ x ≤ i →
    Ok (L_J_quarrelsIn_4 n ρ x (i : Int) σ) (fun r => r.1 = x + sumL (q0 (tw G O E)) d L ∧ Fr [4, 5, 6, 7] σ r.2 ∧ JOK r.2 G O M) := by
  intro L
  induction L with
  | nil =>
    intro n i x d σ hn hJ hE hlen h1 hle hd hd2 hD hK hx
    cases n with
    | zero => simp at hn
    | succ n =>
      rw [L_J_quarrelsIn_4]
      simp only [List.length_nil] at hlen
      exact Ok.it (by omega) (Ok.ret ⟨by simp [sumL], Fr.rf, hJ⟩)
  | cons p L ih =>
    obtain ⟨e, m⟩ := p
    intro n i x d σ hn hJ hE hlen h1 hle hd hd2 hD hK hx
    cases n with
    | zero => simp at hn
    | succ n =>
      rw [L_J_quarrelsIn_4]
      simp only [List.length_cons] at hn hlen hle
      have e1 : ((i : Int) - 1).toNat = i - 1 := by omega
      simp only [e1, Int.toNat_natCast]
      refine Ok.ie (by omega) (Ok.ck (by omega) (Ok.ck (by omega) (Ok.ck (by omega) ?_)))
      rw [hd, hD.1, hD.2.1]
      refine Ok.b1M (two_i hJ hd2 ⟨hK.1.1, hK.1.2.1⟩ hK.1.2.2) (fun a s hs => ?_)
      obtain ⟨ha, hf, hJ2⟩ := hs
      have ha : a = tw G O E d e m := by rw [← hE]; exact ha
      have hf : Fr [4, 5, 6, 7] σ s := hf
      refine Ok.bM ?_
      have ev : (if a = 1000 then 0 else 1 : Int) = q0 (tw G O E) d e m := by unfold q0; rw [ha]
      have hb : 0 ≤ q0 (tw G O E) d e m ∧ q0 (tw G O E) d e m ≤ 1 := by unfold q0; split <;> omega
      rw [ev]
      refine Ok.ck ⟨by omega, by omega⟩ (Ok.ck ⟨by omega, by omega⟩ ?_)
      have e2 : (i : Int) + 1 = ((i + 1 : Nat) : Int) := by omega
      rw [e2]
      have k4 : ∀ j, 10 ≤ j → s j = σ j := fun j hj => hf j (by simp; omega)
      refine (ih n (i + 1) (x + q0 (tw G O E) d e m) e s (by omega) hJ2 (by rw [hf 3 (by decide)]; exact hE) ?_ (by omega) (by omega) ?_ ⟨hK.1.1, hK.1.2.1⟩ ?_ hK.2 (by omega)).mono (fun r hr => ⟨?_, hf.tr hr.2.1, hr.2.2⟩)
      · rw [k4 ρ hρ.1, hlen]; congr 1; omega
      · rw [k4 (ρ + 24) (by omega)]; exact hD.1
      · rw [k4 (ρ + 24) (by omega), k4 (ρ + 36) (by omega)]; exact hD.2.2
      · rw [hr.1]; simp only [sumL]; omega
theorem quarrelsIn_ok {G O M : Law} {ρ : Nat} (hρ : 10 ≤ ρ ∧ ρ ≤ 21) {L : DL} {σ : Mm} (hJ : JOK σ G O M) (hR : RowD σ ρ L) : Ok (F_J_quarrelsIn ρ σ) (fun r => r.1 = qL (tw G O (σ 3)) L ∧ Fr [4, 5, 6, 7] σ r.2 ∧ JOK r.2 G O M) := by
  obtain ⟨h1, h2, h3, h4, h5⟩ := hR
  match L, h1, h2, h3, h4, h5 with
  | (d, k) :: t, h1, h2, h3, h4, h5 =>
    simp only [List.length_cons] at h1 h2
    unfold F_J_quarrelsIn
    refine Ok.b1M (quarrelsIn_loop hρ t LF 1 0 d σ (by unfold LF; omega) hJ rfl (by rw [h1]; congr 1; omega) (by omega) (by omega) h4.1 ⟨h5.1.1, h5.1.2.1⟩ h4.2.2 h5.2 (by omega)) (fun a s hs => Ok.ret ⟨?_, hs.2⟩)
    have e : a = 0 + sumL (q0 (tw G O (σ 3))) d t := hs.1
    simp only [qL]
    omega
theorem isO10 : ∀ r : Nat, r < 12 → IsO 0 6 (10 + r) := by decide +kernel
/-- the reference lays a ROW and its digits -/
theorem MJ.digits {μ ν : Mm} {G O M : Law} {E : Nat → Int} (h : MJ μ ν G O M E) {p : Nat} {mn : Int} (hL : Laid ν p mn) : Ok (F_M_laysDigits ν) (fun τ => MJ μ τ G O M E ∧ Laid τ p mn ∧ MRow (τ 230) (τ 231) (τ 232) (drw (ν 229) p) ∧ τ 200 53 = ((drw (ν 229) p).length : Int) ∧ Fr [200, 230, 231, 232] ν τ ∧ (∀ s, s ≠ 53 → τ 200 s = ν 200 s)) := by
  obtain ⟨l1, l2, l3, l4, l5, l6, l7⟩ := hL
  refine (laysDigits_ok l1 l5 l7).mono (fun τ hτ => ?_)
  obtain ⟨t1, t2, t3, t4⟩ := hτ
  exact ⟨h.fr t3 (by decide) (fun s hs => t4 s (by omega)), ⟨l1, l2, l3, l4, by rw [t4 48 (by decide)]; exact l5, by rw [t4 49 (by decide)]; exact l6, fun i hi => by rw [t3 229 (by decide)]; exact l7 i hi⟩, t1, t2, t3, t4⟩
theorem ofRow_rel {σ μ : Mm} {B R : Int} (h : Rel σ μ B R) (hB : B + 400 ≤ 90000000) (hR : R + 1000 < 2147483647) (x y : Int) : Op (F_A_ofRow x y σ) (F_M_ofRow x y μ) B (R + 1000) := by
  obtain ⟨G, O, M, hN, hE⟩ := id h
  obtain ⟨c, c1, c2, c3, c4⟩ := hN.rows
  have hr := hN.round
  obtain ⟨e1, e2⟩ := has_row c1 c2 c3 x
  unfold F_A_ofRow F_M_ofRow
  rw [e1, e2, b1_some, b1_some]
  by_cases hx : 0 ≤ x ∧ x < (c : Int)
  · rw [if_pos hx, if_neg ne10, if_neg ne10]
    obtain ⟨r, rfl⟩ := Int.eq_ofNat_of_zero_le hx.1
    have er : ((r : Int)).toNat = r := by omega
    obtain ⟨p, mn, nums, hC, hM⟩ := c4 r (by omega)
    obtain ⟨p1, p2, m1, m2, C3, C5, C6, Cn, Cb, hD⟩ := id hC
    have mn15 := mn15 p2 m2
    have hlen := drw_len nums p
    rw [if_pos (show 0 ≤ (r : Int) ∧ (r : Int) < 12 by omega), er]
    simp only [bindM_eq, C3]
    obtain ⟨ν1, E1, mj1, -⟩ := hN.lays
    obtain ⟨ν2, E2, mj2, L2, n2, -⟩ := mj1.row (r := r) (by omega) hM
    obtain ⟨ν3, E3, mj3, L3, R3, d3, F3, s3⟩ := mj2.digits L2
    have n3 : ∀ j, j < 4 → ν3 229 j = nums j := fun j hj => by rw [F3 229 (by decide)]; exact n2 j hj
    have dd : drw (ν2 229) p = drw nums p := drw_cong (fun i hi => n2 i (by omega))
    have dd3 : drw (ν3 229) p = drw nums p := drw_cong (fun i hi => n3 i (by omega))
    have tt3 : trs mn (ν3 229) p = trs mn nums p := trs_cong (fun i hi => n3 i (by omega))
    rw [dd] at d3
    rw [E1, b0M_some, E2, b0M_some, E3, b0M_some]
    have L3' := L3
    obtain ⟨l1, l2, l3, l4, l5, l6, l7⟩ := L3'
    rw [l5, l6, d3]
    obtain ⟨τ, T1, cj, fτ⟩ := hN.fresh (by omega) (by omega)
    have t10 : τ (10 + r) = σ (10 + r) := fτ _ (by simp; omega)
    have shut0 : Rel σ ν3 B (R + 1000) := h.askM mj3.2.2 |>.w (Int.le_refl _) (by omega)
    have shut1 : Rel τ ν3 B (R + 1000) := h.shut (by omega) (by omega) cj mj3
    by_cases hA : 20 ≤ y ∧ y < 20 + (p : Int)
    · rw [if_neg (show ¬ y < 10 by omega), if_pos (show r32 (10 + (p : Int)) from ⟨by omega, by omega⟩), if_pos (show 10 + (p : Int) ≤ y by omega), if_neg (show ¬ y < 20 by omega), if_pos (show r32 (20 + (p : Int)) from ⟨by omega, by omega⟩), if_neg (show ¬ 20 + (p : Int) ≤ y by omega)]
      rw [if_neg (show ¬ y = 0 by omega), if_neg (show ¬ y = 1 by omega), if_neg (show ¬ y = 2 by omega), if_neg (show ¬ y = 3 by omega), if_neg (show ¬ y = 4 by omega), if_pos (show r32 (19 + (p : Int)) from ⟨by omega, by omega⟩), in_ok, b1_some, if_pos (show 20 ≤ y ∧ y ≤ 19 + (p : Int) by omega), if_neg ne10, C5]
      exact Op.ret rfl shut0
    · by_cases hB2 : 10 ≤ y ∧ y < 10 + (p : Int)
      · obtain ⟨k, hk⟩ := Int.eq_ofNat_of_zero_le (show 0 ≤ y - 10 by omega)
        have ek : (y - 10).toNat = k := by omega
        have eρ : 10 + r + 12 = 22 + r := by omega
        rw [if_neg (show ¬ y < 10 by omega), if_pos (show r32 (10 + (p : Int)) from ⟨by omega, by omega⟩), if_neg (show ¬ 10 + (p : Int) ≤ y by omega), if_pos (show 0 ≤ y - 10 ∧ y - 10 < 4 by omega)]
        rw [if_neg (show ¬ y = 0 by omega), if_neg (show ¬ y = 1 by omega), if_neg (show ¬ y = 2 by omega), if_neg (show ¬ y = 3 by omega), if_neg (show ¬ y = 4 by omega), if_pos (show r32 (19 + (p : Int)) from ⟨by omega, by omega⟩), in_ok, b1_some, if_neg (show ¬ (20 ≤ y ∧ y ≤ 19 + (p : Int)) by omega), if_pos rfl, if_pos (show r32 (9 + (p : Int)) from ⟨by omega, by omega⟩), in_ok, b1_some, if_pos (show 10 ≤ y ∧ y ≤ 9 + (p : Int) by omega), if_neg ne10, if_pos (show 0 ≤ y - 10 ∧ y - 10 < 4 by omega), ek, eρ, Cn k (by omega), n3 k (by omega)]
        exact Op.ret rfl shut0
      · have sw : ∀ (X : Option (Int × Mm)) (N1 N2 : Option (Int × Mm)), (if y < 10 then (if y < 20 then X else if r32 (20 + (p : Int)) then if 20 + (p : Int) ≤ y then X else N1 else none) else if r32 (10 + (p : Int)) then if 10 + (p : Int) ≤ y then (if y < 20 then X else if r32 (20 + (p : Int)) then if 20 + (p : Int) ≤ y then X else N1 else none) else N2 else none) = X := fun X N1 N2 => by
          by_cases h1 : y < 10
          · rw [if_pos h1, if_pos (show y < 20 by omega)]
          · rw [if_neg h1, if_pos (show r32 (10 + (p : Int)) from ⟨by omega, by omega⟩), if_pos (show 10 + (p : Int) ≤ y by omega)]
            by_cases h2 : y < 20
            · rw [if_pos h2]
            · rw [if_neg h2, if_pos (show r32 (20 + (p : Int)) from ⟨by omega, by omega⟩), if_pos (show 20 + (p : Int) ≤ y by omega)]
        rw [sw, T1, b0M_some, t10, C3, C6, hD.1]
        by_cases y0 : y = 0
        · rw [if_pos y0, if_pos y0]; exact Op.ret rfl shut1
        · rw [if_neg y0, if_neg y0]
          by_cases y1 : y = 1
          · rw [if_pos y1, if_pos y1, trueNow_ok ⟨l3, l4⟩ l1 l7 l5 l6, b1_some, tt3]; exact Op.ret rfl shut1
          · rw [if_neg y1, if_neg y1]
            have hDτ : RowD τ (10 + r) (drw nums p) := by
              obtain ⟨d1, d2, d4, d5, d6⟩ := hD
              exact ⟨by rw [t10]; exact d1, d2, d4, d5.fr (fτ _ (by simp)) (fτ _ (by simp)), d6⟩
            by_cases y2 : y = 2
            · rw [if_pos y2, if_pos y2]
              obtain ⟨⟨v, τ2⟩, T2, v1, f2, j2⟩ := offOf_ok (isO10 r (by omega)) cj.1 hDτ
              obtain ⟨⟨w, ν4⟩, E4, w1, mj4, -⟩ := mj3.out L3
              have v1 : v = offL (tw G O (σ 3)) (drw nums p) := by rw [← cj.2.2.2]; exact v1
              have w1 : w = trs mn nums p + offL (tw G O (σ 3)) (drw nums p) := by rw [← dd3, ← tt3]; exact w1
              have tb := trs_bd (mn := mn) (nums := nums) (k := p) Cb
              have ob := offL_bd (G := G) (O := O) (E := σ 3) (drw nums p)
              rw [T2, E4, b1M_some, b1M_some, v1, if_pos (show r32 (trs mn nums p + offL (tw G O (σ 3)) (drw nums p)) from ⟨by omega, by omega⟩), w1]
              exact Op.ret rfl (h.shut (n := 1) (by omega) (by omega) (cj.fr f2 j2) mj4)
            · rw [if_neg y2, if_neg y2]
              by_cases y3 : y = 3
              · rw [if_pos y3, if_pos y3]
                obtain ⟨⟨v, τ2⟩, T2, v1, f2, j2⟩ := quarrelsIn_ok (ρ := 10 + r) ⟨by omega, by omega⟩ cj.1 hDτ
                obtain ⟨⟨w, ν4⟩, E4, w1, mj4, -⟩ := mj3.quarrels L3
                have v1 : v = qL (tw G O (σ 3)) (drw nums p) := by rw [← cj.2.2.2]; exact v1
                have w1 : w = qL (tw G O (σ 3)) (drw nums p) := by rw [← dd3]; exact w1
                rw [T2, E4, b1M_some, b1M_some, v1, w1]
                exact Op.ret rfl (h.shut (n := 1) (by omega) (by omega) (cj.fr f2 j2) mj4)
              · rw [if_neg y3, if_neg y3]
                by_cases y4 : y = 4
                · rw [if_pos y4, if_pos y4]; exact Op.ret rfl shut1
                · rw [if_neg y4, if_neg y4, if_pos (show r32 (19 + (p : Int)) from ⟨by omega, by omega⟩), in_ok, b1_some, if_neg (show ¬ (20 ≤ y ∧ y ≤ 19 + (p : Int)) by omega), if_pos rfl, if_pos (show r32 (9 + (p : Int)) from ⟨by omega, by omega⟩), in_ok, b1_some, if_neg (show ¬ (10 ≤ y ∧ y ≤ 9 + (p : Int)) by omega), if_pos rfl]
                  exact Op.ret rfl shut1
  · rw [if_neg hx, if_pos rfl, if_pos rfl]
    exact Op.ret rfl (h.w (Int.le_refl _) (by omega))
