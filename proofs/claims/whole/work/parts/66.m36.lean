-- `year` on both sides
def Pa {α : Type} (o : Option α) (P : α → Prop) : Prop := ∀ x, o = some x → P x
theorem Pa.no {α : Type} {P : α → Prop} : Pa (none : Option α) P := fun _ h => nomatch h
theorem Pa.ret {α : Type} {x : α} {P : α → Prop} (h : P x) : Pa (some x) P := fun y e => by cases e; exact h
theorem Pa.br {α : Type} {c : Prop} {i : Decidable c} {A B : Option α} {P : α → Prop} (a : Pa A P) (b : Pa B P) : Pa (@ite _ c i A B) P := by
  by_cases h : c
  · rw [if_pos h]; exact a
  · rw [if_neg h]; exact b
theorem Pa.ck {α : Type} {c : Prop} {i : Decidable c} {A : Option α} {P : α → Prop} (a : Pa A P) : Pa (@ite (Option α) c i A none) P := Pa.br a Pa.no
theorem Pa.bM {α β : Type} {v : β} {f : β → Option α} {P : α → Prop} (k : Pa (f v) P) : Pa (bindM v f) P := k
theorem Pa.b0M {α : Type} {o : Option Mm} {f : Mm → Option α} {P : α → Prop} {Q : Mm → Prop} (h : Pa o Q) (k : ∀ s, Q s → Pa (f s) P) : Pa (b0M o f) P := by
  cases o with
  | none => exact Pa.no
  | some x => exact k x (h x rfl)
theorem Pa.b1M {α : Type} {o : Option (Int × Mm)} {f : Int → Mm → Option α} {P : α → Prop} {Q : Int × Mm → Prop} (h : Pa o Q) (k : ∀ a s, Q (a, s) → Pa (f a s) P) : Pa (b1M o f) P := by
  cases o with
  | none => exact Pa.no
  | some x => exact k x.1 x.2 (h x rfl)
theorem Pa.b1 {α : Type} {o : Option Int} {f : Int → Option α} {P : α → Prop} (k : ∀ a, Pa (f a) P) : Pa (b1 o f) P := by
  cases o with
  | none => exact Pa.no
  | some x => exact k x
theorem writes17_fr : ∀ (n : Nat) (x : Int) (σ : Mm), Pa (L_M_writes_17 n x σ) (fun τ => Fr [201] σ τ) := by
  intro n
  induction n with
  | zero => intro x σ; rw [L_M_writes_17]; exact Pa.no
  | succ n ih =>
    intro x σ
    rw [L_M_writes_17]
    refine Pa.br (Pa.ret Fr.rf) (Pa.ck (Pa.ck (Pa.bM (Pa.ck ?_))))
    intro τ h
    exact (Fr.rf.st (by decide)).tr (ih _ _ τ h)
theorem writes_fr (x v : Int) (σ : Mm) : Pa (F_M_writes x v σ) (fun τ => Fr [201] σ τ) := by
  unfold F_M_writes
  have J : ∀ t : Mm, Fr [201] σ t → Pa ((fun (t1 : Mm) =>
    bindM (184 + (3 * (t1 201 183))) fun v2 =>
    if 0 ≤ v2 ∧ v2 < 5240 then
      bindM (st2 t1 201 v2.toNat x) fun s3 =>
      if 0 ≤ v2 + 1 ∧ v2 + 1 < 5240 then
        bindM (st2 s3 201 ((v2 + 1).toNat) (s3 200 45)) fun s4 =>
        if 0 ≤ v2 + 2 ∧ v2 + 2 < 5240 then
          bindM (st2 s4 201 ((v2 + 2).toNat) v) fun s5 =>
          if r32 ((s5 201 183) + 1) then
            bindM (st2 s5 201 183 ((s5 201 183) + 1)) fun s7 =>
            some s7
          else none
        else none
      else none
    else none) t) (fun τ => Fr [201] σ τ) := fun t ht => Pa.bM (Pa.ck (Pa.bM (Pa.ck (Pa.bM (Pa.ck (Pa.bM (Pa.ck (Pa.bM (Pa.ret ((((ht.st (by decide)).st (by decide)).st (by decide)).st (by decide)))))))))))
  refine Pa.bM (Pa.br (Pa.b0M (writes17_fr LF 184 σ) (fun s hs => Pa.bM (J _ (hs.st (by decide))))) (J _ Fr.rf))
theorem bitc64 : ∀ a, a < 64 → ∀ b, b < 64 → F_K_bitCount ((64 * a + b : Nat) : Int) = some (pop 12 (64 * a + b)) := by decide +kernel
theorem bitc {k : Nat} (h : k < 2 ^ 12) : F_K_bitCount (k : Int) = some (pop 12 k) := by
  have := bitc64 (k / 64) (by omega) (k % 64) (by omega)
  have e : 64 * (k / 64) + k % 64 = k := by omega
  rw [e] at this; exact this
theorem set_temper {σ μ : Mm} {G O M : Law} {B R : Int} (h : Now σ μ G O M B R) {k : Nat} {y : Int} (hk : k < 10) (hv : 0 ≤ y ∧ y ≤ 9) : Now (st2 σ 3 k y) (st2 μ 201 (140 + k) y) G O M B R ∧ FrC σ (st2 σ 3 k y) ∧ FrM μ (st2 μ 201 (140 + k) y) := by
  have hok := h.ok
  have v1 : ∀ j, st2 σ 3 k y 3 j = if j = k then y else σ 3 j := fun j => by simp only [st2_f, reduceIte]
  refine set_now h (by omega) ⟨⟨fun j hj => ?_, fun j hj => ?_, fun j hj => ?_, fun j hj => ?_, ?_⟩, ?_, fun j hj => ?_, ?_⟩
  · rw [v1]
    split
    · omega
    · exact hok.1.1 j hj
  · rw [v1, if_neg (by omega)]; exact hok.1.2.1 j hj
  · rw [v1, if_neg (by omega)]; exact hok.1.2.2.1 j hj
  · rw [v1, if_neg (by omega)]; exact hok.1.2.2.2.1 j hj
  · rw [v1, if_neg (by omega)]; exact hok.1.2.2.2.2
  · rw [v1, if_neg (by omega)]; exact hok.2.1
  · rw [v1, if_neg (by omega)]; exact hok.2.2.1 j hj
  · rw [v1, if_neg (by omega), v1, if_neg (by omega)]; exact hok.2.2.2
theorem set_x {σ μ : Mm} {G O M : Law} {B R : Int} (h : Now σ μ G O M B R) {y : Int} (hv : 0 ≤ y ∧ y ≤ 40000) : Now (st2 σ 3 42 y) (st2 μ 201 182 y) G O M B R ∧ FrC σ (st2 σ 3 42 y) ∧ FrM μ (st2 μ 201 182 y) := by
  have hok := h.ok
  have v1 : ∀ j, st2 σ 3 42 y 3 j = if j = 42 then y else σ 3 j := fun j => by simp only [st2_f, reduceIte]
  refine set_now h (k := 42) (v := y) (by omega) ⟨⟨fun j hj => ?_, fun j hj => ?_, fun j hj => ?_, fun j hj => ?_, ?_⟩, ?_, fun j hj => ?_, ?_⟩
  · rw [v1, if_neg (by omega)]; exact hok.1.1 j hj
  · rw [v1, if_neg (by omega)]; exact hok.1.2.1 j hj
  · rw [v1, if_neg (by omega)]; exact hok.1.2.2.1 j hj
  · rw [v1, if_neg (by omega)]; exact hok.1.2.2.2.1 j hj
  · rw [v1, if_neg (by omega)]; exact hok.1.2.2.2.2
  · rw [v1, if_neg (by omega)]; exact hok.2.1
  · rw [v1, if_neg (by omega)]; exact hok.2.2.1 j hj
  · rw [v1, if_neg (by omega), v1, if_pos rfl]; exact ⟨hok.2.2.2.1, hv⟩
theorem turns_rel {σ μ : Mm} {G O M : Law} {B R : Int} (h : Now σ μ G O M B R) {k l : Nat} (lk : k < 10) (ll : l < 10) : ∃ (v : Int) (s u : Mm), F_H_turnTerms (k : Int) (l : Int) σ = some (v, s) ∧ F_M_turns2 (k : Int) (l : Int) μ = some u ∧ Now s u G O M B R ∧ FrC σ s ∧ FrM μ u := by
  have t0 : ((30 : Int) + (k : Int)).toNat = 30 + k := by omega
  have t1 : ((170 : Int) + (k : Int)).toNat = 170 + k := by omega
  have t2 : ((30 : Int) + (l : Int)).toNat = 30 + l := by omega
  have t3 : ((170 : Int) + (l : Int)).toNat = 170 + l := by omega
  have c1 : (0 : Int) ≤ 30 + (k : Int) ∧ (30 : Int) + (k : Int) < 165 := by omega
  have c2 : (0 : Int) ≤ 170 + (k : Int) ∧ (170 : Int) + (k : Int) < 5240 := by omega
  have c3 : (0 : Int) ≤ 30 + (l : Int) ∧ (30 : Int) + (l : Int) < 165 := by omega
  have c4 : (0 : Int) ≤ 170 + (l : Int) ∧ (170 : Int) + (l : Int) < 5240 := by omega
  have sn : ∀ {σ2 μ2 : Mm}, Now σ2 μ2 G O M B R → ∀ j, j < 10 → μ2 201 (170 + j) = σ2 3 (30 + j) := fun {σ2 μ2} hn j hj => by
    have := hn.snap.1 (30 + j) (by omega)
    have e : 140 + (30 + j) = 170 + j := by omega
    rw [e] at this; exact this.symm
  unfold F_H_turnTerms F_M_turns2
  simp only [t0, t1, t2, t3, if_pos c1, if_pos c2, if_pos c3, if_pos c4, bindM_eq]
  rw [sn h k lk]
  have s1 := set_bad h lk (xor_bd (h.ok.1.2.2.2.1 k lk) ll)
  have fin : ∀ {c : Prop} {i : Decidable c} {s : Mm}, ∃ v : Int, (@ite _ c i (some ((1 : Int), s)) (some (0, s))) = some (v, s) := fun {c i s} => by
    by_cases hc : c
    · exact ⟨1, if_pos hc⟩
    · exact ⟨0, if_neg hc⟩
  by_cases hkl : (k : Int) = (l : Int)
  · simp only [if_pos hkl]
    obtain ⟨v, hv⟩ := fin (c := iand (ishr (st2 σ 3 (30 + k) (ixor (σ 3 (30 + k)) (ishl 1 (l : Int))) 3 (30 + k)) (l : Int)) 1 = 1) (i := inferInstance) (s := st2 σ 3 (30 + k) (ixor (σ 3 (30 + k)) (ishl 1 (l : Int))))
    exact ⟨v, _, _, hv, rfl, s1⟩
  · simp only [if_neg hkl]
    rw [sn s1.1 l ll]
    have s2 := set_bad s1.1 ll (xor_bd (k := k) (s1.1.ok.1.2.2.2.1 l ll) lk)
    obtain ⟨v, hv⟩ := fin (c := iand (ishr (st2 (st2 σ 3 (30 + k) (ixor (σ 3 (30 + k)) (ishl 1 (l : Int)))) 3 (30 + l) (ixor (st2 σ 3 (30 + k) (ixor (σ 3 (30 + k)) (ishl 1 (l : Int))) 3 (30 + l)) (ishl 1 (k : Int))) 3 (30 + k)) (l : Int)) 1 = 1) (i := inferInstance) (s := st2 (st2 σ 3 (30 + k) (ixor (σ 3 (30 + k)) (ishl 1 (l : Int)))) 3 (30 + l) (ixor (st2 σ 3 (30 + k) (ixor (σ 3 (30 + k)) (ishl 1 (l : Int))) 3 (30 + l)) (ishl 1 (k : Int))))
    exact ⟨v, _, _, hv, rfl, s2.1, s1.2.1.tr s2.2.1, s1.2.2.tr s2.2.2⟩
theorem happen_rel {σ μ : Mm} {G O M : Law} {B R : Int} (h : Now σ μ G O M B R) (hB0 : 0 ≤ B) (hB : B + 400 ≤ 90000000) (hR : R + 12 < 2147483647) : ∃ (v : Int) (s u : Mm), F_H_happen σ = some (v, s) ∧ F_M_happens μ = some (v, u) ∧ (0 ≤ v ∧ v ≤ 12) ∧ Now s u G O M (B + 32) (R + 12) ∧ FrC σ s ∧ FrM μ u := by
  unfold F_H_happen F_M_happens
  obtain ⟨v, s1, u1, E1, E2, hv, N1, c1, m1⟩ := draw_rel h (x := 6) (by omega)
  rw [E1, E2, b1M_some, b1M_some]
  by_cases v0 : v = 0
  · rw [if_pos v0, if_pos v0]
    obtain ⟨a, s2, u2, E3, E4, ha, N2, c2, m2⟩ := draw_rel N1 (x := 10) (by omega)
    obtain ⟨b, s3, u3, E5, E6, hb, N3, c3, m3⟩ := draw_rel N2 (x := 10) (by omega)
    obtain ⟨k, rfl⟩ := Int.eq_ofNat_of_zero_le ha.1
    obtain ⟨l, rfl⟩ := Int.eq_ofNat_of_zero_le hb.1
    obtain ⟨w, s4, u4, E7, E8, N4, c4, m4⟩ := turns_rel N3 (k := k) (l := l) (by omega) (by omega)
    rw [E3, E4, b1M_some, b1M_some, E5, E6, b1M_some, b1M_some, E7, E8, b1M_some, b0M_some]
    exact ⟨0, s4, u4, rfl, rfl, by omega, N4.w (by omega) (by omega), ((c1.tr c2).tr c3).tr c4, ((m1.tr m2).tr m3).tr m4⟩
  · rw [if_neg v0, if_neg v0]
    by_cases v1 : v = 1
    · rw [if_pos v1, if_pos v1]
      obtain ⟨a, s2, u2, E3, E4, ha, N2, c2, m2⟩ := draw_rel N1 (x := 10) (by omega)
      obtain ⟨b, s3, u3, E5, E6, hb, N3, c3, m3⟩ := draw_rel N2 (x := 10) (by omega)
      obtain ⟨k, rfl⟩ := Int.eq_ofNat_of_zero_le ha.1
      have t0 : ((0 : Int) + (k : Int)).toNat = k := by omega
      have t1 : ((140 : Int) + (k : Int)).toNat = 140 + k := by omega
      have d1 : (0 : Int) ≤ 0 + (k : Int) ∧ (0 : Int) + (k : Int) < 165 := by omega
      have d2 : (0 : Int) ≤ 140 + (k : Int) ∧ (140 : Int) + (k : Int) < 5240 := by omega
      rw [E3, E4, b1M_some, b1M_some, E5, E6, b1M_some, b1M_some, t0, t1, if_pos d1, if_pos d2, bindM_eq, bindM_eq]
      have s4 := set_temper N3 (k := k) (y := b) (by omega) (by omega)
      exact ⟨0, _, _, rfl, rfl, by omega, s4.1.w (by omega) (by omega), ((c1.tr c2).tr c3).tr s4.2.1, ((m1.tr m2).tr m3).tr s4.2.2⟩
    · rw [if_neg v1, if_neg v1]
      by_cases v2 : v = 2
      · rw [if_pos v2, if_pos v2]
        obtain ⟨c, q1, q2, q3, -⟩ := N1.rows
        rw [q2, q3]
        by_cases c0 : c = 0
        · subst c0
          rw [if_pos (by rfl), if_pos (by decide)]
          exact ⟨0, s1, u1, rfl, rfl, by omega, N1.w (by omega) (by omega), c1, m1⟩
        · rw [if_neg (by omega), if_neg (by omega)]
          obtain ⟨a, s2, u2, E3, E4, ha, N2, c2, m2⟩ := draw_rel N1 (x := (c : Int)) (by omega)
          rw [E3, E4, b1M_some, b1M_some]
          obtain ⟨r, rfl⟩ := Int.eq_ofNat_of_zero_le ha.1
          obtain ⟨c', d1, d2, d3, d4⟩ := N2.rows
          have hcc : c' = c := by
            have : s2 1 4 = s1 1 4 := by rw [c2.1 1 (by omega) (by omega) (by omega)]
            omega
          subst hcc
          obtain ⟨p, mn, nums, hC, hMr⟩ := d4 r (by omega)
          obtain ⟨ξ, E5, hm, l1, l2⟩ := lays_mid N2.laws N2.lawsM N2.memo N2.snap N2.ok
          have x201 : ξ 201 = u2 201 := l1 201 (by decide)
          have hr2 := N2.round
          have hmr := mid_row hm (r := r) (by omega) hC (by rw [x201]; exact hMr) (by omega) ⟨by omega, by omega⟩
          obtain ⟨⟨w1, s3⟩, E6, hmr⟩ := hmr
          obtain ⟨⟨w2, u3⟩, E7, hv2, ⟨hLd, hLn⟩, hmr⟩ := hmr
          obtain ⟨u4, E8, hMid2, f1, r5, r6, f2, g1, g2, g3, g4⟩ := hmr
          have hv2 : w2 = w1 := hv2
          subst hv2
          have hLd : Laid u3 p mn := hLd
          have hLn : ∀ j, j < 4 → u3 229 j = nums j := hLn
          have f1 : Fr [2, 3, 4, 5, 6, 7] s2 s3 := f1
          have r5 : s3 2 5 = s2 2 5 + 1 := r5
          have r6 : s3 2 6 = s2 2 6 := r6
          have g4 : ∀ k, 30 ≤ k → k < 43 → k ≠ 41 → s3 3 k = s2 3 k := g4
          have hMid2 : Mid s3 u4 G O M (B + 32) := hMid2
          have E6 : F_H_reckonRow (r : Int) s2 = some (w2, s3) := E6
          have E7 : F_M_reckons (r : Int) ξ = some (w2, u3) := E7
          have E8 : F_M_writes (r : Int) w2 u3 = some u4 := E8
          have fw : Fr [201] u3 u4 := writes_fr _ _ _ _ E8
          obtain ⟨ζ, E9, hN2, t1, t2⟩ := close_now (S := R + 12) N2 hMid2 (fun j hj => (N2.oks j hj).w (by omega)) f1 ⟨by omega, by omega⟩ (fun k hk => by rw [g1 k hk, x201]) (fun k hk => g4 (30 + k) (by omega) (by omega) (by omega)) (by rw [g4 40 (by omega) (by omega) (by omega), g4 42 (by omega) (by omega) (by omega)]; exact N2.ok.2.2.2)
          obtain ⟨L1, L2, L3, L4, L5, L6, L7⟩ := hLd
          have fz : Fr [201] u3 ζ := fw.tr t1
          have E10 : F_M_trueNow ζ = some (trs mn nums p) := by
            have := trueNow_ok (σ := ζ) (mn := mn) (p := p) ⟨L3, L4⟩ L1 (fun i hi => by rw [fz 229 (by decide)]; exact L7 i hi) (by rw [fz 200 (by decide)]; exact L5) (by rw [fz 200 (by decide)]; exact L6)
            rw [this, trs_cong (g := nums) (fun i hi => by rw [fz 229 (by decide)]; exact hLn i (by omega))]
          have e10 : s3 (10 + r) 6 = trs mn nums p := by rw [f1 (10 + r) (by simp; omega)]; exact hC.2.2.2.2.2.2.1
          have tr : ((r : Int)).toNat = r := by omega
          rw [E6, E5, b1M_some, b0M_some, E7, b1M_some, E8, b0M_some, E9, b0M_some, E10, b1_some, tr, if_pos (show (0 : Int) ≤ (r : Int) ∧ (r : Int) < 12 by omega), e10]
          have fC : FrC s2 s3 := ⟨fun i i1 i2 i3 => f1 i (by simp; omega), r6⟩
          have fM : FrM u2 ζ := ⟨fun i i1 i2 i3 => by rw [t1 i (by simp; omega), f2 i (by simp; omega), l1 i (by simp; omega)], fun s a1 a2 a3 a4 a5 => by rw [t1 200 (by decide), g2 s a2 a3 a4 a5, l2 s a1 a2], fun k j1 j2 => by rw [t2 k (by omega)]⟩
          by_cases ho : w2 = trs mn nums p
          · rw [if_pos ho, if_pos ho]
            exact ⟨0, s3, ζ, rfl, rfl, by omega, hN2, (c1.tr c2).tr fC, (m1.tr m2).tr fM⟩
          · rw [if_neg ho, if_neg ho]
            exact ⟨1, s3, ζ, rfl, rfl, by omega, hN2, (c1.tr c2).tr fC, (m1.tr m2).tr fM⟩
      · rw [if_neg v2, if_neg v2]
        have e40 : u1 201 180 = s1 3 40 := (N1.snap.1 40 (by omega)).symm
        rw [e40]
        by_cases hd : s1 3 40 < 999
        · rw [if_pos hd, if_neg (by omega)]
          obtain ⟨⟨w, s2⟩, E3, hd2⟩ := dayDone_rel N1 hB0 hB hR hd
          obtain ⟨⟨w2, u2⟩, E4, ⟨k, hk, hk2, hk3⟩, hN2, q1, q2, -⟩ := hd2
          have hk : w = (k : Int) := hk
          have hk3 : w2 = pop 12 k := hk3
          have hN2 : Now s2 u2 G O M B (R + 12) := hN2
          have q1 : FrC s1 s2 := q1
          have q2 : FrM u1 u2 := q2
          rw [E3, E4, b1M_some, b1M_some, hk, bitc hk2, b1_some, hk3]
          have := pop_bd 12 k
          exact ⟨pop 12 k, s2, u2, rfl, rfl, by omega, hN2.w (by omega) (by omega), c1.tr q1, m1.tr q2⟩
        · rw [if_neg hd, if_pos (by omega)]
          exact ⟨0, s1, u1, rfl, rfl, by omega, N1.w (by omega) (by omega), c1, m1⟩
theorem year_loop {G O M : Law} {x2 : Int} (hx2 : x2 ≤ 30) : ∀ (m n n2 x : Nat) (o : Int) (σ μ : Mm) (B R : Int), (x : Int) + m = x2 → m < n → m < n2 → Now σ μ G O M B R → 0 ≤ B → B + 32 * m + 400 ≤ 90000000 → R + 12 * m < 2147483647 → (0 ≤ o ∧ o ≤ 12 * x) →
    ∃ (v : Int) (s u : Mm), L_A_year_59 n x2 o (x : Int) σ = some (v, s) ∧ L_M_year_46 n2 x2 o (x : Int) μ = some (v, u) ∧ Now s u G O M (B + 32 * m) (R + 12 * m) ∧ FrC σ s ∧ FrM μ u := by
  intro m
  induction m with
  | zero =>
    intro n n2 x o σ μ B R hx hn hn2 hN hB0 hB hR ho
    match n, n2, hn, hn2 with
    | n + 1, n2 + 1, _, _ =>
      rw [L_A_year_59, L_M_year_46, if_pos (by omega), if_pos (by omega)]
      exact ⟨o, σ, μ, rfl, rfl, hN.w (by omega) (by omega), FrC.rf, FrM.rf⟩
  | succ m ih =>
    intro n n2 x o σ μ B R hx hn hn2 hN hB0 hB hR ho
    match n, n2, hn, hn2 with
    | n + 1, n2 + 1, hn, hn2 =>
      rw [L_A_year_59, L_M_year_46, if_neg (by omega), if_neg (by omega)]
      obtain ⟨v, s, u, E1, E2, hv, hN1, c1, m1⟩ := happen_rel hN hB0 (by omega) (by omega)
      have e2 : (x : Int) + 1 = ((x + 1 : Nat) : Int) := by omega
      rw [E1, E2, b1M_some, b1M_some, if_pos (show r32 (o + v) from ⟨by omega, by omega⟩), if_pos (show r32 (o + v) from ⟨by omega, by omega⟩), if_pos (show r32 ((x : Int) + 1) from ⟨by omega, by omega⟩), if_pos (show r32 ((x : Int) + 1) from ⟨by omega, by omega⟩), e2]
      obtain ⟨w, s2, u2, E3, E4, hN2, c2, m2⟩ := ih n n2 (x + 1) (o + v) s u (B + 32) (R + 12) (by omega) (by omega) (by omega) hN1 (by omega) (by omega) (by omega) ⟨by omega, by omega⟩
      exact ⟨w, s2, u2, E3, E4, hN2.w (by omega) (by omega), c1.tr c2, m1.tr m2⟩
theorem in_ok (x a b : Int) : F_M_in x a b = some (if a ≤ x ∧ x ≤ b then 1 else 0) := by
  unfold F_M_in
  by_cases h1 : x < a
  · rw [if_pos h1, if_neg (by omega)]
  · rw [if_neg h1]
    by_cases h2 : b < x
    · rw [if_pos h2, if_neg (by omega)]
    · rw [if_neg h2, if_pos (by omega)]
theorem year_rel {σ μ : Mm} {G O M : Law} {B R : Int} (h : Now σ μ G O M B R) (hB0 : 0 ≤ B) (hB : B + 1400 ≤ 90000000) (hR : R + 1000 < 2147483647) (x y : Int) : Ok (F_A_year x y σ) (fun a => Ok (F_M_year x y μ) (fun b => b.1 = a.1 ∧ Now a.2 b.2 G O M (B + 960) (R + 1000) ∧ FrC σ a.2 ∧ FrM μ b.2)) := by
  have nop : ∀ v : Int, Ok (some (v, σ)) (fun a => Ok (some (v, μ)) (fun b => b.1 = a.1 ∧ Now a.2 b.2 G O M (B + 960) (R + 1000) ∧ FrC σ a.2 ∧ FrM μ b.2)) := fun v => Ok.ret (Ok.ret ⟨rfl, h.w (by omega) (by omega), FrC.rf, FrM.rf⟩)
  unfold F_A_year F_M_year
  rw [in_ok, in_ok, b1_some]
  by_cases h1 : 0 ≤ x ∧ x ≤ 9999
  · rw [if_neg (show ¬ x < 0 by omega), if_neg (show ¬ 9999 < x by omega), if_pos h1, if_neg (show ¬ (1 : Int) = 0 by decide), b1_some]
    by_cases h2 : 1 ≤ y ∧ y ≤ 30
    · rw [if_neg (show ¬ y < 1 by omega), if_pos (show y ≤ 30 by omega), if_pos h2, if_neg (show ¬ (1 : Int) = 0 by decide)]
      obtain ⟨τ, E1, hk⟩ := keep_now h
      obtain ⟨ν, E2, hN, k1, k2, k3⟩ := hk
      rw [E1, E2, b0M_some, b0M_some, if_pos (show r32 (x * 3 + 53) from ⟨by omega, by omega⟩), if_pos (show r32 (x * 3 + 53) from ⟨by omega, by omega⟩), bindM_eq, bindM_eq]
      have fr := keep_frs k1 k2 k3
      have hs := set_x hN (y := x * 3 + 53) (by omega)
      obtain ⟨n, rfl⟩ := Int.eq_ofNat_of_zero_le (show 0 ≤ y by omega)
      obtain ⟨v, s, u, E3, E4, hN2, c2, m2⟩ := year_loop (x2 := (n : Int)) (by omega) n LF LF 0 0 _ _ B R (by omega) (by unfold LF; omega) (by unfold LF; omega) hs.1 hB0 (by omega) (by omega) (by omega)
      rw [show (0 : Int) = ((0 : Nat) : Int) from rfl] at *
      rw [E3, E4, b1M_some, b1M_some]
      exact Ok.ret (Ok.ret ⟨rfl, hN2.w (by omega) (by omega), (fr.1.tr hs.2.1).tr c2, (fr.2.tr hs.2.2).tr m2⟩)
    · rw [if_neg h2, if_pos rfl]
      by_cases h3 : y < 1
      · rw [if_pos h3]; exact nop _
      · rw [if_neg h3, if_neg (by omega)]; exact nop _
  · rw [if_neg h1, if_pos rfl]
    by_cases h3 : x < 0
    · rw [if_pos h3]; exact nop _
    · rw [if_neg h3, if_pos (by omega)]; exact nop _
