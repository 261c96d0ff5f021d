-- the class asks what each ROW costs behind a set
theorem EU_env {E : Nat → Int} {g : Nat → Nat} (h : EnvOK E) : EnvOK (EU E g) := by
  obtain ⟨a1, a2, a3, a4, a5⟩ := h
  refine ⟨fun k hk => ?_, fun k hk => ?_, fun k hk => ?_, fun k hk => ?_, ?_⟩
  · unfold EU; rw [if_neg (by omega)]; exact a1 k hk
  · unfold EU
    rw [if_pos (by omega)]
    have := a2 k hk
    omega
  · unfold EU; rw [if_neg (by omega)]; exact a3 k hk
  · unfold EU; rw [if_neg (by omega)]; exact a4 k hk
  · unfold EU; rw [if_neg (by omega)]; exact a5
theorem EU_40 {E F : Nat → Int} {g : Nat → Nat} (h : Eq40 E F) : Eq40 (EU E g) (EU F g) := fun k hk => by
  unfold EU
  rw [h k hk]
theorem use_C {ρ : Nat} {L : DL} {σ : Mm} (hρ : 10 ≤ ρ ∧ ρ ≤ 21) (hD : RowD σ ρ L) (hE : EnvOK (σ 3)) : Ok (F_H_use ρ σ) (fun τ => τ 3 = useD L (σ 3) ∧ Fr [3] σ τ) := by
  obtain ⟨d1, d2, d3, d4, d5⟩ := hD
  unfold F_H_use
  exact Ok.b0M (useC_loop hρ L LF 0 σ (by unfold LF; omega) (by rw [d1]; congr 1; omega) (by omega) d4.df d5 hE) (fun s hs => Ok.ret hs)
/-- the class while it fills its tables -/
def CA (σ s : Mm) (G O M : Law) (ml : List Nat) (m : Int) : Prop := JB s G O M ∧ (∀ k, k < 165 → s 3 k = σ 3 k) ∧ Fr [2, 3, 4, 5, 6, 7, 9, 117, 119, 120] σ s ∧ s 2 6 = σ 2 6 ∧ (σ 2 5 ≤ s 2 5 ∧ s 2 5 ≤ σ 2 5 + m) ∧ LiesAt (s 117) ml
theorem RowD.fr2 {σ τ : Mm} {ρ : Nat} {L : DL} (h : RowD σ ρ L) (h1 : τ ρ = σ ρ) (h2 : τ (ρ + 24) = σ (ρ + 24)) (h3 : τ (ρ + 36) = σ (ρ + 36)) : RowD τ ρ L := by
  obtain ⟨d1, d2, d4, d5, d6⟩ := h
  exact ⟨by rw [h1]; exact d1, d2, d4, by rw [h2, h3]; exact d5, d6⟩
theorem gS_mem {Li : Nat → DL} {x : Int} {i d : Nat} : sN ((mem x (i + 1)).map (fun i => cntD (Li i) d)) = if bitI x (i : Int) = 1 then sN ((mem x i).map (fun i => cntD (Li i) d)) + cntD (Li i) d else sN ((mem x i).map (fun i => cntD (Li i) d)) := by
  rw [mem]
  by_cases h : bitI x (i : Int) = 1
  · rw [if_pos h, if_pos h, List.map_append, sN_app]; simp [sN]
  · rw [if_neg h, if_neg h]
theorem askBehind_ok {σ s : Mm} {G O M : Law} {ml : List Nat} {m : Int} {n S : Nat} {Li : Nat → DL} (hE : EnvOK (σ 3)) (hC : CA σ s G O M ml m) (hn : n < 6) (hml : ml.length = n) (hS : S < 2 ^ n) (hrow : ∀ i, i < n → ml.getD i 0 < 12 ∧ RowD σ (10 + ml.getD i 0) (Li i)) (hR : 0 ≤ σ 2 5 ∧ σ 2 5 + m + 10 < 2147483647) (hm : 0 ≤ m) :
    ∃ t, F_E_askBehind (S : Int) (n : Int) s = some t ∧ CA σ t G O M ml (m + 1) ∧ t 119 = s 119 ∧ (∀ i, i < n → bitI (S : Int) (i : Int) = 0 → t 120 (S * 5 + i) = cost G O (σ 3) Li n S i) ∧ ∀ k, ¬ (S * 5 ≤ k ∧ k < S * 5 + n) → t 120 k = s 120 k := by
  have p6 := pow6 n (by omega)
  have n5 : n < 6 := hn
  have S64 : S < 64 := by omega
  have x1 : (0 : Int) ≤ (S : Int) := by omega
  have x2 : (S : Int) < 2147483648 := by omega
  obtain ⟨j0, e3, f0, r26, r25, l117⟩ := hC
  have w : ∀ a, stR s 9 (cpyI (s 3) (s 9) 0 0 165) a = if a = 9 then cpyI (s 3) (s 9) 0 0 165 else s a := fun a => stR_f _ _ _ _
  have E1 : F_H_save s = some (stR s 9 (cpyI (s 3) (s 9) 0 0 165)) := rfl
  generalize stR s 9 (cpyI (s 3) (s 9) 0 0 165) = s1 at w E1
  have f1 : Fr [9] s s1 := fun i hi => by rw [w, if_neg (by simpa using hi)]
  have k9 : ∀ k, k < 165 → s1 9 k = σ 3 k := fun k hk => by
    rw [w, if_pos rfl]
    exact (cpy_lt (n := 165) hk).trans (e3 k hk)
  have s13 : s1 3 = s 3 := f1 3 (by decide)
  have env : EnvOK (s 3) := hE.ext (fun k hk => e3 k (by omega))
  have rowat : ∀ (u : Mm), (∀ j, 10 ≤ j → j < 58 → u j = σ j) → ∀ i, i < n → RowD u (10 + ml.getD i 0) (Li i) := fun u hu i hi => by
    obtain ⟨a, b⟩ := hrow i hi
    exact b.fr2 (hu _ (by omega) (by omega)) (hu _ (by omega) (by omega)) (hu _ (by omega) (by omega))
  -- the uses
  obtain ⟨u, E2, u1, u2⟩ := loop_inv2 (L := fun N j t => L_E_askBehind_9 N (S : Int) (n : Int) j t) (I := fun i t => Fr [3] s1 t ∧ t 3 = EU (s 3) (fun d => sN ((mem (S : Int) i).map (fun i => cntD (Li i) d)))) (x := n) (out := fun t => t)
    (fun N t _ => by
      show L_E_askBehind_9 (N + 1) (S : Int) (n : Int) (n : Int) t = _
      rw [L_E_askBehind_9, if_pos (Int.le_refl _)]) (m := n) (i := 0) (N := LF) (s := s1) (by omega) (by unfold LF; omega) ⟨Fr.rf, by rw [s13]; exact (EU_0 env).symm⟩ (fun N i t _ hi ht => by
      obtain ⟨t1, t2⟩ := ht
      have e2 : (i : Int) + 1 = ((i + 1 : Nat) : Int) := by omega
      have ei : ((i : Int)).toNat = i := by omega
      have next : r32 ((i + 1 : Nat) : Int) := r32_nat (by omega)
      show ∃ t', L_E_askBehind_9 (N + 1) (S : Int) (n : Int) (i : Int) t = L_E_askBehind_9 N (S : Int) (n : Int) ((i + 1 : Nat) : Int) t' ∧ _
      rw [L_E_askBehind_9, if_neg (by omega), bindM_eq, bit_of x1 x2 (by omega) (by omega)]
      by_cases hb : bitI (S : Int) (i : Int) = 1
      · have q117 : t 117 i = ((ml.getD i 0 : Nat) : Int) := by rw [t1 117 (by decide), f1 117 (by decide)]; exact l117 i (by omega)
        obtain ⟨a, b⟩ := hrow i hi
        obtain ⟨t', T1, v1, v2⟩ := use_C (ρ := 10 + ml.getD i 0) (L := Li i) (σ := t) (by omega) (rowat t (fun j a b => by rw [t1 j (by simp; omega), f1 j (by simp; omega), f0 j (by simp; omega)]) i hi) (by rw [t2]; exact EU_env env)
        rw [if_pos hb, if_pos (show 0 ≤ (i : Int) ∧ (i : Int) < 6 by omega), ei, q117, if_pos (show 0 ≤ ((ml.getD i 0 : Nat) : Int) ∧ ((ml.getD i 0 : Nat) : Int) < 12 by omega), Int.toNat_natCast, T1, b0M_some]
        dsimp only
        rw [e2, if_pos next]
        refine ⟨t', rfl, t1.tr v2, ?_⟩
        rw [v1, t2, useD_EU b.2.2.2.2]
        congr 1
        funext d
        rw [gS_mem, if_pos hb]
      · rw [if_neg hb]
        dsimp only
        rw [e2, if_pos next]
        refine ⟨t, rfl, t1, ?_⟩
        rw [t2]
        congr 1
        funext d
        rw [gS_mem, if_neg hb])
  have E2 : L_E_askBehind_9 LF (S : Int) (n : Int) 0 s1 = some u := E2
  have u2 : u 3 = EU (s 3) (gS Li n S) := u2
  have F2 : Fr [3, 9] s u := (f1.w (by decide)).tr (u1.w (by decide))
  have z2 : u 2 = s 2 := F2 2 (by decide)
  obtain ⟨v, E3, jv, fv, v25, v26⟩ := fresh_ok (σ := u) (G := G) (O := O) (M := M) ⟨j0.1.fr F2 (by rw [z2]) (by decide), by rw [u2]; exact EU_env env, by rw [F2 6 (by decide), z2]; exact j0.2.2⟩ ⟨by rw [z2]; omega, by rw [z2]; omega⟩
  have v3 : v 3 = EU (s 3) (gS Li n S) := by rw [fv 3 (by decide)]; exact u2
  have F3 : Fr [2, 3, 9] s v := (F2.w (by decide)).tr (fv.w (by decide))
  -- the costs
  obtain ⟨y, E4, y1, y2, y3, y4⟩ := loop_inv2 (L := fun N j t => L_E_askBehind_59 N (S : Int) (n : Int) j t) (I := fun i t => Fr [4, 5, 6, 7, 120] v t ∧ JOK t G O M ∧ (∀ j, j < i → bitI (S : Int) (j : Int) = 0 → t 120 (S * 5 + j) = cost G O (σ 3) Li n S j) ∧ ∀ k, ¬ (S * 5 ≤ k ∧ k < S * 5 + i) → t 120 k = s 120 k) (x := n) (out := fun t => t)
    (fun N t _ => by
      show L_E_askBehind_59 (N + 1) (S : Int) (n : Int) (n : Int) t = _
      rw [L_E_askBehind_59, if_pos (Int.le_refl _)]) (m := n) (i := 0) (N := LF) (s := v) (by omega) (by unfold LF; omega) ⟨Fr.rf, jv, fun j hj => by omega, fun k _ => by rw [F3 120 (by decide)]⟩ (fun N i t _ hi ht => by
      obtain ⟨t1, t2, t3, t4⟩ := ht
      have e2 : (i : Int) + 1 = ((i + 1 : Nat) : Int) := by omega
      have ei : ((i : Int)).toNat = i := by omega
      have next : r32 ((i + 1 : Nat) : Int) := r32_nat (by omega)
      show ∃ t', L_E_askBehind_59 (N + 1) (S : Int) (n : Int) (i : Int) t = L_E_askBehind_59 N (S : Int) (n : Int) ((i + 1 : Nat) : Int) t' ∧ _
      rw [L_E_askBehind_59, if_neg (by omega), bindM_eq, bit_of x1 x2 (by omega) (by omega)]
      by_cases hb : bitI (S : Int) (i : Int) = 0
      · have q117 : t 117 i = ((ml.getD i 0 : Nat) : Int) := by rw [t1 117 (by decide), F3 117 (by decide)]; exact l117 i (by omega)
        obtain ⟨a, b⟩ := hrow i hi
        obtain ⟨⟨z, t'⟩, T1, w1, w2, w3⟩ := offOf_ok (isO10 (ml.getD i 0) a) t2 (rowat t (fun j a b => by rw [t1 j (by simp; omega), F3 j (by simp; omega), f0 j (by simp; omega)]) i hi)
        have w2 : Fr [4, 5, 6, 7] t t' := w2
        have w3 : JOK t' G O M := w3
        have w1 : z = offL (tw G O (t 3)) (Li i) := w1
        rw [t1 3 (by decide), v3, offL_T (EqT_40 (EU_40 (E := σ 3) (F := s 3) (g := gS Li n S) (fun k hk => e3 k (by omega)))) b.2.2.2.2] at w1
        have ob := offL_bd (G := G) (O := O) (E := EU (σ 3) (gS Li n S)) (Li i)
        have lb := b.2.1
        have ci : 0 ≤ (S : Int) * 5 + (i : Int) ∧ (S : Int) * 5 + (i : Int) < 160 := by
          have : 2 ^ n ≤ 2 ^ 5 := Nat.pow_le_pow_right (by omega) (by omega)
          omega
        have ti : ((S : Int) * 5 + (i : Int)).toNat = S * 5 + i := by omega
        rw [if_pos hb, if_pos (show 0 ≤ (i : Int) ∧ (i : Int) < 6 by omega), ei, q117, if_pos (show 0 ≤ ((ml.getD i 0 : Nat) : Int) ∧ ((ml.getD i 0 : Nat) : Int) < 12 by omega), Int.toNat_natCast, T1, b1M_some, if_pos (show ¬ z = -2147483648 by omega), if_pos ci, ti, bindM_eq]
        dsimp only
        rw [e2, if_pos next]
        have f4 : Fr [120] t' (st2 t' 120 (S * 5 + i) (z.natAbs : Int)) := Fr.rf.st (by decide)
        refine ⟨st2 t' 120 (S * 5 + i) (z.natAbs : Int), rfl, (t1.tr (w2.w (by decide))).st (by decide), ⟨w3.1.fr f4 (by rw [f4 2 (by decide)]) (by decide), by rw [f4 3 (by decide)]; exact w3.2.1, ?_⟩, fun j hj hbj => ?_, fun k hk => ?_⟩
        · have m := w3.2.2
          refine ⟨by rw [f4 6 (by decide), f4 2 (by decide)]; exact m.1, ?_⟩
          rw [f4 6 (by decide), f4 2 (by decide), f4 7 (by decide), f4 3 (by decide)]
          exact m.2
        · rw [st2_sk]
          by_cases e : j = i
          · rw [if_pos (by omega), w1, e]; rfl
          · rw [if_neg (by omega), w2 120 (by decide)]; exact t3 j (by omega) hbj
        · rw [st2_sk, if_neg (by omega), w2 120 (by decide)]; exact t4 k (by omega)
      · rw [if_neg hb]
        dsimp only
        rw [e2, if_pos next]
        refine ⟨t, rfl, t1, t2, fun j hj hbj => ?_, fun k hk => t4 k (by omega)⟩
        by_cases e : j = i
        · subst e; exact absurd hbj hb
        · exact t3 j (by omega) hbj)
  have E4 : L_E_askBehind_59 LF (S : Int) (n : Int) 0 v = some y := E4
  have wr : ∀ a, stR y 3 (cpyI (y 9) (y 3) 0 0 165) a = if a = 3 then cpyI (y 9) (y 3) 0 0 165 else y a := fun a => stR_f _ _ _ _
  have E5 : F_H_restore y = some (stR y 3 (cpyI (y 9) (y 3) 0 0 165)) := rfl
  generalize stR y 3 (cpyI (y 9) (y 3) 0 0 165) = t at wr E5
  have f5 : Fr [3] y t := fun i hi => by rw [wr, if_neg (by simpa using hi)]
  have t3 : ∀ k, k < 165 → t 3 k = σ 3 k := fun k hk => by
    rw [wr, if_pos rfl]
    refine (cpy_lt (n := 165) hk).trans ?_
    rw [y1 9 (by decide), fv 9 (by decide), u1 9 (by decide)]
    exact k9 k hk
  have t2 : t 2 = v 2 := by rw [f5 2 (by decide)]; exact y1 2 (by decide)
  have F5 : Fr [2, 3, 4, 5, 6, 7, 9, 120] s t := ((F3.w (by decide)).tr (y1.w (by decide))).tr (f5.w (by decide))
  unfold F_E_askBehind
  rw [E1, b0M_some, E2, b0M_some, E3, b0M_some, E4, b0M_some, E5, b0M_some]
  refine ⟨t, rfl, ⟨⟨y2.1.fr f5 (by rw [f5 2 (by decide)]) (by decide), hE.ext (fun k hk => t3 k (by omega)), by rw [f5 6 (by decide), f5 2 (by decide)]; exact y2.2.2.1⟩, t3, f0.tr (F5.w (by decide)), by rw [t2, v26, z2]; exact r26, ⟨by rw [t2, v25, z2]; omega, by rw [t2, v25, z2]; omega⟩, by rw [F5 117 (by decide)]; exact l117⟩, F5 119 (by decide), fun i hi hb => by rw [f5 120 (by decide)]; exact y3 i hi hb, fun k hk => by rw [f5 120 (by decide)]; exact y4 k hk⟩
