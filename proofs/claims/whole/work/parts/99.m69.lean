-- `ask` of the class's Fitting: off of TWO by their TEMPERS
theorem strd_pos {x : Int} {g : Nat} : (strd x g ≤ 0 ↔ ¬ bitI x (g : Int) = 1) := by
  unfold strd
  have p : 1 ≤ 10 ^ hiM x (g + 1) := Nat.one_le_pow _ _ (by omega)
  by_cases h : bitI x (g : Int) = 1
  · rw [if_pos h]
    have : (1 : Int) ≤ ((10 ^ hiM x (g + 1) : Nat) : Int) := Int.ofNat_le.mpr p
    generalize ((10 ^ hiM x (g + 1) : Nat) : Int) = z at this
    exact ⟨fun q => by omega, fun q => absurd h q⟩
  · rw [if_neg h]; exact ⟨fun _ => h, fun _ => by omega⟩
def limT (x : Int) (g : Nat) : Nat := if bitI x (g : Int) = 1 then 10 else 1
/-- both TEMPERS set -/
def EW (x : Int) (E : Nat → Int) (l r w c k : Nat) : Int := if k = r ∧ bitI x (r : Int) = 1 then (c : Int) else if k = l ∧ bitI x (l : Int) = 1 then (w : Int) else E k
def vT (G O : Law) (x : Int) (E : Nat → Int) (l r : Nat) (m : Int) (w c : Nat) : Int := t0 (tw G O (EW x E l r w c)) l r m
theorem EW_env {x : Int} {E : Nat → Int} (h : EnvOK E) {l r w c : Nat} (hl : l < 10) (hr : r < 10) (hw : w < 10) (hc : c < 10) : EnvOK (EW x E l r w c) := by
  obtain ⟨a1, a2, a3, a4, a5⟩ := h
  refine ⟨fun k hk => ?_, fun k hk => ?_, fun k hk => ?_, fun k hk => ?_, ?_⟩
  · unfold EW
    by_cases h1 : k = r ∧ bitI x (r : Int) = 1
    · rw [if_pos h1]; omega
    · rw [if_neg h1]
      by_cases h2 : k = l ∧ bitI x (l : Int) = 1
      · rw [if_pos h2]; omega
      · rw [if_neg h2]; exact a1 k hk
  · unfold EW; rw [if_neg (fun q => by omega), if_neg (fun q => by omega)]; exact a2 k hk
  · unfold EW; rw [if_neg (fun q => by omega), if_neg (fun q => by omega)]; exact a3 k hk
  · unfold EW; rw [if_neg (fun q => by omega), if_neg (fun q => by omega)]; exact a4 k hk
  · unfold EW; rw [if_neg (fun q => by omega), if_neg (fun q => by omega)]; exact a5
/-- while `ask` goes on -/
def AF (s0 s : Mm) (n : Nat) : Prop := Fr [2, 3, 4, 5, 6, 7, 127] s0 s ∧ s 2 6 = s0 2 6 ∧ s0 2 5 ≤ s 2 5 ∧ s 2 5 ≤ s0 2 5 + n
theorem AF.rf {s : Mm} : AF s s 0 := ⟨Fr.rf, rfl, by omega, by omega⟩
def AS (x : Int) (G O M : Law) (E : Nat → Int) (l r : Nat) (s : Mm) : Prop := JB s G O M ∧ (∀ k, k ≠ l → k ≠ r → s 3 k = E k) ∧ (¬ bitI x (r : Int) = 1 → ¬ l = r → s 3 r = E r)
theorem ask54 {x : Int} {G O M : Law} {E : Nat → Int} {l r w : Nat} {m any : Int} {s0 : Mm} (hl : l < 10) (hr : r < 10) (hw : w < limT x l) (hm : 0 ≤ m ∧ m ≤ 3) (hE : EnvOK E) (h124 : ∀ g, g < 10 → s0 124 g = strd x g) (hS : AS x G O M E l r s0) (hR : -1 ≤ s0 2 5 ∧ s0 2 5 + 100 < 2147483647) (ha : any = 0 ∨ any = 1) :
    ∃ a t, L_G_ask_54 LF (l : Int) (r : Int) m (E l) any (w : Int) 0 s0 = some (a, t) ∧ AF s0 t 10 ∧ AS x G O M E l r t ∧ (a = 0 ∨ a = 1) ∧ (a = 0 → any = 0 ∧ ∀ c, c < limT x r → (l = r → w = c) → vT G O x E l r m w c = 0) ∧ (∀ c, c < limT x r → (l = r → w = c) → t 127 (w * 10 + c) = vT G O x E l r m w c) ∧ (∀ k, ¬ (w * 10 ≤ k ∧ k < w * 10 + 10) → t 127 k = s0 127 k) := by
  have hw10 : w < 10 := by unfold limT at hw; split at hw <;> omega
  have lim10 : limT x r ≤ 10 := by unfold limT; split <;> omega
  have tl : ((l : Int)).toNat = l := by omega
  have tr : ((r : Int)).toNat = r := by omega
  have tl0 : ((0 : Int) + (l : Int)).toNat = l := by omega
  have tr0 : ((0 : Int) + (r : Int)).toNat = r := by omega
  have cl : (0 : Int) ≤ (l : Int) ∧ (l : Int) < 10 := by omega
  have cr : (0 : Int) ≤ (r : Int) ∧ (r : Int) < 10 := by omega
  have cl0 : (0 : Int) ≤ 0 + (l : Int) ∧ (0 : Int) + (l : Int) < 165 := by omega
  have cr0 : (0 : Int) ≤ 0 + (r : Int) ∧ (0 : Int) + (r : Int) < 165 := by omega
  have limv : (if strd x r ≤ 0 then (1 : Int) else 10) = ((limT x r : Nat) : Int) := by
    unfold limT
    by_cases h : bitI x (r : Int) = 1
    · rw [if_pos h, if_neg (fun q => (strd_pos.mp q) h)]; rfl
    · rw [if_neg h, if_pos (strd_pos.mpr h)]; rfl
  obtain ⟨q, E1, q1, q2, q3, q4, q5, q6⟩ := loop_inv2 (L := fun N j (q : Int × Mm) => L_G_ask_54 N (l : Int) (r : Int) m (E l) q.1 (w : Int) j q.2) (I := fun i q => AF s0 q.2 i ∧ AS x G O M E l r q.2 ∧ (q.1 = 0 ∨ q.1 = 1) ∧ (q.1 = 0 → any = 0 ∧ ∀ c, c < i → (l = r → w = c) → vT G O x E l r m w c = 0) ∧ (∀ c, c < i → (l = r → w = c) → q.2 127 (w * 10 + c) = vT G O x E l r m w c) ∧ (∀ k, ¬ (w * 10 ≤ k ∧ k < w * 10 + 10) → q.2 127 k = s0 127 k)) (x := limT x r) (out := fun q => q)
    (fun N q hq => by
      show L_G_ask_54 (N + 1) (l : Int) (r : Int) m (E l) q.1 (w : Int) ((limT x r : Nat) : Int) q.2 = _
      rw [L_G_ask_54, if_pos cr, tr, hq.1.1 124 (by decide), h124 r hr, limv, bindM_eq, if_pos (Int.le_refl _)])
    (m := limT x r) (i := 0) (N := LF) (s := (any, s0)) (by omega) (by unfold LF; omega) ⟨AF.rf, hS, ha, fun h => ⟨h, fun c hc => by omega⟩, fun c hc => by omega, fun _ _ => rfl⟩ (fun N c q _ hc hq => by
      obtain ⟨b1, b2, b3, b4, b5, b6⟩ := hq
      have e2 : (c : Int) + 1 = ((c + 1 : Nat) : Int) := by omega
      have next : r32 ((c + 1 : Nat) : Int) := ⟨by omega, by omega⟩
      have c10 : c < 10 := by omega
      have q124 : ∀ g, g < 10 → q.2 124 g = strd x g := fun g hg => by rw [b1.1 124 (by decide)]; exact h124 g hg
      have ti : ((w : Int) * 10 + (c : Int)).toNat = w * 10 + c := by omega
      have ci : (0 : Int) ≤ (w : Int) * 10 + (c : Int) ∧ (w : Int) * 10 + (c : Int) < 100 := by omega
      show ∃ q' : Int × Mm, L_G_ask_54 (N + 1) (l : Int) (r : Int) m (E l) q.1 (w : Int) (c : Int) q.2 = L_G_ask_54 N (l : Int) (r : Int) m (E l) q'.1 (w : Int) ((c + 1 : Nat) : Int) q'.2 ∧ _
      rw [L_G_ask_54, if_pos cr, tr, q124 r hr, limv, bindM_eq, if_neg (by omega), bindM_eq, bindM_eq]
      by_cases hskip : l = r ∧ ¬ w = c
      · rw [if_pos (show (l : Int) = (r : Int) by omega), if_neg (show ¬ (w : Int) = (c : Int) by omega)]
        dsimp only
        rw [e2, if_pos next]
        refine ⟨q, rfl, ⟨b1.1, b1.2.1, b1.2.2.1, by have := b1.2.2.2; omega⟩, b2, b3, fun h => ⟨(b4 h).1, fun c' hc' hlr => ?_⟩, fun c' hc' hlr => ?_, b6⟩
        · by_cases e : c' = c
          · exact absurd (by rw [← e]; exact hlr hskip.1) hskip.2
          · exact (b4 h).2 c' (by omega) hlr
        · by_cases e : c' = c
          · exact absurd (by rw [← e]; exact hlr hskip.1) hskip.2
          · exact b5 c' (by omega) hlr
      · have hlr : l = r → w = c := fun h => by
          by_cases e : w = c
          · exact e
          · exact absurd ⟨h, e⟩ hskip
        -- the cells are set, and the two are asked
        have v8 : (if strd x l ≤ 0 then E l else (w : Int)) = EW x E l r w c l ∨ l = r := by
          by_cases hlr2 : l = r
          · exact Or.inr hlr2
          · left
            unfold EW
            rw [if_neg (show ¬ (l = r ∧ bitI x (r : Int) = 1) from fun q => hlr2 q.1)]
            by_cases hb : bitI x (l : Int) = 1
            · rw [if_neg (show ¬ strd x l ≤ 0 from fun q => (strd_pos.mp q) hb), if_pos (show l = l ∧ bitI x (l : Int) = 1 from ⟨rfl, hb⟩)]
            · rw [if_pos (show strd x l ≤ 0 from strd_pos.mpr hb), if_neg (show ¬ (l = l ∧ bitI x (l : Int) = 1) from fun q => hb q.2)]
        have body : ∀ (y10 : Int) (s9 : Mm), s9 = st2 q.2 3 l (if strd x l ≤ 0 then E l else (w : Int)) → y10 = EW x E l r w c r → ∃ q' : Int × Mm, (if 0 ≤ 0 + (r : Int) ∧ 0 + (r : Int) < 165 then bindM (st2 s9 3 ((0 + (r : Int)).toNat) y10) fun s11 => b0M (F_J_fresh s11) fun s12 => b1M (F_J_two (l : Int) (r : Int) m s12) fun v13 s13 => bindM ((if v13 = 1000 then 0 else v13 : Int)) fun v14 => if 0 ≤ ((w : Int) * 10) + (c : Int) ∧ ((w : Int) * 10) + (c : Int) < 100 then bindM (st2 s13 127 ((((w : Int) * 10) + (c : Int)).toNat) v14) fun s15 => bindM (fun (y16 : Int) => (fun (x7_5 : Int) (t5 : Mm) => if r32 ((c : Int) + 1) then L_G_ask_54 N (l : Int) (r : Int) m (E l) x7_5 (w : Int) ((c : Int) + 1) t5 else none) y16 s15) fun J16 => bindM (J16 1) fun J17 => if q.1 = 0 then if 0 ≤ ((w : Int) * 10) + (c : Int) ∧ ((w : Int) * 10) + (c : Int) < 100 then if s15 127 ((((w : Int) * 10) + (c : Int)).toNat) = 0 then J16 0 else J17 else none else J17 else none else none) = L_G_ask_54 N (l : Int) (r : Int) m (E l) q'.1 (w : Int) ((c + 1 : Nat) : Int) q'.2 ∧ (AF s0 q'.2 (c + 1) ∧ AS x G O M E l r q'.2 ∧ (q'.1 = 0 ∨ q'.1 = 1) ∧ (q'.1 = 0 → any = 0 ∧ ∀ c', c' < c + 1 → (l = r → w = c') → vT G O x E l r m w c' = 0) ∧ (∀ c', c' < c + 1 → (l = r → w = c') → q'.2 127 (w * 10 + c') = vT G O x E l r m w c') ∧ (∀ k, ¬ (w * 10 ≤ k ∧ k < w * 10 + 10) → q'.2 127 k = s0 127 k)) := fun y10 s9 hs9 hy => by
          rw [if_pos cr0, tr0, bindM_eq]
          have hs11 : ∀ k, k ≤ 40 → st2 s9 3 r y10 3 k = EW x E l r w c k := fun k hk => by
            rw [st2_sk, hs9, st2_sk]
            by_cases kr : k = r
            · rw [if_pos kr, hy, kr]
            · rw [if_neg kr]
              by_cases kl : k = l
              · rw [if_pos kl, kl]
                rcases v8 with h | h
                · exact h
                · exact absurd (kl.trans h) kr
              · rw [if_neg kl, b2.2.1 k kl kr]
                unfold EW
                rw [if_neg (fun q => kr q.1), if_neg (fun q => kl q.1)]
          have f11 : Fr [3] q.2 (st2 s9 3 r y10) := by rw [hs9]; exact (Fr.rf.st (by decide)).st (by decide)
          have oth : ∀ k, k ≠ l → k ≠ r → st2 s9 3 r y10 3 k = E k := fun k k1 k2 => by rw [st2_sk, if_neg k2, hs9, st2_sk, if_neg k1]; exact b2.2.1 k k1 k2
          generalize st2 s9 3 r y10 = s11 at hs11 f11 oth
          have env11 : EnvOK (s11 3) := (EW_env hE hl hr hw10 c10).ext hs11
          have jb11 : JB s11 G O M := ⟨b2.1.1.fr f11 (by rw [f11 2 (by decide)]) (by decide), env11, by rw [f11 6 (by decide), f11 2 (by decide)]; exact b2.1.2.2⟩
          have z0 := b1.2.2
          obtain ⟨s12, E2, j12, f12, r12, r26⟩ := fresh_ok jb11 ⟨by rw [f11 2 (by decide)]; omega, by rw [f11 2 (by decide)]; omega⟩
          obtain ⟨⟨v, s13⟩, E3, v1, f13, j13⟩ := two_i j12 (d := (l : Int)) (e := (r : Int)) (m := m) (by omega) (by omega) hm
          have v1 : v = tw G O (s12 3) (l : Int) (r : Int) m := v1
          have f13 : Fr [4, 5, 6, 7] s12 s13 := f13
          have j13 : JOK s13 G O M := j13
          have ev : (if v = 1000 then 0 else v) = vT G O x E l r m w c := by
            unfold vT t0
            rw [v1, f12 3 (by decide), tw_pts (hs11 40 (by omega)) (hs11 l (by omega)) (hs11 r (by omega)) (hs11 (10 + l) (by omega)) (hs11 (10 + r) (by omega)) (hs11 (30 + l) (by omega))]
          rw [E2, b0M_some, E3, b1M_some, bindM_eq, ev, if_pos ci, ti, bindM_eq, bindM_eq, bindM_eq]
          have F : Fr [2, 3, 4, 5, 6, 7, 127] q.2 (st2 s13 127 (w * 10 + c) (vT G O x E l r m w c)) := (((f11.w (by decide)).tr (f12.w (by decide))).tr (f13.w (by decide))).st (by decide)
          have g2 : st2 s13 127 (w * 10 + c) (vT G O x E l r m w c) 2 = s12 2 := by rw [st2_ne (by decide)]; exact f13 2 (by decide)
          have g3 : st2 s13 127 (w * 10 + c) (vT G O x E l r m w c) 3 = s11 3 := by rw [st2_ne (by decide), f13 3 (by decide)]; exact f12 3 (by decide)
          have g127 : ∀ k, st2 s13 127 (w * 10 + c) (vT G O x E l r m w c) 127 k = if k = w * 10 + c then vT G O x E l r m w c else q.2 127 k := fun k => by rw [st2_sk, f13 127 (by decide), f12 127 (by decide), f11 127 (by decide)]
          have jbN : JB (st2 s13 127 (w * 10 + c) (vT G O x E l r m w c)) G O M := by
            have f : Fr [127] s13 (st2 s13 127 (w * 10 + c) (vT G O x E l r m w c)) := Fr.rf.st (by decide)
            exact ⟨j13.1.fr f (by rw [f 2 (by decide)]) (by decide), by rw [f 3 (by decide)]; exact j13.2.1, by rw [f 6 (by decide), f 2 (by decide)]; exact j13.2.2.1⟩
          generalize st2 s13 127 (w * 10 + c) (vT G O x E l r m w c) = s15 at F g2 g3 g127 jbN
          have AFn : AF s0 s15 (c + 1) := by
            have z := b1.2.2
            refine ⟨b1.1.tr F, ?_, ?_, ?_⟩
            · rw [g2, r26, f11 2 (by decide)]; exact b1.2.1
            · rw [g2, r12, f11 2 (by decide)]; omega
            · rw [g2, r12, f11 2 (by decide)]; omega
          have ASn : AS x G O M E l r s15 := ⟨jbN, fun k k1 k2 => by rw [g3]; exact oth k k1 k2, fun hb hne => by
            rw [g3, hs11 r (by omega)]
            unfold EW
            rw [if_neg (fun q => hb q.2), if_neg (fun q => hne q.1.symm)]⟩
          have tabn : ∀ c', c' < c + 1 → (l = r → w = c') → s15 127 (w * 10 + c') = vT G O x E l r m w c' := fun c' hc' h => by
            rw [g127]
            by_cases e : c' = c
            · rw [if_pos (by omega), e]
            · rw [if_neg (by omega)]; exact b5 c' (by omega) h
          have tabo : ∀ k, ¬ (w * 10 ≤ k ∧ k < w * 10 + 10) → s15 127 k = s0 127 k := fun k hk => by
            rw [g127, if_neg (by omega)]; exact b6 k hk
          have v15 : s15 127 (w * 10 + c) = vT G O x E l r m w c := tabn c (by omega) hlr
          by_cases q0 : q.1 = 0
          · rw [if_pos q0, if_pos ci, v15]
            by_cases z : vT G O x E l r m w c = 0
            · rw [if_pos z]
              dsimp only
              rw [e2, if_pos next]
              refine ⟨(0, s15), rfl, AFn, ASn, Or.inl rfl, fun _ => ⟨(b4 q0).1, fun c' hc' h => ?_⟩, tabn, tabo⟩
              by_cases e : c' = c
              · rw [e]; exact z
              · exact (b4 q0).2 c' (by omega) h
            · rw [if_neg z]
              dsimp only
              rw [e2, if_pos next]
              exact ⟨(1, s15), rfl, AFn, ASn, Or.inr rfl, fun h => absurd h ne10, tabn, tabo⟩
          · rw [if_neg q0]
            dsimp only
            rw [e2, if_pos next]
            exact ⟨(1, s15), rfl, AFn, ASn, Or.inr rfl, fun h => absurd h ne10, tabn, tabo⟩
        have J7 : ∃ q' : Int × Mm, (if 0 ≤ (l : Int) ∧ (l : Int) < 10 then bindM ((if q.2 124 ((l : Int)).toNat ≤ 0 then E l else (w : Int) : Int)) fun v8 => if 0 ≤ 0 + (l : Int) ∧ 0 + (l : Int) < 165 then bindM (st2 q.2 3 ((0 + (l : Int)).toNat) v8) fun s9 => if 0 ≤ (r : Int) ∧ (r : Int) < 10 then bindM (fun (y10 : Int) => if 0 ≤ 0 + (r : Int) ∧ 0 + (r : Int) < 165 then bindM (st2 s9 3 ((0 + (r : Int)).toNat) y10) fun s11 => b0M (F_J_fresh s11) fun s12 => b1M (F_J_two (l : Int) (r : Int) m s12) fun v13 s13 => bindM ((if v13 = 1000 then 0 else v13 : Int)) fun v14 => if 0 ≤ ((w : Int) * 10) + (c : Int) ∧ ((w : Int) * 10) + (c : Int) < 100 then bindM (st2 s13 127 ((((w : Int) * 10) + (c : Int)).toNat) v14) fun s15 => bindM (fun (y16 : Int) => (fun (x7_5 : Int) (t5 : Mm) => if r32 ((c : Int) + 1) then L_G_ask_54 N (l : Int) (r : Int) m (E l) x7_5 (w : Int) ((c : Int) + 1) t5 else none) y16 s15) fun J16 => bindM (J16 1) fun J17 => if q.1 = 0 then if 0 ≤ ((w : Int) * 10) + (c : Int) ∧ ((w : Int) * 10) + (c : Int) < 100 then if s15 127 ((((w : Int) * 10) + (c : Int)).toNat) = 0 then J16 0 else J17 else none else J17 else none else none) fun J10 => if s9 124 r ≤ 0 then if 0 ≤ 0 + (r : Int) ∧ 0 + (r : Int) < 165 then J10 (s9 3 ((0 + (r : Int)).toNat)) else none else J10 (c : Int) else none else none else none) = L_G_ask_54 N (l : Int) (r : Int) m (E l) q'.1 (w : Int) ((c + 1 : Nat) : Int) q'.2 ∧ (AF s0 q'.2 (c + 1) ∧ AS x G O M E l r q'.2 ∧ (q'.1 = 0 ∨ q'.1 = 1) ∧ (q'.1 = 0 → any = 0 ∧ ∀ c', c' < c + 1 → (l = r → w = c') → vT G O x E l r m w c' = 0) ∧ (∀ c', c' < c + 1 → (l = r → w = c') → q'.2 127 (w * 10 + c') = vT G O x E l r m w c') ∧ (∀ k, ¬ (w * 10 ≤ k ∧ k < w * 10 + 10) → q'.2 127 k = s0 127 k)) := by
          rw [if_pos cl, tl, q124 l hl, bindM_eq, if_pos cl0, tl0, bindM_eq, if_pos cr, bindM_eq]
          have s9124 : st2 q.2 3 l (if strd x l ≤ 0 then E l else (w : Int)) 124 r = strd x r := by rw [st2_ne (by decide)]; exact q124 r hr
          rw [s9124]
          by_cases hb : bitI x (r : Int) = 1
          · rw [if_neg (show ¬ strd x r ≤ 0 from fun q => (strd_pos.mp q) hb)]
            exact body (c : Int) _ rfl (by unfold EW; rw [if_pos (show r = r ∧ bitI x (r : Int) = 1 from ⟨rfl, hb⟩)])
          · rw [if_pos (show strd x r ≤ 0 from strd_pos.mpr hb), if_pos cr0]
            refine body _ _ rfl ?_
            rw [tr0]
            unfold EW
            rw [if_neg (show ¬ (r = r ∧ bitI x (r : Int) = 1) from fun q => hb q.2), st2_sk]
            by_cases e : r = l
            · subst e
              rw [if_pos rfl, if_neg (show ¬ (r = r ∧ bitI x (r : Int) = 1) from fun q => hb q.2), if_pos (show strd x r ≤ 0 from strd_pos.mpr hb)]
            · rw [if_neg e, if_neg (show ¬ (r = l ∧ bitI x (l : Int) = 1) from fun q => e q.1)]
              exact b2.2.2 hb (fun q => e q.symm)
        by_cases hlr2 : l = r
        · rw [if_pos (show (l : Int) = (r : Int) by omega), if_pos (show (w : Int) = (c : Int) by have := hlr hlr2; omega)]
          exact J7
        · rw [if_neg (show ¬ (l : Int) = (r : Int) by omega)]
          exact J7)
  have E1 : L_G_ask_54 LF (l : Int) (r : Int) m (E l) any (w : Int) 0 s0 = some (q.1, q.2) := E1
  exact ⟨q.1, q.2, E1, ⟨q1.1, q1.2.1, q1.2.2.1, by have := q1.2.2.2; omega⟩, q2, q3, q4, q5, q6⟩
