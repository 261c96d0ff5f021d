-- `ask`, `spread` of the class's Fitting
theorem ask_ok {x : Int} {G O M : Law} {l r : Nat} {m : Int} {s : Mm} (hl : l < 10) (hr : r < 10) (hm : 0 ≤ m ∧ m ≤ 3) (hJ : JB s G O M) (h124 : ∀ g, g < 10 → s 124 g = strd x g) (hR : -1 ≤ s 2 5 ∧ s 2 5 + 200 < 2147483647) :
    ∃ a t, F_G_ask (l : Int) (r : Int) m s = some (a, t) ∧ Fr [2, 4, 5, 6, 7, 127] s t ∧ JB t G O M ∧ t 2 6 = s 2 6 ∧ (s 2 5 ≤ t 2 5 ∧ t 2 5 ≤ s 2 5 + 100) ∧ (a = 0 ∨ a = 1) ∧ (a = 0 → ∀ w c, w < limT x l → c < limT x r → (l = r → w = c) → vT G O x (s 3) l r m w c = 0) ∧ (∀ w c, w < limT x l → c < limT x r → (l = r → w = c) → t 127 (w * 10 + c) = vT G O x (s 3) l r m w c) := by
  have liml : limT x l ≤ 10 := by unfold limT; split <;> omega
  have limr : limT x r ≤ 10 := by unfold limT; split <;> omega
  have tl : ((l : Int)).toNat = l := by omega
  have tl0 : ((0 : Int) + (l : Int)).toNat = l := by omega
  have tr0 : ((0 : Int) + (r : Int)).toNat = r := by omega
  have cl : (0 : Int) ≤ (l : Int) ∧ (l : Int) < 10 := by omega
  have cl0 : (0 : Int) ≤ 0 + (l : Int) ∧ (0 : Int) + (l : Int) < 165 := by omega
  have cr0 : (0 : Int) ≤ 0 + (r : Int) ∧ (0 : Int) + (r : Int) < 165 := by omega
  have limv : (if strd x l ≤ 0 then (1 : Int) else 10) = ((limT x l : Nat) : Int) := by
    unfold limT
    by_cases h : bitI x (l : Int) = 1
    · rw [if_pos h, if_neg (fun q => (strd_pos.mp q) h)]; rfl
    · rw [if_neg h, if_pos (strd_pos.mpr h)]; rfl
  have hA0 : AS x G O M (s 3) l r s := ⟨hJ, fun _ _ _ => rfl, fun _ _ => rfl⟩
  obtain ⟨q, E1, q1, q2, q3, q4, q5⟩ := loop_inv2 (L := fun N j (q : Int × Mm) => L_G_ask_31 N (l : Int) (r : Int) m (s 3 l) q.1 j q.2) (I := fun i q => AF s q.2 (10 * i) ∧ AS x G O M (s 3) l r q.2 ∧ (q.1 = 0 ∨ q.1 = 1) ∧ (q.1 = 0 → ∀ w c, w < i → c < limT x r → (l = r → w = c) → vT G O x (s 3) l r m w c = 0) ∧ (∀ w c, w < i → c < limT x r → (l = r → w = c) → q.2 127 (w * 10 + c) = vT G O x (s 3) l r m w c)) (x := limT x l) (out := fun q => q)
    (fun N q hq => by
      show L_G_ask_31 (N + 1) (l : Int) (r : Int) m (s 3 l) q.1 ((limT x l : Nat) : Int) q.2 = _
      rw [L_G_ask_31, if_pos cl, tl, hq.1.1 124 (by decide), h124 l hl, limv, bindM_eq, if_pos (Int.le_refl _)])
    (m := limT x l) (i := 0) (N := LF) (s := ((0 : Int), s)) (by omega) (by unfold LF; omega) ⟨AF.rf, hA0, Or.inl rfl, fun _ w c h => by omega, fun w c h => by omega⟩ (fun N w q _ hw hq => by
      obtain ⟨b1, b2, b3, b4, b5⟩ := hq
      have e2 : (w : Int) + 1 = ((w + 1 : Nat) : Int) := by omega
      have z := b1.2.2
      obtain ⟨a, t, E2, c1, c2, c3, c4, c5, c6⟩ := ask54 (x := x) (G := G) (O := O) (M := M) (E := s 3) (l := l) (r := r) (w := w) (m := m) (any := q.1) (s0 := q.2) hl hr hw hm hJ.2.1 (fun g hg => by rw [b1.1 124 (by decide)]; exact h124 g hg) b2 ⟨by omega, by omega⟩ b3
      refine ⟨(a, t), ?_, ⟨b1.1.tr c1.1, c1.2.1.trans b1.2.1, by have := c1.2.2; show s 2 5 ≤ t 2 5; omega, by have := c1.2.2; show t 2 5 ≤ s 2 5 + ((10 * (w + 1) : Nat) : Int); omega⟩, c2, c3, fun h w' c hw' hc h2 => ?_, fun w' c hw' hc h2 => ?_⟩
      · show L_G_ask_31 (N + 1) (l : Int) (r : Int) m (s 3 l) q.1 (w : Int) q.2 = L_G_ask_31 N (l : Int) (r : Int) m (s 3 l) a ((w + 1 : Nat) : Int) t
        rw [L_G_ask_31, if_pos cl, tl, b1.1 124 (by decide), h124 l hl, limv, bindM_eq, if_neg (by omega), E2, b1M_some, e2, if_pos (show r32 ((w + 1 : Nat) : Int) from ⟨by omega, by omega⟩)]
      · by_cases e : w' = w
        · rw [e]; exact (c4 h).2 c hc (fun q => by rw [← e]; exact h2 q)
        · exact b4 (c4 h).1 w' c (by omega) hc h2
      · show t 127 (w' * 10 + c) = _
        by_cases e : w' = w
        · rw [e]; exact c5 c hc (fun q => by rw [← e]; exact h2 q)
        · rw [c6 _ (by omega)]; exact b5 w' c (by omega) hc h2)
  have E1 : L_G_ask_31 LF (l : Int) (r : Int) m (s 3 l) 0 0 s = some (q.1, q.2) := E1
  unfold F_G_ask
  rw [if_pos cl0, tl0, bindM_eq, if_pos cr0, tr0, bindM_eq, E1, b1M_some, if_pos cl0, bindM_eq, if_pos cr0, bindM_eq, if_pos q3]
  have g3 : st2 (st2 q.2 3 l (s 3 l)) 3 r (s 3 r) 3 = s 3 := by
    funext k
    rw [st2_sk, st2_sk]
    by_cases kr : k = r
    · rw [if_pos kr, kr]
    · rw [if_neg kr]
      by_cases kl : k = l
      · rw [if_pos kl, kl]
      · rw [if_neg kl]; exact q2.2.1 k kl kr
  have gi : ∀ i, i ≠ 3 → st2 (st2 q.2 3 l (s 3 l)) 3 r (s 3 r) i = q.2 i := fun i hi => by rw [st2_ne hi, st2_ne hi]
  generalize st2 (st2 q.2 3 l (s 3 l)) 3 r (s 3 r) = t at g3 gi
  have z := q1.2.2
  have lim10 : ((10 * limT x l : Nat) : Int) ≤ 100 := by omega
  refine ⟨q.1, t, rfl, fun i hi => ?_, ⟨q2.1.1.e (by rw [gi 2 (by decide)]) (fun i i1 i2 => gi i (by omega)), by rw [g3]; exact hJ.2.1, by rw [gi 6 (by decide), gi 2 (by decide)]; exact q2.1.2.2⟩, by rw [gi 2 (by decide)]; exact q1.2.1, by rw [gi 2 (by decide)]; omega, q3, q4, fun w c hw hc h => by rw [gi 127 (by decide)]; exact q5 w c hw hc h⟩
  by_cases e : i = 3
  · rw [e]; exact g3
  · rw [gi i e]; exact q1.1 i (by simp at hi ⊢; omega)
/-- the two TEMPERS of a case -/
def wcT (x : Int) (c g : Nat) : Nat := if bitI x (g : Int) = 1 then tpr x c g else 0
theorem wcT_lim {x : Int} {c g : Nat} : wcT x c g < limT x g := by
  unfold wcT limT
  by_cases h : bitI x (g : Int) = 1
  · rw [if_pos h, if_pos h]; exact Nat.mod_lt _ (by omega)
  · rw [if_neg h, if_neg h]; omega
theorem vT_Ex {G O : Law} {x : Int} {E : Nat → Int} {l r : Nat} {m : Int} {c : Nat} (hl : l < 10) (hr : r < 10) : vT G O x E l r m (wcT x c l) (wcT x c r) = t0 (tw G O (Ex x E c)) l r m := by
  have pt : ∀ k, k = l ∨ k = r ∨ 10 ≤ k → EW x E l r (wcT x c l) (wcT x c r) k = Ex x E c k := fun k hk => by
    unfold EW Ex wcT
    by_cases kr : k = r
    · subst kr
      by_cases hb : bitI x (k : Int) = 1
      · rw [if_pos ⟨rfl, hb⟩, if_pos hb, if_pos ⟨hr, hb⟩]
      · rw [if_neg (fun q => hb q.2), if_neg (show ¬ (k < 10 ∧ bitI x (k : Int) = 1) from fun q => hb q.2)]
        by_cases kl : k = l
        · subst kl; rw [if_neg (fun q => hb q.2)]
        · rw [if_neg (fun q => kl q.1)]
    · rw [if_neg (fun q => kr q.1)]
      by_cases kl : k = l
      · subst kl
        by_cases hb : bitI x (k : Int) = 1
        · rw [if_pos ⟨rfl, hb⟩, if_pos hb, if_pos ⟨hl, hb⟩]
        · rw [if_neg (fun q => hb q.2), if_neg (fun q => hb q.2)]
      · rw [if_neg (fun q => kl q.1), if_neg (fun q => by omega)]
  unfold vT t0
  rw [tw_pts (pt 40 (by omega)).symm (pt l (by omega)).symm (pt r (by omega)).symm (pt (10 + l) (by omega)).symm (pt (10 + r) (by omega)).symm (pt (30 + l) (by omega)).symm]
