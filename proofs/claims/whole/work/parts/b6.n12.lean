-- orders of two NUMBERS
theorem nb_bad {u : Mm} {x lo hi : Int} (h : ¬ u 200 19 = 0) (h2 : 0 < u 200 19) : F_M_numberBehind x lo hi u = some (lo, u) := by
  have e : F_M_errs 1 u = some u := by
    unfold F_M_errs
    rw [if_neg h]
  unfold F_M_numberBehind F_M_number
  rw [bindM_eq, if_neg h]
  dsimp only
  rw [bindM_eq, if_neg h]
  dsimp only
  rw [bindM_eq, if_pos h2, e, b0M_some, b1M_some]
theorem nb_no {u : Mm} {x lo hi : Int} (h : u 200 19 = 0) (h2 : ¬ (u 200 17 = 1 ∧ u 200 18 = x)) : F_M_numberBehind x lo hi u = some (lo, st2 (st2 u 200 19 1) 200 20 (u 200 16)) := by
  have x19 : st2 (st2 u 200 19 1) 200 20 (u 200 16) 200 19 = 1 := by rw [st2_sk, if_neg (by decide), st2_ss]
  have e : F_M_errs 1 (st2 (st2 u 200 19 1) 200 20 (u 200 16)) = some (st2 (st2 u 200 19 1) 200 20 (u 200 16)) := by
    unfold F_M_errs
    rw [x19, if_neg ne10]
  unfold F_M_numberBehind F_M_number
  rw [bindM_eq, if_pos h, isW, b1_some, if_neg h2, if_pos rfl, err_M h, b0M_some]
  dsimp only
  rw [bindM_eq, x19, if_neg ne10]
  dsimp only
  rw [bindM_eq, x19, if_pos (show (0 : Int) < 1 by decide), e, b0M_some, b1M_some]
theorem nb_yes {u v : Mm} {x lo hi : Int} (h : u 200 19 = 0) (h2 : u 200 17 = 1 ∧ u 200 18 = x) (hv : F_M_next u = some v) : F_M_numberBehind x lo hi u = b1M (F_M_number lo hi v) fun v3 s3 => some (v3, s3) := by
  unfold F_M_numberBehind
  rw [bindM_eq, if_pos h, isW, b1_some, if_pos h2, if_neg ne10]
  dsimp only
  rw [bindM_eq, if_pos h, hv, b0M_some]
theorem ord2 {s u : Mm} {T n e c K Om : Nat} {x y : Int} (q : IsO 0 9 T) (h : Ic s u T n e c K Om) (hxy : (x = 306 ∧ y = 8) ∨ (x = 308 ∧ y = 9)) (kk : ∀ (w w2 : Int) (f rw : Nat → Int), 0 ≤ w → w ≤ 9 → 0 ≤ w2 → w2 ≤ 9 → f 0 = s (T + 16) (6 * K) → f 1 = w → f 2 = w2 → ClR f (u 216 K) w w2 rw) :
    (∃ t v e2, F_R_readOrder 0 9 x s = some t ∧ (b0M (b1M (F_M_number 0 9 u) fun v7 s7 => b1M (F_M_numberBehind y 0 9 s7) fun v8 s8 => dJ v7 v8 s8) fun x => rEnd x) = some v ∧ SucR s t u v T n K Om e2 c) ∨ (∃ t v, F_R_readOrder 0 9 x s = some t ∧ (b0M (b1M (F_M_number 0 9 u) fun v7 s7 => b1M (F_M_numberBehind y 0 9 s7) fun v8 s8 => dJ v7 v8 s8) fun x => rEnd x) = some v ∧ ErrT s t u v T) := by
  have hq := isO9 q
  have hT := hq.1
  obtain ⟨tok, z, ⟨h15, h5, hK⟩, ⟨m29, m25, m36, hOm⟩, pg⟩ := h
  have nx : ¬ x = -1 := by omega
  rcases num_ok (p := 1) q tok z h15 h5 hK (by omega) (show (0 : Int) ≤ 0 by decide) (show (9 : Int) ≤ 9999 by decide) pg with ⟨t1, v1, e1, w, E1, E2, ⟨w1, w2⟩, tok1, pg1, k1, k2, k3, k4, s2⟩ | ⟨f, hf, E1, E2⟩
  · have E1 : F_R_takeNumber 1 0 9 s = some (1, t1) := E1
    have z1 : t1 90 3 = 0 ∧ v1 200 19 = 0 := ⟨by rw [k4 3 (by omega)]; exact z.1, by rw [s2.1 19 (by omega)]; exact z.2⟩
    have d29 : v1 200 29 = (K : Int) := by rw [s2.1 29 (by omega)]; exact m29
    have kw := kind_w tok1.2.2.2
    have kx : t1 90 7 = x ↔ (v1 200 17 = 1 ∧ v1 200 18 = y) := by
      rcases hxy with ⟨rfl, rfl⟩ | ⟨rfl, rfl⟩
      · exact kw.1
      · exact kw.2
    have TC1 : TC s t1 T := ⟨fun i a1 _ _ _ _ _ a2 => k3 i a1 a2, fun k hk => k4 k (by omega)⟩
    by_cases cx : t1 90 7 = x
    · obtain ⟨e3, t3, v3, E3, E4, tok3, s3, s4, p1, p2⟩ := tok1.step
      have pg3 := pg1.go (by omega) p1 p2
      have z3 : t3 90 3 = 0 ∧ v3 200 19 = 0 := ⟨by rw [s3.1 3 (by omega)]; exact z1.1, by rw [s4.1 19 (by omega)]; exact z1.2⟩
      have T5 : t3 T 5 = ((K + 1 : Nat) : Int) := by rw [s3.2 T (by simp; omega), k3 T (by omega) (by omega)]; exact h5
      have T15 : t3 90 15 = (T : Int) := by rw [s3.1 15 (by omega), k4 15 (by omega)]; exact h15
      have TC3 : TC s t3 T := TC1.tr s3.t
      have st3 : StM u v3 := s2.tr s4
      have c16 : t3 (T + 16) = t1 (T + 16) := s3.2 (T + 16) (by simp; omega)
      have ET : F_R_takeToken x t1 = some (1, t3) := by
        unfold F_R_takeToken
        rw [if_pos cx, E3, b0M_some]
      rcases num_ok (p := 2) q tok3 z3 T15 T5 hK (by omega) (show (0 : Int) ≤ 0 by decide) (show (9 : Int) ≤ 9999 by decide) pg3 with ⟨t4, v4, e4, ww, E5, E6, ⟨y1, y2⟩, tok4, pg4, j1, j2, j3, j4, s5⟩ | ⟨f, hf, E5, E6⟩
      · have E5 : F_R_takeNumber 2 0 9 t3 = some (1, t4) := E5
        have st4 : StM u v4 := st3.tr s5
        have g29 : v4 200 29 = (K : Int) := by rw [st4.1 29 (by omega)]; exact m29
        have D := dJ_ok (one := w) (two := ww) g29 hK
        have eC : F_R_readOrder 0 9 x s = b1M (F_R_takeToken 59 t4) fun v3 s3 => some s3 := by
          unfold F_R_readOrder
          rw [E1, b1M_some, bindM_eq, if_neg ne10, if_neg nx, ET, b1M_some, bindM_eq, bindM_eq, if_neg ne10, E5, b1M_some, if_neg ne10]
          dsimp only
          rw [if_neg ne10]
        have eM : (b0M (b1M (F_M_number 0 9 u) fun v7 s7 => b1M (F_M_numberBehind y 0 9 s7) fun v8 s8 => dJ v7 v8 s8) fun x => rEnd x) = rEnd (st2 (st2 v4 218 K w) 219 K ww) := by rw [E2, b1M_some, nb_yes z1.2 (kx.mp cx) E4, E6, b1M_some, b1M_some, D, b0M_some]
        have tok5 : TokR t4 (st2 (st2 v4 218 K w) 219 K ww) n e4 := tok4.mv (fun _ _ => rfl) rfl (fun k _ _ => by rw [st2_ne (by decide), st2_ne (by decide)]) (by rw [st2_ne (by decide), st2_ne (by decide)])
        have z0 : ∀ k, st2 (st2 v4 218 K w) 219 K ww 200 k = v4 200 k := fun k => by rw [st2_ne (by decide), st2_ne (by decide)]
        rcases close_ok (s := s) (t1 := t4) (u := u) (u2 := st2 (st2 v4 218 K w) 219 K ww) (c := c) (one := w) (two := ww) hT tok5 ⟨by rw [j4 3 (by omega)]; exact z3.1, by rw [z0, s5.1 19 (by omega)]; exact z3.2⟩ (pg4.w (by omega)) (by rw [z0, st4.1 25 (by omega)]; exact m25) (by rw [z0, st4.1 36 (by omega)]; exact m36) hOm (by rw [z0]; exact g29) hK (fun i h1 h2 => by rw [j3 i h1 h2, s3.2 i (by simpa using h1)]; exact k3 i h1 h2) (fun k hk => by rw [j4 k hk, s3.1 k hk]; exact k4 k hk) (fun k hk => by rw [j2 k (by omega), c16]; exact k2 k (by omega)) (fun i h1 h2 => by rw [st2_ne (by omega), st2_ne (by omega), st4.2 i (by simpa using h1)]) (fun k hk => by rw [z0, st4.1 k hk]) (fun k hk => ⟨by rw [st2_ne (by decide), st2_sk, if_neg (by omega), st4.2 218 (by decide)], by rw [st2_sk, if_neg (by omega), st2_ne (by decide), st4.2 219 (by decide)]⟩) (fun k hk => by rw [st2_ne (by decide), st2_ne (by decide), st4.2 220 (by decide)]) (by rw [st2_ne (by decide), st2_ss]) (st2_ss _ _ _ _) (kk w ww _ _ w1 w2 y1 y2 (by show t4 (T + 16) (6 * K + 0) = _; rw [j2 _ (by omega), c16, k2 _ (by omega)]; rfl) (by show t4 (T + 16) (6 * K + 1) = _; rw [j2 _ (by omega), c16]; exact k1) j1) with ⟨t, v, e5, F1, F2, SR⟩ | ⟨t, v, F1, F2, ER⟩
        · exact Or.inl ⟨t, v, e5, by rw [eC, F1, b1M_some], by rw [eM, F2], SR⟩
        · exact Or.inr ⟨t, v, by rw [eC, F1, b1M_some], by rw [eM, F2], ER⟩
      · right
        have E5 : F_R_takeNumber 2 0 9 t3 = _ := E5
        have x29 : st2 (st2 v3 200 19 f) 200 20 (v3 200 16) 200 29 = (K : Int) := by rw [st2_sk, if_neg (by decide), st2_sk, if_neg (by decide), st3.1 29 (by omega)]; exact m29
        have x19 : ¬ st2 (st2 (st2 (st2 v3 200 19 f) 200 20 (v3 200 16)) 218 K w) 219 K 0 200 19 = 0 := by
          rw [st2_ne (by decide), st2_ne (by decide), st2_sk, if_neg (by decide), st2_ss]; omega
        refine ⟨_, _, ?_, ?_, ErrT_dj tok3 hf TC3 st3.t K w 0⟩
        · unfold F_R_readOrder
          rw [E1, b1M_some, bindM_eq, if_neg ne10, if_neg nx, ET, b1M_some, bindM_eq, bindM_eq, if_neg ne10, E5, b1M_some, if_pos rfl]
          dsimp only
          rw [if_pos rfl]
        · rw [E2, b1M_some, nb_yes z1.2 (kx.mp cx) E4, E6, b1M_some, b1M_some, dJ_ok x29 hK, b0M_some, rEnd_bad x19]
    · right
      have ET : F_R_takeToken x t1 = some (0, st2 (st2 t1 90 3 1) 90 4 (t1 90 6)) := by
        unfold F_R_takeToken
        rw [if_neg cx, err_C z1.1, b1M_some]
      have x29 : st2 (st2 v1 200 19 1) 200 20 (v1 200 16) 200 29 = (K : Int) := by rw [st2_sk, if_neg (by decide), st2_sk, if_neg (by decide)]; exact d29
      have x19 : ¬ st2 (st2 (st2 (st2 v1 200 19 1) 200 20 (v1 200 16)) 218 K w) 219 K 0 200 19 = 0 := by
        rw [st2_ne (by decide), st2_ne (by decide), st2_sk, if_neg (by decide), st2_ss]; decide
      refine ⟨_, _, ?_, ?_, ErrT_dj tok1 (by decide : (0 : Int) < 1) TC1 s2.t K w 0⟩
      · unfold F_R_readOrder
        rw [E1, b1M_some, bindM_eq, if_neg ne10, if_neg nx, ET, b1M_some, bindM_eq, bindM_eq, if_pos rfl]
        dsimp only
        rw [if_pos rfl]
      · rw [E2, b1M_some, nb_no z1.2 (fun z => cx (kx.mpr z)), b1M_some, dJ_ok x29 hK, b0M_some, rEnd_bad x19]
  · right
    have E1 : F_R_takeNumber 1 0 9 s = _ := E1
    have y19 : st2 (st2 u 200 19 f) 200 20 (u 200 16) 200 19 = f := by rw [st2_sk, if_neg (by decide), st2_ss]
    have x29 : st2 (st2 u 200 19 f) 200 20 (u 200 16) 200 29 = (K : Int) := by rw [st2_sk, if_neg (by decide), st2_sk, if_neg (by decide)]; exact m29
    have x19 : ¬ st2 (st2 (st2 (st2 u 200 19 f) 200 20 (u 200 16)) 218 K 0) 219 K 0 200 19 = 0 := by
      rw [st2_ne (by decide), st2_ne (by decide), y19]; omega
    refine ⟨_, _, ?_, ?_, ErrT_dj tok hf TC.rf TM.rf K 0 0⟩
    · unfold F_R_readOrder
      rw [E1, b1M_some, bindM_eq, if_pos rfl]
      dsimp only
      rw [if_pos rfl]
    · rw [E2, b1M_some, nb_bad (by rw [y19]; omega) (by rw [y19]; exact hf), b1M_some, dJ_ok x29 hK, b0M_some, rEnd_bad x19]
