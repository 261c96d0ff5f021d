-- orders: a NUMBER, or two with a word between them
def Ic (s u : Mm) (T n e c K Om : Nat) : Prop := TokR s u n e ∧ (s 90 3 = 0 ∧ u 200 19 = 0) ∧ (s 90 15 = (T : Int) ∧ s T 5 = ((K + 1 : Nat) : Int) ∧ K < 24) ∧ (u 200 29 = (K : Int) ∧ u 200 25 = 0 ∧ u 200 36 = (Om : Int) ∧ Om < 400) ∧ Pg s e c
/-- the end of a clause that is no law, where its parts stand -/
theorem close_ok {s t1 u u2 : Mm} {T n c K Om e1 : Nat} {one two : Int} (hT : 94 ≤ T) (tok1 : TokR t1 u2 n e1) (z1 : t1 90 3 = 0 ∧ u2 200 19 = 0) (pg1 : Pg t1 e1 c) (m25 : u2 200 25 = 0) (m36 : u2 200 36 = (Om : Int)) (hOm : Om < 400) (m29 : u2 200 29 = (K : Int)) (hK : K < 24)
    (ci : ∀ i, i ≠ 90 → i ≠ T + 16 → t1 i = s i) (c90 : ∀ k, (k < 5 ∨ 8 < k) → t1 90 k = s 90 k) (cp : ∀ k, k < 6 * K → t1 (T + 16) k = s (T + 16) k)
    (mi : ∀ i, i ≠ 200 → (i < 218 ∨ 220 < i) → u2 i = u i) (m0 : ∀ k, (k < 15 ∨ 18 < k) → u2 200 k = u 200 k) (m18 : ∀ k, k < K → u2 218 k = u 218 k ∧ u2 219 k = u 219 k) (m20 : ∀ k, k < 4 * K → u2 220 k = u 220 k) (e1 : u2 218 K = one) (e2 : u2 219 K = two) (cl : ClR (fun j => t1 (T + 16) (6 * K + j)) (u 216 K) one two (fun i => u2 220 (4 * K + i))) :
    (∃ t v e3, F_R_takeToken 59 t1 = some (1, t) ∧ rEnd u2 = some v ∧ SucR s t u v T n K Om e3 c) ∨ (∃ t v, F_R_takeToken 59 t1 = some (0, t) ∧ rEnd u2 = some v ∧ ErrT s t u v T) := by
  rcases semi_ok tok1 z1 m25 m36 hOm m29 (by omega) pg1 with ⟨t, v, e3, E1, E2, tok2, pg2, s1, ⟨o1, ⟨o2, o3, o4, o5, o6, o7, o8⟩, o9, o10⟩⟩ | ⟨E1, E2⟩
  · left
    have tp : t (T + 16) = t1 (T + 16) := s1.2 (T + 16) (by simp; omega)
    refine ⟨t, v, e3, E1, E2, tok2, ⟨by rw [s1.1 3 (by omega)]; exact z1.1, o8⟩, pg2.w (by omega), ⟨fun i h1 h2 => by rw [s1.2 i (by simpa using h1)]; exact ci i h1 h2, fun k hk => by rw [s1.1 k hk]; exact c90 k hk, fun k hk => by rw [tp]; exact cp k hk⟩, ⟨fun i h1 h2 => ?_, fun k hk => ?_, fun k hk => ?_, fun k hk => ?_, fun k hk => ?_⟩, ⟨o2, o3, ?_, o5, o6, o7⟩, ?_⟩
    · rw [o1 i h1 (by omega) (by omega)]; exact mi i h1 (by omega)
    · rw [o1 218 (by decide) (by decide) (by decide), o1 219 (by decide) (by decide) (by decide)]; exact m18 k hk
    · rw [o1 220 (by decide) (by decide) (by decide)]; exact m20 k hk
    · obtain ⟨a1, a2⟩ := o9 k hk
      rw [a1, a2, mi 221 (by decide) (by decide), mi 222 (by decide) (by decide)]; exact ⟨rfl, rfl⟩
    · rw [o10 k hk]; exact m0 k (by omega)
    · rw [o4]; exact m0 21 (by omega)
    · rw [tp, o1 218 (by decide) (by decide) (by decide), o1 219 (by decide) (by decide) (by decide), o1 220 (by decide) (by decide) (by decide), e1, e2]; exact cl
  · right
    refine ⟨_, _, E1, E2, err_R tok1 (by omega), ?_, ?_⟩
    · have : TC s t1 T := ⟨fun i a1 _ _ _ _ _ a2 => ci i a1 a2, fun k hk => c90 k (by omega)⟩
      exact (this.p90 (by omega)).p90 (by omega)
    · have : TM u u2 := ⟨fun i hi => mi i (by omega) (by omega), fun k hk => m0 k (by omega)⟩
      exact (this.p0 (by omega)).p0 (by omega)
theorem ErrT_dj {s0 s u0 u : Mm} {T n e : Nat} {f : Int} (tok : TokR s u n e) (hf : 0 < f) (tc : TC s0 s T) (tm : TM u0 u) (K : Nat) (a b : Int) : ErrT s0 (st2 (st2 s 90 3 f) 90 4 (s 90 6)) u0 (st2 (st2 (st2 (st2 u 200 19 f) 200 20 (u 200 16)) 218 K a) 219 K b) T :=
  ⟨((err_R tok hf).put (j := 218) (by decide)).put (j := 219) (by decide), (tc.p90 (by omega)).p90 (by omega), (((tm.p0 (by omega)).p0 (by omega)).pA (j := 218) (by omega)).pA (j := 219) (by omega)⟩
theorem ord1 {s u : Mm} {T n e c K Om : Nat} {lo hi : Int} (q : IsO 0 9 T) (h : Ic s u T n e c K Om) (hlo : 0 ≤ lo) (hhi : hi ≤ 9999) (kk : ∀ (w : Int) (f rw : Nat → Int), lo ≤ w → w ≤ hi → f 0 = s (T + 16) (6 * K) → f 1 = w → ClR f (u 216 K) w (-1) rw) :
    (∃ t v e2, F_R_readOrder lo hi (-1) s = some t ∧ (b0M (b1M (F_M_number lo hi u) fun v5 s5 => dJ v5 (-1) s5) fun x => rEnd x) = some v ∧ SucR s t u v T n K Om e2 c) ∨ (∃ t v, F_R_readOrder lo hi (-1) s = some t ∧ (b0M (b1M (F_M_number lo hi u) fun v5 s5 => dJ v5 (-1) s5) fun x => rEnd x) = some v ∧ ErrT s t u v T) := by
  have hq := isO9 q
  have hT := hq.1
  obtain ⟨tok, z, ⟨h15, h5, hK⟩, ⟨m29, m25, m36, hOm⟩, pg⟩ := h
  rcases num_ok (p := 1) q tok z h15 h5 hK (by omega) hlo hhi pg with ⟨t1, v1, e1, w, E1, E2, ⟨w1, w2⟩, tok1, pg1, k1, k2, k3, k4, s2⟩ | ⟨f, hf, E1, E2⟩
  · have E1 : F_R_takeNumber 1 lo hi s = some (1, t1) := E1
    have d29 : v1 200 29 = (K : Int) := by rw [s2.1 29 (by omega)]; exact m29
    have D := dJ_ok (one := w) (two := -1) d29 hK
    have eC : F_R_readOrder lo hi (-1) s = b1M (F_R_takeToken 59 t1) fun v3 s3 => some s3 := by
      unfold F_R_readOrder
      rw [E1, b1M_some, bindM_eq, if_neg ne10, if_pos rfl]
      dsimp only
      rw [if_neg ne10]
    have eM : (b0M (b1M (F_M_number lo hi u) fun v5 s5 => dJ v5 (-1) s5) fun x => rEnd x) = rEnd (st2 (st2 v1 218 K w) 219 K (-1)) := by rw [E2, b1M_some, D, b0M_some]
    have tok2 : TokR t1 (st2 (st2 v1 218 K w) 219 K (-1)) n e1 := tok1.mv (fun _ _ => rfl) rfl (fun k _ _ => by rw [st2_ne (by decide), st2_ne (by decide)]) (by rw [st2_ne (by decide), st2_ne (by decide)])
    have z0 : ∀ k, st2 (st2 v1 218 K w) 219 K (-1) 200 k = v1 200 k := fun k => by rw [st2_ne (by decide), st2_ne (by decide)]
    rcases close_ok (s := s) (t1 := t1) (u := u) (u2 := st2 (st2 v1 218 K w) 219 K (-1)) (c := c) (one := w) (two := -1) hT tok2 ⟨by rw [k4 3 (by omega)]; exact z.1, by rw [z0, s2.1 19 (by omega)]; exact z.2⟩ (pg1.w (by omega)) (by rw [z0, s2.1 25 (by omega)]; exact m25) (by rw [z0, s2.1 36 (by omega)]; exact m36) hOm (by rw [z0]; exact d29) hK k3 k4 (fun k hk => k2 k (by omega)) (fun i h1 h2 => by rw [st2_ne (by omega), st2_ne (by omega), s2.2 i (by simpa using h1)]) (fun k hk => by rw [z0, s2.1 k hk]) (fun k hk => ⟨by rw [st2_ne (by decide), st2_sk, if_neg (by omega), s2.2 218 (by decide)], by rw [st2_sk, if_neg (by omega), st2_ne (by decide), s2.2 219 (by decide)]⟩) (fun k hk => by rw [st2_ne (by decide), st2_ne (by decide), s2.2 220 (by decide)]) (by rw [st2_ne (by decide), st2_ss]) (st2_ss _ _ _ _) (kk w _ _ w1 w2 (k2 _ (by omega)) k1) with ⟨t, v, e3, F1, F2, SR⟩ | ⟨t, v, F1, F2, ER⟩
    · exact Or.inl ⟨t, v, e3, by rw [eC, F1, b1M_some], by rw [eM, F2], SR⟩
    · exact Or.inr ⟨t, v, by rw [eC, F1, b1M_some], by rw [eM, F2], ER⟩
  · right
    have E1 : F_R_takeNumber 1 lo hi s = _ := E1
    have x29 : st2 (st2 u 200 19 f) 200 20 (u 200 16) 200 29 = (K : Int) := by rw [st2_sk, if_neg (by decide), st2_sk, if_neg (by decide)]; exact m29
    have x19 : ¬ st2 (st2 (st2 (st2 u 200 19 f) 200 20 (u 200 16)) 218 K lo) 219 K (-1) 200 19 = 0 := by
      rw [st2_ne (by decide), st2_ne (by decide), st2_sk, if_neg (by decide), st2_ss]; omega
    refine ⟨_, _, ?_, ?_, ErrT_dj tok hf TC.rf TM.rf K lo (-1)⟩
    · unfold F_R_readOrder
      rw [E1, b1M_some, bindM_eq, if_pos rfl]
      dsimp only
      rw [if_pos rfl]
    · rw [E2, b1M_some, dJ_ok x29 hK, b0M_some, rEnd_bad x19]
