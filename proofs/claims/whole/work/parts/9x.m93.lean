-- a law under way: what is done with what waits
def finP (r : Int) : List Int → List Int × List Int
  | [] => ([], [])
  | x :: w => if rkI x < r then (x :: w, []) else ((finP r w).1, x :: (finP r w).2)
def finM (r : Int) : List Int → List Int × List Int
  | [] => ([], [])
  | x :: g => if frm x ∨ rkM x < r then (x :: g, []) else ((finM r g).1, x :: (finM r g).2)
def ldr (y : Int) : List Int → List Int × List Int
  | [] => ([], [])
  | x :: g => if x = y then ((ldr y g).1, x :: (ldr y g).2) else (x :: g, [])
theorem finP_s {r x : Int} {w : List Int} (h : rkI x < r) : finP r (x :: w) = (x :: w, []) := by rw [finP, if_pos h]
theorem finP_g {r x : Int} {w : List Int} (h : ¬ rkI x < r) : finP r (x :: w) = ((finP r w).1, x :: (finP r w).2) := by rw [finP, if_neg h]
theorem finP_t {r : Int} : ∀ {w : List Int}, rkT w < r → finP r w = (w, [])
  | [], _ => rfl
  | _ :: _, h => finP_s h
theorem finM_s {r x : Int} {w : List Int} (h : frm x ∨ rkM x < r) : finM r (x :: w) = (x :: w, []) := by rw [finM, if_pos h]
theorem finM_g {r x : Int} {w : List Int} (h : ¬ (frm x ∨ rkM x < r)) : finM r (x :: w) = ((finM r w).1, x :: (finM r w).2) := by rw [finM, if_neg h]
theorem ldr_s {y x : Int} {w : List Int} (h : ¬ x = y) : ldr y (x :: w) = (x :: w, []) := by rw [ldr, if_neg h]
theorem ldr_g {y : Int} {w : List Int} : ldr y (y :: w) = ((ldr y w).1, y :: (ldr y w).2) := by rw [ldr, if_pos rfl]
theorem wfS_c {ok : Int → Bool} {ty t1 : List Bool} {c : Int} {cs : List Int} (h : wst ok ty c = some t1) : wfS ok ty (c :: cs) = wfS ok t1 cs := by rw [wfS, h]
theorem wfS_app {ok : Int → Bool} : ∀ {a b : List Int} {ty t1 : List Bool}, wfS ok ty a = some t1 → wfS ok ty (a ++ b) = wfS ok t1 b
  | [], b, ty, t1, h => by
    rw [wfS] at h
    rw [List.nil_append, Option.some.inj h]
  | c :: a, b, ty, t1, h => by
    rw [List.cons_append]
    rw [wfS] at h ⊢
    match hw : wst ok ty c with
    | none => rw [hw] at h; simp at h
    | some t => rw [hw] at h; exact wfS_app h
theorem wst_a {ok : Int → Bool} {u : List Bool} {c : Int} (h : ari c) : wst ok (false :: false :: u) c = some (false :: u) := by
  rcases (show c = 20000 ∨ c = 20001 ∨ c = 20002 ∨ c = 20003 ∨ c = 20004 by omega) with rfl | rfl | rfl | rfl | rfl
  all_goals simp [wst]
theorem wst_c {ok : Int → Bool} {u : List Bool} {c : Int} (h : cmq c) : wst ok (false :: false :: u) c = some (true :: u) := by
  rcases (show c = 20005 ∨ c = 20006 ∨ c = 20007 ∨ c = 20008 ∨ c = 20009 ∨ c = 20010 by omega) with rfl | rfl | rfl | rfl | rfl | rfl
  all_goals simp [wst]
theorem wst_j {ok : Int → Bool} {u : List Bool} {c : Int} (h : c = 20011 ∨ c = 20012) : wst ok (true :: true :: u) c = some (true :: u) := by
  rcases h with rfl | rfl
  all_goals simp [wst]
theorem wst_m {ok : Int → Bool} {u : List Bool} {c : Int} (h : c = 20013 ∨ c = 20014) : wst ok (false :: false :: u) c = some (false :: u) := by
  rcases h with rfl | rfl
  all_goals simp [wst]
theorem wst_neg {ok : Int → Bool} {u : List Bool} : wst ok (false :: u) 20015 = some (false :: u) := by simp [wst]
theorem wst_not {ok : Int → Bool} {u : List Bool} : wst ok (true :: u) 20016 = some (true :: u) := by simp [wst]
theorem neg_ok {b : Int} : ∀ {g : List Int}, Gk b g false → ∃ g1 ns, ldr 20015 g = (g1, ns) ∧ Gk b g1 false ∧ (∀ x h, g1 = x :: h → ¬ x = 20015) ∧ (∀ r : Int, r ≤ 7 → finP r (stk g) = ((finP r (stk g1)).1, ns ++ (finP r (stk g1)).2)) ∧ ((brk g1 = brk g ∧ cpd g1 = cpd g ∧ tyG g1 = tyG g) ∧ opn g = ns.length + opn g1 ∧ (stk g).length = ns.length + (stk g1).length) ∧ (∀ ok ty, wfS ok (false :: ty) ns = some (false :: ty))
  | [], h => ⟨[], [], rfl, h, fun _ _ q => by simp at q, fun _ _ => rfl, ⟨⟨rfl, rfl, rfl⟩, rfl, rfl⟩, fun _ _ => rfl⟩
  | x :: g, h => by
    by_cases c : x = 20015
    · subst c
      have h2 : Gk b g false := by
        rw [Gk] at h
        rcases h with ⟨hx, h⟩ | ⟨hx, hr, h⟩ | ⟨hx, h⟩
        · exact absurd hx (by omega)
        · exact absurd hx (by omega)
        · exact h
      obtain ⟨g1, ns, e1, e2, e3, e4, ⟨⟨e5, e6, e7⟩, e8, e9⟩, e10⟩ := neg_ok h2
      refine ⟨g1, 20015 :: ns, by rw [ldr_g, e1], e2, e3, fun r hr => ?_, ⟨⟨by rw [brk_0 (by omega)]; exact e5, by rw [cpd_0 (by omega)]; exact e6, by rw [tyG_n (by omega) (by omega)]; exact e7⟩, by rw [opn_1 (by omega), List.length_cons]; omega, by rw [stk_n (by omega), List.length_cons, List.length_cons]; omega⟩, fun ok ty => by rw [wfS_c wst_neg]; exact e10 ok ty⟩
      have q : rkI 20015 = 7 := rfl
      rw [stk_n (by omega), finP_g (by omega), e4 r hr]; rfl
    · exact ⟨x :: g, [], ldr_s c, h, fun y k q => by rw [List.cons.injEq] at q; rw [← q.1]; exact c, fun _ _ => rfl, ⟨⟨rfl, rfl, rfl⟩, by simp, by simp⟩, fun _ _ => rfl⟩
def Reg (b : Int) (B : List Int) : Prop := (B = [] ∧ ¬ b = 2) ∨ (∃ h, B = 1 :: h ∧ Gk b h true) ∨ (∃ x h, B = x :: h ∧ cmq x ∧ Gk b h true) ∨ (∃ x h, B = x :: h ∧ bra x ∧ Gk b h false)
theorem reg_ok {b : Int} : ∀ {g : List Int}, Gk b g false → (∀ x h, g = x :: h → ¬ x = 20015) → ∃ B em, finM 3 g = (B, em) ∧ Gk b B false ∧ Reg b B ∧ (∀ r : Int, r ≤ 5 → finP r (stk g) = ((finP r (stk B)).1, em ++ (finP r (stk B)).2)) ∧ ((brk B = brk g ∧ cpd B = cpd g ∧ opn B = opn g ∧ frs b B = frs b g) ∧ (stk g).length = em.length + (stk B).length) ∧ (∀ ok, wfS ok (false :: tyG g) em = some (false :: tyG B))
  | [], h, _ => ⟨[], [], rfl, h, Or.inl ⟨rfl, of_decide_eq_false (show decide (b = 2) = false from (show false = decide (b = 2) from h).symm)⟩, fun _ _ => rfl, ⟨⟨rfl, rfl, rfl, rfl⟩, rfl⟩, fun _ => rfl⟩
  | x :: g, h, hn => by
    have h0 := h
    rw [Gk] at h
    rcases h with ⟨hx, h⟩ | ⟨hx, hr, h⟩ | ⟨hx, h⟩
    · refine ⟨x :: g, [], finM_s (Or.inl (by omega)), h0, ?_, fun _ _ => rfl, ⟨⟨rfl, rfl, rfl, rfl⟩, by simp⟩, fun _ => rfl⟩
      rcases hx with rfl | hx
      · exact Or.inr (Or.inl ⟨g, rfl, h⟩)
      · exact Or.inr (Or.inr (Or.inl ⟨x, g, rfl, hx, h⟩))
    · have r := rkI_a hx
      obtain ⟨B, em, e1, e2, e3, e4, ⟨⟨e5, e6, e7, e8⟩, e9⟩, e10⟩ := reg_ok h (fun y k q => by
        rw [q] at hr
        intro z
        rw [z] at hr
        have : rkT (20015 :: k) = 7 := rfl
        omega)
      refine ⟨B, x :: em, by rw [finM_g (by omega), e1], e2, e3, fun r hr => ?_, ⟨⟨by rw [brk_0 (by omega)]; exact e5, by rw [cpd_0 (by omega)]; exact e6, by rw [opn_0 (by omega)]; exact e7, by rw [frs_n (by omega)]; exact e8⟩, by rw [stk_n (by omega), List.length_cons, List.length_cons]; omega⟩, fun ok => ?_⟩
      · rw [stk_n (by omega), finP_g (by omega), e4 r hr]; rfl
      · rw [tyG_f (by omega), wfS_c (wst_a hx)]; exact e10 ok
    · have nx := hn x g rfl
      have hb : bra x := by omega
      exact ⟨x :: g, [], finM_s (Or.inl (by omega)), h0, Or.inr (Or.inr (Or.inr ⟨x, g, rfl, hb, h⟩)), fun _ _ => rfl, ⟨⟨rfl, rfl, rfl, rfl⟩, by simp⟩, fun _ => rfl⟩
theorem stk_t {b : Int} {h : List Int} (hg : Gk b h true) : stk h = h := (Gk_t hg).1.1
theorem Reg.s5 {b : Int} {B : List Int} (h : Reg b B) : finP 5 (stk B) = (stk B, []) ∧ rkT B < 5 := by
  rcases h with ⟨rfl, _⟩ | ⟨h, rfl, k⟩ | ⟨x, h, rfl, hx, k⟩ | ⟨x, h, rfl, hx, k⟩
  · exact ⟨rfl, by decide⟩
  · have := (Gk_t k).2.2.2.1
    rw [stk_1, stk_t k]
    exact ⟨finP_t (by omega), (by decide : rkI 1 < 5)⟩
  · have := rkI_c hx
    rw [stk_n (by omega)]
    exact ⟨finP_s (by omega), show rkI x < 5 by omega⟩
  · have := rkI_b hx
    rw [stk_n (by omega)]
    exact ⟨finP_s (by omega), show rkI x < 5 by omega⟩
theorem six_stop {b : Int} : ∀ {g : List Int}, Gk b g false → rkT g < 6 → finP 6 (stk g) = (stk g, []) ∧ finM 4 g = (g, [])
  | [], _, _ => ⟨rfl, rfl⟩
  | x :: g, h, hr => by
    rw [Gk] at h
    have hr : rkI x < 6 := hr
    rcases h with ⟨hx, h⟩ | ⟨hx, hr2, h⟩ | ⟨hx, h⟩
    · refine ⟨?_, finM_s (Or.inl (by omega))⟩
      by_cases c : x = 1
      · have := (Gk_t h).2.2.2.1
        rw [c, stk_1, stk_t h]; exact finP_t (by omega)
      · rw [stk_n c]; exact finP_s hr
    · have r := rkI_a hx
      rw [stk_n (by omega)]
      exact ⟨finP_s hr, finM_s (Or.inr (by omega))⟩
    · rw [stk_n (by omega)]
      exact ⟨finP_s hr, finM_s (Or.inl (by omega))⟩
/-- a sign of numbers arrives -/
theorem arr_ok {b c : Int} {g : List Int} (h : Gk b g false) (hn : ∀ x h, g = x :: h → ¬ x = 20015) (hc : ari c) : ∃ D em, finP (rkI c) (stk g) = (stk D, em) ∧ finM (rkM c) g = (D, em) ∧ Gk b D false ∧ rkT D < rkI c ∧ ((brk D = brk g ∧ cpd D = cpd g ∧ opn D = opn g ∧ frs b D = frs b g) ∧ (stk g).length = em.length + (stk D).length) ∧ (∀ ok, wfS ok (false :: tyG g) em = some (false :: tyG D)) := by
  rcases rkI_a hc with ⟨c1, c2, c3⟩ | ⟨c1, c2, c3⟩
  · rw [c2, c3]
    by_cases h6 : rkT g < 6
    · obtain ⟨a1, a2⟩ := six_stop h h6
      exact ⟨g, [], a1, a2, h, h6, ⟨⟨rfl, rfl, rfl, rfl⟩, by simp⟩, fun _ => rfl⟩
    · match g, h, hn, h6 with
      | [], _, _, h6 => exact absurd (show rkT [] < 6 by decide) h6
      | x :: g, h, hn, h6 =>
        have h6 : ¬ rkI x < 6 := h6
        have nx := hn x g rfl
        rw [Gk] at h
        rcases h with ⟨hx, h⟩ | ⟨hx, hr2, h⟩ | ⟨hx, h⟩
        · rcases hx with rfl | hx
          · exact absurd (show rkI 1 < 6 by decide) h6
          · have := rkI_c hx; omega
        · have r := rkI_a hx
          obtain ⟨a1, a2⟩ := six_stop h (by omega)
          refine ⟨g, [x], by rw [stk_n (by omega), finP_g h6, a1], by rw [finM_g (by omega), a2], h, by omega, ⟨⟨by rw [brk_0 (by omega)], by rw [cpd_0 (by omega)], by rw [opn_0 (by omega)], by rw [frs_n (by omega)]⟩, by rw [stk_n (by omega), List.length_cons, List.length_singleton]; omega⟩, fun ok => ?_⟩
          rw [tyG_f (by omega), wfS_c (wst_a hx)]; rfl
        · have := rkI_b (show bra x by omega); omega
  · rw [c2, c3]
    obtain ⟨B, em, e1, e2, e3, e4, e5, e6⟩ := reg_ok h hn
    obtain ⟨s1, s2⟩ := e3.s5
    exact ⟨B, em, by rw [e4 5 (by omega), s1, List.append_nil], e1, e2, s2, e5, e6⟩
theorem not_ok {b : Int} : ∀ {h : List Int}, Gk b h true → ∃ h2 ns, ldr 20016 h = (h2, ns) ∧ Gk b h2 true ∧ rkT h2 < 3 ∧ (∀ r : Int, r ≤ 3 → finP r h = ((finP r h2).1, ns ++ (finP r h2).2)) ∧ (tyG h2 = tyG h ∧ opn h = ns.length + opn h2 ∧ h.length = ns.length + h2.length) ∧ (∀ ok ty, wfS ok (true :: ty) ns = some (true :: ty))
  | [], h => ⟨[], [], rfl, h, by decide, fun _ _ => rfl, ⟨rfl, rfl, rfl⟩, fun _ _ => rfl⟩
  | x :: g, h => by
    have h0 := h
    rw [Gk] at h
    rcases h with ⟨rfl, h⟩ | ⟨hx, hr, h⟩
    · obtain ⟨h2, ns, e1, e2, e3, e4, ⟨e5, e6, e7⟩, e8⟩ := not_ok h
      refine ⟨h2, 20016 :: ns, by rw [ldr_g, e1], e2, e3, fun r hr => ?_, ⟨by rw [tyG_n (by omega) (by omega)]; exact e5, by rw [opn_1 (by omega), List.length_cons]; omega, by rw [List.length_cons, List.length_cons]; omega⟩, fun ok ty => by rw [wfS_c wst_not]; exact e8 ok ty⟩
      have q : rkI 20016 = 3 := rfl
      rw [finP_g (by omega), e4 r hr]; rfl
    · refine ⟨x :: g, [], ldr_s (by omega), h0, ?_, fun _ _ => rfl, ⟨rfl, by simp, by simp⟩, fun _ _ => rfl⟩
      rcases hx with rfl | rfl
      · exact (by decide : rkI 20011 < 3)
      · exact (by decide : rkI 20012 < 3)
theorem join_fr {b : Int} : ∀ {h : List Int}, Gk b h true → rkT h < 3 → frs b h = [b]
  | [], _, _ => rfl
  | x :: g, h, hr => by
    rw [Gk] at h
    have hr : rkI x < 3 := hr
    rcases h with ⟨rfl, h⟩ | ⟨hx, hr2, h⟩
    · exact absurd hr (by decide)
    · rw [frs_n (by omega)]; exact join_fr h (by omega)
/-- `and`, `or`, the end arrive where an ASK is over -/
theorem join_ok {b r : Int} (hr : r = 1 ∨ r = 2) : ∀ {h : List Int}, Gk b h true → rkT h < 3 → ∃ D em, finP r h = (D, em) ∧ finM r h = (D, em) ∧ Gk b D true ∧ rkT D < r ∧ (opn D = opn h ∧ frs b D = [b] ∧ h.length = em.length + D.length) ∧ (∀ ok, wfS ok (true :: tyG h) em = some (true :: tyG D))
  | [], h, _ => ⟨[], [], rfl, rfl, h, (by rcases hr with rfl | rfl <;> decide), ⟨rfl, rfl, rfl⟩, fun _ => rfl⟩
  | x :: g, h, h3 => by
    have h0 := h
    have f0 := join_fr h0 h3
    rw [Gk] at h
    have h3 : rkI x < 3 := h3
    rcases h with ⟨rfl, h⟩ | ⟨hx, hr2, h⟩
    · exact absurd h3 (by decide)
    · have em : rkM x = rkI x := by rcases hx with rfl | rfl <;> rfl
      by_cases c : rkI x < r
      · exact ⟨x :: g, [], finP_s c, finM_s (Or.inr (by omega)), h0, c, ⟨rfl, f0, by simp⟩, fun _ => rfl⟩
      · obtain ⟨D, ems, e1, e2, e3, e4, ⟨e5, e6, e7⟩, e8⟩ := join_ok hr h (by omega)
        refine ⟨D, x :: ems, by rw [finP_g c, e1], by rw [finM_g (by omega), e2], e3, e4, ⟨by rw [opn_0 (by omega)]; exact e5, e6, by rw [List.length_cons, List.length_cons]; omega⟩, fun ok => ?_⟩
        rw [tyG_t hx, wfS_c (wst_j hx)]; exact e8 ok
