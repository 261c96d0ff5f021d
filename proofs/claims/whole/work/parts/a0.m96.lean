-- a law under way: frames that end
theorem LwM.drop {law O : Nat} {b x : Int} {g cs : List Int} {u : Mm} (h : LwM u law b (x :: g) cs O) (hx : 20015 ≤ x) : u 200 22 - 1 = ((frs b g).length : Int) ∧ u 200 21 - 1 = (opn g : Int) ∧ LwM (st2 (st2 u 200 22 ((frs b g).length : Int)) 200 21 (opn g : Int)) law b g cs O ∧ FV u (st2 (st2 u 200 22 ((frs b g).length : Int)) 200 21 (opn g : Int)) O := by
  obtain ⟨h1, ⟨h2, h3, h4⟩, ⟨h5, h6, h7⟩, h8, h9, h10⟩ := h
  rw [frs_f (by omega)] at h2 h3
  rw [List.length_cons] at h2
  rw [wos_f (by omega)] at h5 h6
  rw [wfr_f (by omega)] at h7
  rw [opn_1 hx] at h8
  refine ⟨by omega, by omega, ⟨?_, ⟨?_, ?_, ?_⟩, ⟨?_, ?_, ?_⟩, ?_, ?_, ?_⟩, (FV.rf.p0 (by omega)).p0 (by omega)⟩
  · rw [st2_sk, if_neg (by decide), st2_sk, if_neg (by decide)]; exact h1
  · rw [st2_sk, if_neg (by decide), st2_ss]
  · rw [st2_ne (by decide), st2_ne (by decide)]; exact h3.2
  · rw [st2_ne (by decide), st2_ne (by decide)]; exact h4.2
  · rw [st2_sk, if_neg (by decide), st2_sk, if_neg (by decide)]; exact h5
  · rw [st2_ne (by decide), st2_ne (by decide)]; exact h6
  · rw [st2_ne (by decide), st2_ne (by decide)]; exact h7
  · rw [st2_ss]
  · rw [st2_sk, if_neg (by decide), st2_sk, if_neg (by decide)]; exact h9
  · rw [st2_ne (by decide), st2_ne (by decide), st2_ne (by decide), st2_ne (by decide)]; exact h10
theorem Reg.top {b : Int} {B : List Int} (h : Reg b B) (hb : b = 1 ∨ b = 2) : ∃ f fs, frs b B = f :: fs ∧ ¬ f = 7 := by
  rcases h with ⟨rfl, _⟩ | ⟨h, rfl, k⟩ | ⟨x, h, rfl, hx, k⟩ | ⟨x, h, rfl, hx, k⟩
  · exact ⟨b, [], rfl, by omega⟩
  · exact ⟨4, frs b h, frs_f (by omega), by decide⟩
  · refine ⟨5, frs b h, ?_, by decide⟩
    rw [frs_f (by omega)]
    unfold frK
    rw [if_neg (by omega), if_pos (by omega)]
  · refine ⟨frK x, frs b h, frs_f (by omega), ?_⟩
    rcases (show x = 20017 ∨ x = 20018 ∨ x = 20019 ∨ x = 20020 ∨ x = 20021 by omega) with rfl | rfl | rfl | rfl | rfl
    all_goals decide
theorem opn_len : ∀ l : List Int, opn l ≤ l.length := fun l => by
  induction l with
  | nil => exact Nat.le_refl _
  | cons a l ih =>
    by_cases c : 20015 ≤ a
    · rw [opn_1 c, List.length_cons]; omega
    · rw [opn_0 c, List.length_cons]; omega
theorem oneL_ok {law O : Nat} {b : Int} (hb : b = 1 ∨ b = 2) : ∀ (g cs : List Int) (N : Nat) (u : Mm), g.length < N → LwM u law b g cs O → Gk b g false → opn g ≤ 8 → O + cs.length + opn g ≤ 400 → ∃ v, L_M_oneIsOver_0 N u = some v ∧ LwM v law b (ldr 20015 g).1 (cs ++ (ldr 20015 g).2) O ∧ FV u v O := by
  intro g
  induction g with
  | nil =>
    intro cs N u hN h hg _ _
    match N, hN with
    | N + 1, _ =>
      have f0 : frs b [] = b :: [] := rfl
      rw [L_M_oneIsOver_0, top_ok h f0 (by rw [f0]; simp), b1_some, if_neg (by omega)]
      refine ⟨u, rfl, ?_, FV.rf⟩
      show LwM u law b [] (cs ++ []) O
      rw [List.append_nil]; exact h
  | cons x g ih =>
    intro cs N u hN h hg ho hn
    match N, hN with
    | N + 1, hN =>
      have hl := (Gk_f hg).1.1
      by_cases c : x = 20015
      · subst c
        have hg2 : Gk b g false := by
          rw [Gk] at hg
          rcases hg with ⟨hx, _⟩ | ⟨hx, _, _⟩ | ⟨hx, h⟩
          · exact absurd hx (by omega)
          · exact absurd hx (by omega)
          · exact h
        have f0 : frs b (20015 :: g) = 7 :: frs b g := frs_f (by omega)
        rw [opn_1 (by omega)] at ho hn hl
        obtain ⟨d1, d2, d3, d4⟩ := h.drop (by omega)
        have hf : (frs b g).length ≤ 12 := by rw [f0, List.length_cons] at hl; omega
        have a21 : st2 u 200 22 ((frs b g).length : Int) 200 21 - 1 = (opn g : Int) := by rw [st2_sk, if_neg (by decide)]; exact d2
        obtain ⟨E1, L1, F1⟩ := d3.emit (c := 20015) (v := 0) (by omega) (fun q => absurd q (by decide))
        obtain ⟨v, E, k1, k2⟩ := ih (cs ++ [20015]) N _ (by rw [List.length_cons] at hN; omega) L1 hg2 (by omega) (by rw [List.length_append, List.length_singleton]; omega)
        have E1 : F_M_emits 402 0 (st2 (st2 u 200 22 ((frs b g).length : Int)) 200 21 (opn g : Int)) = _ := E1
        rw [L_M_oneIsOver_0, top_ok h f0 (by omega), b1_some, if_pos rfl, d1, if_pos (r32_nat (by omega)), bindM_eq, a21, if_pos (r32_nat (by omega)), bindM_eq, E1, b0M_some]
        refine ⟨v, E, ?_, (d4.tr F1).tr k2⟩
        rw [ldr_g]
        rw [List.append_assoc] at k1
        exact k1
      · obtain ⟨B, em, e1, e2, e3, e4, ⟨⟨e5, e6, e7, e8⟩, e9⟩, e10⟩ := reg_ok hg (fun y k q => by rw [List.cons.injEq] at q; rw [← q.1]; exact c)
        obtain ⟨f, fs, f0, f1⟩ := e3.top hb
        rw [e8] at f0
        rw [L_M_oneIsOver_0, top_ok h f0 (by omega), b1_some, if_neg f1]
        refine ⟨u, rfl, ?_, FV.rf⟩
        rw [ldr_s c]
        show LwM u law b (x :: g) (cs ++ []) O
        rw [List.append_nil]; exact h
theorem oneOver_ok {law O : Nat} {b : Int} (hb : b = 1 ∨ b = 2) {g cs : List Int} {u : Mm} (hN : g.length < LF) (h : LwM u law b g cs O) (hg : Gk b g false) (ho : opn g ≤ 8) (hn : O + cs.length + opn g ≤ 400) : ∃ v, F_M_oneIsOver u = some v ∧ LwM v law b (ldr 20015 g).1 (cs ++ (ldr 20015 g).2) O ∧ FV u v O ∧ v 200 28 = 2 := by
  obtain ⟨v, E, k1, k2⟩ := oneL_ok hb g cs LF u hN h hg ho hn
  obtain ⟨h1, ⟨h2, h3, h4⟩, ⟨h5, h6, h7⟩, h8, h9, h10⟩ := k1
  refine ⟨st2 v 200 28 2, ?_, ⟨?_, ⟨?_, ?_, ?_⟩, ⟨?_, ?_, ?_⟩, ?_, ?_, ?_⟩, k2.p0 (by omega), st2_ss _ _ _ _⟩
  · unfold F_M_oneIsOver
    rw [E, b0M_some, bindM_eq]
  · rw [st2_sk, if_neg (by decide)]; exact h1
  · rw [st2_sk, if_neg (by decide)]; exact h2
  · rw [st2_ne (by decide)]; exact h3
  · rw [st2_ne (by decide)]; exact h4
  · rw [st2_sk, if_neg (by decide)]; exact h5
  · rw [st2_ne (by decide)]; exact h6
  · rw [st2_ne (by decide)]; exact h7
  · rw [st2_sk, if_neg (by decide)]; exact h8
  · rw [st2_sk, if_neg (by decide)]; exact h9
  · rw [st2_ne (by decide), st2_ne (by decide)]; exact h10
/-- the state alone is another one -/
theorem LwM.s28 {law O : Nat} {b x : Int} {g cs : List Int} {u : Mm} (h : LwM u law b g cs O) : LwM (st2 u 200 28 x) law b g cs O := by
  obtain ⟨h1, ⟨h2, h3, h4⟩, ⟨h5, h6, h7⟩, h8, h9, h10⟩ := h
  refine ⟨?_, ⟨?_, ?_, ?_⟩, ⟨?_, ?_, ?_⟩, ?_, ?_, ?_⟩
  · rw [st2_sk, if_neg (by decide)]; exact h1
  · rw [st2_sk, if_neg (by decide)]; exact h2
  · rw [st2_ne (by decide)]; exact h3
  · rw [st2_ne (by decide)]; exact h4
  · rw [st2_sk, if_neg (by decide)]; exact h5
  · rw [st2_ne (by decide)]; exact h6
  · rw [st2_ne (by decide)]; exact h7
  · rw [st2_sk, if_neg (by decide)]; exact h8
  · rw [st2_sk, if_neg (by decide)]; exact h9
  · rw [st2_ne (by decide), st2_ne (by decide)]; exact h10
theorem askL_ok {law O : Nat} {b : Int} : ∀ (g cs : List Int) (N : Nat) (u : Mm), g.length < N → LwM u law b g cs O → Gk b g true → opn g ≤ 8 → O + cs.length + opn g ≤ 400 → ∃ v, L_M_askIsOver_0 N u = some v ∧ LwM v law b (ldr 20016 g).1 (cs ++ (ldr 20016 g).2) O ∧ FV u v O := by
  intro g
  induction g with
  | nil =>
    intro cs N u hN h hg _ _
    match N, hN with
    | N + 1, _ =>
      have f0 : frs b [] = b :: [] := rfl
      have b2 := Gk_t2 hg
      rw [L_M_askIsOver_0, top_ok h f0 (by rw [f0]; simp), b1_some, if_neg (by omega)]
      refine ⟨u, rfl, ?_, FV.rf⟩
      show LwM u law b [] (cs ++ []) O
      rw [List.append_nil]; exact h
  | cons x g ih =>
    intro cs N u hN h hg ho hn
    match N, hN with
    | N + 1, hN =>
      have hl := (Gk_t hg).2.1.1
      have b2 := Gk_t2 hg
      have hg0 := hg
      rw [Gk] at hg
      rcases hg with ⟨rfl, hg⟩ | ⟨hx, hr, hg⟩
      · have f0 : frs b (20016 :: g) = 3 :: frs b g := frs_f (by omega)
        rw [opn_1 (by omega)] at ho hn hl
        obtain ⟨d1, d2, d3, d4⟩ := h.drop (by omega)
        have hf : (frs b g).length ≤ 12 := by rw [f0, List.length_cons] at hl; omega
        have a21 : st2 u 200 22 ((frs b g).length : Int) 200 21 - 1 = (opn g : Int) := by rw [st2_sk, if_neg (by decide)]; exact d2
        obtain ⟨E1, L1, F1⟩ := d3.emit (c := 20016) (v := 0) (by omega) (fun q => absurd q (by decide))
        obtain ⟨v, E, k1, k2⟩ := ih (cs ++ [20016]) N _ (by rw [List.length_cons] at hN; omega) L1 hg (by omega) (by rw [List.length_append, List.length_singleton]; omega)
        have E1 : F_M_emits 405 0 (st2 (st2 u 200 22 ((frs b g).length : Int)) 200 21 (opn g : Int)) = _ := E1
        rw [L_M_askIsOver_0, top_ok h f0 (by omega), b1_some, if_pos rfl, d1, if_pos (r32_nat (by omega)), bindM_eq, a21, if_pos (r32_nat (by omega)), bindM_eq, E1, b0M_some]
        refine ⟨v, E, ?_, (d4.tr F1).tr k2⟩
        rw [ldr_g]
        rw [List.append_assoc] at k1
        exact k1
      · have h3 : rkT (x :: g) < 3 := by
          rcases hx with rfl | rfl
          · exact (by decide : (2 : Int) < 3)
          · exact (by decide : (1 : Int) < 3)
        have f0 : frs b (x :: g) = b :: [] := join_fr hg0 h3
        rw [L_M_askIsOver_0, top_ok h f0 (by rw [f0]; simp), b1_some, if_neg (by omega)]
        refine ⟨u, rfl, ?_, FV.rf⟩
        rw [ldr_s (by omega)]
        show LwM u law b (x :: g) (cs ++ []) O
        rw [List.append_nil]; exact h
theorem askOver_ok {law O : Nat} {b : Int} {g cs : List Int} {u : Mm} (hN : g.length < LF) (h : LwM u law b g cs O) (hg : Gk b g true) (ho : opn g ≤ 8) (hn : O + cs.length + opn g ≤ 400) : ∃ v, F_M_askIsOver u = some v ∧ LwM v law b (ldr 20016 g).1 (cs ++ (ldr 20016 g).2) O ∧ FV u v O ∧ v 200 28 = 3 := by
  obtain ⟨v, E, k1, k2⟩ := askL_ok g cs LF u hN h hg ho hn
  refine ⟨st2 v 200 28 3, ?_, k1.s28, k2.p0 (by omega), st2_ss _ _ _ _⟩
  unfold F_M_askIsOver
  rw [E, b0M_some, bindM_eq]
