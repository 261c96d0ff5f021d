-- a law under way: tokens, faults, what opens
def TokR (s u : Mm) (n e : Nat) : Prop := TpR s u n ∧ (s 90 5 = (e : Int) ∧ u 200 15 = (e : Int) ∧ e ≤ n) ∧ ((∃ q : Nat, s 90 6 = (q : Int) ∧ u 200 16 = (q : Int)) ∧ s 90 4 = u 200 20) ∧ KindR (s 90 7) (s 90 8) (u 200 17) (u 200 18)
theorem TokR.mv {s t u v : Mm} {n e : Nat} (h : TokR s u n e) (hs : ∀ k, k = 1 ∨ k = 4 ∨ k = 5 ∨ k = 6 ∨ k = 7 ∨ k = 8 → t 90 k = s 90 k) (h91 : t 91 = s 91) (hu : ∀ k, 14 ≤ k → k ≤ 20 → v 200 k = u 200 k) (h203 : v 203 = u 203) : TokR t v n e := by
  obtain ⟨⟨a1, a2, a3, a4⟩, ⟨b1, b2, b3⟩, ⟨⟨q, c1, c2⟩, c4⟩, d⟩ := h
  refine ⟨⟨a1, by rw [hs 1 (by omega)]; exact a2, by rw [hu 14 (by omega) (by omega)]; exact a3, by rw [h91, h203]; exact a4⟩, ⟨by rw [hs 5 (by omega)]; exact b1, by rw [hu 15 (by omega) (by omega)]; exact b2, b3⟩, ⟨⟨q, by rw [hs 6 (by omega)]; exact c1, by rw [hu 16 (by omega) (by omega)]; exact c2⟩, by rw [hs 4 (by omega), hu 20 (by omega) (by omega)]; exact c4⟩, ?_⟩
  rw [hs 7 (by omega), hs 8 (by omega), hu 17 (by omega) (by omega), hu 18 (by omega) (by omega)]; exact d
theorem TokR.f {s t u v : Mm} {n e T S O : Nat} (h : TokR s u n e) (hT : 94 ≤ T) (f : FW s t T S) (g : FV u v O) : TokR t v n e :=
  h.mv (fun k hk => f.2.1 k (by omega) (by omega) (by omega)) (f.1 91 (by decide) (by decide) (by omega) (by omega)) (fun k h1 h2 => g.2.1 k (by omega) (by omega) (by omega) (by omega) (by omega)) (g.1 203 (by decide) (by decide) (by decide) (by decide) (by decide) (by decide) (by decide))
theorem TokR.step {s u : Mm} {n e : Nat} (h : TokR s u n e) : ∃ (e2 : Nat) (t v : Mm), F_R_step s = some t ∧ F_M_next u = some v ∧ TokR t v n e2 ∧ StC s t ∧ StM u v ∧ e ≤ e2 ∧ (e < e2 ∨ t 90 7 = 0) := by
  obtain ⟨h1, ⟨h2, h3, h4⟩, ⟨-, hc⟩, -⟩ := h
  obtain ⟨e2, q, t, v, k1, k2, k3, k4, k5, k6, k7, k8, k9, l1, l2, l3, l4, l5⟩ := step_ok h1 h4 h2 h3
  exact ⟨e2, t, v, k1, k2, ⟨k3, ⟨k6, k7, k8⟩, ⟨⟨q, l1, l2⟩, by rw [k4.1 4 (by omega), k5.1 20 (by omega)]; exact hc⟩, l4⟩, k4, k5, k9, l5⟩
/-- what a step of a law may change -/
def GC (s t : Mm) (T S : Nat) : Prop := (∀ i, i ≠ 90 → i ≠ 92 → i ≠ T → i ≠ T + 4 → t i = s i) ∧ (∀ k, (k < 3 ∨ 13 < k) → t 90 k = s 90 k) ∧ (∀ k, k ≠ 4 → t T k = s T k) ∧ ∀ k, k < S → t (T + 4) k = s (T + 4) k
def GM (u v : Mm) (O : Nat) : Prop := (∀ i, i ≠ 200 → i ≠ 212 → i ≠ 213 → i ≠ 214 → i ≠ 215 → i ≠ 221 → i ≠ 222 → v i = u i) ∧ (∀ k, (k < 15 ∨ (29 < k ∧ k ≠ 36)) → v 200 k = u 200 k) ∧ ∀ k, k < O → v 221 k = u 221 k ∧ v 222 k = u 222 k
theorem GC.rf {s : Mm} {T S : Nat} : GC s s T S := ⟨fun _ _ _ _ _ => rfl, fun _ _ => rfl, fun _ _ => rfl, fun _ _ => rfl⟩
theorem GM.rf {u : Mm} {O : Nat} : GM u u O := ⟨fun _ _ _ _ _ _ _ _ => rfl, fun _ _ => rfl, fun _ _ => ⟨rfl, rfl⟩⟩
theorem GC.tr {a b c : Mm} {T S : Nat} (h : GC a b T S) (k : GC b c T S) : GC a c T S := ⟨fun i a b c d => (k.1 i a b c d).trans (h.1 i a b c d), fun i a => (k.2.1 i a).trans (h.2.1 i a), fun i a => (k.2.2.1 i a).trans (h.2.2.1 i a), fun i a => (k.2.2.2 i a).trans (h.2.2.2 i a)⟩
theorem GM.tr {a b c : Mm} {O : Nat} (h : GM a b O) (k : GM b c O) : GM a c O := ⟨fun i a b c d e f g => (k.1 i a b c d e f g).trans (h.1 i a b c d e f g), fun i a => (k.2.1 i a).trans (h.2.1 i a), fun i a => ⟨(k.2.2 i a).1.trans (h.2.2 i a).1, (k.2.2 i a).2.trans (h.2.2 i a).2⟩⟩
theorem FW.g {s t : Mm} {T S : Nat} (h : FW s t T S) : GC s t T S := ⟨h.1, fun k hk => h.2.1 k (by omega) (by omega) (by omega), h.2.2⟩
theorem FV.g {u v : Mm} {O : Nat} (h : FV u v O) : GM u v O := ⟨h.1, fun k hk => h.2.1 k (by omega) (by omega) (by omega) (by omega) (by omega), h.2.2⟩
theorem StC.g {s t : Mm} {T S : Nat} (h : StC s t) (hT : 94 ≤ T) : GC s t T S := ⟨fun i a _ _ _ => h.2 i (by simpa using a), fun k hk => h.1 k (by omega), fun k _ => by rw [h.2 T (by simp; omega)], fun k _ => by rw [h.2 (T + 4) (by simp; omega)]⟩
theorem StM.g {u v : Mm} {O : Nat} (h : StM u v) : GM u v O := ⟨fun i a _ _ _ _ _ _ => h.2 i (by simpa using a), fun k hk => h.1 k (by omega), fun k _ => by rw [h.2 221 (by decide), h.2 222 (by decide)]; exact ⟨rfl, rfl⟩⟩
theorem GC.p90 {s t : Mm} {T S k : Nat} {x : Int} (h : GC s t T S) (hT : 94 ≤ T) (hk : 3 ≤ k ∧ k ≤ 13) : GC s (st2 t 90 k x) T S :=
  ⟨fun i a b c d => by rw [st2_ne a]; exact h.1 i a b c d, fun i a => by rw [st2_sk, if_neg (by omega)]; exact h.2.1 i a, fun i a => by rw [st2_ne (by omega)]; exact h.2.2.1 i a, fun i a => by rw [st2_ne (by omega)]; exact h.2.2.2 i a⟩
theorem GM.p0 {u v : Mm} {O k : Nat} {x : Int} (h : GM u v O) (hk : (15 ≤ k ∧ k ≤ 29) ∨ k = 36) : GM u (st2 v 200 k x) O :=
  ⟨fun i a b c d e f g => by rw [st2_ne a]; exact h.1 i a b c d e f g, fun i a => by rw [st2_sk, if_neg (by omega)]; exact h.2.1 i a, fun i a => by rw [st2_ne (by decide), st2_ne (by decide)]; exact h.2.2 i a⟩
theorem LwC.st {s t : Mm} {T S : Nat} {w cs : List Int} (h : LwC s T w cs S) (hT : 94 ≤ T) (f : StC s t) : LwC t T w cs S := by
  obtain ⟨h1, ⟨h2, h3⟩, ⟨h4, h5⟩, ⟨h6, h7⟩, h8, h9⟩ := h
  refine ⟨by rw [f.1 15 (by omega)]; exact h1, ⟨by rw [f.1 10 (by omega)]; exact h2, by rw [f.2 92 (by decide)]; exact h3⟩, ⟨by rw [f.1 11 (by omega)]; exact h4, by rw [f.1 12 (by omega)]; exact h5⟩, ⟨by rw [f.2 T (by simp; omega)]; exact h6, by rw [f.2 (T + 4) (by simp; omega)]; exact h7⟩, h8, h9⟩
theorem LwM.st {u v : Mm} {law O : Nat} {b : Int} {g cs : List Int} (h : LwM u law b g cs O) (f : StM u v) : LwM v law b g cs O := by
  obtain ⟨h1, ⟨h2, h3, h4⟩, ⟨h5, h6, h7⟩, h8, h9, h10⟩ := h
  refine ⟨by rw [f.1 30 (by omega)]; exact h1, ⟨by rw [f.1 22 (by omega)]; exact h2, by rw [f.2 212 (by decide)]; exact h3, by rw [f.2 213 (by decide)]; exact h4⟩, ⟨by rw [f.1 25 (by omega)]; exact h5, by rw [f.2 214 (by decide)]; exact h6, by rw [f.2 215 (by decide)]; exact h7⟩, by rw [f.1 21 (by omega)]; exact h8, by rw [f.1 36 (by omega)]; exact h9, by rw [f.2 221 (by decide), f.2 222 (by decide)]; exact h10⟩
/-- a FAULT on both sides -/
def ErrR (s u : Mm) : Prop := 0 < u 200 19 ∧ s 90 3 = u 200 19 ∧ s 90 4 = u 200 20
theorem err_C {s : Mm} {f : Int} (h : s 90 3 = 0) : F_R_fail f s = some (2, st2 (st2 s 90 3 f) 90 4 (s 90 6)) := by
  unfold F_R_fail
  rw [if_pos h, bindM_eq, bindM_eq, st2_sk, if_neg (by decide)]
theorem err_M {u : Mm} {f : Int} (h : u 200 19 = 0) : F_M_errs f u = some (st2 (st2 u 200 19 f) 200 20 (u 200 16)) := by
  unfold F_M_errs
  rw [if_pos h, bindM_eq, bindM_eq, st2_sk, if_neg (by decide)]
theorem err_R {s u : Mm} {n e : Nat} {f : Int} (h : TokR s u n e) (hf : 0 < f) : ErrR (st2 (st2 s 90 3 f) 90 4 (s 90 6)) (st2 (st2 u 200 19 f) 200 20 (u 200 16)) := by
  obtain ⟨-, -, ⟨⟨q, c1, c2⟩, -⟩, -⟩ := h
  refine ⟨?_, ?_, ?_⟩
  · rw [st2_sk, if_neg (by decide), st2_ss]; exact hf
  · rw [st2_sk, if_neg (by decide), st2_ss, st2_sk, if_neg (by decide), st2_ss]
  · rw [st2_ss, st2_ss, c1, c2]
/-- steps of the reference's reader -/
def MT (u v : Mm) (m : Nat) : Prop := ∀ N, L_M_text_74 (N + m) u = L_M_text_74 N v
theorem MT.rf {u : Mm} : MT u u 0 := fun _ => rfl
theorem MT.tr {u v w : Mm} {m k : Nat} (h : MT u v m) (h2 : MT v w k) : MT u w (m + k) := fun N => by
  rw [show N + (m + k) = (N + k) + m by omega, h (N + k), h2 N]
theorem MT.t0 {u v : Mm} (h19 : u 200 19 = 0) (h28 : u 200 28 = 0) (h : F_M_asks u = some v) : MT u v 1 := fun N => by
  rw [L_M_text_74, if_pos h19, bindM_eq, h28, if_neg (show ¬ (0 : Int) = 4 by decide), if_pos (show (0 : Int) = 0 from rfl), h, b0M_some]
theorem MT.t1 {u v : Mm} (h19 : u 200 19 = 0) (h28 : u 200 28 = 1) (h : F_M_begins u = some v) : MT u v 1 := fun N => by
  rw [L_M_text_74, if_pos h19, bindM_eq, h28, if_neg (show ¬ (1 : Int) = 4 by decide), if_neg (show ¬ (1 : Int) = 0 by decide), if_pos (show (1 : Int) = 1 from rfl), h, b0M_some]
theorem MT.t2 {u v : Mm} (h19 : u 200 19 = 0) (h28 : u 200 28 = 2) (h : F_M_goesOn u = some v) : MT u v 1 := fun N => by
  rw [L_M_text_74, if_pos h19, bindM_eq, h28, if_neg (show ¬ (2 : Int) = 4 by decide), if_neg (show ¬ (2 : Int) = 0 by decide), if_neg (show ¬ (2 : Int) = 1 by decide), if_pos (show (2 : Int) = 2 from rfl), h, b0M_some]
theorem MT.t3 {u v : Mm} (h19 : u 200 19 = 0) (h28 : u 200 28 = 3) (h : F_M_asksOn u = some v) : MT u v 1 := fun N => by
  rw [L_M_text_74, if_pos h19, bindM_eq, h28, if_neg (show ¬ (3 : Int) = 4 by decide), if_neg (show ¬ (3 : Int) = 0 by decide), if_neg (show ¬ (3 : Int) = 1 by decide), if_neg (show ¬ (3 : Int) = 2 by decide), if_pos (show (3 : Int) = 3 from rfl), h, b0M_some]
theorem MT.t4 {u v : Mm} (h19 : u 200 19 = 0) (h28 : u 200 28 = 4) (h17 : ¬ u 200 17 = 0) (h : F_M_clause u = some v) : MT u v 1 := fun N => by
  rw [L_M_text_74, if_pos h19, bindM_eq, h28, if_pos (show (4 : Int) = 4 from rfl), if_neg h17, if_neg (show ¬ (4 : Int) = 0 by decide), if_neg (show ¬ (4 : Int) = 1 by decide), if_neg (show ¬ (4 : Int) = 2 by decide), if_neg (show ¬ (4 : Int) = 3 by decide), h, b0M_some]
/-- how far the tokens have come -/
def Pg (s : Mm) (e c : Nat) : Prop := c + 1 ≤ e ∨ (s 90 7 = 0 ∧ c ≤ e)
theorem Pg.go {s t : Mm} {e e2 c : Nat} (h : Pg s e c) (h0 : ¬ s 90 7 = 0) (h1 : e ≤ e2) (h2 : e < e2 ∨ t 90 7 = 0) : Pg t e2 (c + 1) := by
  rcases h with h | ⟨h, _⟩
  · rcases h2 with h2 | h2
    · exact Or.inl (by omega)
    · exact Or.inr ⟨h2, by omega⟩
  · exact absurd h h0
theorem Pg.w {s : Mm} {e c d : Nat} (h : Pg s e c) (hd : d ≤ c) : Pg s e d := by
  rcases h with h | ⟨h, h2⟩
  · exact Or.inl (by omega)
  · exact Or.inr ⟨h, by omega⟩
theorem Pg.le {s : Mm} {e c : Nat} (h : Pg s e c) (h0 : ¬ s 90 7 = 0) : c + 1 ≤ e := by
  rcases h with h | ⟨h, h2⟩
  · exact h
  · exact absurd h h0
