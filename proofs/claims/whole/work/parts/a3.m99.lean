-- a law under way: what opens, on both sides; a ONE is over
theorem Gk_len {b : Int} : ∀ {g : List Int}, Gk b g false → g.length ≤ (stk g).length + 1
  | [], _ => by simp
  | x :: g, h => by
    rw [Gk] at h
    rcases h with ⟨hx, h⟩ | ⟨hx, hr, h⟩ | ⟨hx, h⟩
    · by_cases c : x = 1
      · rw [c, stk_1, stk_t h, List.length_cons]; omega
      · rw [stk_n c, stk_t h]; omega
    · have := Gk_len h
      rw [stk_n (by omega), List.length_cons, List.length_cons]; omega
    · have := Gk_len h
      rw [stk_n (by omega), List.length_cons, List.length_cons]; omega
theorem opn_stk {g : List Int} : opn (stk g) = opn g := by
  induction g with
  | nil => rfl
  | cons x g ih =>
    by_cases c : x = 1
    · rw [c, stk_1, opn_0 (by omega)]; exact ih
    · rw [stk_n c]
      by_cases d : 20015 ≤ x
      · rw [opn_1 d, opn_1 d, ih]
      · rw [opn_0 d, opn_0 d, ih]
theorem brk_stk {g : List Int} : brk (stk g) = brk g := by
  induction g with
  | nil => rfl
  | cons x g ih =>
    by_cases c : x = 1
    · rw [c, stk_1, brk_0 (by omega)]; exact ih
    · rw [stk_n c]
      by_cases d : 20017 ≤ x
      · rw [brk_1 d, brk_1 d, ih]
      · rw [brk_0 d, brk_0 d, ih]
theorem brk_len : ∀ l : List Int, brk l ≤ l.length := fun l => by
  induction l with
  | nil => exact Nat.le_refl _
  | cons a l ih =>
    by_cases c : 20017 ≤ a
    · rw [brk_1 c, List.length_cons]; omega
    · rw [brk_0 c, List.length_cons]; omega
/-- both readers stand in a law -/
def Run (s u : Mm) (T law : Nat) (b : Int) (g cs : List Int) (S O n e c K : Nat) : Prop :=
  TokR s u n e ∧ (s 90 3 = 0 ∧ u 200 19 = 0 ∧ u 200 29 = (K : Int)) ∧ LwC s T (stk g) cs S ∧ (s 90 14 = (law : Int) ∧ s 90 13 = cpd g) ∧ opn g ≤ 8 ∧ (Pg s e c ∧ S + cs.length + (stk g).length ≤ c) ∧ O ≤ S + 24 ∧ ((law = 0 ∧ b = 2) ∨ ((law = 1 ∨ law = 2) ∧ b = 1))
/-- a ONE or an ASK is to come -/
def RunB (s u : Mm) (T law : Nat) (b : Int) (g cs : List Int) (S O n e c K : Nat) : Prop := Run s u T law b g cs S O n e c K ∧ LwM u law b g cs O ∧ (∃ a : Bool, Gk b g a ∧ u 200 28 = if a = true then 0 else 1) ∧ (∀ h, g ≠ 1 :: h) ∧ wfS (okw law) [] cs = some (tyG g)
/-- a ONE is over -/
def RunH (s u : Mm) (T law : Nat) (b : Int) (g cs : List Int) (S O n e c K : Nat) : Prop := Run s u T law b g cs S O n e c K ∧ LwM u law b (ldr 20015 g).1 (cs ++ (ldr 20015 g).2) O ∧ u 200 28 = 2 ∧ Gk b g false ∧ wfS (okw law) [] cs = some (false :: tyG g)
theorem over_ok {s u : Mm} {T law : Nat} {b : Int} {g cs : List Int} {S O n e c K : Nat} (hT : 94 ≤ T) (tok : TokR s u n e) (z : s 90 3 = 0 ∧ u 200 19 = 0 ∧ u 200 29 = (K : Int)) (L : LwC s T (stk g) cs S) (M : LwM u law b g cs O) (hl : s 90 14 = (law : Int) ∧ s 90 13 = cpd g) (ho : opn g ≤ 8) (pg : Pg s e c) (h7 : ¬ s 90 7 = 0) (hc : S + cs.length + (stk g).length ≤ c + 1) (hO : O ≤ S + 24) (hlaw : (law = 0 ∧ b = 2) ∨ ((law = 1 ∨ law = 2) ∧ b = 1)) (hg : Gk b g false) (wf : wfS (okw law) [] cs = some (false :: tyG g)) : ∃ t v u3, F_R_step s = some t ∧ F_M_next u = some u3 ∧ F_M_oneIsOver u3 = some v ∧ (∃ e2, RunH t v T law b g cs S O n e2 (c + 1) K) ∧ GC s t T S ∧ GM u v O := by
  obtain ⟨e2, t, u3, E1, E2, tok2, s1, s2, p1, p2⟩ := tok.step
  have hn : n ≤ 300 := tok.1.1
  have pc := pg.le h7
  have he : e ≤ n := tok.2.1.2.2
  have M3 := M.st s2
  obtain ⟨v, E3, M4, F4, q28⟩ := oneOver_ok (by omega) (by have := Gk_len hg; unfold LF; omega) M3 hg ho (by have := opn_len (stk g); rw [opn_stk] at this; omega)
  refine ⟨t, v, u3, E1, E2, E3, ⟨e2, ⟨?_, ⟨?_, ?_, ?_⟩, L.st hT s1, ⟨?_, ?_⟩, ho, ⟨pg.go h7 p1 p2, hc⟩, hO, hlaw⟩, M4, q28, hg, wf⟩, s1.g hT, s2.g.tr F4.g⟩
  · exact tok2.mv (fun _ _ => rfl) rfl (fun k k1 k2 => F4.2.1 k (by omega) (by omega) (by omega) (by omega) (by omega)) (F4.1 203 (by decide) (by decide) (by decide) (by decide) (by decide) (by decide) (by decide))
  · rw [s1.1 3 (by omega)]; exact z.1
  · rw [F4.2.1 19 (by decide) (by decide) (by decide) (by decide) (by decide), s2.1 19 (by omega)]; exact z.2.1
  · rw [F4.2.1 29 (by decide) (by decide) (by decide) (by decide) (by decide), s2.1 29 (by omega)]; exact z.2.2
  · rw [s1.1 14 (by omega)]; exact hl.1
  · rw [s1.1 13 (by omega)]; exact hl.2
/-- what opens -/
theorem opens_ok {s u : Mm} {T law : Nat} {b x : Int} {g cs : List Int} {S O n e c : Nat} (hT : 94 ≤ T) (hx : x = 20015 ∨ x = 20016 ∨ x = 20017 ∨ x = 20018 ∨ x = 20019) (tok : TokR s u n e) (L : LwC s T (stk g) cs S) (M : LwM u law b g cs O) (ho : opn g < 8) (hf : (frs b g).length < 40) (pg : Pg s e c) (h7 : ¬ s 90 7 = 0) (hc : S + cs.length + (stk g).length ≤ c) :
    ∃ t v e2, (∀ f : Mm → Option (Int × Mm), (if r32 ((s 90 11) + 1) then bindM (st2 s 90 11 ((s 90 11) + 1)) fun s23 => bindM ((if x < 20017 then 0 else 1 : Int)) fun v24 => if r32 ((s23 90 12) + v24) then bindM (st2 s23 90 12 ((s23 90 12) + v24)) fun s27 => b0M (F_R_hold x s27) fun s28 => b0M (F_R_step s28) fun s29 => f s29 else none else none) = f t) ∧ F_M_opensSign (frK x) u = some (1, v) ∧ TokR t v n e2 ∧ LwC t T (stk (x :: g)) cs S ∧ LwM v law b (x :: g) cs O ∧ GC s t T S ∧ GM u v O ∧ (t 90 3 = s 90 3 ∧ v 200 19 = u 200 19 ∧ v 200 29 = u 200 29 ∧ v 200 28 = u 200 28 ∧ t 90 13 = s 90 13 ∧ t 90 14 = s 90 14) ∧ Pg t e2 (c + 1) := by
  have h9 := L.2.2.2.2.2
  have hn : n ≤ 300 := tok.1.1
  have pc := pg.le h7
  have he : e ≤ n := tok.2.1.2.2
  have o1 : opn (stk g) = opn g := opn_stk
  have b1' : brk (stk g) ≤ (stk g).length := brk_len _
  have a11 : s 90 11 = (opn (stk g) : Int) := L.2.2.1.1
  have a12 : s 90 12 = (brk (stk g) : Int) := L.2.2.1.2
  have c11 : s 90 11 + 1 = ((opn (x :: stk g) : Nat) : Int) := by rw [a11, opn_1 (by omega)]; omega
  have c12 : st2 s 90 11 ((opn (x :: stk g) : Nat) : Int) 90 12 + (if x < 20017 then 0 else 1 : Int) = ((brk (x :: stk g) : Nat) : Int) := by
    rw [st2_sk, if_neg (by decide), a12]
    by_cases q : x < 20017
    · rw [if_pos q, brk_0 (by omega)]; omega
    · rw [if_neg q, brk_1 (by omega)]; omega
  have q11 : opn (x :: stk g) < 2147483648 := by rw [opn_1 (by omega)]; omega
  have q12 : brk (x :: stk g) < 2147483648 := by have := brk_len (x :: stk g); rw [List.length_cons] at this; omega
  -- the program
  have F2 : FW s (st2 (st2 s 90 11 ((opn (x :: stk g) : Nat) : Int)) 90 12 ((brk (x :: stk g) : Nat) : Int)) T S := (FW.rf.p90 hT (by omega)).p90 hT (by omega)
  obtain ⟨E3, L3, F3⟩ := L.hold (x := x) hT (by omega) (by omega) F2 (by rw [st2_ne (by decide), st2_ne (by decide)]) (by rw [st2_sk, if_neg (by decide), st2_sk, if_neg (by decide)]) (by rw [st2_sk, if_neg (by decide), st2_ss]) (by rw [st2_ss]) (by rw [st2_ne (by omega), st2_ne (by omega)]) (by rw [st2_ne (by omega), st2_ne (by omega)])
  generalize hs3 : st2 (st2 (st2 (st2 s 90 11 ((opn (x :: stk g) : Nat) : Int)) 90 12 ((brk (x :: stk g) : Nat) : Int)) 92 (stk g).length x) 90 10 (((stk g).length + 1 : Nat) : Int) = s3 at *
  -- the reference
  have m21 : u 200 21 = (opn g : Int) := M.2.2.2.1
  have G2 : FV u (st2 u 200 21 ((opn (x :: g) : Nat) : Int)) O := FV.rf.p0 (by omega)
  obtain ⟨E4, M4, G4⟩ := M.frame (x := x) (by omega) (by omega) hf G2 (by rw [st2_sk, if_neg (by decide)]) (by rw [st2_ss]) (by rw [st2_sk, if_neg (by decide)]) (by rw [st2_sk, if_neg (by decide)]) (fun i i1 i2 => st2_ne (by omega))
  have k28 : st2 (st2 (st2 u 200 21 ((opn (x :: g) : Nat) : Int)) 212 (frs b g).length (frK x)) 200 22 (((frs b g).length + 1 : Nat) : Int) 200 28 = u 200 28 := by rw [st2_sk, if_neg (by decide), st2_ne (by decide), st2_sk, if_neg (by decide)]
  generalize hu4 : st2 (st2 (st2 u 200 21 ((opn (x :: g) : Nat) : Int)) 212 (frs b g).length (frK x)) 200 22 (((frs b g).length + 1 : Nat) : Int) = u4 at *
  have tok3 : TokR s3 u4 n e := tok.f hT F3 G4
  obtain ⟨e2, t, v, E5, E6, tok4, s1, s2, p1, p2⟩ := tok3.step
  have h73 : s3 90 7 = s 90 7 := F3.2.1 7 (by decide) (by decide) (by decide)
  have pg3 : Pg s3 e c := by unfold Pg at *; rw [h73]; exact pg
  refine ⟨t, v, e2, fun f => ?_, ?_, tok4, ?_, M4.st s2, F3.g.tr (s1.g hT), G4.g.tr s2.g, ⟨?_, ?_, ?_, ?_, ?_, ?_⟩, pg3.go (by rw [h73]; exact h7) p1 p2⟩
  · rw [c11, if_pos (r32_nat q11), bindM_eq, bindM_eq, c12, if_pos (r32_nat q12), bindM_eq, E3, b0M_some, E5, b0M_some]
  · unfold F_M_opensSign
    have c21 : u 200 21 + 1 = ((opn (x :: g) : Nat) : Int) := by rw [m21, opn_1 (by omega)]; omega
    rw [m21, if_neg (show ¬ (opn g : Int) = 8 by omega), ← m21, c21, if_pos (r32_nat (by rw [opn_1 (by omega)]; omega)), bindM_eq, E4, b0M_some, E6, b0M_some]
  · rw [stk_n (by omega)]; exact L3.st hT s1
  · rw [s1.1 3 (by omega), F3.2.1 3 (by decide) (by decide) (by decide)]
  · rw [s2.1 19 (by omega), G4.2.1 19 (by decide) (by decide) (by decide) (by decide) (by decide)]
  · rw [s2.1 29 (by omega), G4.2.1 29 (by decide) (by decide) (by decide) (by decide) (by decide)]
  · rw [s2.1 28 (by omega)]; exact k28
  · rw [s1.1 13 (by omega), F3.2.1 13 (by decide) (by decide) (by decide)]
  · rw [s1.1 14 (by omega), F3.2.1 14 (by decide) (by decide) (by decide)]
