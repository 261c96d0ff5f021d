-- a law under way: the program's side
theorem CodeAt.app {f : Nat → Int} {c : Int} : ∀ {cs : List Int} {i : Nat}, CodeAt f i cs → f (i + cs.length) = c → CodeAt f i (cs ++ [c])
  | [], i, _, h => ⟨h, trivial⟩
  | d :: cs, i, hs, h => ⟨hs.1, CodeAt.app hs.2 (by rw [← h]; congr 1; rw [List.length_cons]; omega)⟩
theorem CodeAt.on {f g : Nat → Int} : ∀ {cs : List Int} {i : Nat}, (∀ k, i ≤ k → k < i + cs.length → g k = f k) → CodeAt f i cs → CodeAt g i cs
  | [], _, _, _ => trivial
  | d :: cs, i, h, hs => ⟨(h i (Nat.le_refl _) (by rw [List.length_cons]; omega)).trans hs.1, CodeAt.on (fun k h1 h2 => h k (by omega) (by rw [List.length_cons]; omega)) hs.2⟩
def LwC (s : Mm) (T : Nat) (w cs : List Int) (S : Nat) : Prop := s 90 15 = (T : Int) ∧ (s 90 10 = (w.length : Int) ∧ StkR (s 92) w) ∧ (s 90 11 = (opn w : Int) ∧ s 90 12 = (brk w : Int)) ∧ (s T 4 = ((S + cs.length : Nat) : Int) ∧ CodeAt (s (T + 4)) S cs) ∧ (∀ x ∈ w, 20000 ≤ x ∧ x ≤ 20021) ∧ S + cs.length + w.length ≤ 300
/-- what a law's reading may change, but the token -/
def FW (s t : Mm) (T S : Nat) : Prop := (∀ i, i ≠ 90 → i ≠ 92 → i ≠ T → i ≠ T + 4 → t i = s i) ∧ (∀ k, k ≠ 10 → k ≠ 11 → k ≠ 12 → t 90 k = s 90 k) ∧ (∀ k, k ≠ 4 → t T k = s T k) ∧ ∀ k, k < S → t (T + 4) k = s (T + 4) k
theorem FW.rf {s : Mm} {T S : Nat} : FW s s T S := ⟨fun _ _ _ _ _ => rfl, fun _ _ _ _ => rfl, fun _ _ => rfl, fun _ _ => rfl⟩
theorem FW.tr {a b c : Mm} {T S : Nat} (h : FW a b T S) (k : FW b c T S) : FW a c T S := ⟨fun i a b c d => (k.1 i a b c d).trans (h.1 i a b c d), fun i a b c => (k.2.1 i a b c).trans (h.2.1 i a b c), fun i a => (k.2.2.1 i a).trans (h.2.2.1 i a), fun i a => (k.2.2.2 i a).trans (h.2.2.2 i a)⟩
theorem FW.p90 {s t : Mm} {T S k : Nat} {x : Int} (h : FW s t T S) (hT : 94 ≤ T) (hk : k = 10 ∨ k = 11 ∨ k = 12) : FW s (st2 t 90 k x) T S :=
  ⟨fun i a b c d => by rw [st2_ne a]; exact h.1 i a b c d, fun i a b c => by rw [st2_sk, if_neg (by omega)]; exact h.2.1 i a b c, fun i a => by rw [st2_ne (by omega)]; exact h.2.2.1 i a, fun i a => by rw [st2_ne (by omega)]; exact h.2.2.2 i a⟩
theorem FW.p92 {s t : Mm} {T S k : Nat} {x : Int} (h : FW s t T S) (hT : 94 ≤ T) : FW s (st2 t 92 k x) T S :=
  ⟨fun i a b c d => by rw [st2_ne b]; exact h.1 i a b c d, fun i a b c => by rw [st2_ne (by decide)]; exact h.2.1 i a b c, fun i a => by rw [st2_ne (by omega)]; exact h.2.2.1 i a, fun i a => by rw [st2_ne (by omega)]; exact h.2.2.2 i a⟩
theorem FW.pT {s t : Mm} {T S : Nat} {x : Int} (h : FW s t T S) (hT : 94 ≤ T) : FW s (st2 t T 4 x) T S :=
  ⟨fun i a b c d => by rw [st2_ne c]; exact h.1 i a b c d, fun i a b c => by rw [st2_ne (by omega)]; exact h.2.1 i a b c, fun i a => by rw [st2_sk, if_neg a]; exact h.2.2.1 i a, fun i a => by rw [st2_ne (by omega)]; exact h.2.2.2 i a⟩
theorem FW.pE {s t : Mm} {T S k : Nat} {x : Int} (h : FW s t T S) (hT : 94 ≤ T) (hk : S ≤ k) : FW s (st2 t (T + 4) k x) T S :=
  ⟨fun i a b c d => by rw [st2_ne d]; exact h.1 i a b c d, fun i a b c => by rw [st2_ne (by omega)]; exact h.2.1 i a b c, fun i a => by rw [st2_ne (by omega)]; exact h.2.2.1 i a, fun i a => by rw [st2_sk, if_neg (by omega)]; exact h.2.2.2 i a⟩
theorem emit_raw {s : Mm} {T n : Nat} {c : Int} (h : s T 4 = (n : Int)) (hn : n < 300) : F_T_emit T c s = some (st2 (st2 s (T + 4) n c) T 4 ((n + 1 : Nat) : Int)) := by
  have e : st2 s (T + 4) n c T 4 = (n : Int) := by rw [st2_ne (by omega)]; exact h
  have e1 : (n : Int) + 1 = ((n + 1 : Nat) : Int) := by omega
  unfold F_T_emit
  rw [h, if_neg (show ¬ ((300 : Nat) : Int) ≤ (n : Int) by omega), if_pos (show 0 ≤ (n : Int) ∧ (n : Int) < 300 by omega), Int.toNat_natCast, bindM_eq, e, e1, if_pos (r32_nat (by omega)), bindM_eq]
theorem LwC.emit {s : Mm} {T S : Nat} {w cs : List Int} {c : Int} (h : LwC s T w cs S) (hT : 94 ≤ T) (hc : S + cs.length + w.length < 300) : LwC (st2 (st2 s (T + 4) (S + cs.length) c) T 4 ((S + cs.length + 1 : Nat) : Int)) T w (cs ++ [c]) S := by
  obtain ⟨h1, ⟨h2, h3⟩, ⟨h4, h5⟩, ⟨h6, h7⟩, h8, h9⟩ := h
  have e90 : st2 (st2 s (T + 4) (S + cs.length) c) T 4 ((S + cs.length + 1 : Nat) : Int) 90 = s 90 := by rw [st2_ne (by omega), st2_ne (by omega)]
  have e92 : st2 (st2 s (T + 4) (S + cs.length) c) T 4 ((S + cs.length + 1 : Nat) : Int) 92 = s 92 := by rw [st2_ne (by omega), st2_ne (by omega)]
  have eT : st2 (st2 s (T + 4) (S + cs.length) c) T 4 ((S + cs.length + 1 : Nat) : Int) (T + 4) = st2 s (T + 4) (S + cs.length) c (T + 4) := st2_ne (by omega)
  refine ⟨by rw [e90]; exact h1, ⟨by rw [e90]; exact h2, by rw [e92]; exact h3⟩, ⟨by rw [e90]; exact h4, by rw [e90]; exact h5⟩, ⟨by rw [st2_ss, List.length_append, List.length_singleton, Nat.add_assoc], ?_⟩, h8, by rw [List.length_append, List.length_singleton]; omega⟩
  rw [eT]
  exact CodeAt.app (CodeAt.on (fun k _ k2 => by rw [st2_sk, if_neg (by omega)]) h7) (st2_ss _ _ _ _)
theorem rank_k : ∀ k : Nat, k < 22 → F_R_rank (20000 + (k : Int)) = some (rkI (20000 + (k : Int))) := by decide +kernel
theorem rank_C {x : Int} (h : 20000 ≤ x ∧ x ≤ 20021) : F_R_rank x = some (rkI x) := by
  obtain ⟨k, hk⟩ := Int.eq_ofNat_of_zero_le (show 0 ≤ x - 20000 by omega)
  have e : x = 20000 + (k : Int) := by omega
  rw [e]; exact rank_k k (by omega)
theorem rk_low {x r : Int} (h : 20000 ≤ x ∧ x ≤ 20021) (hr : 1 ≤ r) (c : ¬ rkI x < r) : x ≤ 20016 ∧ ¬ x = 20013 ∧ ¬ x = 20014 := by
  refine ⟨?_, ?_, ?_⟩
  · by_cases q : x ≤ 20016
    · exact q
    · have := rkI_b (show bra x by omega); omega
  · intro q; rw [q] at c; have : rkI 20013 = 0 := rfl; omega
  · intro q; rw [q] at c; have : rkI 20014 = 0 := rfl; omega
theorem finL_ok {T S : Nat} (q : IsO 0 9 T) {r : Int} (hr : 1 ≤ r) : ∀ (w cs : List Int) (N : Nat) (s : Mm), w.length < N → LwC s T w cs S → ∃ s', L_R_finish_0 N r s = some s' ∧ LwC s' T (finP r w).1 (cs ++ (finP r w).2) S ∧ FW s s' T S ∧ s' 92 = s 92 := by
  have hq := isO9 q
  intro w
  induction w with
  | nil =>
    intro cs N s hN h
    match N, hN with
    | N + 1, _ =>
      have h2 : s 90 10 = 0 := h.2.1.1
      rw [L_R_finish_0, h2, if_pos (Int.le_refl 0)]
      refine ⟨s, rfl, ?_, FW.rf, rfl⟩
      show LwC s T [] (cs ++ []) S
      rw [List.append_nil]; exact h
  | cons x w ih =>
    intro cs N s hN h
    match N, hN with
    | N + 1, hN =>
      have h0 := h
      obtain ⟨h1, ⟨h2, h3⟩, ⟨h4, h5⟩, ⟨h6, h7⟩, h8, h9⟩ := h
      have hx := h8 x (List.mem_cons_self ..)
      rw [List.length_cons] at h9 h2 hN
      have hl : ((w.length + 1 : Nat) : Int) - 1 = (w.length : Int) := by omega
      rw [L_R_finish_0, h2, if_neg (show ¬ ((w.length + 1 : Nat) : Int) ≤ 0 by omega), hl, if_pos (show 0 ≤ (w.length : Int) ∧ (w.length : Int) < 300 by omega), Int.toNat_natCast, h3.1, rank_C hx, b1_some]
      by_cases c : rkI x < r
      · rw [if_pos c, finP_s c]
        refine ⟨s, rfl, ?_, FW.rf, rfl⟩
        show LwC s T (x :: w) (cs ++ []) S
        rw [List.append_nil]; exact h0
      · have lo := rk_low hx hr c
        have a10 : st2 s 90 10 (w.length : Int) 90 10 = (w.length : Int) := st2_ss _ _ _ _
        have a15 : st2 s 90 10 (w.length : Int) 90 15 = (T : Int) := by rw [st2_sk, if_neg (by decide)]; exact h1
        have a11 : st2 s 90 10 (w.length : Int) 90 11 = ((opn (x :: w) : Nat) : Int) := by rw [st2_sk, if_neg (by decide)]; exact h4
        have a12 : st2 s 90 10 (w.length : Int) 90 12 = ((brk (x :: w) : Nat) : Int) := by rw [st2_sk, if_neg (by decide)]; exact h5
        have a92 : st2 s 90 10 (w.length : Int) 92 = s 92 := st2_ne (by decide)
        have aT : st2 s 90 10 (w.length : Int) T 4 = ((S + cs.length : Nat) : Int) := by rw [st2_ne (by omega)]; exact h6
        have aE : st2 s 90 10 (w.length : Int) (T + 4) = s (T + 4) := st2_ne (by omega)
        have f1 : FW s (st2 s 90 10 (w.length : Int)) T S := FW.rf.p90 (by omega) (by omega)
        rw [if_neg c, if_pos (r32_nat (by omega)), bindM_eq, a10, if_pos (show 0 ≤ (w.length : Int) ∧ (w.length : Int) < 300 by omega), Int.toNat_natCast, bindM_eq, a92, h3.1, a15, if_pos (show 0 ≤ (T : Int) ∧ IsO 0 9 (T : Int).toNat from ⟨by omega, q⟩), Int.toNat_natCast, emit_raw aT (by omega), b0M_some]
        generalize hs4 : st2 s 90 10 (w.length : Int) = s4 at *
        have f2 : FW s (st2 (st2 s4 (T + 4) (S + cs.length) x) T 4 ((S + cs.length + 1 : Nat) : Int)) T S := (f1.pE (by omega) (by omega)).pT (by omega)
        have b90 : st2 (st2 s4 (T + 4) (S + cs.length) x) T 4 ((S + cs.length + 1 : Nat) : Int) 90 = s4 90 := by rw [st2_ne (by omega), st2_ne (by omega)]
        have b92 : st2 (st2 s4 (T + 4) (S + cs.length) x) T 4 ((S + cs.length + 1 : Nat) : Int) 92 = s 92 := by rw [st2_ne (by omega), st2_ne (by omega)]; exact a92
        have bT : st2 (st2 s4 (T + 4) (S + cs.length) x) T 4 ((S + cs.length + 1 : Nat) : Int) T 4 = ((S + cs.length + 1 : Nat) : Int) := st2_ss _ _ _ _
        have bE : CodeAt (st2 (st2 s4 (T + 4) (S + cs.length) x) T 4 ((S + cs.length + 1 : Nat) : Int) (T + 4)) S (cs ++ [x]) := by
          rw [st2_ne (show T + 4 ≠ T by omega)]
          exact CodeAt.app (CodeAt.on (fun k _ k2 => by rw [st2_sk, if_neg (by omega)]) (by rw [aE]; exact h7)) (st2_ss _ _ _ _)
        generalize st2 (st2 s4 (T + 4) (S + cs.length) x) T 4 ((S + cs.length + 1 : Nat) : Int) = s7 at *
        have go : ∀ y : Int, ((opn (x :: w) : Nat) : Int) - y = (opn w : Int) → ∃ s', (if r32 ((s7 90 11) - y) then bindM (st2 s7 90 11 ((s7 90 11) - y)) fun s11 => L_R_finish_0 N r s11 else none) = some s' ∧ LwC s' T (finP r (x :: w)).1 (cs ++ (finP r (x :: w)).2) S ∧ FW s s' T S ∧ s' 92 = s 92 := fun y hy => by
          have hw : opn w ≤ w.length := by
            clear hy ih
            have : ∀ l : List Int, opn l ≤ l.length := fun l => by
              induction l with
              | nil => exact Nat.le_refl _
              | cons a l ih => by_cases c : 20015 ≤ a
                               · rw [opn_1 c, List.length_cons]; omega
                               · rw [opn_0 c, List.length_cons]; omega
            exact this w
          have f3 : FW s (st2 s7 90 11 (opn w : Int)) T S := f2.p90 (by omega) (by omega)
          have L : LwC (st2 s7 90 11 (opn w : Int)) T w (cs ++ [x]) S := by
            refine ⟨?_, ⟨?_, ?_⟩, ⟨st2_ss _ _ _ _, ?_⟩, ⟨?_, ?_⟩, fun z hz => h8 z (List.mem_cons_of_mem _ hz), ?_⟩
            · rw [st2_sk, if_neg (by decide), b90]; exact a15
            · rw [st2_sk, if_neg (by decide), b90]; exact a10
            · rw [st2_ne (by decide), b92]; exact h3.2
            · rw [st2_sk, if_neg (by decide), b90, a12, brk_0 (by omega)]
            · rw [st2_ne (by omega), bT, List.length_append, List.length_singleton, Nat.add_assoc]
            · rw [st2_ne (by omega)]; exact bE
            · rw [List.length_append, List.length_singleton]; omega
          obtain ⟨s', E, k1, k2, k3⟩ := ih (cs ++ [x]) N _ (by omega) L
          rw [b90, a11, hy, if_pos (r32_nat (by omega)), bindM_eq]
          refine ⟨s', E, ?_, f3.tr k2, by rw [k3, st2_ne (by decide)]; exact b92⟩
          rw [finP_g c]
          rw [List.append_assoc] at k1
          exact k1
        rw [bindM_eq, bindM_eq]
        by_cases c1 : x = 20015
        · rw [if_pos c1]; exact go 1 (by rw [opn_1 (by omega)]; omega)
        · by_cases c2 : x = 20016
          · rw [if_neg c1, if_pos c2]; exact go 1 (by rw [opn_1 (by omega)]; omega)
          · rw [if_neg c1, if_neg c2]; exact go 0 (by rw [opn_0 (by omega)]; omega)
theorem fin_ok {T S : Nat} (q : IsO 0 9 T) {r : Int} (hr : 1 ≤ r) {w cs : List Int} {s : Mm} (h : LwC s T w cs S) : ∃ s', F_R_finish r s = some s' ∧ LwC s' T (finP r w).1 (cs ++ (finP r w).2) S ∧ FW s s' T S ∧ s' 92 = s 92 := by
  obtain ⟨s', E, k⟩ := finL_ok q hr w cs LF s (by have := h.2.2.2.2.2; unfold LF; omega) h
  refine ⟨s', ?_, k⟩
  unfold F_R_finish
  rw [E, b0M_some]
theorem hold_raw {s : Mm} {n : Nat} {x : Int} (h : s 90 10 = (n : Int)) (hn : n < 300) : F_R_hold x s = some (st2 (st2 s 92 n x) 90 10 ((n + 1 : Nat) : Int)) := by
  have e : st2 s 92 n x 90 10 = (n : Int) := by rw [st2_ne (by decide)]; exact h
  have e1 : (n : Int) + 1 = ((n + 1 : Nat) : Int) := by omega
  unfold F_R_hold
  rw [h, if_neg (show ¬ ((300 : Nat) : Int) ≤ (n : Int) by omega), if_pos (show 0 ≤ (n : Int) ∧ (n : Int) < 300 by omega), Int.toNat_natCast, bindM_eq, e, e1, if_pos (r32_nat (by omega)), bindM_eq]
/-- something more waits -/
theorem LwC.hold {s s' : Mm} {T S : Nat} {w cs : List Int} {x : Int} (h : LwC s T w cs S) (hT : 94 ≤ T) (hx : 20000 ≤ x ∧ x ≤ 20021) (hc : S + cs.length + w.length < 300) (f : FW s s' T S) (e92 : s' 92 = s 92) (e10 : s' 90 10 = s 90 10) (e11 : s' 90 11 = (opn (x :: w) : Int)) (e12 : s' 90 12 = (brk (x :: w) : Int)) (eT : s' T 4 = s T 4) (eE : s' (T + 4) = s (T + 4)) : F_R_hold x s' = some (st2 (st2 s' 92 w.length x) 90 10 ((w.length + 1 : Nat) : Int)) ∧ LwC (st2 (st2 s' 92 w.length x) 90 10 ((w.length + 1 : Nat) : Int)) T (x :: w) cs S ∧ FW s (st2 (st2 s' 92 w.length x) 90 10 ((w.length + 1 : Nat) : Int)) T S := by
  obtain ⟨h1, ⟨h2, h3⟩, ⟨h4, h5⟩, ⟨h6, h7⟩, h8, h9⟩ := h
  refine ⟨hold_raw (by rw [e10]; exact h2) (by omega), ⟨?_, ⟨?_, ?_⟩, ⟨?_, ?_⟩, ⟨?_, ?_⟩, ?_, ?_⟩, (f.p92 hT).p90 hT (by omega)⟩
  · rw [st2_sk, if_neg (by decide), st2_ne (by decide), f.2.1 15 (by decide) (by decide) (by decide)]; exact h1
  · rw [st2_ss, List.length_cons]
  · rw [st2_ne (by decide)]
    exact StkR.push (by rw [e92]; exact h3)
  · rw [st2_sk, if_neg (by decide), st2_ne (by decide)]; exact e11
  · rw [st2_sk, if_neg (by decide), st2_ne (by decide)]; exact e12
  · rw [st2_ne (by omega), st2_ne (by omega), eT]; exact h6
  · rw [st2_ne (by omega), st2_ne (by omega), eE]; exact h7
  · intro y hy
    rcases List.mem_cons.mp hy with r | r
    · rw [r]; exact hx
    · exact h8 y r
  · rw [List.length_cons]; omega
theorem outer_ok {s : Mm} {T S : Nat} {w cs : List Int} (h : LwC s T w cs S) : F_R_outer s = some (w.headD (-1)) := by
  obtain ⟨h1, ⟨h2, h3⟩, ⟨h4, h5⟩, ⟨h6, h7⟩, h8, h9⟩ := h
  unfold F_R_outer
  match w, h2, h3, h9 with
  | [], h2, _, _ =>
    have h2 : s 90 10 = 0 := h2
    rw [h2, if_pos (Int.le_refl 0)]; rfl
  | x :: w, h2, h3, h9 =>
    rw [List.length_cons] at h2 h9
    have hl : ((w.length + 1 : Nat) : Int) - 1 = (w.length : Int) := by omega
    rw [h2, if_neg (show ¬ ((w.length + 1 : Nat) : Int) ≤ 0 by omega), hl, if_pos (show 0 ≤ (w.length : Int) ∧ (w.length : Int) < 300 by omega), Int.toNat_natCast, h3.1]; rfl
