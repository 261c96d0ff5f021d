-- a law under way: a ONE or an ASK begins
def Done (t v : Mm) (T law S O n c K : Nat) : Prop := ∃ (cs : List Int) (e : Nat), TokR t v n e ∧ (t 90 3 = 0 ∧ v 200 19 = 0 ∧ v 200 29 = ((K + 1 : Nat) : Int)) ∧ (t 90 15 = (T : Int) ∧ t T 4 = ((S + cs.length : Nat) : Int) ∧ CodeAt (t (T + 4)) S cs) ∧ (Pg t e c ∧ S + cs.length ≤ c) ∧ wfS (okw law) [] cs = some [decide (law = 0)] ∧ MCode (v 221) (v 222) O cs ∧ v 200 36 = ((O + cs.length + 1 : Nat) : Int) ∧ (v 200 22 = 0 ∧ v 200 25 = 0 ∧ v 200 21 = 0 ∧ v 200 28 = 4)
def Res (s u : Mm) (T law : Nat) (b : Int) (S O n K c : Nat) (o : Option (Int × Mm)) : Prop := ∃ (y : Int) (t v : Mm) (m : Nat), o = some (y, t) ∧ MT u v m ∧ m ≤ 2 ∧ GC s t T S ∧ GM u v O ∧
  ((y = 0 ∧ ∃ g cs e, RunB t v T law b g cs S O n e (c + 1) K) ∨ (y = 1 ∧ ∃ g cs e, RunH t v T law b g cs S O n e (c + 1) K) ∨ (y = 2 ∧ (ErrR t v ∨ Done t v T law S O n (c + 1) K)))
theorem Res.err {s u u1 : Mm} {T law : Nat} {b f : Int} {S O n K c e m : Nat} {o : Option (Int × Mm)} (hT : 94 ≤ T) (tok : TokR s u1 n e) (hf : 0 < f) (mt : MT u u1 m) (hm : m ≤ 1) (gm : GM u u1 O) (mt2 : MT u1 (st2 (st2 u1 200 19 f) 200 20 (u1 200 16)) 1) (ho : o = some (2, st2 (st2 s 90 3 f) 90 4 (s 90 6))) : Res s u T law b S O n K c o :=
  ⟨2, _, _, m + 1, ho, mt.tr mt2, by omega, (GC.rf.p90 hT (by omega)).p90 hT (by omega), (gm.p0 (by omega)).p0 (by omega), Or.inr (Or.inr ⟨rfl, Or.inl (err_R tok hf)⟩)⟩
theorem kind_s {a b c d x : Int} (h : KindR a b c d) (hx : sgn x) : a = x ↔ (c = 3 ∧ d = x) := by
  unfold sgn at hx
  rcases h with ⟨h1, h2⟩ | ⟨h1, h2, h3⟩ | ⟨j, h1, h2, h3, h4⟩ | ⟨h1, h2⟩ | ⟨h1, h2⟩
  · constructor <;> intro q <;> omega
  · constructor <;> intro q <;> omega
  · constructor <;> intro q <;> omega
  · rcases h2 with ⟨h2, h3⟩ | ⟨h2, h3⟩ | ⟨h2, h3⟩
    · constructor <;> intro q <;> omega
    · constructor <;> intro q <;> omega
    · constructor <;> intro q <;> omega
  · constructor <;> intro q <;> omega
theorem to_one {u : Mm} {law O : Nat} {b : Int} {g cs : List Int} {a : Bool} (M : LwM u law b g cs O) (hg : Gk b g a) (h28 : u 200 28 = if a = true then 0 else 1) (z : u 200 19 = 0) (hnot : ¬ (u 200 17 = 1 ∧ u 200 18 = 12)) (ho : opn g ≤ 8) : ∃ u1 g1 m, MT u u1 m ∧ m ≤ 1 ∧ LwM u1 law b g1 cs O ∧ FV u u1 O ∧ u1 200 28 = 1 ∧ Gk b g1 false ∧ (stk g1 = stk g ∧ opn g1 = opn g ∧ brk g1 = brk g ∧ cpd g1 = cpd g ∧ tyG g1 = tyG g) := by
  match a, hg, h28 with
  | false, hg, h28 => exact ⟨u, g, 0, MT.rf, by omega, M, FV.rf, h28, hg, rfl, rfl, rfl, rfl, rfl⟩
  | true, hg, h28 =>
    have hl := (Gk_t hg).2.1.1
    have m21 : u 200 21 = (opn (1 :: g) : Int) := by rw [opn_0 (by omega)]; exact M.2.2.2.1
    obtain ⟨E, M1, F1⟩ := M.frame (x := 1) (by omega) (by omega) (by omega) FV.rf rfl m21 rfl rfl (fun _ _ _ => rfl)
    refine ⟨_, 1 :: g, 1, MT.t0 z h28 ?_, Nat.le_refl _, M1.s28 (x := 1), F1.p0 (by omega), st2_ss _ _ _ _, ?_, stk_1, opn_0 (by omega), brk_0 (by omega), cpd_0 (by omega), tyG_n (by omega) (by omega)⟩
    · have E : F_M_opensFrame 4 u = _ := E
      unfold F_M_asks
      rw [isW, b1_some, if_neg hnot, if_pos rfl, E, b0M_some, bindM_eq]
    · rw [Gk]; exact Or.inl ⟨Or.inl rfl, hg⟩
theorem wst_lit {ok : Int → Bool} {ty : List Bool} {c : Int} (h : 0 ≤ c ∧ c < 20000 ∧ (c < 10000 ∨ ok (c - 10000) = true)) (hl : ty.length < 60) : wst ok ty c = some (false :: ty) := by
  unfold wst
  rw [if_pos h.2.1, if_pos ⟨h.1, h.2.2, hl⟩]
/-- a NUMBER or a NAME on both sides -/
theorem lit_ok {s u : Mm} {T law : Nat} {b x v0 : Int} {g cs : List Int} {S O n e c K : Nat} (q : IsO 0 9 T) (tok : TokR s u n e) (z : s 90 3 = 0 ∧ u 200 19 = 0 ∧ u 200 29 = (K : Int)) (L : LwC s T (stk g) cs S) (M : LwM u law b g cs O) (hl : s 90 14 = (law : Int) ∧ s 90 13 = cpd g) (ho : opn g ≤ 8) (pg : Pg s e c) (h7 : ¬ s 90 7 = 0) (hc : S + cs.length + (stk g).length ≤ c) (hO : O ≤ S + 24) (hlaw : (law = 0 ∧ b = 2) ∨ ((law = 1 ∨ law = 2) ∧ b = 1)) (hg : Gk b g false) (wf : wfS (okw law) [] cs = some (tyG g)) (hx : 0 ≤ x ∧ x < 20000 ∧ (x < 10000 ∨ okw law (x - 10000) = true)) (hv : v0 = if x < 10000 then x else x - 10000) :
    ∃ t v, (b0M (F_T_emit T x s) fun s2 => b0M (F_R_step s2) fun s3 => some ((1 : Int), s3)) = some (1, t) ∧ (b0M (F_M_emits (encO x) v0 u) fun s2 => b0M (F_M_next s2) fun s3 => b0M (F_M_oneIsOver s3) fun s4 => some s4) = some v ∧ (∃ e2, RunH t v T law b g (cs ++ [x]) S O n e2 (c + 1) K) ∧ GC s t T S ∧ GM u v O := by
  have hq := isO9 q
  have pc := pg.le h7
  have hn : n ≤ 300 := tok.1.1
  have he : e ≤ n := tok.2.1.2.2
  have E1 := emit_raw (c := x) L.2.2.2.1.1 (by omega)
  have L1 := L.emit (c := x) hq.1 (by omega)
  have F1 : FW s (st2 (st2 s (T + 4) (S + cs.length) x) T 4 ((S + cs.length + 1 : Nat) : Int)) T S := (FW.rf.pE hq.1 (by omega)).pT hq.1
  have e90 : st2 (st2 s (T + 4) (S + cs.length) x) T 4 ((S + cs.length + 1 : Nat) : Int) 90 = s 90 := by rw [st2_ne (by omega), st2_ne (by omega)]
  generalize st2 (st2 s (T + 4) (S + cs.length) x) T 4 ((S + cs.length + 1 : Nat) : Int) = s2 at *
  obtain ⟨E2, M1, G1⟩ := M.emit (c := x) (v := v0) (by omega) (fun _ => hv)
  generalize em3 u (O + cs.length) (encO x) v0 = u2 at *
  have ty := (Gk_f hg).2.1.1
  obtain ⟨t, v, u3, E3, E4, E5, R, g1, g2⟩ := over_ok (K := K) (c := c) hq.1 (tok.f hq.1 F1 G1) ⟨by rw [e90]; exact z.1, by rw [G1.2.1 19 (by decide) (by decide) (by decide) (by decide) (by decide)]; exact z.2.1, by rw [G1.2.1 29 (by decide) (by decide) (by decide) (by decide) (by decide)]; exact z.2.2⟩ L1 M1 ⟨by rw [e90]; exact hl.1, by rw [e90]; exact hl.2⟩ ho (by unfold Pg at *; rw [e90]; exact pg) (by rw [e90]; exact h7) (by rw [List.length_append, List.length_singleton]; omega) hO hlaw hg (by rw [wfS_app wf, wfS_c (wst_lit hx (by omega))]; rfl)
  exact ⟨t, v, by rw [E1, b0M_some, E3, b0M_some], by rw [E2, b0M_some, E4, b0M_some, E5, b0M_some], R, F1.g.tr g1, G1.g.tr g2⟩
theorem may_ok {x : Int} {law : Nat} (hx : 0 ≤ x ∧ x ≤ 12) : F_M_mayName x (law : Int) = some (if okw law x = true then 1 else 0) := by
  unfold F_M_mayName okw
  by_cases h0 : x = 0
  · rw [if_pos h0]
    by_cases h2 : law = 2
    · rw [if_pos h2, if_pos (decide_eq_true (Or.inl h0))]
    · rw [if_neg h2, if_pos (decide_eq_true (by omega))]
  · rw [if_neg h0]
    by_cases h2 : law = 2
    · rw [if_pos (by omega), if_pos h2]
      by_cases h8 : x ≤ 8
      · rw [if_pos h8, if_neg (by rw [decide_eq_true_iff]; omega)]
      · rw [if_neg h8, if_pos (decide_eq_true (by omega))]
    · rw [if_neg (by omega), if_neg h2]
      by_cases h8 : 9 ≤ x
      · rw [if_pos h8, if_neg (by rw [decide_eq_true_iff]; omega)]
      · rw [if_neg h8, if_pos (decide_eq_true (by omega))]
theorem wmap_in : ∀ j : Nat, j < 27 → (wmap j = 12 ↔ j = 12) ∧ (wmap j = 13 ↔ j = 13) ∧ (wmap j = 14 ↔ j = 14) ∧ (wmap j = 7 ↔ j = 9) ∧ (15 ≤ j → wmap j = j) ∧ (j < 15 → wmap j < 15) ∧ (wmap j = 10 ↔ j = 10) ∧ (wmap j = 11 ↔ j = 11) := by decide +kernel
