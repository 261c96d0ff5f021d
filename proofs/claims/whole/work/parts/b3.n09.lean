-- a clause: its parts, its numbers, its words
def TC (s t : Mm) (T : Nat) : Prop := (∀ i, i ≠ 90 → i ≠ 92 → i ≠ T → i ≠ T + 4 → i ≠ T + 8 → i ≠ T + 12 → i ≠ T + 16 → t i = s i) ∧ ∀ k, (k < 3 ∨ 14 < k) → t 90 k = s 90 k
def TM (u v : Mm) : Prop := (∀ i, (i < 200 ∨ (200 < i ∧ i < 212) ∨ 222 < i) → v i = u i) ∧ ∀ k, (k < 15 ∨ 36 < k) → v 200 k = u 200 k
theorem TC.rf {s : Mm} {T : Nat} : TC s s T := ⟨fun _ _ _ _ _ _ _ _ => rfl, fun _ _ => rfl⟩
theorem TM.rf {u : Mm} : TM u u := ⟨fun _ _ => rfl, fun _ _ => rfl⟩
theorem TC.tr {a b c : Mm} {T : Nat} (h : TC a b T) (k : TC b c T) : TC a c T := ⟨fun i a b c d e f g => (k.1 i a b c d e f g).trans (h.1 i a b c d e f g), fun i a => (k.2 i a).trans (h.2 i a)⟩
theorem TM.tr {a b c : Mm} (h : TM a b) (k : TM b c) : TM a c := ⟨fun i a => (k.1 i a).trans (h.1 i a), fun i a => (k.2 i a).trans (h.2 i a)⟩
theorem GC.t {s t : Mm} {T S : Nat} (h : GC s t T S) : TC s t T := ⟨fun i a b c d _ _ _ => h.1 i a b c d, fun k hk => h.2.1 k (by omega)⟩
theorem GM.t {u v : Mm} {O : Nat} (h : GM u v O) : TM u v := ⟨fun i hi => h.1 i (by omega) (by omega) (by omega) (by omega) (by omega) (by omega) (by omega), fun k hk => h.2.1 k (by omega)⟩
theorem StC.t {s t : Mm} {T : Nat} (h : StC s t) : TC s t T := ⟨fun i a _ _ _ _ _ _ => h.2 i (by simpa using a), fun k hk => h.1 k (by omega)⟩
theorem StM.t {u v : Mm} (h : StM u v) : TM u v := ⟨fun i hi => h.2 i (by simp; omega), fun k hk => h.1 k (by omega)⟩
theorem TC.p90 {s t : Mm} {T k : Nat} {x : Int} (h : TC s t T) (hk : 3 ≤ k ∧ k ≤ 14) : TC s (st2 t 90 k x) T := ⟨fun i a b c d e f g => by rw [st2_ne a]; exact h.1 i a b c d e f g, fun i a => by rw [st2_sk, if_neg (by omega)]; exact h.2 i a⟩
theorem TC.pT {s t : Mm} {T j k : Nat} {x : Int} (h : TC s t T) (hT : 94 ≤ T) (hj : j = T ∨ j = T + 4 ∨ j = T + 8 ∨ j = T + 12 ∨ j = T + 16) : TC s (st2 t j k x) T := ⟨fun i a b c d e f g => by rw [st2_ne (by omega)]; exact h.1 i a b c d e f g, fun i a => by rw [st2_ne (by omega)]; exact h.2 i a⟩
theorem TM.p0 {u v : Mm} {k : Nat} {x : Int} (h : TM u v) (hk : 15 ≤ k ∧ k ≤ 36) : TM u (st2 v 200 k x) := ⟨fun i a => by rw [st2_ne (by omega)]; exact h.1 i a, fun i a => by rw [st2_sk, if_neg (by omega)]; exact h.2 i a⟩
theorem TM.pA {u v : Mm} {j k : Nat} {x : Int} (h : TM u v) (hj : 212 ≤ j ∧ j ≤ 222) : TM u (st2 v j k x) := ⟨fun i a => by rw [st2_ne (by omega)]; exact h.1 i a, fun i a => by rw [st2_ne (by omega)]; exact h.2 i a⟩
theorem put_raw {s : Mm} {T K p : Nat} {v : Int} (h : s T 5 = ((K + 1 : Nat) : Int)) (hp : p < 6) (hK : K < 24) : F_T_put T (p : Int) v s = some (st2 s (T + 16) (6 * K + p) v) := by
  have e : (((K + 1 : Nat) : Int) - 1) * 6 + (p : Int) = ((6 * K + p : Nat) : Int) := by omega
  unfold F_T_put
  rw [h, e, bindM_eq, if_neg (show ¬ (p : Int) < 0 by omega), if_neg (show ¬ 6 ≤ (p : Int) by omega), if_pos (r32_nat (by omega)), if_neg (show ¬ ((6 * K + p : Nat) : Int) < 0 by omega), if_neg (show ¬ ((144 : Nat) : Int) ≤ ((6 * K + p : Nat) : Int) by omega), if_pos (show 0 ≤ ((6 * K + p : Nat) : Int) ∧ ((6 * K + p : Nat) : Int) < 144 by omega), Int.toNat_natCast, bindM_eq]
theorem begL_ok {T K : Nat} (hT : 94 ≤ T) (hK : K < 24) : ∀ (d N j : Nat) (s : Mm), j + d = 6 → d < N → s T 5 = ((K + 1 : Nat) : Int) → ∃ s', L_T_begin_27 N T (j : Int) s = some s' ∧ (∀ k, j ≤ k → k < 6 → s' (T + 16) (6 * K + k) = -1) ∧ (∀ k, k < 6 * K + j → s' (T + 16) k = s (T + 16) k) ∧ ∀ i, i ≠ T + 16 → s' i = s i := by
  intro d
  induction d with
  | zero =>
    intro N j s hj hN h
    obtain ⟨m, rfl⟩ : ∃ m, N = m + 1 := ⟨N - 1, by omega⟩
    rw [L_T_begin_27, if_pos (show 6 ≤ (j : Int) by omega)]
    exact ⟨s, rfl, fun k h1 h2 => by omega, fun _ _ => rfl, fun _ _ => rfl⟩
  | succ d ih =>
    intro N j s hj hN h
    obtain ⟨m, rfl⟩ : ∃ m, N = m + 1 := ⟨N - 1, by omega⟩
    have e : (j : Int) + 1 = ((j + 1 : Nat) : Int) := by omega
    obtain ⟨s', E, k1, k2, k3⟩ := ih m (j + 1) (st2 s (T + 16) (6 * K + j) (-1)) (by omega) (by omega) (by rw [st2_ne (by omega)]; exact h)
    rw [L_T_begin_27, if_neg (show ¬ 6 ≤ (j : Int) by omega), put_raw h (by omega) hK, b0M_some, e, if_pos (r32_nat (by omega)), E]
    refine ⟨s', rfl, fun k h1 h2 => ?_, fun k hk => ?_, fun i hi => ?_⟩
    · by_cases c : k = j
      · rw [c, k2 _ (by omega), st2_ss]
      · exact k1 k (by omega) h2
    · rw [k2 k (by omega), st2_sk, if_neg (by omega)]
    · rw [k3 i hi, st2_ne hi]
/-- a CLAUSE begins -/
theorem begin_ok {s : Mm} {T K : Nat} {kind : Int} (hT : 94 ≤ T) (hK : K < 24) (h : s T 5 = (K : Int)) : ∃ s', F_T_begin T kind s = some s' ∧ s' T 5 = ((K + 1 : Nat) : Int) ∧ s' (T + 16) (6 * K) = kind ∧ (∀ k, 1 ≤ k → k < 6 → s' (T + 16) (6 * K + k) = -1) ∧ (∀ k, k < 6 * K → s' (T + 16) k = s (T + 16) k) ∧ (∀ i, i ≠ T → i ≠ T + 16 → s' i = s i) ∧ (∀ k, k ≠ 5 → s' T k = s T k) := by
  have e : (K : Int) + 1 = ((K + 1 : Nat) : Int) := by omega
  have a5 : st2 s T 5 ((K + 1 : Nat) : Int) T 5 = ((K + 1 : Nat) : Int) := st2_ss _ _ _ _
  obtain ⟨s', E, k1, k2, k3⟩ := begL_ok hT hK 5 LF 1 (st2 (st2 s T 5 ((K + 1 : Nat) : Int)) (T + 16) (6 * K + 0) kind) rfl (by unfold LF; omega) (by rw [st2_ne (by omega)]; exact a5)
  refine ⟨s', ?_, ?_, ?_, k1, fun k hk => ?_, fun i h1 h2 => ?_, fun k hk => ?_⟩
  · have p := put_raw (p := 0) (v := kind) a5 (by omega) hK
    have p : F_T_put T 0 kind (st2 s T 5 ((K + 1 : Nat) : Int)) = _ := p
    have E : L_T_begin_27 LF T 1 (st2 (st2 s T 5 ((K + 1 : Nat) : Int)) (T + 16) (6 * K + 0) kind) = some s' := E
    unfold F_T_begin
    rw [h, if_neg (show ¬ 24 ≤ (K : Int) by omega), e, if_pos (r32_nat (by omega)), bindM_eq, p, b0M_some, E, b0M_some]
  · rw [k3 T (by omega), st2_ne (by omega)]; exact a5
  · rw [k2 _ (by omega)]; exact st2_ss _ _ _ _
  · rw [k2 k (by omega), st2_sk, if_neg (by omega), st2_ne (by omega)]
  · rw [k3 i h2, st2_ne h2, st2_ne h1]
  · rw [k3 T (by omega), st2_ne (by omega), st2_sk, if_neg hk]
theorem kind_n {a b c d : Int} (h : KindR a b c d) : a = 2 ↔ c = 2 := by
  rcases h with ⟨h1, h2⟩ | ⟨h1, h2, h3⟩ | ⟨j, h1, h2, h3, h4⟩ | ⟨h1, h2⟩ | ⟨h1, h2⟩
  · constructor <;> intro q <;> omega
  · constructor <;> intro q <;> omega
  · constructor <;> intro q <;> omega
  · rcases h2 with ⟨h2, h3⟩ | ⟨h2, h3⟩ | ⟨h2, h3⟩
    · unfold sgn at h3; constructor <;> intro q <;> omega
    · constructor <;> intro q <;> omega
    · constructor <;> intro q <;> omega
  · constructor <;> intro q <;> omega
theorem wmap_89 : ∀ j : Nat, j < 27 → (wmap j = 8 ↔ j = 6) ∧ (wmap j = 9 ↔ j = 8) := by decide +kernel
theorem kind_w {a b c d : Int} (h : KindR a b c d) : (a = 306 ↔ (c = 1 ∧ d = 8)) ∧ (a = 308 ↔ (c = 1 ∧ d = 9)) := by
  rcases h with ⟨h1, h2⟩ | ⟨h1, h2, h3⟩ | ⟨j, h1, h2, h3, h4⟩ | ⟨h1, h2⟩ | ⟨h1, h2⟩
  · constructor <;> constructor <;> intro q <;> omega
  · constructor <;> constructor <;> intro q <;> omega
  · obtain ⟨w1, w2⟩ := wmap_89 j h1
    constructor <;> constructor <;> intro q <;> omega
  · rcases h2 with ⟨h2, h3⟩ | ⟨h2, h3⟩ | ⟨h2, h3⟩
    · unfold sgn at h3; constructor <;> constructor <;> intro q <;> omega
    · constructor <;> constructor <;> intro q <;> omega
    · constructor <;> constructor <;> intro q <;> omega
  · constructor <;> constructor <;> intro q <;> omega
theorem kind_v {a b c d : Int} (h : KindR a b c d) (ha : a = 2) : NumR b d := by
  rcases h with ⟨h1, h2⟩ | ⟨h1, h2, h3⟩ | ⟨j, h1, h2, h3, h4⟩ | ⟨h1, h2⟩ | ⟨h1, h2⟩
  · omega
  · exact h3
  · omega
  · rcases h2 with ⟨h2, h3⟩ | ⟨h2, h3⟩ | ⟨h2, h3⟩
    · unfold sgn at h3; omega
    · omega
    · omega
  · omega
/-- a NUMBER is taken -/
theorem num_ok {s u : Mm} {T n e c K p : Nat} {lo hi : Int} (q : IsO 0 9 T) (tok : TokR s u n e) (z : s 90 3 = 0 ∧ u 200 19 = 0) (h15 : s 90 15 = (T : Int)) (h5 : s T 5 = ((K + 1 : Nat) : Int)) (hK : K < 24) (hp : p < 6) (hlo : 0 ≤ lo) (hhi : hi ≤ 9999) (pg : Pg s e c) :
    (∃ t v e2 w, F_R_takeNumber (p : Int) lo hi s = some (1, t) ∧ F_M_number lo hi u = some (w, v) ∧ (lo ≤ w ∧ w ≤ hi) ∧ TokR t v n e2 ∧ Pg t e2 (c + 1) ∧ t (T + 16) (6 * K + p) = w ∧ (∀ k, k ≠ 6 * K + p → t (T + 16) k = s (T + 16) k) ∧ (∀ i, i ≠ 90 → i ≠ T + 16 → t i = s i) ∧ (∀ k, (k < 5 ∨ 8 < k) → t 90 k = s 90 k) ∧ StM u v)
    ∨ (∃ f, 0 < f ∧ F_R_takeNumber (p : Int) lo hi s = some (0, st2 (st2 s 90 3 f) 90 4 (s 90 6)) ∧ F_M_number lo hi u = some (lo, st2 (st2 u 200 19 f) 200 20 (u 200 16))) := by
  have hq := isO9 q
  have hT := hq.1
  have kn := kind_n tok.2.2.2
  have x19 : ¬ 0 < u 200 19 := by omega
  have eC : F_R_takeNumber (p : Int) lo hi s = if s 90 7 = 2 then (if s 90 8 < lo then (b1M (F_R_fail 2 s) fun v2 s2 => some (0, s2)) else if s 90 8 ≤ hi then (if 0 ≤ s 90 15 ∧ IsO 0 9 (s 90 15).toNat then b0M (F_T_put ((s 90 15).toNat) (p : Int) (s 90 8) s) fun s4 => b0M (F_R_step s4) fun s5 => some (1, s5) else none) else (b1M (F_R_fail 2 s) fun v2 s2 => some (0, s2))) else b1M (F_R_fail 1 s) fun v6 s6 => some (0, s6) := by
    unfold F_R_takeNumber
    rw [bindM_eq]
  have eM : F_M_number lo hi u = if u 200 17 = 2 then b1 (F_M_in (u 200 18) lo hi) fun v3 => (if v3 = 0 then b0M (F_M_errs 2 u) fun s4 => some (lo, s4) else b0M (F_M_next u) fun s5 => some (u 200 18, s5)) else b0M (F_M_errs 1 u) fun s2 => some (lo, s2) := by
    unfold F_M_number
    rw [bindM_eq, if_neg x19]
  rw [eC, eM]
  by_cases c2 : s 90 7 = 2
  · obtain ⟨r1, r2, r3, r4⟩ := kind_v tok.2.2.2 c2
    rw [if_pos c2, if_pos (kn.mp c2), in_ok, b1_some]
    by_cases cl : lo ≤ u 200 18 ∧ u 200 18 ≤ hi
    · left
      have es : s 90 8 = u 200 18 := by omega
      have tok1 : TokR (st2 s (T + 16) (6 * K + p) (s 90 8)) u n e := tok.mv (fun k _ => by rw [st2_ne (by omega)]) (st2_ne (by omega)) (fun _ _ _ => rfl) rfl
      obtain ⟨e2, t, v, E1, E2, tok2, s1, s2, p1, p2⟩ := tok1.step
      rw [if_pos cl, if_neg ne10, if_neg (show ¬ s 90 8 < lo by omega), if_pos (show s 90 8 ≤ hi by omega), h15, if_pos (show 0 ≤ (T : Int) ∧ IsO 0 9 (T : Int).toNat from ⟨by omega, q⟩), Int.toNat_natCast, put_raw h5 hp hK, b0M_some, E1, b0M_some, E2, b0M_some]
      have pg1 : Pg (st2 s (T + 16) (6 * K + p) (s 90 8)) e c := by unfold Pg at *; rw [st2_ne (by omega)]; exact pg
      refine ⟨t, v, e2, u 200 18, rfl, rfl, cl, tok2, pg1.go (by rw [st2_ne (by omega)]; omega) p1 p2, ?_, fun k hk => ?_, fun i h1 h2 => ?_, fun k hk => ?_, s2⟩
      · rw [s1.2 (T + 16) (by simp; omega), st2_ss, es]
      · rw [s1.2 (T + 16) (by simp; omega), st2_sk, if_neg hk]
      · rw [s1.2 i (by simpa using h1), st2_ne h2]
      · rw [s1.1 k hk, st2_ne (by omega)]
    · right
      refine ⟨2, by decide, ?_, by rw [if_neg cl, if_pos rfl, err_M z.2, b0M_some]⟩
      rw [err_C z.1, b1M_some]
      by_cases c3 : s 90 8 < lo
      · rw [if_pos c3]
      · rw [if_neg c3, if_neg (show ¬ s 90 8 ≤ hi by omega)]
  · right
    refine ⟨1, by decide, ?_, ?_⟩
    · rw [if_neg c2, err_C z.1, b1M_some]
    · rw [if_neg (fun z => c2 (kn.mpr z)), err_M z.2, b0M_some]
