-- a clause that is no law: its end, its orders
def rEnd (t9 : Mm) : Option Mm :=
  bindM (fun  (t10 : Mm) =>
    if t10 200 19 = 0 then
      b0M (F_M_clauseIsOver  t10) fun s11 =>
      some s11
    else
      some t10) fun J10 =>
  if t9 200 19 = 0 then
    b1 (F_M_isSign 59 t9) fun v12 =>
    if v12 = 0 then
      b0M (F_M_errs 1 t9) fun s13 =>
      J10 s13
    else
      J10 t9
  else
    J10 t9
theorem rEnd_bad {u : Mm} (h : ¬ u 200 19 = 0) : rEnd u = some u := by
  unfold rEnd
  rw [bindM_eq, if_neg h]
  dsimp only
  rw [if_neg h]
theorem rEnd_no {u : Mm} (h : u 200 19 = 0) (h2 : ¬ (u 200 17 = 3 ∧ u 200 18 = 59)) : rEnd u = some (st2 (st2 u 200 19 1) 200 20 (u 200 16)) := by
  unfold rEnd
  rw [bindM_eq, if_pos h, isS, b1_some, if_neg h2, if_pos rfl, err_M h, b0M_some]
  dsimp only
  rw [if_neg (by rw [st2_sk, if_neg (by decide), st2_ss]; decide)]
/-- what the end of a clause that is no law does in the reference -/
def Cio (u v : Mm) (K Om : Nat) : Prop := (∀ i, i ≠ 200 → i ≠ 221 → i ≠ 222 → v i = u i) ∧ (v 200 22 = 0 ∧ v 200 25 = 0 ∧ v 200 21 = u 200 21 ∧ v 200 28 = 4 ∧ v 200 29 = ((K + 1 : Nat) : Int) ∧ v 200 36 = ((Om + 1 : Nat) : Int) ∧ v 200 19 = 0) ∧ (∀ k, k < Om → v 221 k = u 221 k ∧ v 222 k = u 222 k) ∧ ∀ k, (k < 15 ∨ 36 < k) → v 200 k = u 200 k
theorem semi_ok {s u : Mm} {n e c K Om : Nat} (tok : TokR s u n e) (z : s 90 3 = 0 ∧ u 200 19 = 0) (m25 : u 200 25 = 0) (m36 : u 200 36 = (Om : Int)) (hOm : Om < 400) (m29 : u 200 29 = (K : Int)) (hK : K < 1000) (pg : Pg s e c) :
    (∃ t v e2, F_R_takeToken 59 s = some (1, t) ∧ rEnd u = some v ∧ TokR t v n e2 ∧ Pg t e2 (c + 1) ∧ StC s t ∧ Cio u v K Om)
    ∨ (F_R_takeToken 59 s = some (0, st2 (st2 s 90 3 1) 90 4 (s 90 6)) ∧ rEnd u = some (st2 (st2 u 200 19 1) 200 20 (u 200 16))) := by
  have ks := kind_s (x := 59) tok.2.2.2 (by unfold sgn; omega)
  by_cases c59 : s 90 7 = 59
  · left
    have W : F_M_works 1 u = some u := by
      unfold F_M_works
      have : L_M_works_0 LF 1 u = some u := by
        show L_M_works_0 (999999 + 1) 1 u = some u
        rw [L_M_works_0, m25, if_pos (Int.le_refl 0)]
      rw [this, b0M_some]
    have a36 : st2 u 200 22 0 200 36 = (Om : Int) := by rw [st2_sk, if_neg (by decide)]; exact m36
    have E2 := emits_raw (o := 408) (v := 0) a36 hOm
    have b29 : em3 (st2 u 200 22 0) Om 408 0 200 29 + 1 = ((K + 1 : Nat) : Int) := by rw [em3_0 (by decide), st2_sk, if_neg (by decide), m29]; rfl
    have off : ∀ i, i ≠ 200 → i ≠ 221 → i ≠ 222 → st2 (em3 (st2 u 200 22 0) Om 408 0) 200 29 ((K + 1 : Nat) : Int) i = u i := fun i h1 h2 h3 => by rw [st2_ne h1, em3_off h1 h2 h3, st2_ne h1]
    have on0 : ∀ k, k ≠ 22 → k ≠ 29 → k ≠ 36 → st2 (em3 (st2 u 200 22 0) Om 408 0) 200 29 ((K + 1 : Nat) : Int) 200 k = u 200 k := fun k h1 h2 h3 => by rw [st2_sk, if_neg h2, em3_0 h3, st2_sk, if_neg h1]
    have tok1 : TokR s (st2 (em3 (st2 u 200 22 0) Om 408 0) 200 29 ((K + 1 : Nat) : Int)) n e := tok.mv (fun _ _ => rfl) rfl (fun k h1 h2 => on0 k (by omega) (by omega) (by omega)) (off 203 (by decide) (by decide) (by decide))
    obtain ⟨e2, t, v, E3, E4, tok2, s1, s2, p1, p2⟩ := tok1.step
    refine ⟨t, st2 v 200 28 4, e2, ?_, ?_, tok2.mv (fun _ _ => rfl) rfl (fun k h1 h2 => by rw [st2_sk, if_neg (by omega)]) (st2_ne (by decide)), pg.go (by omega) p1 p2, s1, fun i h1 h2 h3 => ?_, ⟨?_, ?_, ?_, ?_, ?_, ?_, ?_⟩, fun k hk => ?_, fun k hk => ?_⟩
    · unfold F_R_takeToken
      rw [if_pos c59, E3, b0M_some]
    · unfold rEnd
      rw [bindM_eq, if_pos z.2, isS, b1_some, if_pos (ks.mp c59), if_neg ne10]
      dsimp only
      rw [if_pos z.2]
      unfold F_M_clauseIsOver
      rw [W, b0M_some, bindM_eq, E2, b0M_some, b29, if_pos (r32_nat (by omega)), bindM_eq, E4, b0M_some, bindM_eq, b0M_some]
    · rw [st2_ne h1, s2.2 i (by simpa using h1)]; exact off i h1 h2 h3
    · rw [st2_sk, if_neg (by decide), s2.1 22 (by omega), st2_sk, if_neg (by decide), em3_0 (by decide), st2_ss]
    · rw [st2_sk, if_neg (by decide), s2.1 25 (by omega), on0 25 (by decide) (by decide) (by decide)]; exact m25
    · rw [st2_sk, if_neg (by decide), s2.1 21 (by omega), on0 21 (by decide) (by decide) (by decide)]
    · rw [st2_ss]
    · rw [st2_sk, if_neg (by decide), s2.1 29 (by omega), st2_ss]
    · rw [st2_sk, if_neg (by decide), s2.1 36 (by omega), st2_sk, if_neg (by decide)]; exact em3_36
    · rw [st2_sk, if_neg (by decide), s2.1 19 (by omega), on0 19 (by decide) (by decide) (by decide)]; exact z.2
    · rw [st2_ne (by decide), st2_ne (by decide), s2.2 221 (by decide), s2.2 222 (by decide), st2_ne (by decide), st2_ne (by decide), em3_221, if_neg (by omega), em3_222, if_neg (by omega), st2_ne (by decide), st2_ne (by decide)]; exact ⟨rfl, rfl⟩
    · rw [st2_sk, if_neg (by omega), s2.1 k (by omega)]; exact on0 k (by omega) (by omega) (by omega)
  · right
    refine ⟨?_, rEnd_no z.2 (fun z => c59 (ks.mpr z))⟩
    unfold F_R_takeToken
    rw [if_neg c59, err_C z.1, b1M_some]
/-- a clause that is no law, behind its first word: well read on both sides -/
def SucR (s t u v : Mm) (T n K Om e c : Nat) : Prop :=
  TokR t v n e ∧ (t 90 3 = 0 ∧ v 200 19 = 0) ∧ Pg t e c ∧ ((∀ i, i ≠ 90 → i ≠ T + 16 → t i = s i) ∧ (∀ k, (k < 5 ∨ 8 < k) → t 90 k = s 90 k) ∧ ∀ k, k < 6 * K → t (T + 16) k = s (T + 16) k)
  ∧ ((∀ i, i ≠ 200 → (i < 218 ∨ 222 < i) → v i = u i) ∧ (∀ k, k < K → v 218 k = u 218 k ∧ v 219 k = u 219 k) ∧ (∀ k, k < 4 * K → v 220 k = u 220 k) ∧ (∀ k, k < Om → v 221 k = u 221 k ∧ v 222 k = u 222 k) ∧ ∀ k, (k < 15 ∨ 36 < k) → v 200 k = u 200 k)
  ∧ (v 200 22 = 0 ∧ v 200 25 = 0 ∧ v 200 21 = u 200 21 ∧ v 200 28 = 4 ∧ v 200 29 = ((K + 1 : Nat) : Int) ∧ v 200 36 = ((Om + 1 : Nat) : Int))
  ∧ ClR (fun j => t (T + 16) (6 * K + j)) (u 216 K) (v 218 K) (v 219 K) (fun i => v 220 (4 * K + i))
def ErrT (s t u v : Mm) (T : Nat) : Prop := ErrR t v ∧ TC s t T ∧ TM u v
def dJ (one two : Int) (t1 : Mm) : Option Mm :=
  if 0 ≤ t1 200 29 ∧ t1 200 29 < 24 then
    bindM (st2 t1 218 ((t1 200 29).toNat) one) fun s2 =>
    if 0 ≤ s2 200 29 ∧ s2 200 29 < 24 then
      bindM (st2 s2 219 ((s2 200 29).toNat) two) fun s3 =>
      some s3
    else none
  else none
theorem dJ_ok {u : Mm} {K : Nat} {one two : Int} (h : u 200 29 = (K : Int)) (hK : K < 24) : dJ one two u = some (st2 (st2 u 218 K one) 219 K two) := by
  have e : st2 u 218 K one 200 29 = (K : Int) := by rw [st2_ne (by decide)]; exact h
  unfold dJ
  rw [h, if_pos (show 0 ≤ (K : Int) ∧ (K : Int) < 24 by omega), Int.toNat_natCast, bindM_eq, e, if_pos (show 0 ≤ (K : Int) ∧ (K : Int) < 24 by omega), Int.toNat_natCast, bindM_eq]
theorem ErrR.put {s u : Mm} {j k : Nat} {x : Int} (h : ErrR s u) (hj : ¬ j = 200) : ErrR s (st2 u j k x) := by
  obtain ⟨h1, h2, h3⟩ := h
  exact ⟨by rw [st2_ne (fun q => hj q.symm)]; exact h1, by rw [st2_ne (fun q => hj q.symm)]; exact h2, by rw [st2_ne (fun q => hj q.symm)]; exact h3⟩
theorem do_4 {u : Mm} (h : u 200 30 = 4) : F_M_doing u = b1M (F_M_number 0 11 u) fun v5 s5 => dJ v5 (-1) s5 := by
  unfold F_M_doing dJ
  rw [bindM_eq, if_pos h]
theorem do_5 {u : Mm} (h : u 200 30 = 5) : F_M_doing u = b1M (F_M_number 0 9 u) fun v7 s7 => b1M (F_M_numberBehind 8 0 9 s7) fun v8 s8 => dJ v7 v8 s8 := by
  unfold F_M_doing dJ
  rw [bindM_eq, if_neg (by omega), if_pos h]
theorem do_6 {u : Mm} (h : u 200 30 = 6) : F_M_doing u = b1M (F_M_number 0 9 u) fun v7 s7 => b1M (F_M_numberBehind 9 0 9 s7) fun v8 s8 => dJ v7 v8 s8 := by
  unfold F_M_doing dJ
  rw [bindM_eq, if_neg (by omega), if_neg (by omega), if_pos h]
theorem do_7 {u : Mm} (h : u 200 30 = 7) : F_M_doing u = b1M (F_M_number 1 60 u) fun v5 s5 => dJ v5 (-1) s5 := by
  unfold F_M_doing dJ
  rw [bindM_eq, if_neg (by omega), if_neg (by omega), if_neg (by omega)]
