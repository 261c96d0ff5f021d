-- a clause on both sides: how it begins
def rDs (v1 : Int) (s9 : Mm) : Option Mm :=
  if v1 = 3 then
    b0M (F_R_readRow  s9) fun s11 =>
    some s11
  else
    if v1 = 4 then
      b0M (F_R_readOrder 0 11 ((-1)) s9) fun s13 =>
      some s13
    else
      if v1 = 5 then
        b0M (F_R_readOrder 0 9 306 s9) fun s15 =>
        some s15
      else
        if v1 = 6 then
          b0M (F_R_readLaw v1 s9) fun s17 =>
          some s17
        else
          if v1 = 7 then
            b0M (F_R_readOrder 0 9 308 s9) fun s19 =>
            some s19
          else
            if v1 = 8 then
              b0M (F_R_readLaw v1 s9) fun s21 =>
              some s21
            else
              if v1 = 9 then
                b0M (F_R_readOrder 1 60 ((-1)) s9) fun s23 =>
                some s23
              else
                b0M (F_R_readLaw v1 s9) fun s24 =>
                some s24
def rJ5 (v1 : Int) (σ : Mm) : Option Mm :=
  if 0 ≤ σ 90 15 ∧ IsO 0 9 (σ 90 15).toNat then
    if σ ((σ 90 15).toNat) 5 < 24 then
      if 0 ≤ σ 90 15 ∧ IsO 0 9 (σ 90 15).toNat then
        b0M (F_T_begin ((σ 90 15).toNat) v1 σ) fun s8 =>
        b0M (F_R_step  s8) fun s9 =>
        rDs v1 s9
      else none
    else
      b1M (F_R_fail 6 σ) fun v25 s25 =>
      some s25
  else none
theorem rc_bad {s : Mm} {x : Int} (h7 : s 90 7 = x) (hr : -1000 ≤ x ∧ x ≤ 1000) (h : x < 300 ∨ 309 < x ∨ x = 306 ∨ x = 308) : F_R_readClause s = b1M (F_R_fail 1 s) fun v4 s4 => some s4 := by
  unfold F_R_readClause
  rw [h7, bindM_eq, if_pos (show r32 (x - 300) from ⟨by omega, by omega⟩), bindM_eq, bindM_eq]
  dsimp only
  rw [if_pos (show (0 : Int) = 0 from rfl)]
  by_cases a : x - 300 < 0
  · rw [if_pos a]
  · by_cases b : 9 < x - 300
    · rw [if_neg a, if_pos b]
    · by_cases c : x - 300 = 6
      · rw [if_neg a, if_neg b, if_pos c]
      · rw [if_neg a, if_neg b, if_neg c, if_pos (show x - 300 = 8 by omega)]
theorem rc_go {s : Mm} {x : Int} (h7 : s 90 7 = 300 + x) (h : 0 ≤ x ∧ x ≤ 9 ∧ ¬ x = 6 ∧ ¬ x = 8) : F_R_readClause s = if 2 < x then rJ5 x s else (if 0 ≤ s 90 15 ∧ IsO 0 9 (s 90 15).toNat then b1 (F_T_has ((s 90 15).toNat) x s) fun v27 => if v27 = 0 then rJ5 x s else b1M (F_R_fail 4 s) fun v28 s28 => some s28 else none) := by
  have e : 300 + x - 300 = x := by omega
  unfold F_R_readClause rJ5 rDs
  rw [h7, e, bindM_eq, if_pos (show r32 x from ⟨by omega, by omega⟩), bindM_eq, bindM_eq]
  dsimp only
  rw [if_neg (show ¬ x < 0 by omega), if_neg (show ¬ 9 < x by omega), if_neg h.2.2.1, if_neg h.2.2.2, if_neg ne10, bindM_eq]
def cJ5 (t5 : Mm) : Option Mm :=
  if t5 200 19 ≤ 0 then
    if 0 ≤ t5 200 29 ∧ t5 200 29 < 24 then
      bindM (st2 t5 216 ((t5 200 29).toNat) (t5 200 30)) fun s6 =>
      if 0 ≤ s6 200 29 ∧ s6 200 29 < 24 then
        bindM (st2 s6 217 ((s6 200 29).toNat) (s6 200 36)) fun s7 =>
        b0M (F_M_next  s7) fun s8 =>
        if 2 < s8 200 30 then
          if s8 200 30 = 3 then
            b0M (F_M_rowTold  s8) fun s14 =>
            rEnd s14
          else
            b0M (F_M_doing  s8) fun s15 =>
            rEnd s15
        else
          bindM ((if s8 200 30 = 0 then 2 else 1 : Int)) fun v16 =>
          b0M (F_M_opensFrame v16 s8) fun s17 =>
          bindM ((if s17 200 30 = 0 then 0 else 1 : Int)) fun v18 =>
          bindM (st2 s17 200 28 v18) fun s20 =>
          some s20
      else none
    else none
  else
    some t5
theorem cl_bad {u : Mm} (h19 : u 200 19 = 0) (h : ¬ (u 200 17 = 1 ∧ u 200 18 ≤ 7)) : F_M_clause u = some (st2 (st2 u 200 19 1) 200 20 (u 200 16)) := by
  unfold F_M_clause
  rw [bindM_eq, err_M h19, b0M_some]
  by_cases a : u 200 17 = 1
  · rw [if_pos a, if_neg (fun q => h ⟨a, q⟩)]
  · rw [if_neg a]
theorem cl_go {u : Mm} (h17 : u 200 17 = 1) (h18 : u 200 18 ≤ 7) : F_M_clause u = (if 2 < st2 u 200 30 (u 200 18) 200 30 then (if st2 u 200 30 (u 200 18) 200 29 = 24 then b0M (F_M_errs 6 (st2 u 200 30 (u 200 18))) fun s22 => cJ5 s22 else cJ5 (st2 u 200 30 (u 200 18))) else b1 (F_M_wasTold (st2 u 200 30 (u 200 18) 200 30) (st2 u 200 30 (u 200 18))) fun v23 => if v23 = 0 then (if st2 u 200 30 (u 200 18) 200 29 = 24 then b0M (F_M_errs 6 (st2 u 200 30 (u 200 18))) fun s22 => cJ5 s22 else cJ5 (st2 u 200 30 (u 200 18))) else b0M (F_M_errs 4 (st2 u 200 30 (u 200 18))) fun s24 => cJ5 s24) := by
  unfold F_M_clause cJ5 rEnd
  rw [bindM_eq, if_pos h17, if_pos h18, bindM_eq, bindM_eq, bindM_eq]
  rfl
theorem cJ5_bad {t : Mm} (h : 0 < t 200 19) : cJ5 t = some t := by
  unfold cJ5
  rw [if_neg (by omega)]
/-- the reference goes into a clause -/
theorem cJ5_go {u u8 : Mm} {K Om : Nat} {w : Int} (h19 : u 200 19 = 0) (h29 : u 200 29 = (K : Int)) (hK : K < 24) (h30 : u 200 30 = w) (h36 : u 200 36 = (Om : Int)) (hn : F_M_next (st2 (st2 u 216 K w) 217 K (Om : Int)) = some u8) (h8 : u8 200 30 = w) : cJ5 u = if 2 < w then (if w = 3 then b0M (F_M_rowTold u8) fun s14 => rEnd s14 else b0M (F_M_doing u8) fun s15 => rEnd s15) else b0M (F_M_opensFrame (if w = 0 then 2 else 1) u8) fun s17 => bindM ((if s17 200 30 = 0 then 0 else 1 : Int)) fun v18 => bindM (st2 s17 200 28 v18) fun s20 => some s20 := by
  have a29 : st2 u 216 K w 200 29 = (K : Int) := by rw [st2_ne (by decide)]; exact h29
  have a36 : st2 u 216 K w 200 36 = (Om : Int) := by rw [st2_ne (by decide)]; exact h36
  unfold cJ5
  rw [if_pos (show u 200 19 ≤ 0 by omega), h29, if_pos (show 0 ≤ (K : Int) ∧ (K : Int) < 24 by omega), Int.toNat_natCast, h30, bindM_eq, a29, if_pos (show 0 ≤ (K : Int) ∧ (K : Int) < 24 by omega), Int.toNat_natCast, a36, bindM_eq, hn, b0M_some, h8, bindM_eq]
theorem wm_le : ∀ j : Nat, j < 27 → (wmap j ≤ 7 ↔ (j ≤ 9 ∧ ¬ j = 6 ∧ ¬ j = 8)) ∧ (j ≤ 5 → wmap j = j) ∧ (j = 7 → wmap j = 6) ∧ (j = 9 → wmap j = 7) := by decide +kernel
def PS (s u : Mm) (T n K S Om e c : Nat) (Ls : Nat → Law) : Prop :=
  TokR s u n e ∧ (s 90 3 = 0 ∧ u 200 19 = 0) ∧ (s 90 15 = (T : Int) ∧ s T 4 = (S : Int) ∧ s T 5 = (K : Int) ∧ K ≤ 24) ∧ (u 200 29 = (K : Int) ∧ u 200 36 = (Om : Int) ∧ Om ≤ S + K) ∧ (u 200 22 = 0 ∧ u 200 25 = 0 ∧ u 200 21 = 0 ∧ u 200 28 = 4) ∧ (Pg s e c ∧ S ≤ c)
  ∧ (∀ k, k < K → ClR (fun j => s (T + 16) (6 * k + j)) (u 216 k) (u 218 k) (u 219 k) (fun i => u 220 (4 * k + i)) ∧ 0 ≤ u 217 k ∧ u 217 k ≤ 400) ∧ ∀ w, w < 3 → LawOK w (Ls w) ∧ LwX s T w S (Ls w) ∧ LwY u w K Om (Ls w)
theorem ClR.cong {f f2 : Nat → Int} {wd one two : Int} {rw rw2 : Nat → Int} (h : ClR f wd one two rw) (hf : ∀ j, j < 6 → f2 j = f j) (hr : ∀ i, i < 4 → rw2 i = rw i) : ClR f2 wd one two rw2 := by
  rcases h with ⟨a, b⟩ | ⟨a, b, p, p1, p4, c, d, e, g, k, l⟩ | ⟨a, b, c, d⟩ | ⟨a, b, c, d, e⟩ | ⟨a, b, c, d, e⟩ | ⟨a, b, c, d⟩
  · exact Or.inl ⟨by rw [hf 0 (by decide)]; exact a, b⟩
  · exact Or.inr (Or.inl ⟨by rw [hf 0 (by decide)]; exact a, b, p, p1, p4, c, by rw [hf 5 (by decide)]; exact d, e, g, fun i hi => by rw [hf _ (by omega), hr i (by omega)]; exact k i hi, fun i h1 h2 => by rw [hf _ (by omega)]; exact l i h1 h2⟩)
  · exact Or.inr (Or.inr (Or.inl ⟨by rw [hf 0 (by decide)]; exact a, b, by rw [hf 1 (by decide)]; exact c, d⟩))
  · exact Or.inr (Or.inr (Or.inr (Or.inl ⟨by rw [hf 0 (by decide)]; exact a, b, by rw [hf 1 (by decide)]; exact c, by rw [hf 2 (by decide)]; exact d, e⟩)))
  · exact Or.inr (Or.inr (Or.inr (Or.inr (Or.inl ⟨by rw [hf 0 (by decide)]; exact a, b, by rw [hf 1 (by decide)]; exact c, by rw [hf 2 (by decide)]; exact d, e⟩))))
  · exact Or.inr (Or.inr (Or.inr (Or.inr (Or.inr ⟨by rw [hf 0 (by decide)]; exact a, b, by rw [hf 1 (by decide)]; exact c, d⟩))))
theorem LwX.on {s t : Mm} {T w S S2 : Nat} {L : Law} (h : LwX s T w S L) (hS : S ≤ S2) (h8 : t (T + 8) w = s (T + 8) w) (h12 : t (T + 12) w = s (T + 12) w) (h4 : ∀ k, k < S → t (T + 4) k = s (T + 4) k) : LwX t T w S2 L := by
  match L, h with
  | none, h => show t (T + 12) w ≤ t (T + 8) w; rw [h8, h12]; exact h
  | some cs, ⟨i, a, b, c, d⟩ => exact ⟨i, by rw [h8]; exact a, by rw [h12]; exact b, by omega, d.on (fun k _ k2 => h4 k (by omega))⟩
theorem LwY.on {u v : Mm} {w K Om Om2 : Nat} {L : Law} (h : LwY u w K Om L) (hO : Om ≤ Om2) (h16 : ∀ k, k < K → v 216 k = u 216 k) (h17 : ∀ k, k < K → v 217 k = u 217 k) (hk : ¬ v 216 K = (w : Int)) (h21 : ∀ k, k < Om → v 221 k = u 221 k ∧ v 222 k = u 222 k) : LwY v w (K + 1) Om2 L := by
  match L, h with
  | none, h =>
    intro k hkk
    by_cases c : k = K
    · rw [c]; exact hk
    · rw [h16 k (by omega)]; exact h k (by omega)
  | some cs, ⟨i, ⟨k, k1, k2⟩, b, d, e⟩ =>
    refine ⟨i, ⟨k, by omega, by rw [h16 k k1]; exact k2⟩, fun j hj hw => ?_, d.on (fun k _ k2 => h21 k (by omega)), by omega⟩
    by_cases c : j = K
    · rw [c] at hw; exact absurd hw hk
    · rw [h16 j (by omega)] at hw
      rw [h17 j (by omega)]; exact b j (by omega) hw
