-- `split` on both sides
def At (f : Nat → Int) (q : List Nat) : Prop := ∀ i, i < q.length → f i = ((q.getD i 0 : Nat) : Int)
def xs3 (a b c : Int) (k : Nat) : Int := if k = 0 then a else if k = 1 then b else c
theorem bit0 : ∀ k : Nat, k < 4 → bitI 0 (k : Int) = 0 := by decide +kernel
theorem lays_M {μ ν : Mm} {G O M : Law} {E : Nat → Int} (h : MJ μ ν G O M E) {p : Nat} {a b c : Int} (h1 : 1 ≤ p) (h3 : p ≤ 3) (hn : ∀ i, i < p → NN (xs3 a b c i)) : ∃ s, F_M_laysParts (p : Int) a b c ν = some s ∧ MJ μ s G O M E ∧ Laid s p 0 ∧ (∀ i, i < 3 → s 229 i = xs3 a b c i) ∧ Fr [200, 229] ν s := by
  refine ⟨st2 (st2 (st2 (st2 (st2 ν 200 48 (p : Int)) 200 49 0) 229 0 a) 229 1 b) 229 2 c, rfl, ?_⟩
  have f : Fr [200, 229] ν (st2 (st2 (st2 (st2 (st2 ν 200 48 (p : Int)) 200 49 0) 229 0 a) 229 1 b) 229 2 c) := ((((Fr.rf.st (by decide)).st (by decide)).st (by decide)).st (by decide)).st (by decide)
  have v0 : ∀ i, i < 3 → st2 (st2 (st2 (st2 (st2 ν 200 48 (p : Int)) 200 49 0) 229 0 a) 229 1 b) 229 2 c 229 i = xs3 a b c i := fun i hi => by
    have : i = 0 ∨ i = 1 ∨ i = 2 := by omega
    rcases this with rfl | rfl | rfl <;> simp [st2_f, xs3]
  refine ⟨h.fr f (by decide) (fun k hk => ?_), ⟨by omega, by omega, by omega, by omega, by simp [st2_f], by simp [st2_f], fun i hi => ?_⟩, v0, f⟩
  · rw [st2_ne (by decide), st2_ne (by decide), st2_ne (by decide), st2_sk, if_neg (by omega), st2_sk, if_neg (by omega)]
  · rw [v0 i (by omega)]; exact hn i hi
theorem trs0 {nums : Nat → Int} : ∀ {p : Nat}, p ≤ 4 → trs 0 nums p = (match p with | 0 => 0 | 1 => nums 0 | 2 => nums 0 + nums 1 | 3 => nums 0 + nums 1 + nums 2 | _ => trs 0 nums p)
  | 0, _ => rfl
  | 1, _ => by simp only [trs, bit0 0 (by omega)]; simp
  | 2, _ => by simp only [trs, bit0 0 (by omega), bit0 1 (by omega)]; simp
  | 3, _ => by simp only [trs, bit0 0 (by omega), bit0 1 (by omega), bit0 2 (by omega)]; simp
  | n + 4, _ => rfl
/-- the reference's row of plain NUMBERS -/
theorem plain_E {μ ν : Mm} {G O M : Law} {E : Nat → Int} (h : MJ μ ν G O M E) {p : Nat} {a b c : Int} (h1 : 1 ≤ p) (h3 : p ≤ 3) (hn : ∀ i, i < p → NN (xs3 a b c i)) :
    ∃ t, MJ μ t G O M E ∧ (∀ i, i < 3 → t 229 i = xs3 a b c i) ∧ ∀ {α : Type} (f : Int → Mm → Option α), (b0M (F_M_laysParts (p : Int) a b c ν) fun s => b1M (F_M_outNow s) f) = f (trs 0 (xs3 a b c) p + offN (tw G O E) (xs3 a b c) p) t := by
  obtain ⟨s, E1, mj, L, hv, f1⟩ := lays_M h h1 h3 hn
  obtain ⟨⟨v, t⟩, E2, t1, t2, t3, -⟩ := mj.out L
  have t1 : v = trs 0 (s 229) p + offL (tw G O E) (drw (s 229) p) := t1
  have t3 : Fr SM s t := t3
  rw [trs_cong (g := xs3 a b c) (fun i hi => hv i (by omega)), drw_cong (g := xs3 a b c) (fun i hi => hv i (by omega)), offL_eq h1 hn] at t1
  refine ⟨t, t2, fun i hi => by rw [t3 229 (by decide)]; exact hv i hi, fun f => ?_⟩
  rw [E1, b0M_some, E2, b1M_some, t1]
theorem plain1 {μ ν : Mm} {G O M : Law} {E : Nat → Int} (h : MJ μ ν G O M E) {a : Int} (ha : NN a) : ∃ t, MJ μ t G O M E ∧ t 229 0 = a ∧ ∀ {α : Type} (f : Int → Mm → Option α), (b0M (F_M_laysParts 1 a 0 0 ν) fun s => b1M (F_M_outNow s) f) = f (a + wi (tw G O E) a) t := by
  obtain ⟨t, ht, hv, hf⟩ := plain_E h (p := 1) (a := a) (b := 0) (c := 0) (by omega) (by omega) (fun i hi => by
    have : i = 0 := by omega
    subst this; exact ha)
  rw [trs0 (by omega)] at hf
  exact ⟨t, ht, hv 0 (by omega), hf⟩
theorem plain2 {μ ν : Mm} {G O M : Law} {E : Nat → Int} (h : MJ μ ν G O M E) {a b : Int} (ha : NN a) (hb : NN b) : ∃ t, MJ μ t G O M E ∧ (t 229 0 = a ∧ t 229 1 = b) ∧ ∀ {α : Type} (f : Int → Mm → Option α), (b0M (F_M_laysParts 2 a b 0 ν) fun s => b1M (F_M_outNow s) f) = f (a + b + off2 (tw G O E) a b) t := by
  obtain ⟨t, ht, hv, hf⟩ := plain_E h (p := 2) (a := a) (b := b) (c := 0) (by omega) (by omega) (fun i hi => by
    have : i = 0 ∨ i = 1 := by omega
    rcases this with rfl | rfl
    · exact ha
    · exact hb)
  rw [trs0 (by omega)] at hf
  exact ⟨t, ht, ⟨hv 0 (by omega), hv 1 (by omega)⟩, hf⟩
theorem plain3 {μ ν : Mm} {G O M : Law} {E : Nat → Int} (h : MJ μ ν G O M E) {a b c : Int} (ha : NN a) (hb : NN b) (hc : NN c) : ∃ t, MJ μ t G O M E ∧ (t 229 0 = a ∧ t 229 1 = b ∧ t 229 2 = c) ∧ ∀ {α : Type} (f : Int → Mm → Option α), (b0M (F_M_laysParts 3 a b c ν) fun s => b1M (F_M_outNow s) f) = f (a + b + c + off3 (tw G O E) a b c) t := by
  obtain ⟨t, ht, hv, hf⟩ := plain_E h (p := 3) (a := a) (b := b) (c := c) (by omega) (by omega) (fun i hi => by
    have : i = 0 ∨ i = 1 ∨ i = 2 := by omega
    rcases this with rfl | rfl | rfl
    · exact ha
    · exact hb
    · exact hc)
  rw [trs0 (by omega)] at hf
  exact ⟨t, ht, ⟨hv 0 (by omega), hv 1 (by omega), hv 2 (by omega)⟩, hf⟩
theorem splits1 {μ ν : Mm} {G O M : Law} {E : Nat → Int} (h : MJ μ ν G O M E) {n : Nat} (h1 : 1 ≤ n) (h2 : n ≤ 99) :
    (∃ t, MJ μ t G O M E ∧ ((wi (tw G O E) (n : Int) = 0 ∧ F_M_splits (n : Int) 1 ν = some (1, t) ∧ At (t 229) [n]) ∨ (¬ wi (tw G O E) (n : Int) = 0 ∧ F_M_splits (n : Int) 1 ν = some (0, t)))) := by
  obtain ⟨t, ht, hv, hf⟩ := plain1 h (a := (n : Int)) ⟨by omega, by omega⟩
  refine ⟨t, ht, ?_⟩
  unfold F_M_splits
  rw [if_pos rfl, hf]
  by_cases hq : wi (tw G O E) (n : Int) = 0
  · refine Or.inl ⟨hq, by rw [if_pos (by omega)], fun i hi => ?_⟩
    have : i = 0 := by simp at hi; omega
    subst this
    rw [hv]; rfl
  · exact Or.inr ⟨hq, by rw [if_neg (by omega)]⟩
theorem splits2 {μ ν : Mm} {G O M : Law} {E : Nat → Int} (h : MJ μ ν G O M E) {n : Nat} (h1 : 1 ≤ n) (h2 : n ≤ 99) :
    (∃ t, MJ μ t G O M E ∧ ((∃ q, tryN (sp2 (tw G O E) n) (n - 1) 1 = some q ∧ F_M_splits (n : Int) 2 ν = some (1, t) ∧ At (t 229) q) ∨ (tryN (sp2 (tw G O E) n) (n - 1) 1 = none ∧ F_M_splits (n : Int) 2 ν = some (0, t)))) := by
  unfold F_M_splits
  rw [if_neg (by decide)]
  have l29 := loop_try (L := fun N j s => L_M_splits_29 N (n : Int) 2 j s) (P := fun s => MJ μ s G O M E) (Q := fun q z => z.1 = 1 ∧ MJ μ z.2 G O M E ∧ At (z.2 229) q) (x := (n : Int)) (g := sp2 (tw G O E) n) (fun n s _ => by rw [L_M_splits_29, if_pos (Int.le_refl _)]) (m := n - 1) (i := 1) (N := LF) (by omega) (by unfold LF; omega) h (fun N a s ha1 ha hs => by
    have e2 : (a : Int) + 1 = ((a + 1 : Nat) : Int) := by omega
    have ed : ((n : Int) - (a : Int)) = ((n - a : Nat) : Int) := by omega
    obtain ⟨t, ht, hv, hf⟩ := plain2 hs (a := (a : Int)) (b := ((n - a : Nat) : Int)) ⟨by omega, by omega⟩ ⟨by omega, by omega⟩
    rw [L_M_splits_29, if_neg (show ¬ (n : Int) ≤ (a : Int) by omega)]
    simp only [bindM_eq, if_true, ed, e2, if_pos (show r32 ((n - a : Nat) : Int) from ⟨by omega, by omega⟩), if_pos (show r32 ((a + 1 : Nat) : Int) from ⟨by omega, by omega⟩)]
    rw [hf]
    unfold sp2
    rw [ed]
    by_cases hq : off2 (tw G O E) (a : Int) ((n - a : Nat) : Int) = 0
    · rw [if_pos hq, if_pos (by omega)]
      refine Or.inl ⟨[a, n - a], _, rfl, rfl, rfl, ht, fun i hi => ?_⟩
      have : i = 0 ∨ i = 1 := by simp at hi; omega
      rcases this with rfl | rfl
      · exact hv.1
      · exact hv.2
    · rw [if_neg hq, if_neg (by omega)]
      exact Or.inr ⟨rfl, t, rfl, ht⟩)
  rcases l29 with ⟨q, z, q1, q2, q3⟩ | ⟨q1, z, q2, q3⟩
  · have q2 : L_M_splits_29 LF (n : Int) 2 1 ν = some (.inl z) := q2
    rw [q2, b0MS_l]
    exact ⟨z.2, q3.2.1, Or.inl ⟨q, q1, by rw [← q3.1], q3.2.2⟩⟩
  · have q2 : L_M_splits_29 LF (n : Int) 2 1 ν = some (.inr z) := q2
    rw [q2, b0MS_r]
    exact ⟨z, q3, Or.inr ⟨q1, rfl⟩⟩
theorem splits62 {μ s : Mm} {G O M : Law} {E : Nat → Int} {n a : Nat} (h1 : 1 ≤ n) (h2 : n ≤ 99) (ha1 : 1 ≤ a) (ha : (a : Int) < n) (hs : MJ μ s G O M E) : (∃ q z, sp3a (tw G O E) n a = some q ∧ L_M_splits_62 LF (n : Int) (a : Int) ((1 : Nat) : Int) s = some (.inl z) ∧ (z.1 = 1 ∧ MJ μ z.2 G O M E ∧ At (z.2 229) q)) ∨ (sp3a (tw G O E) n a = none ∧ ∃ z, L_M_splits_62 LF (n : Int) (a : Int) ((1 : Nat) : Int) s = some (.inr z) ∧ MJ μ z G O M E) := by
  refine loop_try (L := fun N j s => L_M_splits_62 N (n : Int) (a : Int) j s) (P := fun s => MJ μ s G O M E) (Q := fun q z => z.1 = 1 ∧ MJ μ z.2 G O M E ∧ At (z.2 229) q) (x := ((n - a : Nat) : Int)) (g := sp3 (tw G O E) n a) (fun N s _ => by rw [L_M_splits_62, if_pos (show r32 ((a : Int) + ((n - a : Nat) : Int)) from ⟨by omega, by omega⟩), if_pos (by omega)]) (m := n - a - 1) (i := 1) (N := LF) (by omega) (by unfold LF; omega) hs (fun N b s hb1 hb hs => ?_)
  have e2 : (b : Int) + 1 = ((b + 1 : Nat) : Int) := by omega
  have ec : (n : Int) - (a : Int) - (b : Int) = ((n - a - b : Nat) : Int) := by omega
  obtain ⟨t, ht, hv, hf⟩ := plain3 hs (a := (a : Int)) (b := (b : Int)) (c := ((n - a - b : Nat) : Int)) ⟨by omega, by omega⟩ ⟨by omega, by omega⟩ ⟨by omega, by omega⟩
  rw [L_M_splits_62, if_pos (show r32 ((a : Int) + (b : Int)) from ⟨by omega, by omega⟩), if_neg (show ¬ (n : Int) ≤ (a : Int) + (b : Int) by omega), ec, if_pos (show r32 ((n - a - b : Nat) : Int) from ⟨by omega, by omega⟩)]
  simp only [e2, if_pos (show r32 ((b + 1 : Nat) : Int) from ⟨by omega, by omega⟩)]
  rw [hf]
  unfold sp3
  rw [ec]
  by_cases hq : off3 (tw G O E) (a : Int) (b : Int) ((n - a - b : Nat) : Int) = 0
  · rw [if_pos hq, if_pos (by omega)]
    refine Or.inl ⟨[a, b, n - a - b], _, rfl, rfl, rfl, ht, fun i hi => ?_⟩
    have : i = 0 ∨ i = 1 ∨ i = 2 := by simp at hi; omega
    rcases this with rfl | rfl | rfl
    · exact hv.1
    · exact hv.2.1
    · exact hv.2.2
  · rw [if_neg hq, if_neg (by omega)]
    exact Or.inr ⟨rfl, t, rfl, ht⟩
theorem splits3 {μ ν : Mm} {G O M : Law} {E : Nat → Int} (h : MJ μ ν G O M E) {n : Nat} (h1 : 1 ≤ n) (h2 : n ≤ 99) :
    (∃ t, MJ μ t G O M E ∧ ((∃ q, tryN (sp3a (tw G O E) n) (n - 1) 1 = some q ∧ F_M_splits (n : Int) 3 ν = some (1, t) ∧ At (t 229) q) ∨ (tryN (sp3a (tw G O E) n) (n - 1) 1 = none ∧ F_M_splits (n : Int) 3 ν = some (0, t)))) := by
  unfold F_M_splits
  rw [if_neg (by decide)]
  have l29 := loop_try (L := fun N j s => L_M_splits_29 N (n : Int) 3 j s) (P := fun s => MJ μ s G O M E) (Q := fun q z => z.1 = 1 ∧ MJ μ z.2 G O M E ∧ At (z.2 229) q) (x := (n : Int)) (g := sp3a (tw G O E) n) (fun n s _ => by rw [L_M_splits_29, if_pos (Int.le_refl _)]) (m := n - 1) (i := 1) (N := LF) (by omega) (by unfold LF; omega) h (fun N a s ha1 ha hs => by
    have e2 : (a : Int) + 1 = ((a + 1 : Nat) : Int) := by omega
    rw [L_M_splits_29, if_neg (show ¬ (n : Int) ≤ (a : Int) by omega), bindM_eq, if_neg (show ¬ (3 : Int) = 2 by decide)]
    rcases splits62 h1 h2 ha1 ha hs with ⟨q, z, q1, q2, q3⟩ | ⟨q1, z, q2, q3⟩
    · rw [show ((1 : Nat) : Int) = 1 from rfl] at q2
      rw [q2, b0MS_l]
      exact Or.inl ⟨q, z, q1, rfl, q3⟩
    · rw [show ((1 : Nat) : Int) = 1 from rfl] at q2
      rw [q2, b0MS_r]
      dsimp only
      rw [e2, if_pos (show r32 ((a + 1 : Nat) : Int) from ⟨by omega, by omega⟩)]
      exact Or.inr ⟨q1, z, rfl, q3⟩)
  rcases l29 with ⟨q, z, q1, q2, q3⟩ | ⟨q1, z, q2, q3⟩
  · have q2 : L_M_splits_29 LF (n : Int) 3 1 ν = some (.inl z) := q2
    rw [q2, b0MS_l]
    exact ⟨z.2, q3.2.1, Or.inl ⟨q, q1, by rw [← q3.1], q3.2.2⟩⟩
  · have q2 : L_M_splits_29 LF (n : Int) 3 1 ν = some (.inr z) := q2
    rw [q2, b0MS_r]
    exact ⟨z, q3, Or.inr ⟨q1, rfl⟩⟩
/-- what is answered of a split -/
def resS (q : List Nat) (x : Int) : Int := if x = -1 then (q.length : Int) else if (q.length : Int) ≤ x then -1 else ((q.getD x.toNat 0 : Nat) : Int)
theorem resS_key {q : List Nat} {x : Int} (h1 : -1 ≤ x) (h2 : x ≤ 2) (s : Mm) {e a b c : Int} (h0 : 0 ≤ e) (ha : e / 10000 = a) (hb : e / 100 % 100 = b) (hc : e % 100 = c) (h3 : 1 ≤ a ∧ 0 ≤ b ∧ 0 ≤ c) (hlen : (q.length : Int) = (if c ≤ 0 then (if b ≤ 0 then 1 else 2) else 3)) (hget : ∀ i, i < q.length → ((q.getD i 0 : Nat) : Int) = xs3 a b c i) (n1 : (q.length : Int) ≤ 1 → b = 0) (n2 : (q.length : Int) ≤ 2 → c = 0) (n3 : 2 ≤ (q.length : Int) → 1 ≤ b) (n4 : 3 ≤ (q.length : Int) → 1 ≤ c) :
    (if e = (-1) then some ((-1 : Int), s) else bindM (((e).tdiv 100).tmod 100) fun v2 =>
            if x = (-1) then
              if (e).tmod 100 ≤ 0 then
                if v2 ≤ 0 then
                  some (1, s)
                else
                  some (2, s)
              else
                some (3, s)
            else
              bindM (fun (y3 : Int) =>
                if y3 ≤ 0 then
                  some ((-1), s)
                else
                  some (y3, s)) fun J3 =>
              if x = 0 then
                J3 ((e).tdiv 10000)
              else
                if x = 1 then
                  J3 v2
                else
                  J3 ((e).tmod 100)) = some (resS q x, s) := by
  have t1 : e.tdiv 100 = e / 100 := Int.tdiv_eq_ediv_of_nonneg h0
  have t2 : (e / 100).tmod 100 = e / 100 % 100 := Int.tmod_eq_emod_of_nonneg (by omega)
  have t3 : e.tmod 100 = e % 100 := Int.tmod_eq_emod_of_nonneg h0
  have t4 : e.tdiv 10000 = e / 10000 := Int.tdiv_eq_ediv_of_nonneg h0
  rw [if_neg (by omega), t1, t2, t3, t4, ha, hb, hc]
  simp only [bindM_eq]
  unfold resS
  by_cases x1 : x = -1
  · simp only [if_pos x1]
    rw [hlen]
    by_cases c0 : c ≤ 0
    · simp only [if_pos c0]
      by_cases b0 : b ≤ 0
      · simp only [if_pos b0]
      · simp only [if_neg b0]
    · simp only [if_neg c0]
  · simp only [if_neg x1]
    by_cases x0 : x = 0
    · subst x0
      rw [if_pos rfl, if_neg (by omega), if_neg (by omega)]
      have := hget 0 (by omega)
      rw [show (0 : Int).toNat = 0 from rfl, this]; rfl
    · rw [if_neg x0]
      by_cases x2 : x = 1
      · subst x2
        rw [if_pos rfl]
        by_cases hl2 : (q.length : Int) ≤ 1
        · rw [if_pos hl2, if_pos (by have := n1 hl2; omega)]
        · have := hget 1 (by omega)
          rw [if_neg hl2, if_neg (by have := n3 (by omega); omega), show (1 : Int).toNat = 1 from rfl, this]; rfl
      · have x3 : x = 2 := by omega
        subst x3
        rw [if_neg x2]
        by_cases hl2 : (q.length : Int) ≤ 2
        · rw [if_pos hl2, if_pos (by have := n2 hl2; omega)]
        · have := hget 2 (by omega)
          rw [if_neg hl2, if_neg (by have := n4 (by omega); omega), show (2 : Int).toNat = 2 from rfl, this]; rfl

theorem resS_C {q : List Nat} (hq : SpOK q) {x : Int} (h1 : -1 ≤ x) (h2 : x ≤ 2) (s : Mm) :
    (if enc3 q = (-1) then some ((-1 : Int), s) else bindM (((enc3 q).tdiv 100).tmod 100) fun v2 =>
            if x = (-1) then
              if (enc3 q).tmod 100 ≤ 0 then
                if v2 ≤ 0 then
                  some (1, s)
                else
                  some (2, s)
              else
                some (3, s)
            else
              bindM (fun (y3 : Int) =>
                if y3 ≤ 0 then
                  some ((-1), s)
                else
                  some (y3, s)) fun J3 =>
              if x = 0 then
                J3 ((enc3 q).tdiv 10000)
              else
                if x = 1 then
                  J3 v2
                else
                  J3 ((enc3 q).tmod 100)) = some (resS q x, s) := by
  obtain ⟨hl, hb⟩ := hq
  match q, hl, hb with
  | [a], _, hb =>
    have ha := hb a (by simp)
    refine resS_key (e := (a : Int) * 10000) (a := a) (b := 0) (c := 0) h1 h2 s (by omega) (by omega) (by omega) (by omega) (by omega) (by simp) (fun i hi => ?_) (by omega) (by omega) (by simp) (by simp)
    have : i = 0 := by simp at hi; omega
    subst this; rfl
  | [a, b], _, hb =>
    have ha := hb a (by simp)
    have hb2 := hb b (by simp)
    refine resS_key (e := (a : Int) * 10000 + (b : Int) * 100) (a := a) (b := b) (c := 0) h1 h2 s (by omega) (by omega) (by omega) (by omega) (by omega) ?_ (fun i hi => ?_) (by simp) (by omega) (by omega) (by simp)
    · rw [if_pos (by omega), if_neg (by omega)]; rfl
    · have : i = 0 ∨ i = 1 := by simp at hi; omega
      rcases this with rfl | rfl <;> rfl
  | [a, b, c], _, hb =>
    have ha := hb a (by simp)
    have hb2 := hb b (by simp)
    have hc := hb c (by simp)
    refine resS_key (e := (a : Int) * 10000 + (b : Int) * 100 + (c : Int)) (a := a) (b := b) (c := c) h1 h2 s (by omega) (by omega) (by omega) (by omega) (by omega) ?_ (fun i hi => ?_) (by simp) (by simp) (by omega) (by omega)
    · rw [if_neg (by omega)]; rfl
    · have : i = 0 ∨ i = 1 ∨ i = 2 := by simp at hi; omega
      rcases this with rfl | rfl | rfl <;> rfl
theorem split_rel {σ μ : Mm} {B R : Int} (h : Rel σ μ B R) (hB : B + 400 ≤ 90000000) (hR : R + 1000 < 2147483647) (x y : Int) : Op (F_A_split x y σ) (F_M_split x y μ) B (R + 1000) := by
  obtain ⟨G, O, M, hN, hE⟩ := id h
  have hr := hN.round
  have out : Rel σ μ B (R + 1000) := h.w (Int.le_refl _) (by omega)
  unfold F_A_split F_M_split
  rw [in_ok, b1_some]
  by_cases hx : 1 ≤ x ∧ x ≤ 99
  · rw [if_neg (show ¬ x < 1 by omega), if_neg (show ¬ 99 < x by omega), if_pos hx, if_neg ne10]
    by_cases hy : y < -1
    · rw [if_pos hy, if_neg (show ¬ -1 ≤ y by omega)]; exact Op.ret rfl out
    · rw [if_neg hy, if_pos (show -1 ≤ y by omega)]
      obtain ⟨n, rfl⟩ := Int.eq_ofNat_of_zero_le (show 0 ≤ x by omega)
      obtain ⟨ν, E1, mj, -⟩ := hN.lays
      rw [E1, b0M_some]
      -- what the reference answers once it has a split
      have refM : ∀ (N k : Nat) (s t : Mm) (q : List Nat), 1 ≤ k → k ≤ 3 → q.length = k → MJ μ t G O M (σ 3) → At (t 229) q → F_M_splits (n : Int) (k : Int) s = some (1, t) → L_M_split_23 (N + 1) (n : Int) y (k : Int) s = some (.inl (resS q y, t)) := fun N k s t q k1 k3 hq ht hat hs => by
        rw [L_M_split_23, if_neg (show ¬ (4 : Int) ≤ (k : Int) by omega), hs, b1M_some, if_neg ne10]
        unfold resS
        rw [hq]
        by_cases y1 : y = -1
        · rw [if_pos y1, if_pos y1]
        · rw [if_neg y1, if_neg y1]
          by_cases y2 : (k : Int) ≤ y
          · rw [if_pos y2, if_pos y2]
          · rw [if_neg y2, if_neg y2, if_pos (show 0 ≤ y ∧ y < 4 by omega), hat y.toNat (by omega)]
      have refN : ∀ (N k : Nat) (s t : Mm), 1 ≤ k → k ≤ 3 → F_M_splits (n : Int) (k : Int) s = some (0, t) → L_M_split_23 (N + 1) (n : Int) y (k : Int) s = L_M_split_23 N (n : Int) y ((k + 1 : Nat) : Int) t := fun N k s t k1 k3 hs => by
        have e2 : (k : Int) + 1 = ((k + 1 : Nat) : Int) := by omega
        rw [L_M_split_23, if_neg (show ¬ (4 : Int) ≤ (k : Int) by omega), hs, b1M_some, if_pos rfl, e2, if_pos (show r32 ((k + 1 : Nat) : Int) from ⟨by omega, by omega⟩)]
      have lf : LF = 999996 + 1 + 1 + 1 + 1 := rfl
      have fin : ∀ (q : List Nat) (s t : Mm), SpOK q → CJ σ s G O M 1 → MJ μ t G O M (σ 3) → F_E_bestSplit (n : Int) σ = some (enc3 q, s) → L_M_split_23 LF (n : Int) y 1 ν = some (.inl (resS q y, t)) → Op (if y ≤ 2 then b1M (F_E_bestSplit (n : Int) σ) fun v1 s1 => if v1 = (-1) then some ((-1), s1) else bindM ((v1.tdiv 100).tmod 100) fun v2 => if y = (-1) then if v1.tmod 100 ≤ 0 then if v2 ≤ 0 then some (1, s1) else some (2, s1) else some (3, s1) else bindM (fun (y3 : Int) => if y3 ≤ 0 then some ((-1), s1) else some (y3, s1)) fun J3 => if y = 0 then J3 (v1.tdiv 10000) else if y = 1 then J3 v2 else J3 (v1.tmod 100) else some ((-1), σ)) (b0MS (L_M_split_23 LF (n : Int) y 1 ν) (fun y => some y) fun s5 => some ((-1), s5)) B (R + 1000) := fun q s t hq hs ht E2 E3 => by
        rw [E3, b0MS_l]
        by_cases y2 : y ≤ 2
        · rw [if_pos y2, E2, b1M_some, resS_C hq (by omega) y2 s]
          exact Op.ret rfl (h.shut (n := 1) (by omega) (by omega) hs ht)
        · rw [if_neg y2]
          refine Op.ret ?_ (h.askM ht.2.2 |>.w (Int.le_refl _) (by omega))
          unfold resS
          rw [if_neg (by omega), if_pos (by have := hq.1; omega)]
      obtain ⟨t1, m1, c1⟩ := splits1 mj (n := n) (by omega) (by omega)
      rcases bestSplit_ok hN (by omega) (by omega) (n := n) (by omega) (by omega) with ⟨hw, s, Es, hs⟩ | ⟨hw, c2⟩
      · rcases c1 with ⟨-, g1, g2⟩ | ⟨g1, -⟩
        · refine fin [n] s t1 ⟨Or.inl rfl, fun c hc => by simp at hc; omega⟩ hs m1 Es ?_
          rw [lf]
          exact refM _ 1 ν t1 [n] (by omega) (by omega) rfl m1 g2 g1
        · exact absurd hw g1
      · rcases c1 with ⟨g1, -⟩ | ⟨-, g1⟩
        · exact absurd g1 hw
        · have step1 : L_M_split_23 LF (n : Int) y 1 ν = L_M_split_23 (999996 + 1 + 1 + 1) (n : Int) y ((2 : Nat) : Int) t1 := by
            rw [lf]; exact refN _ 1 ν t1 (by omega) (by omega) g1
          obtain ⟨t2, m2, c3⟩ := splits2 m1 (n := n) (by omega) (by omega)
          rcases c2 with ⟨q, s, q1, q2, q3, q4, q5⟩ | ⟨q1, c2⟩
          · rcases c3 with ⟨p, p1, p2, p3⟩ | ⟨p1, -⟩
            · have e : p = q := by
                have := p1.symm.trans q1
                injection this
              subst e
              refine fin p s t2 q3 q5 m2 q4 ?_
              rw [step1]
              exact refM _ 2 t1 t2 p (by omega) (by omega) q2 m2 p3 p2
            · exact nomatch q1.symm.trans p1
          · rcases c3 with ⟨p, p1, p2, p3⟩ | ⟨-, p2⟩
            · exact nomatch q1.symm.trans p1
            · have step2 : L_M_split_23 LF (n : Int) y 1 ν = L_M_split_23 (999996 + 1 + 1) (n : Int) y ((3 : Nat) : Int) t2 := by
                rw [step1]; exact refN _ 2 t1 t2 (by omega) (by omega) p2
              obtain ⟨t3, m3, c4⟩ := splits3 m2 (n := n) (by omega) (by omega)
              rcases c2 with ⟨q, s, r1, q2, q3, q4, q5⟩ | ⟨r1, s, q4, q5⟩
              · rcases c4 with ⟨p, p1, p2, p3⟩ | ⟨p1, -⟩
                · have e : p = q := by
                    have := p1.symm.trans r1
                    injection this
                  subst e
                  refine fin p s t3 q3 q5 m3 q4 ?_
                  rw [step2]
                  exact refM _ 3 t2 t3 p (by omega) (by omega) q2 m3 p3 p2
                · exact nomatch r1.symm.trans p1
              · rcases c4 with ⟨p, p1, p2, p3⟩ | ⟨-, p2⟩
                · exact nomatch r1.symm.trans p1
                · have step3 : L_M_split_23 LF (n : Int) y 1 ν = some (.inr t3) := by
                    rw [step2, refN _ 3 t2 t3 (by omega) (by omega) p2, L_M_split_23, if_pos (by decide)]
                  rw [step3, b0MS_r]
                  by_cases y2 : y ≤ 2
                  · rw [if_pos y2, q4, b1M_some, if_pos rfl]
                    exact Op.ret rfl (h.shut (n := 1) (by omega) (by omega) q5 m3)
                  · rw [if_neg y2]
                    exact Op.ret rfl (h.askM m3.2.2 |>.w (Int.le_refl _) (by omega))
  · rw [if_neg hx, if_pos rfl]
    by_cases h1 : x < 1
    · rw [if_pos h1]; exact Op.ret rfl out
    · rw [if_neg h1, if_pos (by omega)]; exact Op.ret rfl out
