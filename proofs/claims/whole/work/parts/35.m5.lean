/-! what TWO come to -/
def nmE (E : Nat → Int) (l r ap la : Int) (k : Nat) : Int :=
  if k = 0 then E 40 else if k = 1 then l else if k = 2 then r else if k = 3 then E l.toNat else if k = 4 then E r.toNat else if k = 5 then E (10 + l.toNat) + E (10 + r.toNat) else if k = 6 then ap else if k = 7 then la else bitI (E (30 + l.toNat)) r
def nmF (E : Nat → Int) (f : Int) (k : Nat) : Int :=
  if k = 0 then E 40 else if k = 9 then f else if k = 10 then E f.toNat else if k = 11 then E (10 + f.toNat) else E (20 + f.toNat)
def okw (w : Nat) (k : Int) : Bool := if w = 2 then decide (k = 0 ∨ (9 ≤ k ∧ k ≤ 12)) else decide (0 ≤ k ∧ k ≤ 8)
def evV (nm : Nat → Int) (cs : List Int) : Int := (evS nm [] cs).headD 0
abbrev Law : Type := Option (List Int)
def qv (G : Law) (E : Nat → Int) (l r ap la : Int) : Int := match G with
  | none => bitI (E (30 + l.toNat)) r
  | some cs => if evV (nmE E l r ap la) cs = 0 then 1 else 0
def ov (O : Law) (E : Nat → Int) (l r ap la : Int) : Int := match O with
  | none => 1
  | some cs => max (-99) (min 99 (evV (nmE E l r ap la) cs))
def tw (G O : Law) (E : Nat → Int) (l r k : Int) : Int := if qv G E l r (k / 2) (k % 2) = 1 then ov O E l r (k / 2) (k % 2) else 1000
def mv (M : Law) (E : Nat → Int) (f : Int) : Int := match M with
  | none => E f.toNat
  | some cs => max 0 (min 9 (evV (nmF E f) cs))
/-- what laws ask for is in range -/
def EnvOK (E : Nat → Int) : Prop := (∀ k, k < 10 → 0 ≤ E k ∧ E k ≤ 9) ∧ (∀ k, k < 10 → 0 ≤ E (10 + k) ∧ E (10 + k) ≤ 999) ∧ (∀ k, k < 10 → 0 ≤ E (20 + k) ∧ E (20 + k) ≤ 90000000) ∧ (∀ k, k < 10 → 0 ≤ E (30 + k) ∧ E (30 + k) ≤ 1023) ∧ 0 ≤ E 40 ∧ E 40 ≤ 2000
def LawOK (w : Nat) (L : Law) : Prop := ∀ cs, L = some cs → cs ≠ [] ∧ cs.length ≤ 300 ∧ wfS (okw w) [] cs = some [decide (w = 0)]
/-- a law of a TEXT of the class -/
def LawC (σ : Mm) (t w : Nat) (L : Law) : Prop := match L with
  | none => σ (t + 12) w ≤ σ (t + 8) w
  | some cs => ∃ i : Nat, σ (t + 8) w = (i : Int) ∧ σ (t + 12) w = ((i + cs.length : Nat) : Int) ∧ i + cs.length ≤ 300 ∧ CodeAt (σ (t + 4)) i cs
def LawsC (σ : Mm) (G O M : Law) : Prop := LawOK 0 G ∧ LawOK 1 O ∧ LawOK 2 M ∧ ((σ 2 6 < 0 ∧ G = none ∧ O = none ∧ M = none) ∨ ∃ t : Nat, IsO 0 9 t ∧ σ 2 6 = (t : Int) ∧ LawC σ t 0 G ∧ LawC σ t 1 O ∧ LawC σ t 2 M)
theorem CodeAt.eq {f g : Nat → Int} (h : g = f) {i : Nat} {cs : List Int} (hc : CodeAt f i cs) : CodeAt g i cs := by rw [h]; exact hc
theorem LawC.fr {S : List Nat} {σ τ : Mm} {t w : Nat} {L : Law} (hf : Fr S σ τ) (h4 : t + 4 ∉ S) (h8 : t + 8 ∉ S) (h12 : t + 12 ∉ S) (h : LawC σ t w L) : LawC τ t w L := by
  unfold LawC at *
  rw [hf _ h4, hf _ h8, hf _ h12]
  exact h
theorem LawsC.fr {S : List Nat} {σ τ : Mm} {G O M : Law} (hf : Fr S σ τ) (h2 : τ 2 6 = σ 2 6) (hS : ∀ i ∈ S, i < 98 ∨ 110 ≤ i) (h : LawsC σ G O M) : LawsC τ G O M := by
  obtain ⟨a, b, c, d⟩ := h
  refine ⟨a, b, c, ?_⟩
  rcases d with ⟨d1, d2⟩ | ⟨t, q, d1, d2, d3, d4⟩
  · exact Or.inl ⟨by rw [h2]; exact d1, d2⟩
  · have ht := isO9 q
    have n4 : t + 4 ∉ S := fun z => by have := hS _ z; omega
    have n8 : t + 8 ∉ S := fun z => by have := hS _ z; omega
    have n12 : t + 12 ∉ S := fun z => by have := hS _ z; omega
    exact Or.inr ⟨t, q, by rw [h2]; exact d1, d2.fr hf n4 n8 n12, d3.fr hf n4 n8 n12, d4.fr hf n4 n8 n12⟩
theorem has_ok {t w : Nat} {L : Law} {σ : Mm} (hw : w < 3) (hL : LawOK w L) (h : LawC σ t w L) : F_T_has t (w : Int) σ = some (if L = none then 0 else 1) := by
  unfold F_T_has
  rw [if_pos (by omega), if_pos (by omega)]
  simp only [Int.toNat_natCast]
  match L, hL, h with
  | none, _, h => rw [if_pos (show _ ≤ _ from h)]; rfl
  | some cs, hL, ⟨i, h1, h2, h3, h4⟩ =>
    have := (hL cs rfl).1
    have : 0 < cs.length := List.length_pos_iff.mpr this
    rw [if_neg (by rw [h1, h2]; omega)]; rfl
theorem nmE_bound {E : Nat → Int} (hE : EnvOK E) {l r ap la : Int} (hl : 0 ≤ l ∧ l ≤ 9) (hr : 0 ≤ r ∧ r ≤ 9) (ha : 0 ≤ ap ∧ ap ≤ 1) (hla : 0 ≤ la ∧ la ≤ 1) (k : Nat) : -100000000 ≤ nmE E l r ap la k ∧ nmE E l r ap la k ≤ 100000000 := by
  obtain ⟨h1, h2, h3, h4, h5⟩ := hE
  have a1 := h1 l.toNat (by omega)
  have a2 := h1 r.toNat (by omega)
  have a3 := h2 l.toNat (by omega)
  have a4 := h2 r.toNat (by omega)
  have a5 := bitI_01 (E (30 + l.toNat)) r
  unfold nmE
  repeat' split
  all_goals omega
theorem nmF_bound {E : Nat → Int} (hE : EnvOK E) {f : Int} (hf : 0 ≤ f ∧ f ≤ 9) (k : Nat) : -100000000 ≤ nmF E f k ∧ nmF E f k ≤ 100000000 := by
  obtain ⟨h1, h2, h3, h4, h5⟩ := hE
  have a1 := h1 f.toNat (by omega)
  have a3 := h2 f.toNat (by omega)
  have a4 := h3 f.toNat (by omega)
  unfold nmF
  repeat' split
  all_goals omega
/-- a law is run: what it comes to -/
theorem law_run {t w : Nat} (q : IsO 0 9 t) (hw : w < 3) {cs : List Int} {nm : Nat → Int} {σ : Mm} (hL : LawOK w (some cs)) (hC : LawC σ t w (some cs)) (h26 : σ 2 6 = (t : Int)) (hb : ∀ k : Nat, -100000000 ≤ nm k ∧ nm k ≤ 100000000) (hnm : ∀ k : Int, okw w k = true → 0 ≤ k ∧ k < 13 ∧ σ 4 k.toNat = nm k.toNat) :
    evS nm [] cs = [evV nm cs] ∧ Ty1 (decide (w = 0)) (evV nm cs) ∧ Ok (F_J_run (w : Int) σ) (fun r => r.1 = evV nm cs ∧ Fr [5] σ r.2) := by
  obtain ⟨i, h1, h2, h3, h4⟩ := hC
  obtain ⟨v, hv, hty, hk⟩ := run_ok q (w := (w : Int)) (by omega) (fun k _ => hb k.toNat) h26 (i := i) (by simpa using h1) h4 (by simpa using h2) h3 (hL cs rfl).2.2 hnm
  have e : evV nm cs = v := by unfold evV; rw [hv]; rfl
  rw [e]
  exact ⟨hv, hty, hk⟩
