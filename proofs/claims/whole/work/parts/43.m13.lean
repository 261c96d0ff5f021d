/-- what is laid in the reference to be reckoned -/
def Laid (σ : Mm) (p : Nat) (mn : Int) : Prop := p ≤ 4 ∧ 1 ≤ p ∧ 0 ≤ mn ∧ mn ≤ 15 ∧ σ 200 48 = (p : Int) ∧ σ 200 49 = mn ∧ ∀ i, i < p → 0 ≤ σ 229 i ∧ σ 229 i ≤ 9999
def qL (T : TW) : DL → Int
  | [] => 0
  | (d, _) :: t => sumL (q0 T) d t
theorem drw_ne {nums : Nat → Int} {p : Nat} (h : 1 ≤ p) : ∃ d k t, drw nums p = (d, k) :: t := by
  have := drw_len nums p
  match hd : drw nums p with
  | [] => rw [hd] at this; simp at this; omega
  | (d, k) :: t => exact ⟨d, k, t, rfl⟩
abbrev SM : List Nat := [200, 223, 224, 230, 231, 232]
theorem outNow_ok {σ : Mm} {G O M : Law} (hM : MOK σ G O M) {p : Nat} {mn : Int} (hL : Laid σ p mn) : Ok (F_M_outNow σ) (fun r => r.1 = trs mn (σ 229) p + offL (tw G O (EM σ)) (drw (σ 229) p) ∧ Fr SM σ r.2 ∧ (∀ s, s ≠ 53 → r.2 200 s = σ 200 s) ∧ MRow (r.2 230) (r.2 231) (r.2 232) (drw (σ 229) p) ∧ r.2 200 53 = ((drw (σ 229) p).length : Int)) := by
  obtain ⟨h1, h2, h3, h4, h5, h6, h7⟩ := hL
  unfold F_M_outNow
  refine Ok.b0M (laysDigits_ok h1 h5 h7) (fun τ hτ => ?_)
  obtain ⟨t1, t2, t3, t4⟩ := hτ
  have e229 : τ 229 = σ 229 := t3 229 (by decide)
  have ht := trueNow_ok ⟨h3, h4⟩ h1 (σ := τ) (by rw [e229]; exact h7) (by rw [t4 48 (by decide)]; exact h5) (by rw [t4 49 (by decide)]; exact h6)
  rw [e229] at ht
  refine Ok.b1 (Ok.eq ht) (fun x hx => ?_)
  subst hx
  have hM2 : MOK τ G O M := hM.fr t3 (by rw [t3 201 (by decide)]) (t4 45 (by decide)) (by decide)
  have hE2 : EM τ = EM σ := EM_fr t3 (t4 45 (by decide)) (by decide)
  have hok := drw_ok (nums := σ 229) (k := p) (fun i hi => (h7 i hi).1)
  have hlen := drw_len (σ 229) p
  have hb := trs_bd (mn := mn) (k := p) h7
  obtain ⟨d, k, t, hd⟩ := drw_ne (nums := σ 229) h2
  rw [hd] at t1 t2 hok hlen ⊢
  simp only [List.length_cons] at t2 hlen
  refine Ok.b1M (outNow_loop (E := EM σ) t LF 0 _ d τ (by unfold LF; omega) hM2 hE2 (by rw [t2]; congr 1; omega) (by omega) t1.1 ⟨hok.1.1, hok.1.2.1⟩ t1.2 hok.2 (by omega)) (fun a s hs => Ok.ret ⟨hs.1, ?_, ?_, ?_, ?_⟩)
  · exact (t3.w (by decide)).tr (Fr.w (S := [223, 224]) hs.2 (by decide))
  · intro s9 h9
    have hf : Fr [223, 224] τ s := hs.2
    show s 200 s9 = _
    rw [hf 200 (by decide)]; exact t4 s9 h9
  · have hf : Fr [223, 224] τ s := hs.2
    show MRow (s 230) (s 231) (s 232) _
    rw [hf 230 (by decide), hf 231 (by decide), hf 232 (by decide)]; exact t1
  · have hf : Fr [223, 224] τ s := hs.2
    show s 200 53 = _
    rw [hf 200 (by decide)]; simpa using t2
theorem quarrelsNow_ok {σ : Mm} {G O M : Law} (hM : MOK σ G O M) {p : Nat} {mn : Int} (hL : Laid σ p mn) : Ok (F_M_quarrelsNow σ) (fun r => r.1 = qL (tw G O (EM σ)) (drw (σ 229) p) ∧ Fr SM σ r.2 ∧ (∀ s, s ≠ 53 → r.2 200 s = σ 200 s)) := by
  obtain ⟨h1, h2, h3, h4, h5, h6, h7⟩ := hL
  unfold F_M_quarrelsNow
  refine Ok.b0M (laysDigits_ok h1 h5 h7) (fun τ hτ => ?_)
  obtain ⟨t1, t2, t3, t4⟩ := hτ
  have hM2 : MOK τ G O M := hM.fr t3 (by rw [t3 201 (by decide)]) (t4 45 (by decide)) (by decide)
  have hE2 : EM τ = EM σ := EM_fr t3 (t4 45 (by decide)) (by decide)
  have hok := drw_ok (nums := σ 229) (k := p) (fun i hi => (h7 i hi).1)
  have hlen := drw_len (σ 229) p
  obtain ⟨d, k, t, hd⟩ := drw_ne (nums := σ 229) h2
  rw [hd] at t1 t2 hok hlen ⊢
  simp only [List.length_cons] at t2 hlen
  refine Ok.b1M (quarrels_loop (E := EM σ) t LF 0 0 d τ (by unfold LF; omega) hM2 hE2 (by rw [t2]; congr 1; omega) (by omega) t1.1 ⟨hok.1.1, hok.1.2.1⟩ t1.2 hok.2 (by omega)) (fun a s hs => Ok.ret ⟨?_, ?_, ?_⟩)
  · have : a = 0 + sumL (q0 (tw G O (EM σ))) d t := hs.1
    show a = sumL (q0 (tw G O (EM σ))) d t
    rw [this, Int.zero_add]
  · exact (t3.w (by decide)).tr (Fr.w (S := [223, 224]) hs.2 (by decide))
  · intro s9 h9
    have hf : Fr [223, 224] τ s := hs.2
    show s 200 s9 = _
    rw [hf 200 (by decide)]; exact t4 s9 h9
/-! what RECKONING does -/
def bump (E : Nat → Int) (i : Nat) : Nat → Int := fun j => if j = i then E j + 1 else E j
def incQ (T : TW) : Int → DL → (Nat → Int) → (Nat → Int)
  | _, [], E => E
  | d, (e, m) :: t, E => incQ T e t (if T d e m = 1000 then E else bump (bump E (20 + d.toNat)) (20 + e.toNat))
def useD : DL → (Nat → Int) → (Nat → Int)
  | [], E => E
  | (d, _) :: t, E => useD t (fun j => if j = 10 + d.toNat then min 999 (E j + 1) else E j)
/-- alike but for QUARRELS -/
def EqQ (E F : Nat → Int) : Prop := ∀ k, ¬ (20 ≤ k ∧ k < 30) → F k = E k
theorem EqQ.rf {E : Nat → Int} : EqQ E E := fun _ _ => rfl
theorem EqQ.tr {E F H : Nat → Int} (h : EqQ E F) (k : EqQ F H) : EqQ E H := fun i hi => (k i hi).trans (h i hi)
theorem EqQ_bump {E F : Nat → Int} {i : Nat} (h : EqQ E F) (hi : i < 10) : EqQ E (bump F (20 + i)) := fun k hk => by
  unfold bump
  rw [if_neg (by omega)]; exact h k hk
theorem nmE_cong {E F : Nat → Int} (h : EqQ E F) {l r ap la : Int} (hl : 0 ≤ l ∧ l ≤ 9) (hr : 0 ≤ r ∧ r ≤ 9) : nmE F l r ap la = nmE E l r ap la := by
  funext k
  unfold nmE
  rw [h 40 (by omega), h l.toNat (by omega), h r.toNat (by omega), h (10 + l.toNat) (by omega), h (10 + r.toNat) (by omega), h (30 + l.toNat) (by omega)]
theorem tw_cong {G O : Law} {E F : Nat → Int} (h : EqQ E F) {l r k : Int} (hl : 0 ≤ l ∧ l ≤ 9) (hr : 0 ≤ r ∧ r ≤ 9) : tw G O F l r k = tw G O E l r k := by
  unfold tw qv ov
  rw [nmE_cong h hl hr, h (30 + l.toNat) (by omega)]
theorem qv_cong {G : Law} {E F : Nat → Int} (h : EqQ E F) {l r ap la : Int} (hl : 0 ≤ l ∧ l ≤ 9) (hr : 0 ≤ r ∧ r ≤ 9) : qv G F l r ap la = qv G E l r ap la := by
  unfold qv
  rw [nmE_cong h hl hr, h (30 + l.toNat) (by omega)]
def QB (E : Nat → Int) (B : Int) : Prop := ∀ k, k < 10 → 0 ≤ E (20 + k) ∧ E (20 + k) ≤ B
theorem QB_bump {E : Nat → Int} {B : Int} {i : Nat} (h : QB E B) : QB (bump E (20 + i)) (B + 1) := fun k hk => by
  have := h k hk
  unfold bump
  split <;> omega
theorem EnvOK.q {E F : Nat → Int} (h : EnvOK E) (he : EqQ E F) {B : Int} (hb : QB F B) (hB : B ≤ 90000000) : EnvOK F := by
  obtain ⟨h1, h2, h3, h4, h5⟩ := h
  refine ⟨fun k hk => ?_, fun k hk => ?_, fun k hk => ?_, fun k hk => ?_, ?_⟩
  · rw [he k (by omega)]; exact h1 k hk
  · rw [he (10 + k) (by omega)]; exact h2 k hk
  · have := hb k hk; omega
  · rw [he (30 + k) (by omega)]; exact h4 k hk
  · rw [he 40 (by omega)]; exact h5
theorem EM_q {σ : Mm} {k : Nat} {x : Int} (hk : k < 10) : EM (st2 σ 227 k x) = fun j => if j = 20 + k then x else EM σ j := by
  funext j
  unfold EM
  simp only [st2_f, Nat.reduceEqDiff, reduceIte]
  by_cases h : j = 20 + k
  · subst h
    rw [if_neg (by omega), if_neg (by omega), if_pos (by omega), if_pos rfl, if_pos (by omega)]
  · rw [if_neg h]
    repeat' split
    all_goals first | rfl | (exfalso; omega)
theorem EM_u {σ : Mm} {k : Nat} {x : Int} (hk : k < 10) : EM (st2 σ 226 k x) = fun j => if j = 10 + k then x else EM σ j := by
  funext j
  unfold EM
  simp only [st2_f, Nat.reduceEqDiff, reduceIte]
  by_cases h : j = 10 + k
  · subst h
    rw [if_neg (by omega), if_pos (by omega), if_pos rfl, if_pos (by omega)]
  · rw [if_neg h]
    repeat' split
    all_goals first | rfl | (exfalso; omega)
