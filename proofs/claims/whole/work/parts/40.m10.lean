/-! the reference: a laid row -/
def MOK (σ : Mm) (G O M : Law) : Prop := LawsM σ G O M ∧ LawOK 0 G ∧ LawOK 1 O ∧ LawOK 2 M ∧ EnvOK (EM σ)
theorem MOK.fr {S : List Nat} {σ τ : Mm} {G O M : Law} (h : MOK σ G O M) (hf : Fr S σ τ) (h2 : τ 201 2 = σ 201 2) (h1 : τ 200 45 = σ 200 45) (hS : ∀ i ∈ S, (i < 204 ∨ 211 < i) ∧ (i < 225 ∨ 228 < i)) : MOK τ G O M :=
  ⟨h.1.fr hf h2 (fun i hi => (hS i hi).1), h.2.1, h.2.2.1, h.2.2.2.1, by rw [EM_fr hf h1 (fun i hi => (hS i hi).2)]; exact h.2.2.2.2⟩
theorem MOK.f2 {σ τ : Mm} {G O M : Law} (h : MOK σ G O M) (hf : Fr [223, 224] σ τ) : MOK τ G O M := h.fr hf (by rw [hf 201 (by decide)]) (by rw [hf 200 (by decide)]) (by decide)
theorem EM_f2 {σ τ : Mm} (hf : Fr [223, 224] σ τ) : EM τ = EM σ := EM_fr hf (by rw [hf 200 (by decide)]) (by decide)
def MDR (f g h : Nat → Int) : Nat → DL → Prop
  | _, [] => True
  | i, (e, m) :: t => f i = e ∧ (if g (i - 1) = g i then (0 : Int) else 1) = m / 2 ∧ (if h i = 0 then (0 : Int) else 1) = m % 2 ∧ MDR f g h (i + 1) t
theorem qv_01 {G : Law} {E : Nat → Int} {l r ap la : Int} : qv G E l r ap la = 0 ∨ qv G E l r ap la = 1 := by
  unfold qv
  match G with
  | none => exact bitI_01 _ _
  | some cs => simp only; split <;> omega
theorem ov_bd {O : Law} {E : Nat → Int} {l r ap la : Int} : -99 ≤ ov O E l r ap la ∧ ov O E l r ap la ≤ 99 := by
  unfold ov
  match O with
  | none => simp
  | some cs => simp only; omega
theorem t0_qv {G O : Law} {E : Nat → Int} {l r k : Int} : t0 (tw G O E) l r k = if qv G E l r (k / 2) (k % 2) = 1 then ov O E l r (k / 2) (k % 2) else 0 := by
  have := ov_bd (O := O) (E := E) (l := l) (r := r) (ap := k / 2) (la := k % 2)
  unfold t0 tw
  by_cases h : qv G E l r (k / 2) (k % 2) = 1
  · rw [if_pos h, if_pos h, if_neg (by omega)]
  · rw [if_neg h, if_neg h, if_pos rfl]
theorem q0_qv {G O : Law} {E : Nat → Int} {l r k : Int} : q0 (tw G O E) l r k = qv G E l r (k / 2) (k % 2) := by
  have := ov_bd (O := O) (E := E) (l := l) (r := r) (ap := k / 2) (la := k % 2)
  have h2 := qv_01 (G := G) (E := E) (l := l) (r := r) (ap := k / 2) (la := k % 2)
  unfold q0 tw
  by_cases h : qv G E l r (k / 2) (k % 2) = 1
  · rw [if_pos h, if_neg (by omega), h]
  · rw [if_neg h, if_pos rfl]; omega
theorem quarrelAt_ok {σ : Mm} {G O M : Law} (hM : MOK σ G O M) {i : Nat} {d e m : Int} (hi : i + 1 < 16) (hd : σ 230 i = d) (hd2 : 0 ≤ d ∧ d ≤ 9) (he2 : 0 ≤ e ∧ e ≤ 9) (hm2 : 0 ≤ m ∧ m ≤ 3) {t : DL} (hR : MDR (σ 230) (σ 231) (σ 232) (i + 1) ((e, m) :: t)) :
    Ok (F_M_quarrelAt (i : Int) σ) (fun x => x.1 = qv G (EM σ) d e (m / 2) (m % 2) ∧ Fr [223, 224] σ x.2 ∧ ∀ k : Nat, k ≤ 8 → x.2 223 k = nmE (EM σ) d e (m / 2) (m % 2) k) := by
  obtain ⟨r1, r2, r3, -⟩ := hR
  unfold F_M_quarrelAt
  have e1 : ((i : Int) + 1).toNat = i + 1 := by omega
  simp only [e1, Int.toNat_natCast]
  refine Ok.ck (by omega) (Ok.ck (by omega) (Ok.ck (by omega) (Ok.ck (by omega) (Ok.bM (Ok.ck (by omega) (Ok.bM ?_))))))
  have r2' : (if σ 231 i = σ 231 (i + 1) then (0 : Int) else 1) = m / 2 := r2
  rw [hd, r1, r2', r3]
  obtain ⟨a, rfl⟩ := Int.eq_ofNat_of_zero_le hd2.1
  obtain ⟨b, rfl⟩ := Int.eq_ofNat_of_zero_le he2.1
  refine Ok.b1M (doQ_ok hM.1 hM.2.1 hM.2.2.2.2 (l := a) (r := b) (by omega) (by omega) (by omega) (by omega)) (fun x s hs => Ok.ret hs)
theorem outNow_loop {G O M : Law} {E : Nat → Int} : ∀ (L : DL) (n i : Nat) (x d : Int) (σ : Mm), L.length < n → MOK σ G O M → EM σ = E → σ 200 53 = ((i + 1 + L.length : Nat) : Int) → i + 1 + L.length ≤ 16 → σ 230 i = d → 0 ≤ d ∧ d ≤ 9 → MDR (σ 230) (σ 231) (σ 232) (i + 1) L → DOK L → -1000000 - 99 * i ≤ x ∧ x ≤ 1000000 + 99 * i →
    Ok (L_M_outNow_11 n x (i : Int) σ) (fun r => r.1 = x + sumL (t0 (tw G O E)) d L ∧ Fr [223, 224] σ r.2) := by
  intro L
  induction L with
  | nil =>
    intro n i x d σ hn hM hE hlen hle hd hd2 hR hK hx
    cases n with
    | zero => simp at hn
    | succ n =>
      rw [L_M_outNow_11]
      simp only [List.length_nil] at hlen hle
      exact Ok.ck ⟨by omega, by omega⟩ (Ok.it (by omega) (Ok.ret ⟨by simp [sumL], Fr.rf⟩))
  | cons p L ih =>
    obtain ⟨e, m⟩ := p
    intro n i x d σ hn hM hE hlen hle hd hd2 hR hK hx
    cases n with
    | zero => simp at hn
    | succ n =>
      rw [L_M_outNow_11]
      simp only [List.length_cons] at hn hlen hle
      refine Ok.ck ⟨by omega, by omega⟩ (Ok.ie (by omega) ?_)
      refine Ok.b1M (quarrelAt_ok hM (by omega) hd hd2 ⟨hK.1.1, hK.1.2.1⟩ hK.1.2.2 hR) (fun a s hs => ?_)
      obtain ⟨ha, hf, hnm⟩ := hs
      have ha : a = qv G E d e (m / 2) (m % 2) := by rw [← hE]; exact ha
      have hf : Fr [223, 224] σ s := hf
      have hnm : ∀ k : Nat, k ≤ 8 → s 223 k = nmE E d e (m / 2) (m % 2) k := by rw [← hE]; exact hnm
      have e2 : (i : Int) + 1 = ((i + 1 : Nat) : Int) := by omega
      have tq := t0_qv (G := G) (O := O) (E := E) (l := d) (r := e) (k := m)
      have go : ∀ (y : Int) (τ : Mm), Fr [223, 224] σ τ → y = x + t0 (tw G O E) d e m → Ok (if r32 ((i : Int) + 1) then L_M_outNow_11 n y ((i : Int) + 1) τ else none) (fun r => r.1 = x + sumL (t0 (tw G O E)) d ((e, m) :: L) ∧ Fr [223, 224] σ r.2) := by
        intro y τ hf hy
        have hb := t0_bd (G := G) (O := O) (E := E) (l := d) (r := e) (k := m)
        refine Ok.ck ⟨by omega, by omega⟩ ?_
        rw [e2]
        have k4 : ∀ j, j ≠ 223 → j ≠ 224 → τ j = σ j := fun j h1 h2 => hf j (by simp; omega)
        refine (ih n (i + 1) y e τ (by omega) (hM.f2 hf) (by rw [EM_f2 hf]; exact hE) ?_ (by omega) ?_ ⟨hK.1.1, hK.1.2.1⟩ ?_ hK.2 (by omega)).mono (fun r hr => ⟨?_, hf.tr hr.2⟩)
        · rw [k4 200 (by decide) (by decide), hlen]; congr 1; omega
        · rw [k4 230 (by decide) (by decide)]; exact hR.1
        · rw [k4 230 (by decide) (by decide), k4 231 (by decide) (by decide), k4 232 (by decide) (by decide)]; exact hR.2.2.2
        · rw [hr.1]; simp only [sumL]; omega
      refine Ok.bM ?_
      rcases qv_01 (G := G) (E := E) (l := d) (r := e) (ap := m / 2) (la := m % 2) with h0 | h1
      · refine Ok.it (by omega) (go x s hf ?_)
        rw [tq, if_neg (by omega)]; omega
      · refine Ok.ie (by omega) ?_
        obtain ⟨a1, ha1⟩ := Int.eq_ofNat_of_zero_le hd2.1
        obtain ⟨b1, hb1⟩ := Int.eq_ofNat_of_zero_le hK.1.1
        have hob := ov_bd (O := O) (E := E) (l := d) (r := e) (ap := m / 2) (la := m % 2)
        have hm2 := hK.1.2.2
        refine off_ok (f := fun y8 t8 => if r32 (x + y8) then (if r32 ((i : Int) + 1) then L_M_outNow_11 n (x + y8) ((i : Int) + 1) t8 else none) else none) (hM.f2 hf).1 hM.2.2.1 (E := E) (by rw [← hE]; exact hM.2.2.2.2) (l := a1) (r := b1) (ap := m / 2) (la := m % 2) (by omega) (by have := hK.1.2.1; omega) (by omega) (by omega) (by rw [← ha1, ← hb1]; exact hnm) (fun τ hτ => ?_)
        rw [← ha1, ← hb1]
        refine Ok.ck ⟨by omega, by omega⟩ (go _ τ (hf.tr (hτ.w (by decide))) ?_)
        rw [tq, if_pos h1]
theorem quarrels_loop {G O M : Law} {E : Nat → Int} : ∀ (L : DL) (n i : Nat) (x d : Int) (σ : Mm), L.length < n → MOK σ G O M → EM σ = E → σ 200 53 = ((i + 1 + L.length : Nat) : Int) → i + 1 + L.length ≤ 16 → σ 230 i = d → 0 ≤ d ∧ d ≤ 9 → MDR (σ 230) (σ 231) (σ 232) (i + 1) L → DOK L → 0 ≤ x ∧ x ≤ i →
    Ok (L_M_quarrelsNow_8 n x (i : Int) σ) (fun r => r.1 = x + sumL (q0 (tw G O E)) d L ∧ Fr [223, 224] σ r.2) := by
  intro L
  induction L with
  | nil =>
    intro n i x d σ hn hM hE hlen hle hd hd2 hR hK hx
    cases n with
    | zero => simp at hn
    | succ n =>
      rw [L_M_quarrelsNow_8]
      simp only [List.length_nil] at hlen hle
      exact Ok.ck ⟨by omega, by omega⟩ (Ok.it (by omega) (Ok.ret ⟨by simp [sumL], Fr.rf⟩))
  | cons p L ih =>
    obtain ⟨e, m⟩ := p
    intro n i x d σ hn hM hE hlen hle hd hd2 hR hK hx
    cases n with
    | zero => simp at hn
    | succ n =>
      rw [L_M_quarrelsNow_8]
      simp only [List.length_cons] at hn hlen hle
      refine Ok.ck ⟨by omega, by omega⟩ (Ok.ie (by omega) ?_)
      refine Ok.b1M (quarrelAt_ok hM (by omega) hd hd2 ⟨hK.1.1, hK.1.2.1⟩ hK.1.2.2 hR) (fun a s hs => ?_)
      obtain ⟨ha, hf, hnm⟩ := hs
      have ha : a = qv G E d e (m / 2) (m % 2) := by rw [← hE]; exact ha
      have hf : Fr [223, 224] σ s := hf
      have e2 : (i : Int) + 1 = ((i + 1 : Nat) : Int) := by omega
      have tq := q0_qv (G := G) (O := O) (E := E) (l := d) (r := e) (k := m)
      have h01 := qv_01 (G := G) (E := E) (l := d) (r := e) (ap := m / 2) (la := m % 2)
      refine Ok.bM ?_
      have ev : (if a = 0 then 0 else 1 : Int) = q0 (tw G O E) d e m := by rw [tq, ← ha]; split <;> omega
      rw [ev]
      refine Ok.ck ⟨by omega, by omega⟩ (Ok.ck ⟨by omega, by omega⟩ ?_)
      rw [e2]
      have k4 : ∀ j, j ≠ 223 → j ≠ 224 → s j = σ j := fun j h1 h2 => hf j (by simp; omega)
      refine (ih n (i + 1) _ e s (by omega) (hM.f2 hf) (by rw [EM_f2 hf]; exact hE) ?_ (by omega) ?_ ⟨hK.1.1, hK.1.2.1⟩ ?_ hK.2 (by omega)).mono (fun r hr => ⟨?_, hf.tr hr.2⟩)
      · rw [k4 200 (by decide) (by decide), hlen]; congr 1; omega
      · rw [k4 230 (by decide) (by decide)]; exact hR.1
      · rw [k4 230 (by decide) (by decide), k4 231 (by decide) (by decide), k4 232 (by decide) (by decide)]; exact hR.2.2.2
      · rw [hr.1]; simp only [sumL]; omega
