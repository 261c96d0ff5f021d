/-! the class: off of a ROW, of a NUMBER, between two -/
def isO6 {r : Nat} (q : IsO 0 6 r) : 10 ≤ r ∧ r ≤ 21 := (show ∀ r, r < 260 → IsO 0 6 r → 10 ≤ r ∧ r ≤ 21 by decide +kernel) r (Kt_lt q.2.1) q
theorem t0_bd {G O : Law} {E : Nat → Int} {l r k : Int} : -99 ≤ t0 (tw G O E) l r k ∧ t0 (tw G O E) l r k ≤ 99 := by
  unfold t0
  rcases tw_bd (G := G) (O := O) (E := E) (l := l) (r := r) (k := k) with h | h
  · rw [if_pos h]; omega
  · split <;> omega
theorem offOf_loop {G O M : Law} {E : Nat → Int} {ρ : Nat} (hρ : 10 ≤ ρ ∧ ρ ≤ 21) : ∀ (L : DL) (n i : Nat) (x d : Int) (σ : Mm), L.length < n → JOK σ G O M → σ 3 = E → σ ρ 4 = ((i + L.length : Nat) : Int) → 1 ≤ i → i + L.length ≤ 16 → σ (ρ + 24) (i - 1) = d → 0 ≤ d ∧ d ≤ 9 → DigR (σ (ρ + 24)) (σ (ρ + 36)) i L → DOK L → -99 * i ≤ x ∧ x ≤ 99 * i →
    Ok (L_J_offOf_4 n ρ x (i : Int) σ) (fun r => r.1 = x + sumL (t0 (tw G O E)) d L ∧ Fr [4, 5, 6, 7] σ r.2 ∧ JOK r.2 G O M) := by
  intro L
  induction L with
  | nil =>
    intro n i x d σ hn hJ hE hlen h1 hle hd hd2 hD hK hx
    cases n with
    | zero => simp at hn
    | succ n =>
      rw [L_J_offOf_4]
      simp only [List.length_nil] at hlen
      exact Ok.it (by omega) (Ok.ret ⟨by simp [sumL], Fr.rf, hJ⟩)
  | cons p L ih =>
    obtain ⟨e, m⟩ := p
    intro n i x d σ hn hJ hE hlen h1 hle hd hd2 hD hK hx
    cases n with
    | zero => simp at hn
    | succ n =>
      rw [L_J_offOf_4]
      simp only [List.length_cons] at hn hlen hle
      have e1 : ((i : Int) - 1).toNat = i - 1 := by omega
      simp only [e1, Int.toNat_natCast]
      refine Ok.ie (by omega) (Ok.ck (by omega) (Ok.ck (by omega) (Ok.ck (by omega) ?_)))
      rw [hd, hD.1, hD.2.1]
      refine Ok.b1M (two_i hJ hd2 ⟨hK.1.1, hK.1.2.1⟩ hK.1.2.2) (fun a s hs => ?_)
      obtain ⟨ha, hf, hJ2⟩ := hs
      have ha : a = tw G O E d e m := by rw [← hE]; exact ha
      have hf : Fr [4, 5, 6, 7] σ s := hf
      have hb := t0_bd (G := G) (O := O) (E := E) (l := d) (r := e) (k := m)
      refine Ok.bM ?_
      have ev : (if a = 1000 then 0 else a : Int) = t0 (tw G O E) d e m := by unfold t0; rw [ha]
      rw [ev]
      refine Ok.ck ⟨by omega, by omega⟩ (Ok.ck ⟨by omega, by omega⟩ ?_)
      have e2 : (i : Int) + 1 = ((i + 1 : Nat) : Int) := by omega
      rw [e2]
      have k4 : ∀ j, 10 ≤ j → s j = σ j := fun j hj => hf j (by simp; omega)
      refine (ih n (i + 1) (x + t0 (tw G O E) d e m) e s (by omega) hJ2 (by rw [hf 3 (by decide)]; exact hE) ?_ (by omega) (by omega) ?_ ⟨hK.1.1, hK.1.2.1⟩ ?_ hK.2 (by omega)).mono (fun r hr => ⟨?_, hf.tr hr.2.1, hr.2.2⟩)
      · rw [k4 ρ hρ.1, hlen]; congr 1; omega
      · rw [k4 (ρ + 24) (by omega)]; exact hD.1
      · rw [k4 (ρ + 24) (by omega), k4 (ρ + 36) (by omega)]; exact hD.2.2
      · rw [hr.1]; simp only [sumL]; omega
/-- a ROW of the class: its digits -/
def RowD (σ : Mm) (ρ : Nat) (L : DL) : Prop := σ ρ 4 = (L.length : Int) ∧ L.length ≤ 16 ∧ L ≠ [] ∧ DigR (σ (ρ + 24)) (σ (ρ + 36)) 0 L ∧ DOK L
def offL (T : TW) : DL → Int
  | [] => 0
  | (d, _) :: t => sumL (t0 T) d t
theorem offOf_ok {G O M : Law} {ρ : Nat} (q : IsO 0 6 ρ) {L : DL} {σ : Mm} (hJ : JOK σ G O M) (hR : RowD σ ρ L) : Ok (F_J_offOf ρ σ) (fun r => r.1 = offL (tw G O (σ 3)) L ∧ Fr [4, 5, 6, 7] σ r.2 ∧ JOK r.2 G O M) := by
  obtain ⟨h1, h2, h3, h4, h5⟩ := hR
  match L, h1, h2, h3, h4, h5 with
  | (d, k) :: t, h1, h2, h3, h4, h5 =>
    simp only [List.length_cons] at h1 h2
    unfold F_J_offOf
    refine Ok.b1M (offOf_loop (isO6 q) t LF 1 0 d σ (by unfold LF; omega) hJ rfl (by rw [h1]; congr 1; omega) (by omega) (by omega) h4.1 ⟨h5.1.1, h5.1.2.1⟩ h4.2.2 h5.2 (by omega)) (fun a s hs => Ok.ret ⟨?_, hs.2⟩)
    have := hs.1
    simp only [offL]
    show a = _
    have e : a = 0 + sumL (t0 (tw G O (σ 3))) d t := this
    omega
def dig (v k : Int) : Int := v / 10 ^ k.toNat % 10
/-- within a NUMBER, from the right -/
def wiR (T : TW) : Nat → Int → Int → Int
  | 0, _, _ => 0
  | n + 1, v, k => if v < 10 then 0 else t0 T (v / 10 % 10) (v % 10) k + wiR T n (v / 10) 0
theorem within_loop {G O M : Law} {E : Nat → Int} : ∀ (j n : Nat) (x k v : Int) (σ : Mm), j < n → JOK σ G O M → σ 3 = E → 0 ≤ v → v < 10 ^ (j + 1) → v < 100000 → 0 ≤ k ∧ k ≤ 1 → -1000 ≤ x ∧ x ≤ 1000 → -1000 ≤ x - 99 * j → x + 99 * j ≤ 1000 →
    Ok (L_J_within_7 n x k v σ) (fun r => r.1 = x + wiR (tw G O E) (j + 1) v k ∧ Fr [4, 5, 6, 7] σ r.2 ∧ JOK r.2 G O M) := by
  intro j
  induction j with
  | zero =>
    intro n x k v σ hn hJ hE h0 h1 h2 hk hx hx2 hx3
    cases n with
    | zero => omega
    | succ n =>
      rw [L_J_within_7]
      have h1 : v < 10 := by simpa using h1
      exact Ok.it h1 (Ok.ret ⟨by simp [wiR, h1], Fr.rf, hJ⟩)
  | succ j ih =>
    intro n x k v σ hn hJ hE h0 h1 h2 hk hx hx2 hx3
    cases n with
    | zero => omega
    | succ n =>
      rw [L_J_within_7]
      refine Ok.ite (fun z => Ok.ret ⟨by simp [wiR, z], Fr.rf, hJ⟩) (fun z => ?_)
      rw [Int.tdiv_eq_ediv_of_nonneg h0, Int.tmod_eq_emod_of_nonneg h0, Int.tmod_eq_emod_of_nonneg (by omega)]
      refine Ok.b1M (two_i hJ (by omega) (by omega) (by omega)) (fun a s hs => ?_)
      obtain ⟨ha, hf, hJ2⟩ := hs
      have ha : a = tw G O E (v / 10 % 10) (v % 10) k := by rw [← hE]; exact ha
      have hf : Fr [4, 5, 6, 7] σ s := hf
      have hb := t0_bd (G := G) (O := O) (E := E) (l := v / 10 % 10) (r := v % 10) (k := k)
      refine Ok.bM ?_
      have ev : (if a = 1000 then 0 else a : Int) = t0 (tw G O E) (v / 10 % 10) (v % 10) k := by unfold t0; rw [ha]
      rw [ev]
      refine Ok.ck ⟨by omega, by omega⟩ ?_
      have h1' : v / 10 < 10 ^ (j + 1) := by
        have : (10 : Int) ^ (j + 1 + 1) = 10 ^ (j + 1) * 10 := Int.pow_succ _ _
        omega
      refine (ih n _ 0 (v / 10) s (by omega) hJ2 (by rw [hf 3 (by decide)]; exact hE) (by omega) h1' (by omega) (by omega) (by omega) (by omega) (by omega)).mono (fun r hr => ⟨?_, hf.tr hr.2.1, hr.2.2⟩)
      rw [hr.1]
      rw [show wiR (tw G O E) (j + 1 + 1) v k = t0 (tw G O E) (v / 10 % 10) (v % 10) k + wiR (tw G O E) (j + 1) (v / 10) 0 by rw [wiR, if_neg z]]
      omega
def wi (T : TW) (v : Int) : Int := wiR T 5 v 1
theorem within_ok {G O M : Law} {σ : Mm} (hJ : JOK σ G O M) {v : Int} (h0 : 0 ≤ v) (h1 : v < 100000) : Ok (F_J_within v σ) (fun r => r.1 = wi (tw G O (σ 3)) v ∧ Fr [4, 5, 6, 7] σ r.2 ∧ JOK r.2 G O M) := by
  unfold F_J_within
  refine Ok.b1M (within_loop 4 LF 0 1 v σ (by unfold LF; omega) hJ rfl h0 (by simpa using h1) h1 (by omega) (by omega) (by omega) (by omega)) (fun a s hs => Ok.ret ⟨?_, hs.2⟩)
  have : a = 0 + wiR (tw G O (σ 3)) (4 + 1) v 1 := hs.1
  show a = wiR (tw G O (σ 3)) 5 v 1
  rw [this, Int.zero_add]
/-- the first digit -/
def fd : Nat → Int → Int
  | 0, v => v
  | n + 1, v => if v < 10 then v else fd n (v / 10)
theorem between_loop : ∀ (j n : Nat) (x v : Int), j + 1 < n → 0 ≤ v → v < 10 ^ (j + 1) → (v = 0 → 0 ≤ x ∧ x ≤ 9) → L_J_between_5 n x v = some (if v = 0 then x else fd (j + 1) v) := by
  intro j
  induction j with
  | zero =>
    intro n x v hn h0 h1 hx
    have h1 : v < 10 := by simpa using h1
    match n, hn with
    | n + 2, _ =>
      rw [L_J_between_5]
      by_cases z : v = 0
      · rw [if_pos (by omega), if_pos z]
      · rw [if_neg (by omega), if_neg z, L_J_between_5, Int.tdiv_eq_ediv_of_nonneg h0, if_pos (by omega)]
        simp [fd, h1]
  | succ j ih =>
    intro n x v hn h0 h1 hx
    match n, hn with
    | n + 1, hn =>
      rw [L_J_between_5]
      by_cases z : v = 0
      · rw [if_pos (by omega), if_pos z]
      · rw [if_neg (by omega), if_neg z, Int.tdiv_eq_ediv_of_nonneg h0]
        have h1' : v / 10 < 10 ^ (j + 1) := by
          have : (10 : Int) ^ (j + 1 + 1) = 10 ^ (j + 1) * 10 := Int.pow_succ _ _
          omega
        rw [ih n v (v / 10) (by omega) (by omega) h1' (fun q => by omega)]
        rw [show fd (j + 1 + 1) v = if v < 10 then v else fd (j + 1) (v / 10) from rfl]
        by_cases y : v < 10
        · rw [if_pos y, if_pos (by omega)]
        · rw [if_neg y, if_neg (by omega)]
theorem fd_bd : ∀ (n : Nat) (v : Int), 0 ≤ v → v < 10 ^ (n + 1) → 0 ≤ fd n v ∧ fd n v ≤ 9
  | 0, v, h0, h1 => by simp at h1; simp [fd]; omega
  | n + 1, v, h0, h1 => by
    rw [fd]
    split
    · omega
    · have : (10 : Int) ^ (n + 1 + 1) = 10 ^ (n + 1) * 10 := Int.pow_succ _ _
      exact fd_bd n (v / 10) (by omega) (by omega)
/-- off between two NUMBERS -/
def be (T : TW) (a b : Int) : Int := t0 T (a % 10) (fd 5 b) (if 10 ≤ b then 2 else 3)
theorem fd5 {v : Int} (h0 : 0 ≤ v) (h1 : v < 100000) : (if v = 0 then v else fd (4 + 1) v) = fd 5 v := by
  by_cases z : v = 0
  · rw [if_pos z, z]; rfl
  · rw [if_neg z]
theorem between_ok {G O M : Law} {σ : Mm} (hJ : JOK σ G O M) {a b : Int} (ha : 0 ≤ a) (hb : 0 ≤ b) (hb1 : b < 100000) : Ok (F_J_between a b σ) (fun r => r.1 = be (tw G O (σ 3)) a b ∧ Fr [4, 5, 6, 7] σ r.2 ∧ JOK r.2 G O M) := by
  unfold F_J_between
  have hl := between_loop 4 LF b b (by unfold LF; omega) hb (by simpa using hb1) (fun z => by omega)
  rw [fd5 hb hb1] at hl
  refine Ok.b1 (Ok.eq hl) (fun x hx => ?_)
  subst hx
  refine Ok.bM ?_
  rw [Int.tmod_eq_emod_of_nonneg ha]
  have hfd := fd_bd 5 b hb (by have : (10 : Int) ^ (5 + 1) = 1000000 := by decide
                               omega)
  refine Ok.b1M (two_i hJ (d := a % 10) (e := fd 5 b) (m := if 10 ≤ b then 2 else 3) (by omega) hfd (by split <;> omega)) (fun c s hs => ?_)
  obtain ⟨h1, h2⟩ := hs
  have h1 : c = tw G O (σ 3) (a % 10) (fd 5 b) (if 10 ≤ b then 2 else 3) := h1
  refine Ok.ite (fun z => Ok.ret ⟨?_, h2⟩) (fun z => Ok.ret ⟨?_, h2⟩)
  · show 0 = be _ _ _
    unfold be t0
    rw [if_pos (by rw [← h1]; exact z)]
  · show c = be _ _ _
    unfold be t0
    rw [if_neg (by rw [← h1]; exact z)]; exact h1
