-- a ROW is told: the class
theorem DigR.snoc {f g f2 g2 : Nat → Int} : ∀ {L : DL} {i : Nat} {e m : Int}, DigR f g i L → (∀ j, j < i + L.length → f2 j = f j ∧ g2 j = g j) → f2 (i + L.length) = e → g2 (i + L.length) = m → DigR f2 g2 i (L ++ [(e, m)])
  | [], i, e, m, _, _, h1, h2 => ⟨h1, h2, trivial⟩
  | (a, b) :: t, i, e, m, hs, hc, h1, h2 => by
    have e1 : i + ((a, b) :: t).length = i + 1 + t.length := by simp; omega
    rw [e1] at h1 h2 hc
    have c1 := hc i (by omega)
    exact ⟨by rw [c1.1]; exact hs.1, by rw [c1.2]; exact hs.2.1, DigR.snoc hs.2.2 hc h1 h2⟩
theorem ior1 {ap : Int} (h : ap = 0 ∨ ap = 2) : ior ap 1 = ap + 1 := by
  rcases h with rfl | rfl <;> decide +kernel
theorem put_one {ρ n : Nat} (hρ : 10 ≤ ρ ∧ ρ ≤ 21) {v u ap : Int} {σ : Mm} {D : DL} (h0 : 0 ≤ v) (hv : v ≤ 9999) (hu : 1 ≤ u) (hc : u ≤ v ∨ u = 1) (ha : ap = 0 ∨ ap = 2) (h4 : σ ρ 4 = (D.length : Int)) (hl : D.length < 16) :
    L_W_put_34 (n + 1) ρ v ap u σ = L_W_put_34 n ρ v 0 (u.tdiv 10) (st2 (st2 (st2 σ (ρ + 24) D.length (v / u % 10)) (ρ + 36) D.length (if u = 1 then ap + 1 else ap)) ρ 4 ((D.length : Int) + 1)) := by
  have e1 : v.tdiv u = v / u := Int.tdiv_eq_ediv_of_nonneg h0
  have b1 : 0 ≤ v / u := Int.ediv_nonneg h0 (by omega)
  have b2 : v / u ≤ v := Int.ediv_le_self _ h0
  have e2 : (v / u).tmod 10 = v / u % 10 := Int.tmod_eq_emod_of_nonneg b1
  have e3 : ((D.length : Int)).toNat = D.length := by omega
  have c1 : (0 : Int) ≤ (D.length : Int) ∧ (D.length : Int) < 16 := by omega
  have n1 : ¬ ρ = ρ + 24 := by omega
  have n2 : ¬ ρ = ρ + 36 := by omega
  rw [L_W_put_34, if_neg (show ¬ u < 1 by omega)]
  simp only [bindM_eq, if_pos (show ¬ u = 0 by omega), e1, if_pos (show r32 (v / u) from ⟨by omega, by omega⟩), e2, h4, if_pos c1, e3, st2_f, if_neg n1, if_neg n2, if_pos (show r32 ((D.length : Int) + 1) from ⟨by omega, by omega⟩)]
  by_cases hu1 : u = 1
  · subst hu1
    simp only [if_true, ior1 ha]
    by_cases hx : 1 ≤ v
    · rw [if_pos hx]
    · rw [if_neg hx]
  · simp only [if_neg hu1]
    rw [if_pos (by omega)]
theorem put_skip {ρ n : Nat} {v u ap : Int} {σ : Mm} (hu : 1 < u) (hc : v < u) : L_W_put_34 (n + 1) ρ v ap u σ = L_W_put_34 n ρ v ap (u.tdiv 10) σ := by
  rw [L_W_put_34, if_neg (show ¬ u < 1 by omega), bindM_eq, bindM_eq, if_neg (show ¬ u ≤ v by omega), if_neg (show ¬ u = 1 by omega)]
theorem put_emit {ρ : Nat} (hρ : 10 ≤ ρ ∧ ρ ≤ 21) {v : Int} (h0 : 0 ≤ v) (hv : v ≤ 9999) : ∀ (j n : Nat) (ap : Int) (σ : Mm) (D : DL), j + 1 < n → (10 ^ j ≤ v ∨ j = 0) → (ap = 0 ∨ ap = 2) → σ ρ 4 = (D.length : Int) → D.length + j < 16 → DigR (σ (ρ + 24)) (σ (ρ + 36)) 0 D →
    Ok (L_W_put_34 n ρ v ap (10 ^ j) σ) (fun τ => τ ρ 4 = ((D ++ dnR j ap v).length : Int) ∧ DigR (τ (ρ + 24)) (τ (ρ + 36)) 0 (D ++ dnR j ap v) ∧ Fr [ρ, ρ + 24, ρ + 36] σ τ ∧ ∀ s, s ≠ 4 → τ ρ s = σ ρ s) := by
  intro j
  induction j with
  | zero =>
    intro n ap σ D hn hc ha h4 hl hD
    match n, hn with
    | n + 2, _ =>
      have e : (10 : Int) ^ 0 = 1 := rfl
      rw [e, put_one (D := D) hρ h0 hv (by omega) (Or.inr rfl) ha h4 (by omega), if_pos rfl, show (1 : Int).tdiv 10 = 0 from rfl, L_W_put_34, if_pos (by decide)]
      have n1 : ¬ ρ + 24 = ρ := by omega
      have n2 : ¬ ρ + 36 = ρ := by omega
      have n3 : ¬ ρ + 24 = ρ + 36 := by omega
      have n4 : ¬ ρ + 36 = ρ + 24 := by omega
      have n5 : ¬ ρ = ρ + 24 := by omega
      have n6 : ¬ ρ = ρ + 36 := by omega
      refine Ok.ret ⟨?_, ?_, ((Fr.rf.st (by simp)).st (by simp)).st (by simp), fun s hs => ?_⟩
      · simp only [st2_f, if_true, List.length_append, dnR_len]; omega
      · show DigR _ _ 0 (D ++ [(v % 10, ap + 1)])
        refine hD.snoc (fun k hk => ?_) ?_ ?_
        · simp only [st2_f, if_neg n1, if_neg n2, if_neg n3, if_neg n4, if_true]
          rw [if_neg (by omega), if_neg (by omega)]; exact ⟨rfl, rfl⟩
        · simp only [st2_f, if_neg n1, if_neg n3, if_true, Nat.zero_add, Int.ediv_one]
        · simp only [st2_f, if_neg n2, if_true, Nat.zero_add]
      · simp only [st2_f, if_true, if_neg hs, if_neg n5, if_neg n6]
  | succ j ih =>
    intro n ap σ D hn hc ha h4 hl hD
    match n, hn with
    | n + 1, hn =>
      have hp : (10 : Int) ^ (j + 1) = 10 ^ j * 10 := Int.pow_succ ..
      have hp0 := pow_pos10 j
      have hpn : ¬ (10 : Int) ^ (j + 1) = 1 := pow_ne1 j
      have n1 : ¬ ρ + 24 = ρ := by omega
      have n2 : ¬ ρ + 36 = ρ := by omega
      have n3 : ¬ ρ + 24 = ρ + 36 := by omega
      have n4 : ¬ ρ + 36 = ρ + 24 := by omega
      have n5 : ¬ ρ = ρ + 24 := by omega
      have n6 : ¬ ρ = ρ + 36 := by omega
      have hcv : (10 : Int) ^ (j + 1) ≤ v := by rcases hc with h | h; exact h; omega
      rw [put_one (D := D) hρ h0 hv (by omega) (Or.inl hcv) ha h4 (by omega), if_neg hpn, pow_div10]
      refine (ih n 0 _ (D ++ [(v / 10 ^ (j + 1) % 10, ap)]) (by omega) (Or.inl (by omega)) (Or.inl rfl) ?_ ?_ ?_).mono (fun τ hτ => ?_)
      · simp only [st2_f, if_true, List.length_append, List.length_cons, List.length_nil]; omega
      · simp; omega
      · refine hD.snoc (fun k hk => ?_) ?_ ?_
        · simp only [st2_f, if_neg n1, if_neg n2, if_neg n3, if_neg n4, if_true]
          rw [if_neg (by omega), if_neg (by omega)]; exact ⟨rfl, rfl⟩
        · simp only [st2_f, if_neg n1, if_neg n3, if_true, Nat.zero_add]
        · simp only [st2_f, if_neg n2, if_true, Nat.zero_add]
      · obtain ⟨t1, t2, t3, t4⟩ := hτ
        have el : D ++ dnR (j + 1) ap v = D ++ [(v / 10 ^ (j + 1) % 10, ap)] ++ dnR j 0 v := by rw [List.append_assoc]; rfl
        rw [el]
        refine ⟨t1, t2, (((Fr.rf.st (by simp)).st (by simp)).st (by simp) : Fr [ρ, ρ + 24, ρ + 36] σ _).tr t3, fun s hs => ?_⟩
        rw [t4 s hs]
        simp only [st2_f, if_true, if_neg hs, if_neg n5, if_neg n6]
/-- the digits of one NUMBER -/
theorem put_digits {ρ : Nat} (hρ : 10 ≤ ρ ∧ ρ ≤ 21) {v ap : Int} (h0 : 0 ≤ v) (hv : v ≤ 9999) (ha : ap = 0 ∨ ap = 2) {σ : Mm} {D : DL} (h4 : σ ρ 4 = (D.length : Int)) (hl : D.length ≤ 12) (hD : DigR (σ (ρ + 24)) (σ (ρ + 36)) 0 D) :
    Ok (L_W_put_34 LF ρ v ap 1000 σ) (fun τ => τ ρ 4 = ((D ++ dn ap v).length : Int) ∧ DigR (τ (ρ + 24)) (τ (ρ + 36)) 0 (D ++ dn ap v) ∧ Fr [ρ, ρ + 24, ρ + 36] σ τ ∧ ∀ s, s ≠ 4 → τ ρ s = σ ρ s) := by
  unfold dn
  have f : LF = 999996 + 4 := rfl
  rw [f]
  by_cases h3 : v ≤ 999
  · rw [if_pos h3, put_skip (by omega) (by omega), show (1000 : Int).tdiv 10 = 100 from rfl]
    by_cases h2 : v ≤ 99
    · rw [if_pos h2, put_skip (by omega) (by omega), show (100 : Int).tdiv 10 = 10 from rfl]
      by_cases h1 : v ≤ 9
      · rw [if_pos h1, put_skip (by omega) (by omega), show (10 : Int).tdiv 10 = 10 ^ 0 from rfl]
        exact put_emit hρ h0 hv 0 _ ap σ D (by omega) (Or.inr rfl) ha h4 (by omega) hD
      · rw [if_neg h1, show (10 : Int) = 10 ^ 1 from rfl]
        exact put_emit hρ h0 hv 1 _ ap σ D (by omega) (Or.inl (by show (10 : Int) ≤ v; omega)) ha h4 (by omega) hD
    · rw [if_neg h2, show (100 : Int) = 10 ^ 2 from rfl]
      exact put_emit hρ h0 hv 2 _ ap σ D (by omega) (Or.inl (by show (100 : Int) ≤ v; omega)) ha h4 (by omega) hD
  · rw [if_neg h3, show (1000 : Int) = 10 ^ 3 from rfl]
    exact put_emit hρ h0 hv 3 _ ap σ D (by omega) (Or.inl (by show (1000 : Int) ≤ v; omega)) ha h4 (by omega) hD
/-- a ROW with its first `c` NUMBERS -/
def RowP (σ : Mm) (ρ c : Nat) (mn : Int) (nums : Nat → Int) : Prop := σ ρ 3 = (c : Int) ∧ σ ρ 4 = ((drw nums c).length : Int) ∧ σ ρ 5 = mn % 2 ^ c ∧ σ ρ 6 = trs mn nums c ∧ (∀ k, k < c → σ (ρ + 12) k = nums k) ∧ DigR (σ (ρ + 24)) (σ (ρ + 36)) 0 (drw nums c)
theorem bits16 : ∀ m : Nat, m < 16 → ∀ c : Nat, c < 4 → ((iand (m : Int) (2 ^ c) = 0) ↔ bitI (m : Int) (c : Int) = 0) ∧ (bitI (m : Int) (c : Int) = 0 → (m : Int) % 2 ^ (c + 1) = (m : Int) % 2 ^ c ∧ ior ((m : Int) % 2 ^ c) 0 = (m : Int) % 2 ^ c) ∧ (bitI (m : Int) (c : Int) = 1 → ior ((m : Int) % 2 ^ c) (ishl 1 (c : Int)) = (m : Int) % 2 ^ (c + 1)) := by decide +kernel
theorem put_ok {ρ : Nat} (hρ : 10 ≤ ρ ∧ ρ ≤ 21) {c p : Nat} {mn : Int} {nums : Nat → Int} {x : Int} (hc : c < 4) (hp : p ≤ 4) (hm : 0 ≤ mn ∧ mn < 16) (hn : ∀ k, k < p → NN (nums k)) (hx : x = if c < p then nums c else -1) {σ : Mm} (h : RowP σ ρ (min c p) mn nums) :
    Ok (F_W_put ρ x (if iand mn (2 ^ c) = 0 then 0 else 1) σ) (fun τ => RowP τ ρ (min (c + 1) p) mn nums ∧ Fr [ρ, ρ + 12, ρ + 24, ρ + 36] σ τ) := by
  unfold F_W_put
  rw [num_A, b1_some]
  by_cases hcp : c < p
  · rw [if_pos hcp] at hx
    subst hx
    have hN := hn c hcp
    have e1 : min c p = c := by omega
    have e2 : min (c + 1) p = c + 1 := by omega
    rw [e1] at h
    rw [e2]
    obtain ⟨a3, a4, a5, a6, a12, aD⟩ := h
    have hlen := drw_len nums c
    rw [if_pos hN, if_neg (by decide), a3, if_pos (by omega), bindM_eq]
    have ha : ((if (c : Int) ≤ 0 then 0 else 2 : Int) = 0 ∨ (if (c : Int) ≤ 0 then 0 else 2 : Int) = 2) := by split <;> omega
    refine Ok.b0M (put_digits hρ hN.1 hN.2 ha a4 (by omega) aD) (fun s hs => ?_)
    obtain ⟨s4, sD, sF, sk⟩ := hs
    have s3 : s ρ 3 = (c : Int) := by rw [sk 3 (by decide)]; exact a3
    have ec : ((c : Int)).toNat = c := by omega
    have n1 : ¬ ρ = ρ + 12 := by omega
    have n2 : ¬ ρ + 12 = ρ := by omega
    have n3 : ¬ ρ + 24 = ρ := by omega
    have n4 : ¬ ρ + 36 = ρ := by omega
    have n5 : ¬ ρ + 24 = ρ + 12 := by omega
    have n6 : ¬ ρ + 36 = ρ + 12 := by omega
    have n7 : ¬ ρ + 12 = ρ + 24 := by omega
    have n8 : ¬ ρ + 12 = ρ + 36 := by omega
    have eap : (if (c : Int) ≤ 0 then 0 else 2 : Int) = if c = 0 then 0 else 2 := by
      by_cases c0 : c = 0
      · rw [if_pos c0, if_pos (by omega)]
      · rw [if_neg c0, if_neg (by omega)]
    rw [eap] at s4 sD
    rw [s3, if_pos (by omega), bindM_eq, bindM_eq]
    obtain ⟨m, rfl⟩ := Int.eq_ofNat_of_zero_le hm.1
    obtain ⟨b1, b2, b3⟩ := bits16 m (by omega) c hc
    have s5 : s ρ 5 = (m : Int) % 2 ^ c := by rw [sk 5 (by decide)]; exact a5
    have s6 : s ρ 6 = trs m nums c := by rw [sk 6 (by decide)]; exact a6
    have tb := trs_bd (mn := (m : Int)) (nums := nums) (k := c) (fun i hi => hn i (by omega))
    have fin : ∀ (w y : Int), w = (m : Int) % 2 ^ (c + 1) → y = trs m nums (c + 1) - trs m nums c → (y = nums c ∨ y = - nums c) →
        Ok (if r32 (s ρ 6 + y) then bindM (st2 (st2 (st2 s (ρ + 12) c (nums c)) ρ 5 w) ρ 6 (s ρ 6 + y)) fun s21 => if r32 ((s21 ρ 3) + 1) then bindM (st2 s21 ρ 3 ((s21 ρ 3) + 1)) fun s24 => some s24 else none else none) (fun τ => RowP τ ρ (c + 1) (m : Int) nums ∧ Fr [ρ, ρ + 12, ρ + 24, ρ + 36] σ τ) := by
      intro w y hw hy hy2
      refine Ok.ck ⟨by omega, by omega⟩ (Ok.bM ?_)
      have z3 : st2 (st2 (st2 s (ρ + 12) c (nums c)) ρ 5 w) ρ 6 (s ρ 6 + y) ρ 3 = (c : Int) := by
        simp only [st2_f, if_true, if_neg n1]
        simpa using s3
      rw [z3]
      refine Ok.ck ⟨by omega, by omega⟩ (Ok.bM (Ok.ret ⟨⟨?_, ?_, ?_, ?_, fun k hk => ?_, ?_⟩, ?_⟩))
      · simp only [st2_f, if_true]; omega
      · simp only [st2_f, if_true, if_neg n1]
        simpa [drw] using s4
      · simp only [st2_f, if_true, if_neg n1]
        simpa using hw
      · simp only [st2_f, if_true, if_neg n1]
        simp; omega
      · simp only [st2_f, if_true, if_neg n2, if_neg n7, if_neg n8]
        by_cases hk2 : k = c
        · rw [if_pos hk2, hk2]
        · rw [if_neg hk2, sF (ρ + 12) (by simp)]
          exact a12 k (by omega)
      · have : DigR (s (ρ + 24)) (s (ρ + 36)) 0 (drw nums (c + 1)) := by simpa [drw] using sD
        refine this.fr ?_ ?_
        · simp only [st2_f, if_neg n3, if_neg n5]
        · simp only [st2_f, if_neg n4, if_neg n6]
      · exact ((((sF.w (by simp) : Fr [ρ, ρ + 12, ρ + 24, ρ + 36] σ s).st (by simp)).st (by simp)).st (by simp)).st (by simp)
    have z5 : st2 s (ρ + 12) c (nums c) ρ 5 = s ρ 5 := by simp only [st2_f, if_neg n1]
    have z3 : st2 s (ρ + 12) c (nums c) ρ 3 = (c : Int) := by simp only [st2_f, if_neg n1]; exact s3
    have zz : ∀ w, st2 (st2 s (ρ + 12) c (nums c)) ρ 5 w ρ 6 = s ρ 6 := fun w => by
      simp only [st2_f, if_true, if_neg n1]
      simp
    rw [ec]
    simp only [bindM_eq, z5, z3, s5, zz]
    by_cases hb : iand (m : Int) (2 ^ c) = 0
    · have hb0 := b1.mp hb
      have q := b2 hb0
      simp only [if_pos hb, if_true]
      refine fin _ _ ?_ ?_ (Or.inl rfl)
      · rw [q.2, q.1]
      · simp only [trs]; rw [hb0]; simp; omega
    · have hb0 : bitI (m : Int) (c : Int) = 1 := by
        rcases bitI_01 (m : Int) (c : Int) with e | e
        · exact absurd (b1.mpr e) hb
        · exact e
      simp only [if_neg hb, show ¬ (1 : Int) = 0 from by decide, if_false]
      refine fin _ _ (b3 hb0) ?_ (Or.inr rfl)
      simp only [trs]; rw [hb0]; simp; omega
  · rw [if_neg hcp] at hx
    subst hx
    have e1 : min c p = min (c + 1) p := by omega
    rw [if_pos (by decide), ← e1]
    exact Ok.ret ⟨h, Fr.rf⟩
