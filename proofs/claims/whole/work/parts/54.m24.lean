-- laysNow, keepsNow; agreement of what laws see
def Eq40 (E F : Nat → Int) : Prop := ∀ k, k ≤ 40 → F k = E k
theorem nmE_40 {E F : Nat → Int} (h : Eq40 E F) {l r ap la : Int} (hl : 0 ≤ l ∧ l ≤ 9) (hr : 0 ≤ r ∧ r ≤ 9) : nmE F l r ap la = nmE E l r ap la := by
  funext k
  unfold nmE
  rw [h 40 (by omega), h l.toNat (by omega), h r.toNat (by omega), h (10 + l.toNat) (by omega), h (10 + r.toNat) (by omega), h (30 + l.toNat) (by omega)]
theorem tw_40 {G O : Law} {E F : Nat → Int} (h : Eq40 E F) {l r k : Int} (hl : 0 ≤ l ∧ l ≤ 9) (hr : 0 ≤ r ∧ r ≤ 9) : tw G O F l r k = tw G O E l r k := by
  unfold tw qv ov
  rw [nmE_40 h hl hr, h (30 + l.toNat) (by omega)]
theorem qv_40 {G : Law} {E F : Nat → Int} (h : Eq40 E F) {l r ap la : Int} (hl : 0 ≤ l ∧ l ≤ 9) (hr : 0 ≤ r ∧ r ≤ 9) : qv G F l r ap la = qv G E l r ap la := by
  unfold qv
  rw [nmE_40 h hl hr, h (30 + l.toNat) (by omega)]
def EqT (T U : TW) : Prop := ∀ l r k, (0 ≤ l ∧ l ≤ 9) → (0 ≤ r ∧ r ≤ 9) → U l r k = T l r k
theorem EqT_40 {G O : Law} {E F : Nat → Int} (h : Eq40 E F) : EqT (tw G O E) (tw G O F) := fun _ _ _ h1 h2 => tw_40 h h1 h2
theorem sumL_T {T U : TW} (h : EqT T U) {z : TW → Int → Int → Int → Int} (hz : z = t0 ∨ z = q0) : ∀ {L : DL} {d : Int}, DOK L → 0 ≤ d ∧ d ≤ 9 → sumL (z U) d L = sumL (z T) d L
  | [], _, _, _ => rfl
  | (e, m) :: t, d, hK, hd => by
    have he : 0 ≤ e ∧ e ≤ 9 := ⟨hK.1.1, hK.1.2.1⟩
    rw [sumL, sumL, sumL_T h hz hK.2 he]
    have : z U d e m = z T d e m := by
      rcases hz with rfl | rfl
      · unfold t0; rw [h d e m hd he]
      · unfold q0; rw [h d e m hd he]
    rw [this]
theorem offL_T {T U : TW} (h : EqT T U) {L : DL} (hK : DOK L) : offL U L = offL T L := by
  match L, hK with
  | [], _ => rfl
  | (d, m) :: t, hK => exact sumL_T h (Or.inl rfl) hK.2 ⟨hK.1.1, hK.1.2.1⟩
theorem qL_T {T U : TW} (h : EqT T U) {L : DL} (hK : DOK L) : qL U L = qL T L := by
  match L, hK with
  | [], _ => rfl
  | (d, m) :: t, hK => exact sumL_T h (Or.inr rfl) hK.2 ⟨hK.1.1, hK.1.2.1⟩
theorem incQ_T {T U : TW} (h : EqT T U) : ∀ {L : DL} {d : Int} {E F : Nat → Int}, DOK L → 0 ≤ d ∧ d ≤ 9 → Eq40 E F → Eq40 (incQ T d L E) (incQ U d L F)
  | [], _, _, _, _, _, he => he
  | (e, m) :: t, d, E, F, hK, hd, he => by
    have h2 : 0 ≤ e ∧ e ≤ 9 := ⟨hK.1.1, hK.1.2.1⟩
    rw [incQ, incQ, h d e m hd h2]
    refine incQ_T h hK.2 h2 ?_
    by_cases hx : T d e m = 1000
    · rw [if_pos hx, if_pos hx]; exact he
    · rw [if_neg hx, if_neg hx]
      intro k hk
      simp only [bump]
      rw [he k hk]
theorem incL_T {T U : TW} (h : EqT T U) {L : DL} {E F : Nat → Int} (hK : DOK L) (he : Eq40 E F) : Eq40 (incL T L E) (incL U L F) := by
  match L, hK with
  | [], _ => exact he
  | (d, m) :: t, hK => exact incQ_T h hK.2 ⟨hK.1.1, hK.1.2.1⟩ he
theorem useD_40 : ∀ {L : DL} {E F : Nat → Int}, Eq40 E F → Eq40 (useD L E) (useD L F)
  | [], _, _, he => he
  | (d, m) :: t, E, F, he => useD_40 (L := t) (fun k hk => by
      show (if k = 10 + d.toNat then min 999 (F k + 1) else F k) = (if k = 10 + d.toNat then min 999 (E k + 1) else E k)
      rw [he k hk])
theorem lays26 : ∀ (m n x : Nat) (σ : Mm), x + m = 10 → m < n → Ok (L_M_laysNow_26 n (x : Int) σ) (fun τ => (∀ k, x ≤ k → k < 10 → τ 225 k = σ 201 (140 + k) ∧ τ 226 k = σ 201 (150 + k) ∧ τ 227 k = σ 201 (160 + k) ∧ τ 228 k = σ 201 (170 + k)) ∧ (∀ k, k < x → τ 225 k = σ 225 k ∧ τ 226 k = σ 226 k ∧ τ 227 k = σ 227 k ∧ τ 228 k = σ 228 k) ∧ Fr [225, 226, 227, 228] σ τ) := by
  intro m
  induction m with
  | zero =>
    intro n x σ hx hn
    match n, hn with
    | n + 1, _ =>
      rw [L_M_laysNow_26]
      exact Ok.it (by omega) (Ok.ret ⟨fun k h1 h2 => by omega, fun k hk => ⟨rfl, rfl, rfl, rfl⟩, Fr.rf⟩)
  | succ m ih =>
    intro n x σ hx hn
    match n, hn with
    | n + 1, hn =>
      rw [L_M_laysNow_26]
      have e2 : (x : Int) + 1 = ((x + 1 : Nat) : Int) := by omega
      have a1 : ((140 : Int) + (x : Int)).toNat = 140 + x := by omega
      have a2 : ((150 : Int) + (x : Int)).toNat = 150 + x := by omega
      have a3 : ((160 : Int) + (x : Int)).toNat = 160 + x := by omega
      have a4 : ((170 : Int) + (x : Int)).toNat = 170 + x := by omega
      simp only [a1, a2, a3, a4, Int.toNat_natCast]
      refine Ok.ie (by omega) (Ok.ck (by omega) (Ok.ck (by omega) (Ok.bM (Ok.ck (by omega) (Ok.ck (by omega) (Ok.bM (Ok.ck (by omega) (Ok.ck (by omega) (Ok.bM (Ok.ck (by omega) (Ok.ck (by omega) (Ok.bN (fun s hs => Ok.ck ⟨by omega, by omega⟩ ?_)))))))))))))
      rw [e2]
      have hf : Fr [225, 226, 227, 228] σ s := by rw [hs]; exact (((Fr.rf.st (by decide)).st (by decide)).st (by decide)).st (by decide)
      have v1 : ∀ k, s 225 k = if k = x then σ 201 (140 + x) else σ 225 k := fun k => by rw [hs]; simp only [st2_f, Nat.reduceEqDiff, reduceIte]
      have v2 : ∀ k, s 226 k = if k = x then σ 201 (150 + x) else σ 226 k := fun k => by rw [hs]; simp only [st2_f, Nat.reduceEqDiff, reduceIte]
      have v3 : ∀ k, s 227 k = if k = x then σ 201 (160 + x) else σ 227 k := fun k => by rw [hs]; simp only [st2_f, Nat.reduceEqDiff, reduceIte]
      have v4 : ∀ k, s 228 k = if k = x then σ 201 (170 + x) else σ 228 k := fun k => by rw [hs]; simp only [st2_f, Nat.reduceEqDiff, reduceIte]
      refine (ih n (x + 1) s (by omega) (by omega)).mono (fun τ hτ => ⟨fun k h1 h2 => ?_, fun k hk => ?_, hf.tr hτ.2.2⟩)
      · by_cases hk : k = x
        · subst hk
          obtain ⟨w1, w2, w3, w4⟩ := hτ.2.1 k (by omega)
          rw [w1, w2, w3, w4, v1, v2, v3, v4]
          simp only [if_true, and_self]
        · obtain ⟨w1, w2, w3, w4⟩ := hτ.1 k (by omega) h2
          rw [hf 201 (by decide)] at w1 w2 w3 w4
          exact ⟨w1, w2, w3, w4⟩
      · obtain ⟨w1, w2, w3, w4⟩ := hτ.2.1 k (by omega)
        have : ¬ k = x := by omega
        rw [w1, w2, w3, w4, v1, v2, v3, v4]
        simp only [this, if_false, and_self]
theorem laysNow_ok (σ : Mm) : Ok (F_M_laysNow σ) (fun τ => Eq40 (fun k => σ 201 (140 + k)) (EM τ) ∧ τ 200 46 = σ 201 181 ∧ Fr [200, 225, 226, 227, 228] σ τ ∧ ∀ s, s ≠ 45 → s ≠ 46 → τ 200 s = σ 200 s) := by
  unfold F_M_laysNow
  refine Ok.bM (Ok.bN (fun s hs => ?_))
  have hf : Fr [200] σ s := by rw [hs]; exact (Fr.rf.st (by decide)).st (by decide)
  have v : ∀ k, s 200 k = if k = 46 then σ 201 181 else if k = 45 then σ 201 180 else σ 200 k := fun k => by rw [hs]; simp only [st2_f, Nat.reduceEqDiff, reduceIte]
  have e201 : s 201 = σ 201 := hf 201 (by decide)
  refine Ok.b0M (lays26 10 LF 0 s (by omega) (by unfold LF; omega)) (fun τ hτ => Ok.ret ?_)
  obtain ⟨t1, t2, t3⟩ := hτ
  rw [e201] at t1
  refine ⟨fun k hk => ?_, ?_, (hf.w (by decide)).tr (t3.w (by decide)), fun k h1 h2 => ?_⟩
  · show EM τ k = σ 201 (140 + k)
    by_cases k1 : k < 10
    · rw [EM_1 k1]; exact (t1 k (by omega) k1).1
    · by_cases k2 : k < 20
      · have := (t1 (k - 10) (by omega) (by omega)).2.1
        have e : k = 10 + (k - 10) := by omega
        rw [e, EM_2 (by omega), this]; congr 1; omega
      · by_cases k3 : k < 30
        · have := (t1 (k - 20) (by omega) (by omega)).2.2.1
          have e : k = 20 + (k - 20) := by omega
          rw [e, EM_3 (by omega), this]; congr 1; omega
        · by_cases k4 : k < 40
          · have := (t1 (k - 30) (by omega) (by omega)).2.2.2
            have e : k = 30 + (k - 30) := by omega
            rw [e, EM_4 (by omega), this]; congr 1; omega
          · have e : k = 40 := by omega
            rw [e, EM_5, t3 200 (by decide), v, if_neg (by decide), if_pos rfl]
  · rw [t3 200 (by decide), v, if_pos rfl]
  · rw [t3 200 (by decide), v, if_neg h2, if_neg h1]
theorem keeps26 : ∀ (m n x : Nat) (σ : Mm), x + m = 10 → m < n → Ok (L_M_keepsNow_26 n (x : Int) σ) (fun τ => (∀ k, x ≤ k → k < 10 → τ 201 (140 + k) = σ 225 k ∧ τ 201 (150 + k) = σ 226 k ∧ τ 201 (160 + k) = σ 227 k) ∧ (∀ k, ¬ (140 + x ≤ k ∧ k < 150) → ¬ (150 + x ≤ k ∧ k < 160) → ¬ (160 + x ≤ k ∧ k < 170) → τ 201 k = σ 201 k) ∧ Fr [201] σ τ) := by
  intro m
  induction m with
  | zero =>
    intro n x σ hx hn
    match n, hn with
    | n + 1, _ =>
      rw [L_M_keepsNow_26]
      exact Ok.it (by omega) (Ok.ret ⟨fun k h1 h2 => by omega, fun k _ _ _ => rfl, Fr.rf⟩)
  | succ m ih =>
    intro n x σ hx hn
    match n, hn with
    | n + 1, hn =>
      rw [L_M_keepsNow_26]
      have e2 : (x : Int) + 1 = ((x + 1 : Nat) : Int) := by omega
      have a1 : ((140 : Int) + (x : Int)).toNat = 140 + x := by omega
      have a2 : ((150 : Int) + (x : Int)).toNat = 150 + x := by omega
      have a3 : ((160 : Int) + (x : Int)).toNat = 160 + x := by omega
      simp only [a1, a2, a3, Int.toNat_natCast]
      refine Ok.ie (by omega) (Ok.ck (by omega) (Ok.ck (by omega) (Ok.bM (Ok.ck (by omega) (Ok.ck (by omega) (Ok.bM (Ok.ck (by omega) (Ok.ck (by omega) (Ok.bN (fun s hs => Ok.ck ⟨by omega, by omega⟩ ?_))))))))))
      rw [e2]
      have hf : Fr [201] σ s := by rw [hs]; exact ((Fr.rf.st (by decide)).st (by decide)).st (by decide)
      have v : ∀ k, s 201 k = if k = 160 + x then σ 227 x else if k = 150 + x then σ 226 x else if k = 140 + x then σ 225 x else σ 201 k := fun k => by rw [hs]; simp only [st2_f, Nat.reduceEqDiff, reduceIte]
      refine (ih n (x + 1) s (by omega) (by omega)).mono (fun τ hτ => ⟨fun k h1 h2 => ?_, fun k k1 k2 k3 => ?_, hf.tr hτ.2.2⟩)
      · by_cases hk : k = x
        · subst hk
          rw [hτ.2.1 (140 + k) (by omega) (by omega) (by omega), hτ.2.1 (150 + k) (by omega) (by omega) (by omega), hτ.2.1 (160 + k) (by omega) (by omega) (by omega), v, v, v]
          refine ⟨?_, ?_, ?_⟩
          · rw [if_neg (by omega), if_neg (by omega), if_pos rfl]
          · rw [if_neg (by omega), if_pos rfl]
          · rw [if_pos rfl]
        · obtain ⟨w1, w2, w3⟩ := hτ.1 k (by omega) h2
          rw [hf 225 (by decide)] at w1
          rw [hf 226 (by decide)] at w2
          rw [hf 227 (by decide)] at w3
          exact ⟨w1, w2, w3⟩
      · rw [hτ.2.1 k (by omega) (by omega) (by omega), v, if_neg (by omega), if_neg (by omega), if_neg (by omega)]
theorem keepsNow_ok (σ : Mm) : Ok (F_M_keepsNow σ) (fun τ => (∀ k, (k < 30 ∨ k = 40) → τ 201 (140 + k) = EM σ k) ∧ τ 201 181 = σ 200 46 ∧ (∀ k, (k < 140 ∨ 170 ≤ k) → k ≠ 180 → k ≠ 181 → τ 201 k = σ 201 k) ∧ Fr [201] σ τ) := by
  unfold F_M_keepsNow
  refine Ok.bM (Ok.bN (fun s hs => ?_))
  have hf : Fr [201] σ s := by rw [hs]; exact (Fr.rf.st (by decide)).st (by decide)
  have v : ∀ k, s 201 k = if k = 181 then σ 200 46 else if k = 180 then σ 200 45 else σ 201 k := fun k => by rw [hs]; simp only [st2_f, Nat.reduceEqDiff, reduceIte]
  refine Ok.b0M (keeps26 10 LF 0 s (by omega) (by unfold LF; omega)) (fun τ hτ => Ok.ret ?_)
  obtain ⟨t1, t2, t3⟩ := hτ
  rw [hf 225 (by decide), hf 226 (by decide), hf 227 (by decide)] at t1
  refine ⟨fun k hk => ?_, ?_, fun k h1 h2 h3 => ?_, hf.tr t3⟩
  · by_cases k1 : k < 10
    · rw [EM_1 k1]; exact (t1 k (by omega) k1).1
    · by_cases k2 : k < 20
      · have := (t1 (k - 10) (by omega) (by omega)).2.1
        have e : k = 10 + (k - 10) := by omega
        have e9 : 140 + k = 150 + (k - 10) := by omega
        rw [e9, this, e, EM_2 (by omega)]; congr 1; omega
      · by_cases k3 : k < 30
        · have := (t1 (k - 20) (by omega) (by omega)).2.2
          have e : k = 20 + (k - 20) := by omega
          have e9 : 140 + k = 160 + (k - 20) := by omega
          rw [e9, this, e, EM_3 (by omega)]; congr 1; omega
        · have e : k = 40 := by omega
          rw [e, EM_5, t2 (140 + 40) (by omega) (by omega) (by omega), v, if_neg (by decide), if_pos rfl]
  · rw [t2 181 (by omega) (by omega) (by omega), v, if_pos rfl]
  · rw [t2 k (by omega) (by omega) (by omega), v, if_neg h3, if_neg h2]
