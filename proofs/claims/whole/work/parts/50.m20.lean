-- moods: the class's `mood`, the reference's `moods`
theorem nmF_bdx {E : Nat → Int} (h : EnvOK E) {x : Nat} (hx : x < 10) (k : Nat) : -100000000 ≤ nmF E (x : Int) k ∧ nmF E (x : Int) k ≤ 100000000 := by
  obtain ⟨h1, h2, h3, h4, h5⟩ := h
  have a1 := h1 x hx
  have a2 := h2 x hx
  have a3 := h3 x hx
  unfold nmF
  simp only [Int.toNat_natCast]
  split
  · omega
  · split
    · omega
    · split
      · omega
      · split <;> omega
theorem mood_ok {σ : Mm} {G O M : Law} (hL : LawsC σ G O M) (hE : EnvOK (σ 3)) {x : Nat} (hx : x < 10) : Ok (F_J_mood (x : Int) σ) (fun r => r.1 = mv M (σ 3) (x : Int) ∧ Fr [4, 5] σ r.2) := by
  obtain ⟨LG, LO, LM, hlaw⟩ := hL
  have t0 : ((0 : Int) + (x : Int)).toNat = x := by omega
  have t1 : ((10 : Int) + (x : Int)).toNat = 10 + x := by omega
  have t2 : ((20 : Int) + (x : Int)).toNat = 20 + x := by omega
  unfold F_J_mood
  simp only [t0, t1, t2]
  refine Ok.ck (by omega) (Ok.bM ?_)
  rcases hlaw with ⟨hn, -, -, rfl⟩ | ⟨t, q, h26, -, -, hC⟩
  · exact Ok.it hn (Ok.ret ⟨by simp [mv], Fr.rf⟩)
  · refine Ok.ie (by omega) ?_
    have et : (σ 2 6).toNat = t := by omega
    rw [et]
    refine Ok.ck ⟨by omega, q⟩ ?_
    refine Ok.b1 (Ok.eq (has_ok (w := 2) (by omega) LM hC)) (fun v hv => ?_)
    subst hv
    match M, LM, hC with
    | none, _, _ => exact Ok.it (by simp) (Ok.ret ⟨by simp [mv], Fr.rf⟩)
    | some cs, LM, hC =>
      refine Ok.ie (by simp) (Ok.bM (Ok.bM (Ok.bM (Ok.ck (by omega) (Ok.bM (Ok.ck (by omega) (Ok.bN (fun s hs => ?_))))))))
      have hf : Fr [4] σ s := by rw [hs]; exact ((((Fr.rf.st (by decide)).st (by decide)).st (by decide)).st (by decide)).st (by decide)
      have hV : ∀ k, s 4 k = if k = 12 then σ 3 (20 + x) else if k = 11 then σ 3 (10 + x) else if k = 10 then σ 3 x else if k = 9 then (x : Int) else if k = 0 then σ 3 40 else σ 4 k := fun k => by
        rw [hs]; simp only [st2_f, Nat.reduceEqDiff, reduceIte]
      have hC2 : LawC s t 2 (some cs) := by
        obtain ⟨i, g1, g2, g3, g4⟩ := hC
        have := isO9 q
        exact ⟨i, by rw [hf (t + 8) (by simp)]; exact g1, by rw [hf (t + 12) (by simp)]; exact g2, g3, by rw [hf (t + 4) (by simp; omega)]; exact g4⟩
      have hrun := (law_run (nm := nmF (σ 3) (x : Int)) q (by omega) LM hC2 (by rw [hf 2 (by decide)]; exact h26) (nmF_bdx hE hx) (fun k hk => ?_)).2.2
      · refine Ok.b1M hrun (fun a s2 h2 => Ok.ret ⟨?_, (hf.w (by decide)).tr (Fr.w (S := [5]) h2.2 (by decide))⟩)
        have ha : a = evV (nmF (σ 3) (x : Int)) cs := h2.1
        show max 0 (min 9 a) = mv (some cs) (σ 3) (x : Int)
        rw [ha]; rfl
      · unfold okw at hk
        rw [if_pos rfl] at hk
        have hk := of_decide_eq_true hk
        refine ⟨by omega, by omega, ?_⟩
        rw [hV]
        unfold nmF
        simp only [Int.toNat_natCast]
        have : k = 0 ∨ k = 9 ∨ k = 10 ∨ k = 11 ∨ k = 12 := by omega
        rcases this with rfl | rfl | rfl | rfl | rfl <;> rfl
/-- a day's end: new tempers, QUARRELS away -/
def dayE (M : Law) (E : Nat → Int) (k : Nat) : Int := if k < 10 then mv M E (k : Int) else if 20 ≤ k ∧ k < 30 then 0 else E k
def dayU (M : Law) (E : Nat → Int) (x k : Nat) : Int := if k < 10 then (if k < x then mv M E (k : Int) else E k) else if 20 ≤ k ∧ k < 20 + x then 0 else E k
theorem mv_bd {M : Law} {E : Nat → Int} (hE : EnvOK E) {x : Nat} (hx : x < 10) : 0 ≤ mv M E (x : Int) ∧ mv M E (x : Int) ≤ 9 := by
  match M with
  | none => exact hE.1 x hx
  | some cs => simp only [mv]; omega
theorem dayU_env {M : Law} {E : Nat → Int} (h : EnvOK E) (x : Nat) (hx : x ≤ 10) : EnvOK (dayU M E x) := by
  obtain ⟨h1, h2, h3, h4, h5⟩ := h
  refine ⟨fun k hk => ?_, fun k hk => ?_, fun k hk => ?_, fun k hk => ?_, ?_⟩
  · unfold dayU
    rw [if_pos hk]
    split
    · exact mv_bd ⟨h1, h2, h3, h4, h5⟩ hk
    · exact h1 k hk
  · unfold dayU
    rw [if_neg (by omega), if_neg (by omega)]; exact h2 k hk
  · unfold dayU
    rw [if_neg (by omega)]
    split
    · omega
    · exact h3 k hk
  · unfold dayU
    rw [if_neg (by omega), if_neg (by omega)]; exact h4 k hk
  · unfold dayU
    rw [if_neg (by omega), if_neg (by omega)]; exact h5
theorem mv_cong {M : Law} {E F : Nat → Int} {x : Nat} (h0 : F x = E x) (h1 : F (10 + x) = E (10 + x)) (h2 : F (20 + x) = E (20 + x)) (h3 : F 40 = E 40) : mv M F (x : Int) = mv M E (x : Int) := by
  match M with
  | none => exact h0
  | some cs =>
    have : nmF F (x : Int) = nmF E (x : Int) := by
      funext k
      unfold nmF
      simp only [Int.toNat_natCast]
      rw [h0, h1, h2, h3]
    simp only [mv, this]
theorem moodsC_loop {G O M : Law} {E : Nat → Int} (hE : EnvOK E) : ∀ (m n x : Nat) (σ : Mm), x + m = 10 → m < n → LawsC σ G O M → (∀ k, σ 3 k = dayU M E x k) → Ok (L_H_passDay_43 n (x : Int) σ) (fun τ => (∀ k, τ 3 k = dayE M E k) ∧ Fr [3, 4, 5] σ τ) := by
  intro m
  induction m with
  | zero =>
    intro n x σ hx hn hL h3
    match n, hn with
    | n + 1, _ =>
      rw [L_H_passDay_43]
      refine Ok.it (by omega) (Ok.ret ⟨fun k => ?_, Fr.rf⟩)
      rw [h3]
      unfold dayU dayE
      have : x = 10 := by omega
      subst this
      by_cases hk : k < 10
      · rw [if_pos hk, if_pos hk, if_pos hk]
      · rw [if_neg hk, if_neg hk]
  | succ m ih =>
    intro n x σ hx hn hL h3
    match n, hn with
    | n + 1, hn =>
      rw [L_H_passDay_43]
      have e3 : σ 3 = dayU M E x := funext h3
      have hEx := dayU_env (M := M) hE x (by omega)
      have t0 : ((0 : Int) + (x : Int)).toNat = x := by omega
      have t2 : ((20 : Int) + (x : Int)).toNat = 20 + x := by omega
      have e2 : (x : Int) + 1 = ((x + 1 : Nat) : Int) := by omega
      simp only [t0, t2]
      refine Ok.ie (by omega) (Ok.b1M (mood_ok hL (by rw [e3]; exact hEx) (x := x) (by omega)) (fun a s hs => ?_))
      obtain ⟨ha, hf⟩ := hs
      have hf : Fr [4, 5] σ s := hf
      have ha : a = mv M E (x : Int) := by
        have : a = mv M (σ 3) (x : Int) := ha
        rw [this]
        refine mv_cong ?_ ?_ ?_ ?_
        · rw [h3]; unfold dayU; rw [if_pos (by omega), if_neg (by omega)]
        · rw [h3]; unfold dayU; rw [if_neg (by omega), if_neg (by omega)]
        · rw [h3]; unfold dayU; rw [if_neg (by omega), if_neg (by omega)]
        · rw [h3]; unfold dayU; rw [if_neg (by omega), if_neg (by omega)]
      refine Ok.ck (by omega) (Ok.bM (Ok.ck (by omega) (Ok.bM (Ok.ck ⟨by omega, by omega⟩ ?_))))
      rw [e2]
      have fs : Fr [3, 4, 5] σ (st2 (st2 s 3 x a) 3 (20 + x) 0) := ((hf.w (by decide)).st (by decide)).st (by decide)
      refine (ih n (x + 1) _ (by omega) (by omega) (hL.fr fs (by rw [fs 2 (by decide)]) (by decide)) (fun k => ?_)).mono (fun τ hτ => ⟨hτ.1, fs.tr hτ.2⟩)
      simp only [st2_f, reduceIte]
      rw [hf 3 (by decide), h3]
      unfold dayU
      by_cases hk : k = 20 + x
      · rw [if_pos hk, if_neg (by omega), if_pos (by omega)]
      · rw [if_neg hk]
        by_cases hk2 : k = x
        · subst hk2
          rw [if_pos rfl, if_pos (by omega), if_pos (by omega), ha]
        · rw [if_neg hk2]
          by_cases hk3 : k < 10
          · rw [if_pos hk3, if_pos hk3]
            by_cases hk4 : k < x
            · rw [if_pos hk4, if_pos (by omega)]
            · rw [if_neg hk4, if_neg (by omega)]
          · rw [if_neg hk3, if_neg hk3]
            by_cases hk4 : 20 ≤ k ∧ k < 20 + x
            · rw [if_pos hk4, if_pos (by omega)]
            · rw [if_neg hk4, if_neg (by omega)]
