-- the reference's `moods`
theorem orders2 {σ : Mm} {G O M : Law} (h : LawsM σ G O M) : ∃ v : Int, F_M_ordersOf 2 σ = some v ∧ ((v = -1 ∧ M = none) ∨ ∃ (i : Nat) (cs : List Int), v = (i : Int) ∧ M = some cs ∧ MCode (σ 210) (σ 211) i cs ∧ i + cs.length < 1600) := by
  rcases h with ⟨h1, -, -, h2⟩ | ⟨t, ht, h1, -, h3, -, -, hM⟩
  · exact ⟨-1, orders_off (w := 2) h1, Or.inl ⟨rfl, h2⟩⟩
  · match M, hM with
    | none, hM => exact ⟨-1, orders_no (w := 2) ht h1 h3 hM, Or.inl ⟨rfl, rfl⟩⟩
    | some cs, hM =>
      obtain ⟨i, a, b, c⟩ := orders_yes (w := 2) ht h1 h3 hM
      exact ⟨(i : Int), a, Or.inr ⟨i, cs, rfl, rfl, b, c⟩⟩
theorem evS_v {nm : Nat → Int} {cs : List Int} (hw : wfS (okw 2) [] cs = some [false]) (hb : ∀ k : Int, okw 2 k = true → -100000000 ≤ nm k.toNat ∧ nm k.toNat ≤ 100000000) : evS nm [] cs = [evV nm cs] ∧ r32 (evV nm cs) := by
  have hev := evS_ty hb (ty := []) (st := []) trivial hw
  have e1 : evS nm [] cs = [evV nm cs] := by
    unfold evV
    match h : evS nm [] cs, hev with
    | [v], _ => rfl
  rw [e1] at hev
  have hty : -100000000 ≤ evV nm cs ∧ evV nm cs ≤ 100000000 := Ty1.n (by simpa using hev.1)
  exact ⟨e1, ⟨by omega, by omega⟩⟩
theorem moodsM_loop {M : Law} (LM : LawOK 2 M) {E : Nat → Int} (hE : EnvOK E) {v : Int} : ∀ (m n x : Nat) (σ : Mm), x + m = 10 → m < n → EM σ = E → ((v = -1 ∧ M = none) ∨ ∃ (i : Nat) (cs : List Int), v = (i : Int) ∧ M = some cs ∧ MCode (σ 210) (σ 211) i cs ∧ i + cs.length < 1600) → (∀ k, k < x → σ 233 k = mv M E (k : Int)) → Ok (L_M_moods_8 n v (x : Int) σ) (fun τ => (∀ k, k < 10 → τ 233 k = mv M E (k : Int)) ∧ Fr [223, 224, 233] σ τ) := by
  intro m
  induction m with
  | zero =>
    intro n x σ hx hn hEM hv h3
    match n, hn with
    | n + 1, _ =>
      rw [L_M_moods_8]
      exact Ok.it (by omega) (Ok.ret ⟨fun k hk => h3 k (by omega), Fr.rf⟩)
  | succ m ih =>
    intro n x σ hx hn hEM hv h3
    match n, hn with
    | n + 1, hn =>
      rw [L_M_moods_8]
      have lx : x < 10 := by omega
      have e2 : (x : Int) + 1 = ((x + 1 : Nat) : Int) := by omega
      simp only [Int.toNat_natCast]
      refine Ok.ie (by omega) (Ok.bM (Ok.bM (Ok.ck (by omega) (Ok.bM (Ok.ck (by omega) (Ok.bM (Ok.ck (by omega) (Ok.bN (fun s hs => ?_)))))))))
      have hf : Fr [223] σ s := by rw [hs]; exact ((((Fr.rf.st (by decide)).st (by decide)).st (by decide)).st (by decide)).st (by decide)
      have w0 : E x = σ 225 x := by rw [← hEM]; exact EM_1 lx
      have w1 : E (10 + x) = σ 226 x := by rw [← hEM]; exact EM_2 lx
      have w2 : E (20 + x) = σ 227 x := by rw [← hEM]; exact EM_3 lx
      have w3 : E 40 = σ 200 45 := by rw [← hEM]; rfl
      have hV : ∀ k, s 223 k = if k = 12 then E (20 + x) else if k = 11 then E (10 + x) else if k = 10 then E x else if k = 9 then (x : Int) else if k = 0 then E 40 else σ 223 k := fun k => by
        rw [hs, w0, w1, w2, w3]; simp only [st2_f, Nat.reduceEqDiff, reduceIte]
      have J : ∀ (y : Int) (t7 : Mm), y = mv M E (x : Int) → Fr [223, 224] σ t7 → Ok (if 0 ≤ (x : Int) ∧ (x : Int) < 10 then
                bindM (st2 t7 233 x y) fun s8 =>
                if r32 ((x : Int) + 1) then
                  L_M_moods_8 n v ((x : Int) + 1) s8
                else none
              else none) (fun τ => (∀ k, k < 10 → τ 233 k = mv M E (k : Int)) ∧ Fr [223, 224, 233] σ τ) := by
        intro y t7 hy hf7
        refine Ok.ck (by omega) (Ok.bM (Ok.ck ⟨by omega, by omega⟩ ?_))
        rw [e2]
        have f8 : Fr [223, 224, 233] σ (st2 t7 233 x y) := (hf7.w (by decide)).st (by decide)
        refine (ih n (x + 1) _ (by omega) (by omega) ?_ ?_ (fun k hk => ?_)).mono (fun τ hτ => ⟨hτ.1, f8.tr hτ.2⟩)
        · rw [EM_fr f8 (by rw [f8 200 (by decide)]) (by decide)]; exact hEM
        · rw [f8 210 (by decide), f8 211 (by decide)]; exact hv
        · simp only [st2_f, reduceIte]
          by_cases hk2 : k = x
          · subst hk2; rw [if_pos rfl]; exact hy
          · rw [if_neg hk2, hf7 233 (by decide)]; exact h3 k (by omega)
      refine Ok.bM ?_
      rcases hv with ⟨hv1, hv2⟩ | ⟨i, cs, hv1, hv2, hv3, hv4⟩
      · subst hv2
        refine Ok.it hv1 (Ok.ck (by omega) (J _ s ?_ (hf.w (by decide))))
        rw [hf 225 (by decide), ← w0]; simp [mv]
      · subst hv2
        refine Ok.ie (by omega) ?_
        have hsay := says_ok (ok := okw 2) (nm := nmF E (x : Int)) (fun k _ => nmF_bdx hE lx k.toNat) (σ := s) (i := i) (by rw [hf 210 (by decide), hf 211 (by decide)]; exact hv3) hv4 (LM cs rfl).2.2 (v := evV (nmF E (x : Int)) cs) ?_ (fun k hk => ?_)
        · rw [hv1]
          have hb := evS_v (LM cs rfl).2.2 (fun k _ => nmF_bdx hE lx k.toNat)
          refine Ok.b1M hsay (fun a s10 h10 => ?_)
          have ha : a = evV (nmF E (x : Int)) cs := h10.1
          have hf10 : Fr [224] s s10 := h10.2
          refine Ok.b1 (Ok.eq (held_ok (v := a) (lo := 0) (hi := 9) (by rw [ha]; exact hb.2) (by decide))) (fun w hw => ?_)
          subst hw
          rw [← hv1]
          exact J _ s10 (by rw [ha]; rfl) ((hf.w (by decide)).tr (hf10.w (by decide)))
        · exact (evS_v (LM cs rfl).2.2 (fun k _ => nmF_bdx hE lx k.toNat)).1
        · unfold okw at hk
          rw [if_pos rfl] at hk
          have hk := of_decide_eq_true hk
          refine ⟨by omega, by omega, ?_⟩
          rw [hV]
          unfold nmF
          simp only [Int.toNat_natCast]
          have : k = 0 ∨ k = 9 ∨ k = 10 ∨ k = 11 ∨ k = 12 := by omega
          rcases this with rfl | rfl | rfl | rfl | rfl <;> rfl
theorem moodsM_two : ∀ (m n x : Nat) (σ : Mm), x + m = 10 → m < n → Ok (L_M_moods_110 n (x : Int) σ) (fun τ => (∀ k, τ 225 k = if x ≤ k ∧ k < 10 then σ 233 k else σ 225 k) ∧ (∀ k, τ 227 k = if x ≤ k ∧ k < 10 then 0 else σ 227 k) ∧ Fr [225, 227] σ τ) := by
  intro m
  induction m with
  | zero =>
    intro n x σ hx hn
    match n, hn with
    | n + 1, _ =>
      rw [L_M_moods_110]
      exact Ok.it (by omega) (Ok.ret ⟨fun k => by rw [if_neg (by omega)], fun k => by rw [if_neg (by omega)], Fr.rf⟩)
  | succ m ih =>
    intro n x σ hx hn
    match n, hn with
    | n + 1, hn =>
      rw [L_M_moods_110]
      have e2 : (x : Int) + 1 = ((x + 1 : Nat) : Int) := by omega
      simp only [Int.toNat_natCast]
      refine Ok.ie (by omega) (Ok.ck (by omega) (Ok.ck (by omega) (Ok.bM (Ok.ck (by omega) (Ok.bM (Ok.ck ⟨by omega, by omega⟩ ?_))))))
      rw [e2]
      refine (ih n (x + 1) _ (by omega) (by omega)).mono (fun τ hτ => ⟨fun k => ?_, fun k => ?_, ((Fr.rf.st (by decide)).st (by decide)).tr hτ.2.2⟩)
      · rw [hτ.1 k]
        simp only [st2_f, Nat.reduceEqDiff, reduceIte]
        by_cases hk : k = x
        · subst hk; rw [if_neg (by omega), if_pos rfl, if_pos (by omega)]
        · by_cases h2 : x ≤ k ∧ k < 10
          · rw [if_pos (by omega), if_pos h2]
          · rw [if_neg (by omega), if_neg hk, if_neg h2]
      · rw [hτ.2.1 k]
        simp only [st2_f, Nat.reduceEqDiff, reduceIte]
        by_cases hk : k = x
        · subst hk; rw [if_neg (by omega), if_pos rfl, if_pos (by omega)]
        · by_cases h2 : x ≤ k ∧ k < 10
          · rw [if_pos (by omega), if_pos h2]
          · rw [if_neg (by omega), if_neg hk, if_neg h2]
theorem moodsM_ok {σ : Mm} {G O M : Law} (hM : MOK σ G O M) : Ok (F_M_moods σ) (fun τ => EM τ = dayE M (EM σ) ∧ Fr [223, 224, 225, 227, 233] σ τ) := by
  unfold F_M_moods
  obtain ⟨v, h1, h2⟩ := orders2 hM.1
  refine Ok.b1 (Ok.eq h1) (fun a ha => ?_)
  subst ha
  refine Ok.b0M (moodsM_loop hM.2.2.2.1 hM.2.2.2.2 10 LF 0 σ (by omega) (by unfold LF; omega) rfl h2 (fun k hk => by omega)) (fun s hs => ?_)
  obtain ⟨s1, s2⟩ := hs
  refine Ok.b0M (moodsM_two 10 LF 0 s (by omega) (by unfold LF; omega)) (fun τ hτ => Ok.ret ⟨?_, (s2.w (by decide)).tr (hτ.2.2.w (by decide))⟩)
  obtain ⟨t1, t2, t3⟩ := hτ
  funext k
  unfold dayE
  by_cases k1 : k < 10
  · rw [if_pos k1, EM_1 k1, t1, if_pos (by omega), s1 k k1]
  · rw [if_neg k1]
    by_cases k2 : 20 ≤ k ∧ k < 30
    · rw [if_pos k2]
      unfold EM
      rw [if_neg (by omega), if_neg (by omega), if_pos (by omega), t2, if_pos (by omega)]
    · rw [if_neg k2]
      unfold EM
      rw [t3 226 (by decide), t3 228 (by decide), t3 200 (by decide), s2 226 (by decide), s2 228 (by decide), s2 200 (by decide), if_neg k1, if_neg k1]
      by_cases k3 : k < 20
      · rw [if_pos k3, if_pos k3]
      · rw [if_neg k3, if_neg k3, if_neg (show ¬ k < 30 by omega), if_neg (show ¬ k < 30 by omega)]
