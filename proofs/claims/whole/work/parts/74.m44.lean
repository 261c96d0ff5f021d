-- `image` and `back` on both sides
theorem Ok.op {v v2 : Int} {s u : Mm} {B R : Int} (h : v2 = v) (k : Rel s u B R) : Ok (some (v2, u)) (fun b => b.1 = (v, s).1 ∧ Rel (v, s).2 b.2 B R) := Ok.ret ⟨h, k⟩
theorem LawsC.e {σ τ : Mm} {G O M : Law} (h : LawsC σ G O M) (h2 : τ 2 6 = σ 2 6) (hc : ∀ i, 94 ≤ i → i < 114 → τ i = σ i) : LawsC τ G O M := by
  obtain ⟨l1, l2, l3, l4⟩ := h
  refine ⟨l1, l2, l3, ?_⟩
  rw [h2]
  rcases l4 with l4 | ⟨t, q, q2, q3, q4, q5⟩
  · exact Or.inl l4
  · have ht := isO9 q
    exact Or.inr ⟨t, q, q2, q3.e (hc _ (by omega) (by omega)) (hc _ (by omega) (by omega)) (hc _ (by omega) (by omega)), q4.e (hc _ (by omega) (by omega)) (hc _ (by omega) (by omega)) (hc _ (by omega) (by omega)), q5.e (hc _ (by omega) (by omega)) (hc _ (by omega) (by omega)) (hc _ (by omega) (by omega))⟩
theorem LawsM.e {μ ν : Mm} {G O M : Law} (h : LawsM μ G O M) (h2 : ν 201 2 = μ 201 2) (m : ∀ i, 202 ≤ i ∧ i < 212 → i ≠ 202 → ν i = μ i) : LawsM ν G O M := by
  unfold LawsM at *
  rw [h2, m 204 (by omega) (by omega)]
  have f : ∀ {t w : Nat} {L : Law}, LawM μ t w L → LawM ν t w L := fun {t w L} h => by
    unfold LawM at *
    rw [m 204 (by omega) (by omega), m 205 (by omega) (by omega), m 206 (by omega) (by omega), m 210 (by omega) (by omega), m 211 (by omega) (by omega)]; exact h
  rcases h with h | ⟨t, q, q2, q2b, q2c, q3, q4, q5⟩
  · exact Or.inl h
  · exact Or.inr ⟨t, q, q2, q2b, q2c, f q3, f q4, f q5⟩
theorem TextR.fr2 {σ τ μ ν : Mm} {t : Nat} (h : TextR σ μ t) (ht : t < 4) (hc : ∀ i, 94 ≤ i ∧ i < 114 → τ i = σ i) (m : ∀ i, 202 ≤ i ∧ i < 212 → i ≠ 202 → ν i = μ i) : TextR τ ν t := by
  obtain ⟨⟨n, n1, n2, n3, n4⟩, G, O, M, l1, ⟨a1, a2, a3⟩, b1, b2, b3⟩ := h
  have f : ∀ {t w : Nat} {L : Law}, LawM μ t w L → LawM ν t w L := fun {t w L} h => by
    unfold LawM at *
    rw [m 204 (by omega) (by omega), m 205 (by omega) (by omega), m 206 (by omega) (by omega), m 210 (by omega) (by omega), m 211 (by omega) (by omega)]; exact h
  refine ⟨⟨n, n1, by rw [hc _ (by omega)]; exact n2, by rw [m _ (by omega) (by omega)]; exact n3, fun k hk => ?_⟩, G, O, M, l1, ⟨?_, ?_, ?_⟩, f b1, f b2, f b3⟩
  · rw [hc _ (by omega), m 205 (by omega) (by omega), m 207 (by omega) (by omega), m 208 (by omega) (by omega), m 209 (by omega) (by omega)]; exact n4 k hk
  · exact a1.e (hc _ (by omega)) (hc _ (by omega)) (hc _ (by omega))
  · exact a2.e (hc _ (by omega)) (hc _ (by omega)) (hc _ (by omega))
  · exact a3.e (hc _ (by omega)) (hc _ (by omega)) (hc _ (by omega))
theorem stR_f (σ : Mm) (i a : Nat) (f : Nat → Int) : stR σ i f a = if a = i then f else σ a := by
  funext b
  unfold stR
  by_cases h : a = i
  · rw [if_pos h, if_pos h]
  · rw [if_neg h, if_neg h]
theorem cpy_lt {f g : Nat → Int} {n k : Nat} (h : k < n) : cpyI f g 0 0 (n : Int) k = f k := by
  unfold cpyI
  have e : ((0 : Int)).toNat = 0 := rfl
  have e2 : ((n : Int)).toNat = n := by omega
  rw [e, e2, if_pos ⟨by omega, by omega⟩]
  congr 1
  omega
theorem copy_loop {r0 r1 c n : Nat} (hr : (r0 = 58 ∧ r1 = 135) ∨ (r0 = 135 ∧ r1 = 58)) (hc : c ≤ 30) (hn : n < 30) : ∀ (m N i : Nat) (σ : Mm), i + m = c + 1 → 1 ≤ i → m < N → σ r0 1 = (n : Int) → σ r0 2 = (c : Int) →
    Ok (L_S_copy_18 N r0 r1 (i : Int) σ) (fun τ => (∀ t, i ≤ t → t ≤ c → ∀ k, k < 165 → τ (r0 + 2 + (n + 30 - t) % 30) k = σ (r1 + 2 + (n + 30 - t) % 30) k) ∧ (∀ j, j < 30 → τ (r0 + 2 + j) = σ (r0 + 2 + j) ∨ ∀ k, k < 165 → τ (r0 + 2 + j) k = σ (r1 + 2 + j) k) ∧ ∀ j, ¬ (r0 + 2 ≤ j ∧ j < r0 + 32) → τ j = σ j) := by
  intro m
  induction m with
  | zero =>
    intro N i σ hi h1 hN hs1 hs2
    match N, hN with
    | N + 1, _ =>
      rw [L_S_copy_18, hs2, if_pos (by omega)]
      exact Ok.ret ⟨fun t a b => by omega, fun _ _ => Or.inl rfl, fun _ _ => rfl⟩
  | succ m ih =>
    intro N i σ hi h1 hN hs1 hs2
    match N, hN with
    | N + 1, hN =>
      have e1 : ((n : Int) + 30 - (i : Int)).tmod 30 = (((n + 30 - i) % 30 : Nat) : Int) := by
        rw [Int.tmod_eq_emod_of_nonneg (by omega)]; omega
      have e2 : ((((n + 30 - i) % 30 : Nat) : Int)).toNat = (n + 30 - i) % 30 := by omega
      have e3 : (i : Int) + 1 = ((i + 1 : Nat) : Int) := by omega
      have c1 : (0 : Int) ≤ (((n + 30 - i) % 30 : Nat) : Int) ∧ (((n + 30 - i) % 30 : Nat) : Int) < 30 := by omega
      rw [L_S_copy_18, hs2, hs1, if_neg (by omega), if_pos (show r32 ((n : Int) + 30 - (i : Int)) from ⟨by omega, by omega⟩)]
      simp only [bindM_eq, e1, if_pos c1, e2, e3, if_pos (show r32 ((i + 1 : Nat) : Int) from ⟨by omega, by omega⟩)]
      have w : ∀ a, stR σ (r0 + 1 + 1 + (n + 30 - i) % 30) (cpyI (σ (r1 + 1 + 1 + (n + 30 - i) % 30)) (σ (r0 + 1 + 1 + (n + 30 - i) % 30)) 0 0 165) a = if a = r0 + 2 + (n + 30 - i) % 30 then cpyI (σ (r1 + 2 + (n + 30 - i) % 30)) (σ (r0 + 2 + (n + 30 - i) % 30)) 0 0 165 else σ a := fun a => stR_f _ _ _ _
      generalize stR σ (r0 + 1 + 1 + (n + 30 - i) % 30) (cpyI (σ (r1 + 1 + 1 + (n + 30 - i) % 30)) (σ (r0 + 1 + 1 + (n + 30 - i) % 30)) 0 0 165) = s at w
      refine (ih N (i + 1) s (by omega) (by omega) (by omega) (by rw [w, if_neg (by omega)]; exact hs1) (by rw [w, if_neg (by omega)]; exact hs2)).mono (fun τ hτ => ?_)
      obtain ⟨t1, t2, t3⟩ := hτ
      have u1 : ∀ j, j < 30 → s (r1 + 2 + j) = σ (r1 + 2 + j) := fun j hj => by rw [w, if_neg (by omega)]
      have cp : ∀ k, k < 165 → s (r0 + 2 + (n + 30 - i) % 30) k = σ (r1 + 2 + (n + 30 - i) % 30) k := fun k hk => by rw [w, if_pos rfl]; exact cpy_lt (n := 165) hk
      have slot : ∀ j, j < 30 → (∀ k, k < 165 → s (r0 + 2 + j) k = σ (r1 + 2 + j) k) → ∀ k, k < 165 → τ (r0 + 2 + j) k = σ (r1 + 2 + j) k := fun j hj h k hk => by
        rcases t2 j hj with q | q
        · rw [q]; exact h k hk
        · rw [q k hk, u1 j hj]
      refine ⟨fun t a b => ?_, fun j hj => ?_, fun j hj => by rw [t3 j hj, w, if_neg (by omega)]⟩
      · by_cases ht : t = i
        · subst ht; exact slot _ (by omega) cp
        · intro k hk
          rw [t1 t (by omega) b k hk, u1 _ (by omega)]
      · by_cases hj2 : j = (n + 30 - i) % 30
        · right; subst hj2; exact slot _ hj cp
        · rcases t2 j hj with q | q
          · left; rw [q, w, if_neg (by omega)]
          · right; intro k hk; rw [q k hk, u1 j hj]
theorem copyS_ok {r0 r1 c n : Nat} (hr : (r0 = 58 ∧ r1 = 135) ∨ (r0 = 135 ∧ r1 = 58)) (hc : c ≤ 30) (hn : n < 30) {σ : Mm} (h1 : σ r1 1 = (n : Int)) (h2 : σ r1 2 = (c : Int)) :
    Ok (F_S_copy r0 r1 σ) (fun τ => τ r0 1 = (n : Int) ∧ τ r0 2 = (c : Int) ∧ (∀ t, 1 ≤ t → t ≤ c → ∀ k, k < 165 → τ (r0 + 2 + (n + 30 - t) % 30) k = σ (r1 + 2 + (n + 30 - t) % 30) k) ∧ (∀ j, j < 30 → τ (r0 + 2 + j) = σ (r0 + 2 + j) ∨ ∀ k, k < 165 → τ (r0 + 2 + j) k = σ (r1 + 2 + j) k) ∧ ∀ j, j ≠ r0 → ¬ (r0 + 2 ≤ j ∧ j < r0 + 32) → τ j = σ j) := by
  unfold F_S_copy
  simp only [bindM_eq]
  have ne : r1 ≠ r0 := by omega
  have z1 : st2 σ r0 1 (σ r1 1) r1 = σ r1 := st2_ne ne
  rw [z1]
  have y1 : st2 (st2 σ r0 1 (σ r1 1)) r0 2 (σ r1 2) r0 1 = (n : Int) := by rw [st2_sk, if_neg (by decide), st2_ss]; exact h1
  have y2 : st2 (st2 σ r0 1 (σ r1 1)) r0 2 (σ r1 2) r0 2 = (c : Int) := by rw [st2_ss]; exact h2
  have y3 : ∀ j, j ≠ r0 → st2 (st2 σ r0 1 (σ r1 1)) r0 2 (σ r1 2) j = σ j := fun j hj => by rw [st2_ne hj, st2_ne hj]
  generalize st2 (st2 σ r0 1 (σ r1 1)) r0 2 (σ r1 2) = s at y1 y2 y3
  refine Ok.b0M (copy_loop hr hc hn c LF 1 s (by omega) (by omega) (by unfold LF; omega) y1 y2) (fun τ hτ => ?_)
  obtain ⟨t1, t2, t3⟩ := hτ
  have z : ∀ j, s (r1 + 2 + j) = σ (r1 + 2 + j) ∨ ¬ j < 30 := fun j => by
    by_cases hj : j < 30
    · exact Or.inl (y3 _ (by omega))
    · exact Or.inr hj
  refine Ok.ret ⟨by rw [t3 r0 (by omega)]; exact y1, by rw [t3 r0 (by omega)]; exact y2, fun t a b k hk => ?_, fun j hj => ?_, fun j j1 j2 => by rw [t3 j j2, y3 j j1]⟩
  · rw [t1 t a b k hk, y3 _ (by omega)]
  · rcases t2 j hj with q | q
    · left; rw [q, y3 _ (by omega)]
    · right; intro k hk; rw [q k hk, y3 _ (by omega)]
theorem copies_out : ∀ (m N k : Nat) (σ : Mm), k + m = 5240 → m < N → Ok (L_M_copies_2 N 1 (k : Int) σ) (fun τ => (∀ j, k ≤ j → j < 5240 → τ 202 j = σ 201 j) ∧ (∀ j, j < k → τ 202 j = σ 202 j) ∧ Fr [202] σ τ) := by
  intro m
  induction m with
  | zero =>
    intro N k σ hk hN
    match N, hN with
    | N + 1, _ =>
      rw [L_M_copies_2, if_pos (by omega)]
      exact Ok.ret ⟨fun j a b => by omega, fun _ _ => rfl, Fr.rf⟩
  | succ m ih =>
    intro N k σ hk hN
    match N, hN with
    | N + 1, hN =>
      have e1 : ((k : Int)).toNat = k := by omega
      have e2 : (k : Int) + 1 = ((k + 1 : Nat) : Int) := by omega
      have c1 : (0 : Int) ≤ (k : Int) ∧ (k : Int) < 5240 := by omega
      rw [L_M_copies_2, if_neg (by omega)]
      simp only [bindM_eq, if_neg ne10, if_pos c1, e1, e2, if_pos (show r32 ((k + 1 : Nat) : Int) from ⟨by omega, by omega⟩)]
      refine (ih N (k + 1) _ (by omega) (by omega)).mono (fun τ hτ => ?_)
      obtain ⟨t1, t2, t3⟩ := hτ
      refine ⟨fun j a b => ?_, fun j hj => ?_, (Fr.rf.st (by decide)).tr t3⟩
      · by_cases hj : j = k
        · rw [t2 j (by omega), hj, st2_ss]
        · rw [t1 j (by omega) b, st2_ne (by decide)]
      · rw [t2 j (by omega), st2_sk, if_neg (by omega)]
theorem copies_in : ∀ (m N k : Nat) (σ : Mm), k + m = 5240 → m < N → Ok (L_M_copies_2 N 0 (k : Int) σ) (fun τ => (∀ j, k ≤ j → j < 5240 → τ 201 j = σ 202 j) ∧ (∀ j, j < k → τ 201 j = σ 201 j) ∧ Fr [201] σ τ) := by
  intro m
  induction m with
  | zero =>
    intro N k σ hk hN
    match N, hN with
    | N + 1, _ =>
      rw [L_M_copies_2, if_pos (by omega)]
      exact Ok.ret ⟨fun j a b => by omega, fun _ _ => rfl, Fr.rf⟩
  | succ m ih =>
    intro N k σ hk hN
    match N, hN with
    | N + 1, hN =>
      have e1 : ((k : Int)).toNat = k := by omega
      have e2 : (k : Int) + 1 = ((k + 1 : Nat) : Int) := by omega
      have c1 : (0 : Int) ≤ (k : Int) ∧ (k : Int) < 5240 := by omega
      rw [L_M_copies_2, if_neg (by omega)]
      simp only [bindM_eq, if_true, if_pos c1, e1, e2, if_pos (show r32 ((k + 1 : Nat) : Int) from ⟨by omega, by omega⟩)]
      refine (ih N (k + 1) _ (by omega) (by omega)).mono (fun τ hτ => ?_)
      obtain ⟨t1, t2, t3⟩ := hτ
      refine ⟨fun j a b => ?_, fun j hj => ?_, (Fr.rf.st (by decide)).tr t3⟩
      · by_cases hj : j = k
        · rw [t2 j (by omega), hj, st2_ss]
        · rw [t1 j (by omega) b, st2_ne (by decide)]
      · rw [t2 j (by omega), st2_sk, if_neg (by omega)]
theorem BookC.cg {f g : Nat → Int} {w : Nat} {b : Nat → Nat → Int} (h : BookC f w b) (hf : ∀ k, k < 165 → g k = f k) : BookC g w b := h.cong (fun k _ hk => hf k hk)
theorem StepsR.move {σ τ : Mm} {r0 r1 : Nat} {a c : Nat → Int} (h : StepsR σ r1 a) {n u : Nat} (hn : n < 30) (hu : u ≤ 30) (h1 : σ r1 1 = (n : Int)) (h2 : σ r1 2 = (u : Int)) (g1 : τ r0 1 = (n : Int)) (g2 : τ r0 2 = (u : Int)) (hs : ∀ t, 1 ≤ t → t ≤ u → ∀ k, k < 165 → τ (r0 + 2 + (n + 30 - t) % 30) k = σ (r1 + 2 + (n + 30 - t) % 30) k) (hg : ∀ k, k < 5240 → c k = a k) : StepsR τ r0 c := by
  obtain ⟨u', n', a1, a2, a3, a4, a5, a6⟩ := h
  have e1 : n' = n := by omega
  have e2 : u' = u := by omega
  subst e1; subst e2
  refine ⟨u', n', a1, a2, g1, g2, by rw [hg 3 (by omega)]; exact a5, fun i hi => (a6 i hi).cong (fun k hk => ?_) (fun x hx => hg _ (by omega))⟩
  have := hs (u' - i) (by omega) (by omega) k hk
  have e : n' + 30 - (u' - i) = n' + 30 - u' + i := by omega
  rw [e] at this; exact this
theorem image_rel {σ μ : Mm} {B R : Int} (h : Rel σ μ B R) : Op (F_A_image σ) (F_M_image μ) B R := by
  obtain ⟨G, O, M, hN, hT, hF, ⟨T, t1, t2, t3, t4, t5⟩, ⟨c, hS1, hS2⟩, hD, hI⟩ := h
  obtain ⟨u, n, a1, a2, a3, a4, a5, a6⟩ := hN.steps
  obtain ⟨c', c1, c2, c3, c4⟩ := hN.rows
  have ec : c' = c := by omega
  subst ec
  unfold F_A_image F_M_image F_M_copies
  simp only [bindM_eq]
  have w1 : ∀ a, stR σ 134 (cpyI (σ 3) (σ 134) 0 0 165) a = if a = 134 then cpyI (σ 3) (σ 134) 0 0 165 else σ a := fun a => stR_f _ _ _ _
  generalize stR σ 134 (cpyI (σ 3) (σ 134) 0 0 165) = s1 at w1
  have x1 : ∀ k, k < 165 → s1 134 k = σ 3 k := fun k hk => by rw [w1, if_pos rfl]; exact cpy_lt (n := 165) hk
  refine Ok.b0M (copyS_ok (r0 := 135) (r1 := 58) (Or.inr ⟨rfl, rfl⟩) a1 a2 (by rw [w1, if_neg (by decide)]; exact a3) (by rw [w1, if_neg (by decide)]; exact a4)) (fun s2 hs2 => ?_)
  obtain ⟨p1, p2, p3, p4, p5⟩ := hs2
  have e2 : ∀ i, i < 134 ∨ 167 ≤ i → s2 i = σ i := fun i hi => by rw [p5 i (by omega) (by omega), w1, if_neg (by omega)]
  have w9 : ∀ τ, τ = st2 (st2 (st2 (st2 (stR (stR (stR s2 167 (cpyI (s2 122) (s2 167) 0 0 6)) 168 (cpyI (s2 123) (s2 168) 0 0 6)) 169 (cpyI (s2 130) (s2 169) 0 0 36)) 133 5 (s2 121 2)) 133 6 (s2 1 4)) 133 7 (s2 0 8)) 133 8 (s2 0 9) → (∀ i, i < 133 ∨ (134 ≤ i ∧ i < 167) → τ i = s2 i) ∧ (∀ k, k < 6 → τ 167 k = σ 122 k ∧ τ 168 k = σ 123 k) ∧ (∀ k, k < 36 → τ 169 k = σ 130 k) ∧ τ 133 5 = σ 121 2 ∧ τ 133 6 = σ 1 4 ∧ τ 133 7 = σ 0 8 ∧ τ 133 8 = σ 0 9 := fun τ hτ => by
    subst hτ
    refine ⟨fun i hi => ?_, fun k hk => ⟨?_, ?_⟩, fun k hk => ?_, ?_, ?_, ?_, ?_⟩
    · rw [st2_ne (by omega), st2_ne (by omega), st2_ne (by omega), st2_ne (by omega), stR_off (by omega), stR_off (by omega), stR_off (by omega)]
    · rw [st2_ne (by decide), st2_ne (by decide), st2_ne (by decide), st2_ne (by decide), stR_off (by decide), stR_off (by decide), stR_f, if_pos rfl, ← e2 122 (by omega)]
      exact cpy_lt (n := 6) hk
    · rw [st2_ne (by decide), st2_ne (by decide), st2_ne (by decide), st2_ne (by decide), stR_off (by decide), stR_f, if_pos rfl, ← e2 123 (by omega)]
      exact cpy_lt (n := 6) hk
    · rw [st2_ne (by decide), st2_ne (by decide), st2_ne (by decide), st2_ne (by decide), stR_f, if_pos rfl, ← e2 130 (by omega)]
      exact cpy_lt (n := 36) hk
    · simp [st2_f, e2]
    · simp [st2_f, e2]
    · simp [st2_f, e2]
    · simp [st2_f, e2]
  have key : ∀ τ, ((∀ i, i < 133 ∨ (134 ≤ i ∧ i < 167) → τ i = s2 i) ∧ (∀ k, k < 6 → τ 167 k = σ 122 k ∧ τ 168 k = σ 123 k) ∧ (∀ k, k < 36 → τ 169 k = σ 130 k) ∧ τ 133 5 = σ 121 2 ∧ τ 133 6 = σ 1 4 ∧ τ 133 7 = σ 0 8 ∧ τ 133 8 = σ 0 9) → Ok (some (τ 3 40, τ)) (fun a => Ok (b0M (b0M (L_M_copies_2 LF 1 0 μ) fun s5 => some s5) fun s1 => some (s1 201 180, s1)) (fun b => b.1 = a.1 ∧ Rel a.2 b.2 B R)) := fun τ hτ => by
    obtain ⟨y1, y2, y3, y4, y5, y6, y7⟩ := hτ
    refine Ok.ret ?_
    obtain ⟨ν, E, m1, -, m3⟩ := copies_out 5240 LF 0 μ (by omega) (by unfold LF; omega)
    rw [show ((0 : Nat) : Int) = 0 from rfl] at E
    rw [E, b0M_some, b0M_some]
    have e : ∀ i, i < 133 → τ i = σ i := fun i hi => by rw [y1 i (by omega), e2 i (by omega)]
    have m : ∀ i, i ≠ 202 → ν i = μ i := fun i hi => m3 i (by simpa using hi)
    refine Ok.op ?_ ⟨G, O, M, hN.cells (hN.laws.e (by rw [e 2 (by decide)]) (fun i _ i2 => e i (by omega))) (hN.lawsM.e (by rw [m 201 (by decide)]) (fun i _ i2 => m i i2)) (fun i i1 i2 => e i (by omega)) (by rw [e 2 (by decide)]) (fun k _ => by rw [m 201 (by decide)]), hT.fr (by rw [e 90 (by decide)]) (e 91 (by decide)) (by rw [m 200 (by decide)]) (m 203 (by decide)), hF.fr (fun s _ _ => by rw [e 90 (by decide)]) (by rw [m 200 (by decide)]) (by rw [m 200 (by decide)]), ⟨T, t1, by rw [e 0 (by decide)]; exact t2, by rw [m 201 (by decide)]; exact t3, fun t ht => (t4 t ht).fr2 (by omega) (fun i hi => e i (by omega)) (fun i _ i2 => m i i2), by rw [e 0 (by decide), m 201 (by decide), e 2 (by decide)]; exact t5⟩, ⟨c', by rw [e 1 (by decide)]; exact hS1, by rw [e 121 (by decide), e 122 (by decide), e 123 (by decide), m 201 (by decide)]; exact hS2⟩, by rw [e 130 (by decide), m 201 (by decide)]; exact hD, ?_⟩
    · rw [e 3 (by decide), m 201 (by decide)]
      exact (hN.snap.1 40 (by omega)).symm
    · have z134 : ∀ k, k < 165 → τ 134 k = σ 3 k := fun k hk => by rw [y1 134 (by omega), p5 134 (by decide) (by omega)]; exact x1 k hk
      have m202 : ∀ k, k < 5240 → ν 202 k = μ 201 k := fun k hk => m1 k (by omega) hk
      refine ⟨hN.snap.cong z134 (fun x hx => m202 _ (by omega)), hN.ok.cong (fun k hk => z134 k (by omega)), ?_, fun j hj => ?_, c', T, ⟨c1, t1⟩, ⟨by rw [y5]; exact c2, by rw [m202 0 (by omega)]; exact c3, by rw [y6]; exact t2, by rw [m202 1 (by omega)]; exact t3, by rw [e 1 (by omega), c2]; exact Int.le_refl _, by rw [e 0 (by omega), t2]; exact Int.le_refl _⟩, fun r hr => ?_, ?_, ?_, fun i hi => ?_⟩
      · refine hN.steps.move a2 a1 a3 a4 (by rw [y1 135 (by omega)]; exact p1) (by rw [y1 135 (by omega)]; exact p2) (fun t b1 b2 k hk => ?_) m202
        rw [y1 _ (by omega), p3 t b1 b2 k hk, w1, if_neg (by omega)]
      · rw [y1 _ (by omega)]
        rcases p4 j hj with q | q
        · have : s2 (137 + j) = s1 (137 + j) := q
          rw [this, w1, if_neg (by omega)]; exact hI.2.2.2.1 j hj
        · exact (hN.oks j hj).cong (fun k hk => by
            have := q k (by omega)
            rw [w1, if_neg (by omega)] at this
            exact this)
      · obtain ⟨p, mn, nums, r1, r2⟩ := c4 r hr
        exact ⟨p, mn, nums, r1.fr (fun j j1 j2 => e j (by omega)) (by omega), r2.fr2 (m202 _ (by omega)) (m202 _ (by omega)) (fun k hk => m202 _ (by omega))⟩
      · rw [y7, m202 2 (by omega)]
        rcases t5 with ⟨b1, b2, -⟩ | ⟨t, b0, b1, b2, -⟩
        · exact Or.inl ⟨b1, b2⟩
        · exact Or.inr ⟨t, b0, b1, b2⟩
      · obtain ⟨s, q1, q2, q3, q4⟩ := hS2
        refine ⟨s, q1, by rw [y4]; exact q2, by rw [m202 4 (by omega)]; exact q3, fun k hk => ?_⟩
        rw [(y2 k (by omega)).1, (y2 k (by omega)).2, m202 _ (by omega), m202 _ (by omega)]; exact q4 k hk
      · rw [y3 i hi, m202 _ (by omega)]; exact hD i hi
  exact key _ (w9 _ rfl)
theorem back_rel {σ μ : Mm} {B R : Int} (h : Rel σ μ B R) : Op (F_A_back σ) (F_M_back μ) B R := by
  obtain ⟨G, O, M, hN, hT, hF, ⟨T0, t1, t2, t3, t4, t5⟩, ⟨c0, hS1, hS2⟩, hD, hI⟩ := h
  obtain ⟨j1, j2, j3, j4, c, T, ⟨hc, hT4⟩, ⟨k1, k2, k3, k4, k5, k6⟩, k7, k8, k9, k10⟩ := id hI
  obtain ⟨u, n, a1, a2, a3, a4, a5, a6⟩ := id j3
  unfold F_A_back F_M_back F_M_copies
  simp only [bindM_eq]
  have w1 : ∀ a, stR σ 3 (cpyI (σ 134) (σ 3) 0 0 165) a = if a = 3 then cpyI (σ 134) (σ 3) 0 0 165 else σ a := fun a => stR_f _ _ _ _
  generalize stR σ 3 (cpyI (σ 134) (σ 3) 0 0 165) = s1 at w1
  have x1 : ∀ k, k < 165 → s1 3 k = σ 134 k := fun k hk => by rw [w1, if_pos rfl]; exact cpy_lt (n := 165) hk
  refine Ok.b0M (copyS_ok (r0 := 58) (r1 := 135) (Or.inl ⟨rfl, rfl⟩) a1 a2 (by rw [w1, if_neg (by decide)]; exact a3) (by rw [w1, if_neg (by decide)]; exact a4)) (fun s2 hs2 => ?_)
  obtain ⟨p1, p2, p3, p4, p5⟩ := hs2
  have e2 : ∀ i, (i < 58 ∨ 90 ≤ i) → i ≠ 3 → s2 i = σ i := fun i hi i3 => by rw [p5 i (by omega) (by omega), w1, if_neg i3]
  have w9 : ∀ τ, τ = st2 (st2 (st2 (stR (stR (stR s2 122 (cpyI (s2 167) (s2 122) 0 0 6)) 123 (cpyI (s2 168) (s2 123) 0 0 6)) 130 (cpyI (s2 169) (s2 130) 0 0 36)) 121 2 (s2 133 5)) 1 4 (s2 133 6)) 0 8 (s2 133 7) → (∀ i, (2 ≤ i ∧ i < 121) ∨ 131 ≤ i → τ i = s2 i) ∧ (∀ k, k < 6 → τ 122 k = σ 167 k ∧ τ 123 k = σ 168 k) ∧ (∀ k, k < 36 → τ 130 k = σ 169 k) ∧ τ 121 2 = σ 133 5 ∧ τ 1 4 = σ 133 6 ∧ τ 0 8 = σ 133 7 ∧ τ 133 8 = σ 133 8 := fun τ hτ => by
    subst hτ
    refine ⟨fun i hi => ?_, fun k hk => ⟨?_, ?_⟩, fun k hk => ?_, ?_, ?_, ?_, ?_⟩
    · rw [st2_ne (by omega), st2_ne (by omega), st2_ne (by omega), stR_off (by omega), stR_off (by omega), stR_off (by omega)]
    · rw [st2_ne (by decide), st2_ne (by decide), st2_ne (by decide), stR_off (by decide), stR_off (by decide), stR_f, if_pos rfl, ← e2 167 (by omega) (by omega)]
      exact cpy_lt (n := 6) hk
    · rw [st2_ne (by decide), st2_ne (by decide), st2_ne (by decide), stR_off (by decide), stR_f, if_pos rfl, ← e2 168 (by omega) (by omega)]
      exact cpy_lt (n := 6) hk
    · rw [st2_ne (by decide), st2_ne (by decide), st2_ne (by decide), stR_f, if_pos rfl, ← e2 169 (by omega) (by omega)]
      exact cpy_lt (n := 36) hk
    · simp [st2_f, e2]
    · simp [st2_f, e2]
    · simp [st2_f, e2]
    · simp [st2_f, stR_f, e2]
  have gen : ∀ t, ((∀ i, (2 ≤ i ∧ i < 121) ∨ 131 ≤ i → t i = s2 i) ∧ (∀ k, k < 6 → t 122 k = σ 167 k ∧ t 123 k = σ 168 k) ∧ (∀ k, k < 36 → t 130 k = σ 169 k) ∧ t 121 2 = σ 133 5 ∧ t 1 4 = σ 133 6 ∧ t 0 8 = σ 133 7 ∧ t 133 8 = σ 133 8) → Ok (b0M (F_A_ruleBy (t 133 8) t) fun s12 => some (s12 3 40, s12)) (fun a => Ok (b0M (b0M (L_M_copies_2 LF 0 0 μ) fun s5 => some s5) fun s1 => some (s1 201 180, s1)) (fun b => b.1 = a.1 ∧ Rel a.2 b.2 B R)) := fun t ht => by
    obtain ⟨y1, y2, y3, y4, y5, y6, y7⟩ := ht
    rw [y7]
    obtain ⟨ν, E, m1, -, m3⟩ := copies_in 5240 LF 0 μ (by omega) (by unfold LF; omega)
    rw [show ((0 : Nat) : Int) = 0 from rfl] at E
    have m : ∀ i, i ≠ 201 → ν i = μ i := fun i hi => m3 i (by simpa using hi)
    have m201 : ∀ k, k < 5240 → ν 201 k = μ 202 k := fun k hk => m1 k (by omega) hk
    have fin : ∀ y : Int, ((σ 133 8 = -1 ∧ μ 202 2 = -1 ∧ y = -1) ∨ ∃ t : Nat, t < T ∧ σ 133 8 = (t : Int) ∧ μ 202 2 = (t : Int) ∧ y = ((94 + t : Nat) : Int)) → Ok (some ((st2 (st2 t 0 9 (σ 133 8)) 2 6 y) 3 40, st2 (st2 t 0 9 (σ 133 8)) 2 6 y)) (fun a => Ok (b0M (b0M (L_M_copies_2 LF 0 0 μ) fun s5 => some s5) fun s1 => some (s1 201 180, s1)) (fun b => b.1 = a.1 ∧ Rel a.2 b.2 B R)) := fun y hy => by
      have v1 : ∀ i, i ≠ 0 → i ≠ 2 → st2 (st2 t 0 9 (σ 133 8)) 2 6 y i = t i := fun i i1 i2 => by rw [st2_ne i2, st2_ne i1]
      have v0 : st2 (st2 t 0 9 (σ 133 8)) 2 6 y 0 8 = t 0 8 := by rw [st2_ne (by decide), st2_sk, if_neg (by decide)]
      have v09 : st2 (st2 t 0 9 (σ 133 8)) 2 6 y 0 9 = σ 133 8 := by rw [st2_ne (by decide), st2_ss]
      have v26 : st2 (st2 t 0 9 (σ 133 8)) 2 6 y 2 6 = y := st2_ss _ _ _ _
      have v25 : st2 (st2 t 0 9 (σ 133 8)) 2 6 y 2 5 = t 2 5 := by rw [st2_sk, if_neg (by decide), st2_ne (by decide)]
      generalize st2 (st2 t 0 9 (σ 133 8)) 2 6 y = τ at v1 v0 v09 v26 v25
      refine Ok.ret ?_
      rw [E, b0M_some, b0M_some]
      have e : ∀ i, (4 ≤ i ∧ i < 58) ∨ (90 ≤ i ∧ i < 121) ∨ 131 ≤ i → τ i = σ i := fun i hi => by rw [v1 i (by omega) (by omega), y1 i (by omega), e2 i (by omega) (by omega)]
      have z3 : ∀ k, k < 165 → τ 3 k = σ 134 k := fun k hk => by rw [v1 3 (by omega) (by omega), y1 3 (by omega), p5 3 (by decide) (by omega)]; exact x1 k hk
      have z14 : τ 1 4 = (c : Int) := by rw [v1 1 (by omega) (by omega), y5]; exact k1
      have z08 : τ 0 8 = (T : Int) := by rw [v0, y6]; exact k3
      have hTT : T ≤ T0 := by omega
      have z25 : τ 2 5 = σ 2 5 := by rw [v25, y1 2 (by omega), e2 2 (by omega) (by omega)]
      have tx : ∀ t, t < T → TextR τ ν t := fun t ht => (t4 t (by omega)).fr (by omega) (fun i hi => e i (by omega)) (fun i hi => m i (by omega))
      have laws : ∃ G2 O2 M2, LawsC τ G2 O2 M2 ∧ LawsM ν G2 O2 M2 := by
        rcases hy with ⟨h1, h2, h3⟩ | ⟨t', ht', h1, h2, h3⟩
        · exact ⟨none, none, none, ⟨(fun _ q => nomatch q), (fun _ q => nomatch q), (fun _ q => nomatch q), Or.inl ⟨by rw [v26, h3]; decide, rfl, rfl, rfl⟩⟩, Or.inl ⟨by rw [m201 2 (by omega)]; exact h2, rfl, rfl, rfl⟩⟩
        · obtain ⟨⟨x, x1', x2, x3, x4⟩, G2, O2, M2, l1, l2, l3⟩ := tx t' ht'
          exact ⟨G2, O2, M2, ⟨l1.1, l1.2.1, l1.2.2, Or.inr ⟨94 + t', isO94 t' (by omega), by rw [v26, h3], l2⟩⟩, Or.inr ⟨t', by omega, by rw [m201 2 (by omega)]; exact h2, by rw [x3]; omega, by rw [x3]; omega, l3⟩⟩
      obtain ⟨G2, O2, M2, lC, lM⟩ := laws
      refine Ok.op ?_ ⟨G2, O2, M2, ⟨lC, lM, by rw [e 6 (by omega), z25]; exact hN.memo, by rw [z25]; exact hN.round, j1.cong z3 (fun x hx => m201 _ (by omega)), j2.cong (fun k hk => z3 k (by omega)), ⟨c, hc, z14, by rw [m201 0 (by omega)]; exact k2, fun r hr => ?_⟩, ?_, fun j hj => ?_⟩, hT.fr (by rw [e 90 (by omega)]) (e 91 (by omega)) (by rw [m 200 (by decide)]) (m 203 (by decide)), hF.fr (fun s _ _ => by rw [e 90 (by omega)]) (by rw [m 200 (by decide)]) (by rw [m 200 (by decide)]), ⟨T, hT4, z08, by rw [m201 1 (by omega)]; exact k4, tx, ?_⟩, ⟨c, z14, ?_⟩, fun i hi => ?_, hI.1.cong (fun k hk => by rw [e 134 (by omega)]) (fun x hx => by rw [m 202 (by decide)]), hI.2.1.cong (fun k hk => by rw [e 134 (by omega)]), ?_, fun j hj => by rw [e _ (by omega)]; exact j4 j hj, c, T, ⟨hc, hT4⟩, ⟨by rw [e 133 (by omega)]; exact k1, by rw [m 202 (by decide)]; exact k2, by rw [e 133 (by omega)]; exact k3, by rw [m 202 (by decide)]; exact k4, by rw [z14]; exact Int.le_refl _, by rw [z08]; exact Int.le_refl _⟩, fun r hr => ?_, by rw [e 133 (by omega), m 202 (by decide)]; exact k8, by rw [e 133 (by omega), e 167 (by omega), e 168 (by omega), m 202 (by decide)]; exact k9, by rw [e 169 (by omega), m 202 (by decide)]; exact k10⟩
      · rw [z3 40 (by omega), m201 180 (by omega)]
        exact (j1.1 40 (by omega)).symm
      · obtain ⟨p, mn, nums, r1, r2⟩ := k7 r hr
        exact ⟨p, mn, nums, r1.fr (fun j a b => e j (by omega)) (by omega), r2.fr2 (m201 _ (by omega)) (m201 _ (by omega)) (fun k hk => m201 _ (by omega))⟩
      · refine j3.move a2 a1 a3 a4 (by rw [v1 58 (by omega) (by omega), y1 58 (by omega)]; exact p1) (by rw [v1 58 (by omega) (by omega), y1 58 (by omega)]; exact p2) (fun t b1 b2 k hk => ?_) m201
        rw [v1 _ (by omega) (by omega), y1 _ (by omega), p3 t b1 b2 k hk, w1, if_neg (by omega)]
      · rw [v1 _ (by omega) (by omega), y1 _ (by omega)]
        rcases p4 j hj with q | q
        · have : s2 (60 + j) = s1 (60 + j) := q
          rw [this, w1, if_neg (by omega)]; exact hN.oks j hj
        · exact (j4 j hj).cong (fun k hk => by
            have := q k (by omega)
            rw [w1, if_neg (by omega)] at this
            exact this)
      · rw [v09, v26, m201 2 (by omega)]
        rcases hy with ⟨h1, h2, h3⟩ | ⟨t', ht', h1, h2, h3⟩
        · exact Or.inl ⟨h1, h2, h3⟩
        · exact Or.inr ⟨t', ht', h1, h2, h3⟩
      · obtain ⟨s, q1, q2, q3, q4⟩ := k9
        refine ⟨s, q1, by rw [v1 121 (by omega) (by omega), y4]; exact q2, by rw [m201 4 (by omega)]; exact q3, fun k hk => ?_⟩
        rw [v1 122 (by omega) (by omega), v1 123 (by omega) (by omega), (y2 k (by omega)).1, (y2 k (by omega)).2, m201 _ (by omega), m201 _ (by omega)]; exact q4 k hk
      · rw [v1 130 (by omega) (by omega), y3 i hi, m201 _ (by omega)]; exact k10 i hi
      · obtain ⟨u', n', b1, b2, b3, b4, b5, b6⟩ := j3
        exact ⟨u', n', b1, b2, by rw [e 135 (by omega)]; exact b3, by rw [e 135 (by omega)]; exact b4, by rw [m 202 (by decide)]; exact b5, fun i hi => by rw [e _ (by omega), m 202 (by decide)]; exact b6 i hi⟩
      · obtain ⟨p, mn, nums, r1, r2⟩ := k7 r hr
        exact ⟨p, mn, nums, r1.fr (fun j a b => e j (by omega)) (by omega), by rw [m 202 (by decide)]; exact r2⟩
    unfold F_A_ruleBy
    simp only [bindM_eq]
    rcases k8 with ⟨b1, b2⟩ | ⟨t', b0, b1, b2⟩
    · rw [if_pos (show σ 133 8 < 0 by omega), b0M_some]
      exact fin (-1) (Or.inl ⟨b1, b2, rfl⟩)
    · have et : (σ 133 8).toNat = t' := by omega
      rw [if_neg (show ¬ σ 133 8 < 0 by omega), if_pos (show σ 133 8 < 4 by omega), if_pos (show 0 ≤ σ 133 8 ∧ σ 133 8 < 4 by omega), et, b0M_some]
      exact fin _ (Or.inr ⟨t', b0, b1, b2, rfl⟩)
  exact gen _ (w9 _ rfl)
