-- `ordered` on both sides
def ssum (g : Nat → Int) : Nat → Int
  | 0 => 0
  | n + 1 => ssum g n + g n
theorem ssum_cg {f g : Nat → Int} : ∀ {n : Nat}, (∀ k, k < n → f k = g k) → ssum f n = ssum g n
  | 0, _ => rfl
  | n + 1, h => by simp only [ssum]; rw [ssum_cg (n := n) (fun k hk => h k (by omega)), h n (by omega)]
theorem ssum_front {g : Nat → Int} : ∀ {n : Nat}, ssum g (n + 1) = g 0 + ssum (fun k => g (k + 1)) n
  | 0 => by simp [ssum]
  | n + 1 => by
    have := ssum_front (g := g) (n := n)
    rw [ssum, this]
    simp only [ssum]; omega
def sumI : List Int → Int
  | [] => 0
  | a :: t => a + sumI t
theorem sumI_perm {a b : List Int} (h : a.Perm b) : sumI a = sumI b := by
  induction h with
  | nil => rfl
  | cons x _ ih => simp only [sumI]; rw [ih]
  | swap x y l => simp only [sumI]; omega
  | trans _ _ h1 h2 => exact h1.trans h2
theorem sumI_map {g : Nat → Int} : ∀ {l : List Nat}, sumI (l.map g) = ssum (fun k => g (l.getD k 0)) l.length
  | [] => rfl
  | a :: t => by
    rw [List.map_cons, sumI, sumI_map (l := t), List.length_cons, ssum_front]
    rfl
theorem ssum_perm {g : Nat → Int} {l : List Nat} {n : Nat} (h : l.isPerm (List.range n) = true) : ssum (fun k => g (l.getD k 0)) n = ssum g n := by
  have hp : l.Perm (List.range n) := List.isPerm_iff.mp h
  have hl : l.length = n := by rw [hp.length_eq, List.length_range]
  have h1 := sumI_perm (hp.map g)
  rw [sumI_map, sumI_map, hl, List.length_range] at h1
  rw [h1]
  refine ssum_cg (fun k hk => ?_)
  congr 1
  simp [hk]
theorem offN_split {T : TW} {f : Nat → Int} : ∀ (n : Nat), offN T f n = ssum (fun k => wi T (f k)) n + ssum (fun k => be T (f k) (f (k + 1))) (n - 1)
  | 0 => rfl
  | 1 => by simp [offN, ssum]
  | n + 2 => by
    simp only [offN]
    rw [offN_split (n + 1)]
    have e : n + 2 - 1 = n + 1 := rfl
    have e2 : n + 1 - 1 = n := rfl
    rw [e, e2]
    simp only [ssum]; omega
/-- the numbers as a code sets them -/
def setC (nums : Nat → Int) (n c j : Nat) : Int := nums (dg n c j).toNat
def stepO (T : TW) (nums : Nat → Int) (n : Nat) (st : Int × Int) (c : Nat) : Int × Int := if sdv c n = -1 then st else if st.2 ≤ sdv c n then st else if offN T (setC nums n c) n = 0 then ((c : Int), sdv c n) else st
theorem foldl_filter_skip {α β : Type} {f : β → α → β} {p : α → Bool} (h : ∀ b a, p a = false → f b a = b) : ∀ (l : List α) (b : β), l.foldl f b = (l.filter p).foldl f b
  | [], _ => rfl
  | a :: t, b => by
    rw [List.foldl_cons]
    cases hp : p a with
    | true => rw [List.filter_cons_of_pos hp, List.foldl_cons]; exact foldl_filter_skip h t _
    | false => rw [List.filter_cons_of_neg (by simp [hp]), h b a hp]; exact foldl_filter_skip h t _
theorem fold_same {T : TW} {nums : Nat → Int} {n : Nat} (h1 : 1 ≤ n) (h2 : n < 5) : (List.range (4 ^ n)).foldl (stepO T nums n) (-1, 16) = (List.range (fac n)).foldl (fun st k => stepO T nums n st (cd (prm n k))) (-1, 16) := by
  rw [foldl_filter_skip (p := fun c => decide (sdv c n ≠ -1)) (fun b a ha => by
    have : sdv a n = -1 := by simpa using ha
    unfold stepO
    rw [if_pos this]), codes n h2 h1, List.foldl_map]
theorem code_mem {n c : Nat} (h1 : 1 ≤ n) (h2 : n < 5) (hc : c < 4 ^ n) (hs : ¬ sdv c n = -1) : ∃ k, k < fac n ∧ c = cd (prm n k) := by
  have : c ∈ (List.range (4 ^ n)).filter (fun c => decide (sdv c n ≠ -1)) := List.mem_filter.mpr ⟨List.mem_range.mpr hc, by simpa using hs⟩
  rw [codes n h2 h1] at this
  obtain ⟨k, k1, k2⟩ := List.mem_map.mp this
  exact ⟨k, List.mem_range.mp k1, k2.symm⟩
theorem ishl4 : ∀ n : Nat, n < 5 → ishl 1 (2 * (n : Int)) = ((4 ^ n : Nat) : Int) := by decide +kernel
theorem setC_prm {nums : Nat → Int} {n k : Nat} (hn : n < 5) (hk : k < fac n) {j : Nat} (hj : j < n) : setC nums n (cd (prm n k)) j = nums ((prm n k).getD j 0) := by
  unfold setC
  rw [code_3 n hn k hk j hj]
  rfl
/-- the class's sum of what lies between, of a code that is an order -/
theorem betweenAll_C {σ s : Mm} {G O M : Law} {n1 : Int} (hs : CJ σ s G O M n1) {ρ p k : Nat} {nums : Nat → Int} (hρ : 10 ≤ ρ ∧ ρ ≤ 21) (hp1 : 1 ≤ p) (hp : p < 5) (h3 : σ ρ 3 = (p : Int)) (hn : ∀ i, i < p → σ (ρ + 12) i = nums i) (hN : ∀ i, i < p → NN (nums i)) (hk : k < fac p) :
    ∃ t, F_E_betweenAll ρ (cd (prm p k) : Int) s = some (ssum (fun j => be (tw G O (σ 3)) (setC nums p (cd (prm p k)) j) (setC nums p (cd (prm p k)) (j + 1))) (p - 1), t) ∧ CJ σ t G O M n1 := by
  unfold F_E_betweenAll
  rw [hs.2.1.1 ρ (by omega), h3, if_pos (show r32 ((p : Int) - 1) from ⟨by omega, by omega⟩)]
  have loop : ∀ (m N : Nat) (a : Int) (s : Mm), m < p → m < N → CJ σ s G O M n1 → (-99 * (p - 1 - m) ≤ a ∧ a ≤ 99 * (p - 1 - m)) → ∃ t, L_E_betweenAll_10 N ρ (cd (prm p k) : Int) a (m : Int) s = some (a + ssum (fun x => be (tw G O (σ 3)) (setC nums p (cd (prm p k)) (p - 1 - m + x)) (setC nums p (cd (prm p k)) (p - 1 - m + x + 1))) m, t) ∧ CJ σ t G O M n1 := by
    intro m
    induction m with
    | zero =>
      intro N a s hm hN hs ha
      match N, hN with
      | N + 1, _ =>
        rw [L_E_betweenAll_10, if_pos (by omega)]
        exact ⟨s, by simp [ssum], hs⟩
    | succ m ih =>
      intro N a s hm hN hs ha
      match N, hN with
      | N + 1, hN =>
        have d1 := code_3 p hp k hk (p - 1 - (m + 1)) (by omega)
        have d2 := code_3 p hp k hk (p - 1 - m) (by omega)
        have l1 := prm_lt p (by omega) k hk (p - 1 - (m + 1)) (by omega)
        have l2 := prm_lt p (by omega) k hk (p - 1 - m) (by omega)
        have v1 : iand (ishr (cd (prm p k) : Int) (2 * ((m + 1 : Nat) : Int))) 3 = gL (prm p k) (p - 1 - (m + 1)) := by
          rw [← d1]; unfold dg
          congr 2; omega
        have v2 : iand (ishr (cd (prm p k) : Int) (2 * (((m + 1 : Nat) : Int) - 1))) 3 = gL (prm p k) (p - 1 - m) := by
          rw [← d2]; unfold dg
          congr 2; omega
        have w1 := setC_prm (nums := nums) hp hk (j := p - 1 - (m + 1)) (by omega)
        have w2 := setC_prm (nums := nums) hp hk (j := p - 1 - m) (by omega)
        have g1 : gL (prm p k) (p - 1 - (m + 1)) = (((prm p k).getD (p - 1 - (m + 1)) 0 : Nat) : Int) := rfl
        have g2 : gL (prm p k) (p - 1 - m) = (((prm p k).getD (p - 1 - m) 0 : Nat) : Int) := rfl
        rw [g1] at v1
        rw [g2] at v2
        obtain ⟨u1, hu1⟩ : ∃ u, (prm p k).getD (p - 1 - (m + 1)) 0 = u := ⟨_, rfl⟩
        obtain ⟨u2, hu2⟩ : ∃ u, (prm p k).getD (p - 1 - m) 0 = u := ⟨_, rfl⟩
        rw [hu1] at v1 w1 l1
        rw [hu2] at v2 w2 l2
        have t1 : ((u1 : Int)).toNat = u1 := by omega
        have t2 : ((u2 : Int)).toNat = u2 := by omega
        have n1 := hN
        have m1 : ((m + 1 : Nat) : Int) + (-1) = (m : Int) := by omega
        have b1 := hn u1 l1
        have b2 := hn u2 l2
        have nn1 := ‹∀ i, i < p → NN (nums i)› u1 l1
        have nn2 := ‹∀ i, i < p → NN (nums i)› u2 l2
        obtain ⟨⟨b, s2⟩, E2, a1, c2, -⟩ := hs.be (a := nums u1) (b := nums u2) nn1.1 nn2.1 (by omega)
        have a1 : b = be (tw G O (σ 3)) (nums u1) (nums u2) := a1
        have c2 : CJ σ s2 G O M _ := c2
        have bb := be_bd (G := G) (O := O) (E := σ 3) (a := nums u1) (b := nums u2)
        rw [L_E_betweenAll_10, if_neg (by omega), v1, v2, if_pos (by omega), t1, t2, hs.2.1.1 (ρ + 12) (by omega), b1, b2, bindM_eq, if_pos (by omega), bindM_eq, E2, b1M_some, a1, m1, if_pos (show r32 (a + be (tw G O (σ 3)) (nums u1) (nums u2)) from ⟨by omega, by omega⟩), if_pos (show r32 (m : Int) from ⟨by omega, by omega⟩)]
        obtain ⟨t, E3, ht⟩ := ih N (a + be (tw G O (σ 3)) (nums u1) (nums u2)) s2 (by omega) (by omega) c2 (by omega)
        refine ⟨t, ?_, ht⟩
        rw [E3, ssum_front]
        have e0 : p - 1 - (m + 1) + 0 = p - 1 - (m + 1) := rfl
        have e1 : p - 1 - (m + 1) + 0 + 1 = p - 1 - m := by omega
        simp only [e0]
        rw [e1, w1, w2]
        have cg : ssum (fun x => be (tw G O (σ 3)) (setC nums p (cd (prm p k)) (p - 1 - (m + 1) + (x + 1))) (setC nums p (cd (prm p k)) (p - 1 - (m + 1) + (x + 1) + 1))) m = ssum (fun x => be (tw G O (σ 3)) (setC nums p (cd (prm p k)) (p - 1 - m + x)) (setC nums p (cd (prm p k)) (p - 1 - m + x + 1))) m := ssum_cg (fun x hx => by
          have z : p - 1 - (m + 1) + (x + 1) = p - 1 - m + x := by omega
          rw [z])
        rw [cg]
        congr 2; omega
  obtain ⟨t, E, ht⟩ := loop (p - 1) LF 0 s (by omega) (by unfold LF; omega) hs (by omega)
  have e : ((p - 1 : Nat) : Int) = (p : Int) - 1 := by omega
  rw [e] at E
  rw [E, b1M_some]
  refine ⟨t, ?_, ht⟩
  have z : p - 1 - (p - 1) = 0 := by omega
  rw [z, Int.zero_add]
  simp only [Nat.zero_add]
