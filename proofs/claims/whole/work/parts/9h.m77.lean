-- the ledger: orders, costs, the first of the least
def cntD : DL → Nat → Nat
  | [], _ => 0
  | (d, _) :: t, k => cntD t k + (if d.toNat = k then 1 else 0)
/-- so many more uses of each digit -/
def EU (E : Nat → Int) (g : Nat → Nat) (k : Nat) : Int := if 10 ≤ k ∧ k < 20 then min 999 (E k + ((g (k - 10) : Nat) : Int)) else E k
theorem useD_EU {E : Nat → Int} : ∀ {L : DL} {g : Nat → Nat}, DOK L → useD L (EU E g) = EU E (fun d => g d + cntD L d)
  | [], g, _ => by
    funext k
    unfold useD EU cntD
    rfl
  | (d, m) :: t, g, h => by
    rw [useD]
    have e : (fun j => if j = 10 + d.toNat then min 999 (EU E g j + 1) else EU E g j) = EU E (fun k => g k + (if d.toNat = k then 1 else 0)) := by
      funext j
      have hd := h.1
      unfold EU
      by_cases hj : j = 10 + d.toNat
      · rw [if_pos hj, if_pos (show 10 ≤ j ∧ j < 20 by omega), if_pos (show 10 ≤ j ∧ j < 20 by omega)]
        dsimp only
        rw [if_pos (show d.toNat = j - 10 by omega)]
        omega
      · rw [if_neg hj]
        by_cases hk : 10 ≤ j ∧ j < 20
        · rw [if_pos hk, if_pos hk]
          dsimp only
          rw [if_neg (show ¬ d.toNat = j - 10 by omega)]; rfl
        · rw [if_neg hk, if_neg hk]
    rw [e, useD_EU h.2]
    congr 1
    funext k
    rw [cntD]; omega
theorem EU_0 {E : Nat → Int} (h : EnvOK E) : EU E (fun _ => 0) = E := by
  funext k
  unfold EU
  by_cases hk : 10 ≤ k ∧ k < 20
  · rw [if_pos hk]
    have := h.2.1 (k - 10) (by omega)
    rw [show 10 + (k - 10) = k by omega] at this
    show min 999 (E k + ((0 : Nat) : Int)) = E k
    omega
  · rw [if_neg hk]
def sN : List Nat → Nat
  | [] => 0
  | a :: l => a + sN l
theorem sN_app {b : List Nat} : ∀ {a : List Nat}, sN (a ++ b) = sN a + sN b
  | [] => by simp [sN]
  | x :: a => by simp only [List.cons_append, sN]; rw [sN_app]; omega
theorem sN_perm {a b : List Nat} (h : a.Perm b) : sN a = sN b := by
  induction h with
  | nil => rfl
  | cons x _ ih => simp only [sN]; omega
  | swap x y l => simp only [sN]; omega
  | trans _ _ ih1 ih2 => omega
/-- the digits that a set of ROWS uses -/
def gS (Li : Nat → DL) (n S d : Nat) : Nat := sN ((mem (S : Int) n).map (fun i => cntD (Li i) d))
theorem mem_perm : ∀ n : Nat, n < 6 → ∀ S : Nat, S < 2 ^ n → ∀ i : Nat, i < n → bitI (S : Int) (i : Int) = 0 → (mem ((S + 2 ^ i : Nat) : Int) n).isPerm (mem (S : Int) n ++ [i]) = true := by decide +kernel
theorem gS_s {Li : Nat → DL} {n S i d : Nat} (hn : n < 6) (hS : S < 2 ^ n) (hi : i < n) (hb : bitI (S : Int) (i : Int) = 0) : gS Li n (S + 2 ^ i) d = gS Li n S d + cntD (Li i) d := by
  have p := List.isPerm_iff.mp (mem_perm n hn S hS i hi hb)
  unfold gS
  rw [sN_perm (p.map _), List.map_append, sN_app]
  simp [sN]
/-- what a ROW costs after a set of ROWS -/
def cost (G O : Law) (E : Nat → Int) (Li : Nat → DL) (n S i : Nat) : Int := ((offL (tw G O (EU E (gS Li n S))) (Li i)).natAbs : Int)
def bm (f : Nat → Int) (S : Nat) : Nat → Int
  | 0 => 10000000
  | i + 1 => if bitI (S : Int) (i : Int) = 0 then min (bm f S i) (f i) else bm f S i
def best (n : Nat) (cs : Nat → Nat → Int) : Nat → Nat → Int
  | 0 => fun _ => 0
  | m + 1 => fun S => bm (fun i => cs S i + best n cs m (S + 2 ^ i)) S n
theorem bm_spec {f : Nat → Int} {S : Nat} : ∀ k : Nat, (∀ i : Nat, i < k → bitI (S : Int) (i : Int) = 0 → bm f S k ≤ f i) ∧ (bm f S k = 10000000 ∨ ∃ i : Nat, i < k ∧ bitI (S : Int) (i : Int) = 0 ∧ f i = bm f S k)
  | 0 => ⟨fun i h => by omega, Or.inl rfl⟩
  | k + 1 => by
    obtain ⟨h1, h2⟩ := bm_spec (f := f) (S := S) k
    unfold bm
    by_cases hb : bitI (S : Int) (k : Int) = 0
    · rw [if_pos hb]
      refine ⟨fun i hi hbi => ?_, ?_⟩
      · by_cases e : i = k
        · subst e; omega
        · have := h1 i (by omega) hbi; omega
      · by_cases hm : bm f S k ≤ f k
        · rw [Int.min_eq_left hm]
          rcases h2 with q | ⟨i, i1, i2, i3⟩
          · exact Or.inl q
          · exact Or.inr ⟨i, by omega, i2, i3⟩
        · rw [Int.min_eq_right (by omega)]
          exact Or.inr ⟨k, by omega, hb, rfl⟩
    · rw [if_neg hb]
      refine ⟨fun i hi hbi => ?_, ?_⟩
      · by_cases e : i = k
        · subst e; exact absurd hbi hb
        · exact h1 i (by omega) hbi
      · rcases h2 with q | ⟨i, i1, i2, i3⟩
        · exact Or.inl q
        · exact Or.inr ⟨i, by omega, i2, i3⟩
theorem first_ex {p : Nat → Prop} : ∀ {k : Nat}, (∃ i, i < k ∧ p i) → ∃ i, i < k ∧ p i ∧ ∀ j, j < i → ¬ p j
  | 0, ⟨i, h, _⟩ => by omega
  | k + 1, ⟨i, h, hp⟩ => by
    by_cases hk : ∃ i, i < k ∧ p i
    · obtain ⟨j, j1, j2, j3⟩ := first_ex hk
      exact ⟨j, by omega, j2, j3⟩
    · have e : i = k := by
        by_cases e : i = k
        · exact e
        · exact absurd ⟨i, by omega, hp⟩ hk
      subst e
      exact ⟨i, h, hp, fun j hj hpj => hk ⟨j, hj, hpj⟩⟩
/-- the path that takes the first of the least at each step -/
def GP (n : Nat) (cs : Nat → Nat → Int) : Nat → Nat → List Nat → Prop
  | 0, _, l => l = []
  | m + 1, S, l => ∃ (i : Nat) (l' : List Nat), l = i :: l' ∧ i < n ∧ bitI (S : Int) (i : Int) = 0 ∧ cs S i + best n cs m (S + 2 ^ i) = best n cs (m + 1) S ∧ (∀ j : Nat, j < i → bitI (S : Int) (j : Int) = 0 → ¬ cs S j + best n cs m (S + 2 ^ j) = best n cs (m + 1) S) ∧ GP n cs m (S + 2 ^ i) l'
def fm (g : Nat → List (List Nat)) : Nat → List (List Nat)
  | 0 => []
  | i + 1 => fm g i ++ g i
theorem fm_mem {g : Nat → List (List Nat)} {y : List Nat} : ∀ {n : Nat}, y ∈ fm g n → ∃ j, j < n ∧ y ∈ g j
  | 0, h => by simp [fm] at h
  | n + 1, h => by
    rcases List.mem_append.mp h with q | q
    · obtain ⟨j, j1, j2⟩ := fm_mem q; exact ⟨j, by omega, j2⟩
    · exact ⟨n, by omega, q⟩
theorem fm_split {g : Nat → List (List Nat)} {i : Nat} : ∀ {n : Nat}, i < n → ∃ R, fm g n = fm g i ++ (g i ++ R) ∧ ∀ y ∈ R, ∃ j, i < j ∧ j < n ∧ y ∈ g j
  | 0, h => by omega
  | n + 1, h => by
    by_cases e : i = n
    · subst e
      exact ⟨[], by rw [fm]; simp, fun y hy => by simp at hy⟩
    · obtain ⟨R, h1, h2⟩ := fm_split (g := g) (i := i) (n := n) (by omega)
      refine ⟨R ++ g n, by rw [fm, h1]; simp, fun y hy => ?_⟩
      rcases List.mem_append.mp hy with q | q
      · obtain ⟨j, j1, j2, j3⟩ := h2 y q; exact ⟨j, j1, by omega, j3⟩
      · exact ⟨n, by omega, by omega, q⟩
/-- all orders of what is left -/
def ord (n : Nat) : Nat → Nat → List (List Nat)
  | 0 => fun _ => [[]]
  | m + 1 => fun S => fm (fun i : Nat => if bitI (S : Int) (i : Int) = 0 then (ord n m (S + 2 ^ i)).map (i :: ·) else []) n
theorem ord_prm : ∀ n : Nat, n < 6 → ord n n 0 = (List.range (fac n)).map (prm n) := by decide +kernel
def csts (cs : Nat → Nat → Int) : Nat → List Nat → Int
  | _, [] => 0
  | S, i :: l => cs S i + csts cs (S + 2 ^ i) l
theorem ord_mem {n m S i : Nat} {y : List Nat} (h : y ∈ (if bitI (S : Int) (i : Int) = 0 then (ord n m (S + 2 ^ i)).map (i :: ·) else [])) : bitI (S : Int) (i : Int) = 0 ∧ ∃ y', y = i :: y' ∧ y' ∈ ord n m (S + 2 ^ i) := by
  by_cases hb : bitI (S : Int) (i : Int) = 0
  · rw [if_pos hb] at h
    obtain ⟨y', h1, h2⟩ := List.mem_map.mp h
    exact ⟨hb, y', h2.symm, h1⟩
  · rw [if_neg hb] at h; simp at h
theorem ord_lb {n : Nat} {cs : Nat → Nat → Int} : ∀ {m S : Nat} {y : List Nat}, y ∈ ord n m S → best n cs m S ≤ csts cs S y
  | 0, S, y, h => by
    have : y = [] := by simpa [ord] using h
    subst this
    exact Int.le_refl _
  | m + 1, S, y, h => by
    obtain ⟨i, i1, i2⟩ := fm_mem h
    obtain ⟨hb, y', e, hy⟩ := ord_mem i2
    subst e
    have h1 := ord_lb (cs := cs) hy
    have h2 := (bm_spec (f := fun i => cs S i + best n cs m (S + 2 ^ i)) (S := S) n).1 i i1 hb
    show bm (fun i => cs S i + best n cs m (S + 2 ^ i)) S n ≤ cs S i + csts cs (S + 2 ^ i) y'
    have h2 : bm (fun i => cs S i + best n cs m (S + 2 ^ i)) S n ≤ cs S i + best n cs m (S + 2 ^ i) := h2
    omega
/-- the first of the least -/
def FM (f : List Nat → Int) (L : List (List Nat)) (x : List Nat) : Prop := ∃ A B, L = A ++ x :: B ∧ (∀ y ∈ A, f x < f y) ∧ ∀ y ∈ B, f x ≤ f y
theorem FM_ord {n : Nat} {cs : Nat → Nat → Int} : ∀ {m S : Nat} {l : List Nat}, GP n cs m S l → FM (csts cs S) (ord n m S) l ∧ csts cs S l = best n cs m S
  | 0, S, l, h => by
    have h : l = [] := h
    subst h
    exact ⟨⟨[], [], rfl, fun y hy => by simp at hy, fun y hy => by simp at hy⟩, rfl⟩
  | m + 1, S, l, h => by
    obtain ⟨i, l', e, hi, hb, hc, hno, hg⟩ := h
    subst e
    obtain ⟨⟨A, B, hAB, hA, hB⟩, hbest⟩ := FM_ord hg
    have tot : csts cs S (i :: l') = best n cs (m + 1) S := by rw [csts, hbest]; exact hc
    refine ⟨?_, tot⟩
    obtain ⟨R, hR, hRm⟩ := fm_split (g := fun i => if bitI (S : Int) (i : Int) = 0 then (ord n m (S + 2 ^ i)).map (i :: ·) else []) (n := n) hi
    have gi : (if bitI (S : Int) (i : Int) = 0 then (ord n m (S + 2 ^ i)).map (i :: ·) else []) = A.map (i :: ·) ++ (i :: l') :: B.map (i :: ·) := by
      rw [if_pos hb, hAB]; simp
    try dsimp only at hR
    rw [gi] at hR
    refine ⟨fm (fun i : Nat => if bitI (S : Int) (i : Int) = 0 then (ord n m (S + 2 ^ i)).map (i :: ·) else []) i ++ A.map (i :: ·), B.map (i :: ·) ++ R, ?_, ?_, ?_⟩
    · show fm (fun i : Nat => if bitI (S : Int) (i : Int) = 0 then (ord n m (S + 2 ^ i)).map (i :: ·) else []) n = _
      rw [hR]; simp
    · intro y hy
      rw [tot]
      rcases List.mem_append.mp hy with q | q
      · obtain ⟨j, j1, j2⟩ := fm_mem q
        obtain ⟨jb, y', e, hy'⟩ := ord_mem j2
        subst e
        have h1 := ord_lb (cs := cs) hy'
        have h2 : best n cs (m + 1) S ≤ cs S j + best n cs m (S + 2 ^ j) := (bm_spec (f := fun i => cs S i + best n cs m (S + 2 ^ i)) (S := S) n).1 j (by omega) jb
        have h3 := hno j j1 jb
        rw [csts]; omega
      · obtain ⟨y', h1, h2⟩ := List.mem_map.mp q
        have := hA y' h1
        rw [← h2, csts]
        omega
    · intro y hy
      rw [tot]
      rcases List.mem_append.mp hy with q | q
      · obtain ⟨y', h1, h2⟩ := List.mem_map.mp q
        have := hB y' h1
        rw [← h2, csts]
        omega
      · obtain ⟨j, -, j1, j2⟩ := hRm y q
        obtain ⟨jb, y', e, hy'⟩ := ord_mem j2
        subst e
        have h1 := ord_lb (cs := cs) hy'
        have h2 : best n cs (m + 1) S ≤ cs S j + best n cs m (S + 2 ^ j) := (bm_spec (f := fun i => cs S i + best n cs m (S + 2 ^ i)) (S := S) n).1 j j1 jb
        rw [csts]; omega
theorem FM_snoc {f : List Nat → Int} {L : List (List Nat)} {x y : List Nat} (h : FM f L x) : (f x ≤ f y → FM f (L ++ [y]) x) ∧ (f y < f x → FM f (L ++ [y]) y) := by
  obtain ⟨A, B, h1, h2, h3⟩ := h
  constructor
  · intro hle
    refine ⟨A, B ++ [y], by rw [h1]; simp, h2, fun z hz => ?_⟩
    rcases List.mem_append.mp hz with q | q
    · exact h3 z q
    · rw [List.mem_singleton.mp q]; exact hle
  · intro hlt
    refine ⟨L, [], rfl, fun z hz => ?_, fun z hz => by simp at hz⟩
    rw [h1] at hz
    rcases List.mem_append.mp hz with q | q
    · have := h2 z q; omega
    · rcases List.mem_cons.mp q with e | q
      · rw [e]; exact hlt
      · have := h3 z q; omega
theorem FM_uniq {f : List Nat → Int} {L : List (List Nat)} {x y : List Nat} (h : FM f L x) (k : FM f L y) : x = y := by
  obtain ⟨A, B, h1, h2, h3⟩ := h
  obtain ⟨C, D, k1, k2, k3⟩ := k
  rw [h1] at k1
  rcases List.append_eq_append_iff.mp k1 with ⟨T, t1, t2⟩ | ⟨T, t1, t2⟩
  · match T, t1, t2 with
    | [], t1, t2 => exact (List.cons.inj t2).1
    | z :: T, t1, t2 =>
      have hx : x = z := (List.cons.inj t2).1
      have hy : y ∈ B := by rw [(List.cons.inj t2).2]; simp
      have a := k2 x (by rw [t1, hx]; simp)
      have b := h3 y hy
      omega
  · match T, t1, t2 with
    | [], t1, t2 => exact (List.cons.inj t2).1.symm
    | z :: T, t1, t2 =>
      have hy : y = z := (List.cons.inj t2).1
      have hx : x ∈ D := by rw [(List.cons.inj t2).2]; simp
      have a := h2 y (by rw [t1, hy]; simp)
      have b := k3 x hx
      omega
