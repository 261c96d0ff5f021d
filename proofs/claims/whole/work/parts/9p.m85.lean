-- words: the reference's numbers
def hr : List Int → Int
  | [] => 0
  | c :: r => 64 * hr r + c - 64
def hsh (l : List Int) : Int := hr l.reverse
def ltr (c : Int) : Prop := (65 ≤ c ∧ c ≤ 90) ∨ (97 ≤ c ∧ c ≤ 122)
theorem hr_nn : ∀ {l : List Int}, (∀ c ∈ l, ltr c) → 0 ≤ hr l ∧ (l ≠ [] → 0 < hr l)
  | [], _ => ⟨Int.le_refl _, fun h => absurd rfl h⟩
  | c :: r, h => by
    have h1 := hr_nn (l := r) (fun d hd => h d (List.mem_cons_of_mem _ hd))
    have h2 := h c (List.mem_cons_self ..)
    unfold ltr at h2
    simp only [hr]
    exact ⟨by omega, fun _ => by omega⟩
theorem hr_inj : ∀ {l m : List Int}, (∀ c ∈ l, ltr c) → (∀ c ∈ m, ltr c) → hr l = hr m → l = m
  | [], [], _, _, _ => rfl
  | [], d :: m, _, h2, h => by
    have := (hr_nn h2).2 (by simp)
    have e : hr ([] : List Int) = 0 := rfl
    omega
  | c :: l, [], h1, _, h => by
    have := (hr_nn h1).2 (by simp)
    have e : hr ([] : List Int) = 0 := rfl
    omega
  | c :: l, d :: m, h1, h2, h => by
    have a := h1 c (List.mem_cons_self ..)
    have b := h2 d (List.mem_cons_self ..)
    unfold ltr at a b
    simp only [hr] at h
    have e1 : c = d := by omega
    have e2 : hr l = hr m := by omega
    rw [e1, hr_inj (fun x hx => h1 x (List.mem_cons_of_mem _ hx)) (fun x hx => h2 x (List.mem_cons_of_mem _ hx)) e2]
theorem hsh_inj {l m : List Int} (h1 : ∀ c ∈ l, ltr c) (h2 : ∀ c ∈ m, ltr c) (h : hsh l = hsh m) : l = m := by
  have := hr_inj (l := l.reverse) (m := m.reverse) (fun c hc => h1 c (List.mem_reverse.mp hc)) (fun c hc => h2 c (List.mem_reverse.mp hc)) h
  have := congrArg List.reverse this
  simpa using this
theorem hsh_s {l : List Int} {c : Int} : hsh (l ++ [c]) = 64 * hsh l + c - 64 := by
  unfold hsh
  rw [List.reverse_append]; rfl
def wmap (j : Nat) : Nat := ([0, 1, 2, 3, 4, 5, 8, 6, 9, 7, 10, 11, 12, 13, 14, 15, 16, 17, 18, 19, 20, 21, 22, 23, 24, 25, 26] : List Nat).getD j 0
theorem wds_len : wds.length = 27 := by decide +kernel
theorem wds_in : ∀ j : Nat, j < 27 → F_M_wordOf (hsh (wds.getD j [])) = some ((wmap j : Nat) : Int) ∧ (wds.getD j []).length ≤ 7 ∧ (wds.getD j []).all (fun c => decide ((65 ≤ c ∧ c ≤ 90) ∨ (97 ≤ c ∧ c ≤ 122))) = true := by decide +kernel
theorem lcmp0 {x y : Int} (h : lcmpI x y = 0) : x = y := by
  unfold lcmpI at h
  by_cases h1 : y < x
  · rw [if_pos h1] at h; omega
  · rw [if_neg h1] at h
    by_cases h2 : x < y
    · rw [if_pos h2] at h; omega
    · omega
theorem wordOf_or (x : Int) : F_M_wordOf x = some (-1) ∨ ∃ j : Nat, j < 27 ∧ x = hsh (wds.getD j []) := by
  unfold F_M_wordOf
  by_cases h : lcmpI x 10378547 = 0
  · right
    rw [lcmp0 h]
    decide +kernel
  rw [if_neg h]
  clear h
  by_cases h : lcmpI x 194982 = 0
  · right
    rw [lcmp0 h]
    decide +kernel
  rw [if_neg h]
  clear h
  by_cases h : lcmpI x 11992036 = 0
  · right
    rw [lcmp0 h]
    decide +kernel
  rw [if_neg h]
  clear h
  by_cases h : lcmpI x 207863 = 0
  · right
    rw [lcmp0 h]
    decide +kernel
  rw [if_neg h]
  clear h
  by_cases h : lcmpI x 54317202414 = 0
  · right
    rw [lcmp0 h]
    decide +kernel
  rw [if_neg h]
  clear h
  by_cases h : lcmpI x 13851822 = 0
  · right
    rw [lcmp0 h]
    decide +kernel
  rw [if_neg h]
  clear h
  by_cases h : lcmpI x 55561898533 = 0
  · right
    rw [lcmp0 h]
    decide +kernel
  rw [if_neg h]
  clear h
  by_cases h : lcmpI x 149625 = 0
  · right
    rw [lcmp0 h]
    decide +kernel
  rw [if_neg h]
  clear h
  by_cases h : lcmpI x 14589224 = 0
  · right
    rw [lcmp0 h]
    decide +kernel
  rw [if_neg h]
  clear h
  by_cases h : lcmpI x 3375 = 0
  · right
    rw [lcmp0 h]
    decide +kernel
  rw [if_neg h]
  clear h
  by_cases h : lcmpI x 3058 = 0
  · right
    rw [lcmp0 h]
    decide +kernel
  rw [if_neg h]
  clear h
  by_cases h : lcmpI x 138148 = 0
  · right
    rw [lcmp0 h]
    decide +kernel
  rw [if_neg h]
  clear h
  by_cases h : lcmpI x 191476 = 0
  · right
    rw [lcmp0 h]
    decide +kernel
  rw [if_neg h]
  clear h
  by_cases h : lcmpI x 11992229 = 0
  · right
    rw [lcmp0 h]
    decide +kernel
  rw [if_neg h]
  clear h
  by_cases h : lcmpI x 11689203 = 0
  · right
    rw [lcmp0 h]
    decide +kernel
  rw [if_neg h]
  clear h
  by_cases h : lcmpI x 11688372 = 0
  · right
    rw [lcmp0 h]
    decide +kernel
  rw [if_neg h]
  clear h
  by_cases h : lcmpI x 849771060 = 0
  · right
    rw [lcmp0 h]
    decide +kernel
  rw [if_neg h]
  clear h
  by_cases h : lcmpI x 14556333 = 0
  · right
    rw [lcmp0 h]
    decide +kernel
  rw [if_neg h]
  clear h
  by_cases h : lcmpI x 9370604 = 0
  · right
    rw [lcmp0 h]
    decide +kernel
  rw [if_neg h]
  clear h
  by_cases h : lcmpI x 798706030 = 0
  · right
    rw [lcmp0 h]
    decide +kernel
  rw [if_neg h]
  clear h
  by_cases h : lcmpI x 566369460 = 0
  · right
    rw [lcmp0 h]
    decide +kernel
  rw [if_neg h]
  clear h
  by_cases h : lcmpI x 11672820 = 0
  · right
    rw [lcmp0 h]
    decide +kernel
  rw [if_neg h]
  clear h
  by_cases h : lcmpI x 141412 = 0
  · right
    rw [lcmp0 h]
    decide +kernel
  rw [if_neg h]
  clear h
  by_cases h : lcmpI x 41500499109 = 0
  · right
    rw [lcmp0 h]
    decide +kernel
  rw [if_neg h]
  clear h
  by_cases h : lcmpI x 56467327346 = 0
  · right
    rw [lcmp0 h]
    decide +kernel
  rw [if_neg h]
  clear h
  by_cases h : lcmpI x 14104932 = 0
  · right
    rw [lcmp0 h]
    decide +kernel
  rw [if_neg h]
  clear h
  by_cases h : lcmpI x 13303283 = 0
  · right
    rw [lcmp0 h]
    decide +kernel
  rw [if_neg h]
  clear h
  exact Or.inl rfl
theorem firstW_some {f : Nat → Int} {a b : Nat} : ∀ {ws : List (List Int)} {i j : Nat}, firstW f a b ws i (some j) → i ≤ j ∧ j < i + ws.length ∧ eqW f a b (ws.getD (j - i) [])
  | [], i, j, h => by simp [firstW] at h
  | w :: ws, i, j, h => by
    rcases h with ⟨h1, h2⟩ | ⟨h1, h2⟩
    · have : j = i := Option.some.inj h2
      subst this
      refine ⟨Nat.le_refl _, by simp, ?_⟩
      rw [Nat.sub_self]; exact h1
    · obtain ⟨q1, q2, q3⟩ := firstW_some h2
      refine ⟨by omega, by simp only [List.length_cons]; omega, ?_⟩
      rw [show j - i = (j - (i + 1)) + 1 by omega]; exact q3
theorem firstW_none {f : Nat → Int} {a b : Nat} : ∀ {ws : List (List Int)} {i : Nat}, firstW f a b ws i none → ∀ w ∈ ws, ¬ eqW f a b w
  | [], i, _, w, hw => by simp at hw
  | v :: ws, i, h, w, hw => by
    rcases h with ⟨_, h2⟩ | ⟨h1, h2⟩
    · simp at h2
    · rcases List.mem_cons.mp hw with e | q
      · rw [e]; exact h1
      · exact firstW_none h2 w q
/-- the letters of the tape from one place on -/
def sgm (f : Nat → Int) (a : Nat) : Nat → List Int
  | 0 => []
  | k + 1 => sgm f a k ++ [f (a + k)]
theorem sgm_len {f : Nat → Int} {a : Nat} : ∀ k, (sgm f a k).length = k
  | 0 => rfl
  | k + 1 => by rw [sgm, List.length_append, sgm_len k]; rfl
theorem sgm_get {f : Nat → Int} {a : Nat} : ∀ {k j : Nat}, j < k → (sgm f a k).getD j 0 = f (a + j)
  | 0, j, h => by omega
  | k + 1, j, h => by
    rw [sgm]
    by_cases e : j = k
    · subst e
      have l := sgm_len (f := f) (a := a) j
      rw [List.getD_eq_getElem?_getD, List.getElem?_append_right (by omega), l]; simp
    · rw [List.getD_eq_getElem?_getD, List.getElem?_append_left (by rw [sgm_len]; omega), ← List.getD_eq_getElem?_getD]
      exact sgm_get (by omega)
theorem sgm_ltr {f : Nat → Int} {a : Nat} : ∀ {k : Nat}, (∀ j, j < k → ltr (f (a + j))) → ∀ c ∈ sgm f a k, ltr c
  | 0, _, c, hc => by simp [sgm] at hc
  | k + 1, h, c, hc => by
    rcases List.mem_append.mp hc with q | q
    · exact sgm_ltr (fun j hj => h j (by omega)) c q
    · rw [List.mem_singleton.mp q]; exact h k (by omega)
/-- the reference's number of a word against the class's -/
theorem word_same {f : Nat → Int} {a k : Nat} {r : Option Nat} (hl : ∀ j, j < k → ltr (f (a + j))) (hr : firstW f a (a + k) wds 0 r) : (∀ j, r = some j → j < 27 ∧ k ≤ 7 ∧ F_M_wordOf (hsh (sgm f a k)) = some ((wmap j : Nat) : Int)) ∧ (r = none → F_M_wordOf (hsh (sgm f a k)) = some (-1)) := by
  have ext : ∀ {l m : List Int}, l.length = m.length → (∀ j, j < l.length → l.getD j 0 = m.getD j 0) → l = m := fun {l m} h1 h2 => by
    apply List.ext_getElem? 
    intro j
    by_cases hj : j < l.length
    · have := h2 j hj
      rw [List.getD_eq_getElem?_getD, List.getD_eq_getElem?_getD, List.getElem?_eq_getElem hj, List.getElem?_eq_getElem (by omega)] at this
      rw [List.getElem?_eq_getElem hj, List.getElem?_eq_getElem (by omega)]
      exact congrArg some this
    · rw [List.getElem?_eq_none (by omega), List.getElem?_eq_none (by omega)]
  have same : ∀ w, eqW f a (a + k) w → sgm f a k = w := fun w hw => by
    have e : k = w.length := by have := hw.1; omega
    refine ext (by rw [sgm_len]; exact e) (fun j hj => ?_)
    rw [sgm_len] at hj
    rw [sgm_get hj]; exact hw.2 j (by omega)
  constructor
  · intro j hj
    subst hj
    obtain ⟨q1, q2, q3⟩ := firstW_some hr
    rw [wds_len] at q2
    rw [Nat.sub_zero] at q3
    obtain ⟨w1, w2, w3⟩ := wds_in j (by omega)
    have e := same _ q3
    refine ⟨by omega, ?_, by rw [e]; exact w1⟩
    have := q3.1
    omega
  · intro hn
    subst hn
    rcases wordOf_or (hsh (sgm f a k)) with h | ⟨j, j1, j2⟩
    · exact h
    · exfalso
      obtain ⟨w1, w2, w3⟩ := wds_in j j1
      have e := hsh_inj (sgm_ltr hl) (fun c hc => show (65 ≤ c ∧ c ≤ 90) ∨ (97 ≤ c ∧ c ≤ 122) from of_decide_eq_true (List.all_eq_true.mp w3 c hc)) j2
      have hmem : wds.getD j [] ∈ wds := by
        rw [List.getD_eq_getElem?_getD, List.getElem?_eq_getElem (by rw [wds_len]; exact j1)]
        exact List.getElem_mem _
      refine firstW_none hr _ hmem ⟨?_, fun i hi => ?_⟩
      · rw [← e, sgm_len]
      · rw [← e, sgm_len] at hi
        rw [← e, sgm_get hi]
