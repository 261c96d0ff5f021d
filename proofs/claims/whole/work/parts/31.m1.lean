/-! laws as lists of codes (the class's numbers), and what they come to -/
def comb (c a b : Int) : Int :=
  if c = 20000 then max (-1000000) (min 1000000 (a * b)) else if c = 20001 then (if b = 0 then 0 else a.tdiv b) else if c = 20002 then (if b = 0 then 0 else a.tmod b)
  else if c = 20003 then max (-1000000) (min 1000000 (a + b)) else if c = 20004 then max (-1000000) (min 1000000 (a - b))
  else if c = 20005 then (if b ≤ a then 0 else 1) else if c = 20006 then (if b < a then 0 else 1) else if c = 20007 then (if a ≤ b then 0 else 1) else if c = 20008 then (if a < b then 0 else 1)
  else if c = 20009 then (if a = b then 1 else 0) else if c = 20010 then (if a = b then 0 else 1) else if c = 20011 then a * b else if c = 20012 then (if 0 < a + b then 1 else 0) else if c = 20013 then max a b else min a b
def evc (nm : Nat → Int) (st : List Int) (c : Int) : List Int :=
  if c < 20000 then (if c < 10000 then c else nm (c - 10000).toNat) :: st
  else match st with
    | [] => []
    | a :: t => if c = 20015 then -a :: t else if c = 20016 then (1 - a) :: t else match t with
      | [] => [a]
      | b :: u => comb c b a :: u
def evS (nm : Nat → Int) : List Int → List Int → List Int
  | st, [] => st
  | st, c :: cs => evS nm (evc nm st c) cs
/-- sorts of the numbers on the pile: true: 0 or 1 -/
def wst (ok : Int → Bool) (ty : List Bool) (c : Int) : Option (List Bool) :=
  if c < 20000 then (if 0 ≤ c ∧ (c < 10000 ∨ ok (c - 10000) = true) ∧ ty.length < 60 then some (false :: ty) else none)
  else match ty with
    | [] => none
    | a :: t => if c = 20015 then (if a = false then some (false :: t) else none) else if c = 20016 then (if a = true then some (true :: t) else none) else match t with
      | [] => none
      | b :: u => if c = 20011 ∨ c = 20012 then (if a = true ∧ b = true then some (true :: u) else none)
        else if 20005 ≤ c ∧ c ≤ 20010 then (if a = false ∧ b = false then some (true :: u) else none)
        else if c ≤ 20004 ∨ c = 20013 ∨ c = 20014 then (if a = false ∧ b = false then some (false :: u) else none) else none
def wfS (ok : Int → Bool) : List Bool → List Int → Option (List Bool)
  | ty, [] => some ty
  | ty, c :: cs => match wst ok ty c with
    | some t => wfS ok t cs
    | none => none
def Ty1 (b : Bool) (v : Int) : Prop := if b = true then v = 0 ∨ v = 1 else -100000000 ≤ v ∧ v ≤ 100000000
def TyL : List Bool → List Int → Prop
  | [], [] => True
  | b :: t, v :: u => Ty1 b v ∧ TyL t u
  | _, _ => False
def StkR (f : Nat → Int) : List Int → Prop
  | [] => True
  | a :: t => f t.length = a ∧ StkR f t
theorem TyL.len : ∀ {ty : List Bool} {st : List Int}, TyL ty st → ty.length = st.length
  | [], [], _ => rfl
  | b :: t, v :: u, h => by simp [TyL.len h.2]
theorem StkR.cong {f g : Nat → Int} : ∀ {st : List Int}, (∀ k, k < st.length → g k = f k) → StkR f st → StkR g st
  | [], _, _ => trivial
  | a :: t, h, hs => ⟨(h t.length (by simp)).trans hs.1, StkR.cong (fun k hk => h k (by simp; omega)) hs.2⟩
theorem StkR.put {f : Nat → Int} {t : List Int} {x : Int} (h : StkR f t) : StkR (fun j => if j = t.length then x else f j) (x :: t) := ⟨by simp, StkR.cong (fun k hk => by rw [if_neg (by omega)]) h⟩
theorem Ty1.n {v : Int} (h : Ty1 false v) : -100000000 ≤ v ∧ v ≤ 100000000 := by simpa [Ty1] using h
theorem Ty1.b {v : Int} (h : Ty1 true v) : v = 0 ∨ v = 1 := by simpa [Ty1] using h
theorem Ty1.of {v : Int} (h : -100000000 ≤ v ∧ v ≤ 100000000) : Ty1 false v := by simpa [Ty1] using h
theorem Ty1.ob {v : Int} (h : v = 0 ∨ v = 1) : Ty1 true v := by simpa [Ty1] using h
theorem tdiv_le {x y : Int} (B : Int) (h : -B ≤ x ∧ x ≤ B) : -B ≤ x.tdiv y ∧ x.tdiv y ≤ B := by
  have h2 : (x.tdiv y).natAbs ≤ x.natAbs := by rw [Int.natAbs_tdiv]; exact Nat.div_le_self _ _
  omega
theorem tmod_le {x y : Int} (B : Int) (h : -B ≤ x ∧ x ≤ B) : -B ≤ x.tmod y ∧ x.tmod y ≤ B := by
  have h2 : x.natAbs % y.natAbs ≤ x.natAbs := Nat.mod_le _ _
  rw [← Int.natAbs_tmod x y] at h2
  omega
/-- the sorts of both sides give the sort of what comes out -/
theorem comb_n {c a b : Int} (ha : -100000000 ≤ a ∧ a ≤ 100000000) (hb : -100000000 ≤ b ∧ b ≤ 100000000) (hc : 20000 ≤ c) (hc2 : c ≤ 20004 ∨ c = 20013 ∨ c = 20014) : -100000000 ≤ comb c a b ∧ comb c a b ≤ 100000000 := by
  unfold comb
  have d1 := tdiv_le (y := b) 100000000 ha
  have d2 := tmod_le (y := b) 100000000 ha
  repeat' split
  all_goals omega
theorem comb_b {c a b : Int} (hc : 20005 ≤ c ∧ c ≤ 20010) : comb c a b = 0 ∨ comb c a b = 1 := by
  unfold comb
  repeat' split
  all_goals omega
theorem comb_bb {c a b : Int} (ha : a = 0 ∨ a = 1) (hb : b = 0 ∨ b = 1) (hc : c = 20011 ∨ c = 20012) : comb c a b = 0 ∨ comb c a b = 1 := by
  rcases hc with rfl | rfl <;> rcases ha with rfl | rfl <;> rcases hb with rfl | rfl <;> decide
/-- a step keeps the sorts -/
theorem evc_ty {ok : Int → Bool} {nm : Nat → Int} (hn : ∀ k : Int, ok k = true → -100000000 ≤ nm k.toNat ∧ nm k.toNat ≤ 100000000) {ty ty2 : List Bool} {st : List Int} {c : Int} (ht : TyL ty st) (hw : wst ok ty c = some ty2) : TyL ty2 (evc nm st c) := by
  unfold wst at hw
  unfold evc
  split at hw
  · rename_i h1
    rw [if_pos h1]
    split at hw
    · rename_i h2
      cases hw
      refine ⟨Ty1.of ?_, ht⟩
      split
      · omega
      · exact hn _ (h2.2.1.resolve_left (by assumption))
    · cases hw
  · rename_i h1
    rw [if_neg h1]
    match ty, st, ht, hw with
    | [], [], ht, hw => cases hw
    | p :: t, a :: u, ht, hw =>
      simp only at hw ⊢
      split at hw
      · rename_i h2
        rw [if_pos h2]
        split at hw
        · rename_i h3
          cases hw
          subst h3
          have := ht.1.n
          exact ⟨Ty1.of (by omega), ht.2⟩
        · cases hw
      · rename_i h2
        rw [if_neg h2]
        split at hw
        · rename_i h3
          rw [if_pos h3]
          split at hw
          · rename_i h4
            cases hw
            subst h4
            have := ht.1.b
            exact ⟨Ty1.ob (by omega), ht.2⟩
          · cases hw
        · rename_i h3
          rw [if_neg h3]
          match t, u, ht, hw with
          | [], [], ht, hw => cases hw
          | q :: t, b :: u, ht, hw =>
            simp only at hw ⊢
            split at hw
            · rename_i h4
              split at hw
              · rename_i h5
                cases hw
                obtain ⟨rfl, rfl⟩ := h5
                exact ⟨Ty1.ob (comb_bb ht.2.1.b ht.1.b h4), ht.2.2⟩
              · cases hw
            · split at hw
              · rename_i h4 h5
                split at hw
                · rename_i h6
                  cases hw
                  exact ⟨Ty1.ob (comb_b h5), ht.2.2⟩
                · cases hw
              · split at hw
                · rename_i h4 h5 h6
                  split at hw
                  · rename_i h7
                    cases hw
                    obtain ⟨rfl, rfl⟩ := h7
                    exact ⟨Ty1.of (comb_n ht.2.1.n ht.1.n (by omega) h6), ht.2.2⟩
                  · cases hw
                · cases hw
theorem evS_ty {ok : Int → Bool} {nm : Nat → Int} (hn : ∀ k : Int, ok k = true → -100000000 ≤ nm k.toNat ∧ nm k.toNat ≤ 100000000) : ∀ {cs : List Int} {ty ty2 : List Bool} {st : List Int}, TyL ty st → wfS ok ty cs = some ty2 → TyL ty2 (evS nm st cs)
  | [], ty, ty2, st, ht, hw => by cases hw; exact ht
  | c :: cs, ty, ty2, st, ht, hw => by
    unfold wfS at hw
    unfold evS
    split at hw
    · rename_i t h
      exact evS_ty hn (evc_ty hn ht h) hw
    · cases hw
/-! the class's combine -/
theorem l2i_id {x : Int} (h : r32 x) : l2iI x = x := by
  unfold l2iI
  have e : (i64 x).toInt32 = i32 x := by
    apply Int32.toInt_inj.mp
    rw [i32_toInt h, Int64.toInt_toInt32, i64_toInt ⟨by have := h.1; omega, by have := h.2; omega⟩]
    have := h.1
    have := h.2
    simp only [Int.bmod_def]
    omega
  rw [e, i32_toInt h]
theorem mul_r64 {a b : Int} (ha : -100000000 ≤ a ∧ a ≤ 100000000) (hb : -100000000 ≤ b ∧ b ≤ 100000000) : r64 (a * b) := by
  have h1 : (a * b).natAbs ≤ 10000000000000000 := by
    rw [Int.natAbs_mul]
    calc a.natAbs * b.natAbs ≤ 100000000 * 100000000 := Nat.mul_le_mul (by omega) (by omega)
      _ = 10000000000000000 := by decide
  exact ⟨by omega, by omega⟩
theorem combine_n {c a b : Int} (ha : -100000000 ≤ a ∧ a ≤ 100000000) (hb : -100000000 ≤ b ∧ b ≤ 100000000) (h2 : ¬ (c = 20011 ∨ c = 20012)) : F_J_combine c a b = some (comb c a b) := by
  unfold F_J_combine comb
  have d1 := tdiv_le (y := b) 100000000 ha
  have d2 := tmod_le (y := b) 100000000 ha
  by_cases e0 : c = 20000
  · simp only [e0, if_true]
    rw [if_pos (mul_r64 ha hb), l2i_id ⟨by omega, by omega⟩]
  simp only [e0, if_false]
  by_cases e20001 : c = 20001
  · simp only [e20001, if_true]
    repeat' split
    all_goals first | rfl | (exfalso; omega)
  simp only [e20001, if_false]
  by_cases e20002 : c = 20002
  · simp only [e20002, if_true]
    repeat' split
    all_goals first | rfl | (exfalso; omega)
  simp only [e20002, if_false]
  by_cases e20003 : c = 20003
  · simp only [e20003, if_true]
    repeat' split
    all_goals first | rfl | (exfalso; omega)
  simp only [e20003, if_false]
  by_cases e20004 : c = 20004
  · simp only [e20004, if_true]
    repeat' split
    all_goals first | rfl | (exfalso; omega)
  simp only [e20004, if_false]
  by_cases e20005 : c = 20005
  · simp only [e20005, if_true]
    repeat' split
    all_goals first | rfl | (exfalso; omega)
  simp only [e20005, if_false]
  by_cases e20006 : c = 20006
  · simp only [e20006, if_true]
    repeat' split
    all_goals first | rfl | (exfalso; omega)
  simp only [e20006, if_false]
  by_cases e20007 : c = 20007
  · simp only [e20007, if_true]
    repeat' split
    all_goals first | rfl | (exfalso; omega)
  simp only [e20007, if_false]
  by_cases e20008 : c = 20008
  · simp only [e20008, if_true]
    repeat' split
    all_goals first | rfl | (exfalso; omega)
  simp only [e20008, if_false]
  by_cases e20009 : c = 20009
  · simp only [e20009, if_true]
    repeat' split
    all_goals first | rfl | (exfalso; omega)
  simp only [e20009, if_false]
  by_cases e20010 : c = 20010
  · simp only [e20010, if_true]
    repeat' split
    all_goals first | rfl | (exfalso; omega)
  simp only [e20010, if_false]
  have e20011 : ¬ c = 20011 := fun q => h2 (by omega)
  simp only [e20011, if_false]
  have e20012 : ¬ c = 20012 := fun q => h2 (by omega)
  simp only [e20012, if_false]
  by_cases e20013 : c = 20013
  · simp only [e20013, if_true]
    repeat' split
    all_goals first | rfl | (exfalso; omega)
  simp only [e20013, if_false]
theorem combine_b {c a b : Int} (ha : a = 0 ∨ a = 1) (hb : b = 0 ∨ b = 1) (h2 : c = 20011 ∨ c = 20012) : F_J_combine c a b = some (comb c a b) := by
  rcases h2 with rfl | rfl <;> rcases ha with rfl | rfl <;> rcases hb with rfl | rfl <;> decide +kernel
