/-! numbers -/
abbrev Mm : Type := Nat → Nat → Int
def i32 (z : Int) : Int32 := Int32.ofInt z
def i64 (z : Int) : Int64 := Int64.ofInt z
abbrev r32 (z : Int) : Prop := -2147483648 ≤ z ∧ z < 2147483648
abbrev r64 (z : Int) : Prop := -9223372036854775808 ≤ z ∧ z < 9223372036854775808
theorem i32_toInt {z : Int} (h : r32 z) : (i32 z).toInt = z := by
  unfold i32
  rw [Int32.toInt_ofInt]
  have e : Int32.size = 4294967296 := rfl
  rw [e]
  unfold r32 at h
  simp only [Int.bmod_def]
  omega
theorem i64_toInt {z : Int} (h : r64 z) : (i64 z).toInt = z := by
  unfold i64
  rw [Int64.toInt_ofInt]
  have e : Int64.size = 18446744073709551616 := rfl
  rw [e]
  unfold r64 at h
  simp only [Int.bmod_def]
  omega
theorem i32_of (a : Int32) : i32 a.toInt = a := Int32.ofInt_toInt a
theorem i64_of (a : Int64) : i64 a.toInt = a := Int64.ofInt_toInt a
theorem r32_of (a : Int32) : r32 a.toInt := by
  have h1 := Int32.le_toInt a
  have h2 := Int32.toInt_lt a
  exact ⟨h1, h2⟩
theorem r64_of (a : Int64) : r64 a.toInt := by
  have h1 := Int64.le_toInt a
  have h2 := Int64.toInt_lt a
  exact ⟨h1, h2⟩
theorem i32_add (x y : Int) : i32 (x + y) = i32 x + i32 y := Int32.ofInt_add x y
theorem i32_sub (x y : Int) : i32 (x - y) = i32 x - i32 y := Int32.ofInt_sub x y
theorem i32_mul (x y : Int) : i32 (x * y) = i32 x * i32 y := Int32.ofInt_mul x y
theorem i32_neg (x : Int) : i32 (-x) = -i32 x := Int32.ofInt_neg x
theorem i64_add (x y : Int) : i64 (x + y) = i64 x + i64 y := Int64.ofInt_add x y
theorem i64_sub (x y : Int) : i64 (x - y) = i64 x - i64 y := Int64.ofInt_sub x y
theorem i64_mul (x y : Int) : i64 (x * y) = i64 x * i64 y := Int64.ofInt_mul x y
theorem i64_neg (x : Int) : i64 (-x) = -i64 x := Int64.ofInt_neg x
theorem i32_inj {x y : Int} (hx : r32 x) (hy : r32 y) : i32 x = i32 y ↔ x = y := by
  constructor
  · intro h
    have := congrArg Int32.toInt h
    rwa [i32_toInt hx, i32_toInt hy] at this
  · rintro rfl; rfl
theorem i64_inj {x y : Int} (hx : r64 x) (hy : r64 y) : i64 x = i64 y ↔ x = y := by
  constructor
  · intro h
    have := congrArg Int64.toInt h
    rwa [i64_toInt hx, i64_toInt hy] at this
  · rintro rfl; rfl
theorem i32_lt {x y : Int} (hx : r32 x) (hy : r32 y) : i32 x < i32 y ↔ x < y := by
  rw [Int32.lt_iff_toInt_lt, i32_toInt hx, i32_toInt hy]
theorem i32_le {x y : Int} (hx : r32 x) (hy : r32 y) : i32 x ≤ i32 y ↔ x ≤ y := by
  rw [Int32.le_iff_toInt_le, i32_toInt hx, i32_toInt hy]
theorem i64_lt {x y : Int} (hx : r64 x) (hy : r64 y) : i64 x < i64 y ↔ x < y := by
  rw [Int64.lt_iff_toInt_lt, i64_toInt hx, i64_toInt hy]
theorem i32_div {x y : Int} (hx : r32 x) (hy : r32 y) : i32 (x.tdiv y) = i32 x / i32 y := by
  apply Int32.toInt_inj.mp
  rw [Int32.toInt_div, i32_toInt hx, i32_toInt hy]
  unfold i32
  rw [Int32.toInt_ofInt]
theorem i64_div {x y : Int} (hx : r64 x) (hy : r64 y) : i64 (x.tdiv y) = i64 x / i64 y := by
  apply Int64.toInt_inj.mp
  rw [Int64.toInt_div, i64_toInt hx, i64_toInt hy]
  unfold i64
  rw [Int64.toInt_ofInt]
theorem i32_rem {x y : Int} (hx : r32 x) (hy : r32 y) : i32 (x.tmod y) = i32 x - i32 x / i32 y * i32 y := by
  have e : x.tmod y = x - x.tdiv y * y := by rw [Int.tmod_def, Int.mul_comm]
  rw [e, i32_sub, i32_mul, i32_div hx hy]
theorem i64_rem {x y : Int} (hx : r64 x) (hy : r64 y) : i64 (x.tmod y) = i64 x - i64 x / i64 y * i64 y := by
  have e : x.tmod y = x - x.tdiv y * y := by rw [Int.tmod_def, Int.mul_comm]
  rw [e, i64_sub, i64_mul, i64_div hx hy]
theorem i32_ne0 {y : Int} (hy : r32 y) (h : ¬ y = 0) : ¬ i32 y = 0 := fun q => h ((i32_inj hy ⟨by omega, by omega⟩).mp (q.trans rfl))
theorem i64_ne0 {y : Int} (hy : r64 y) (h : ¬ y = 0) : ¬ i64 y = 0 := fun q => h ((i64_inj hy ⟨by omega, by omega⟩).mp (q.trans rfl))
theorem i32_clamp {x : Int} (hx : r32 x) (h : 0 ≤ x) : (i32 x).toNatClampNeg = x.toNat := by
  show (i32 x).toInt.toNat = _
  rw [i32_toInt hx]
theorem i32_in {x : Int} {n : Nat} (h0 : 0 ≤ x) (h1 : x < n) (hn : n < 2147483648) : vp_in (i32 x) n := by
  have hx : r32 x := ⟨by omega, by omega⟩
  refine vp_in_iff.mpr ?_
  rw [i32_toInt hx]
  exact ⟨h0, h1⟩
def iand (x y : Int) : Int := (i32 x &&& i32 y).toInt
def ior (x y : Int) : Int := (i32 x ||| i32 y).toInt
def ixor (x y : Int) : Int := (i32 x ^^^ i32 y).toInt
def ishl (x y : Int) : Int := (i32 x <<< (i32 y &&& 31)).toInt
def ishr (x y : Int) : Int := (i32 x >>> (i32 y &&& 31)).toInt
def iushr (x y : Int) : Int := ((i32 x).toUInt32 >>> ((i32 y).toUInt32 &&& Int32.toUInt32 31)).toInt32.toInt
def i2bI (x : Int) : Int := (i32 x).toInt8.toInt32.toInt
def i2cI (x : Int) : Int := ((i32 x).toUInt32 % 65536).toInt32.toInt
def l2iI (x : Int) : Int := (i64 x).toInt32.toInt
def nzI (x : Int) : Int := (vp_nar .boolean (i32 x)).toInt
def nbI (x : Int) : Int := (vp_nar .byte (i32 x)).toInt
def lcmpI (x y : Int) : Int := if y < x then 1 else if x < y then -1 else 0
theorem i32_i64 {x : Int} (hx : r32 x) : (i32 x).toInt64 = i64 x := by
  apply Int64.toInt_inj.mp
  rw [Int32.toInt_toInt64, i32_toInt hx, i64_toInt ⟨by have := hx.1; omega, by have := hx.2; omega⟩]
theorem lcmp_i {x y : Int} (hx : r64 x) (hy : r64 y) : lg_cmp (i64 x) (i64 y) = i32 (lcmpI x y) := by
  unfold lg_cmp lcmpI
  simp only [i64_lt hy hx, i64_inj hx hy]
  split
  · rfl
  · by_cases e : x = y
    · rw [if_pos e, if_neg (by omega)]; rfl
    · rw [if_neg e, if_pos (by omega)]; rfl
/-- a store -/
def st2 (σ : Mm) (i k : Nat) (x : Int) : Mm := fun a b => if a = i then (if b = k then x else σ a b) else σ a b
/-- a whole row -/
def stR (σ : Mm) (i : Nat) (f : Nat → Int) : Mm := fun a b => if a = i then f b else σ a b
def cpyI (f g : Nat → Int) (sp dp n : Int) : Nat → Int := fun k => if dp.toNat ≤ k ∧ k < dp.toNat + n.toNat then f (sp.toNat + (k - dp.toNat)) else g k
/-! the cells of a memory -/
def slotV (ad : Nat → Nat) (σ : Mm) (ci i k : Nat) : Value :=
  if Sk ci k = 0 then .int (i32 (σ i k)) else if Sk ci k = 1 then .ref (ad (Rf i k)) else va_rf (if σ i k < 0 then none else some (ad (σ i k).toNat))
def cellOf (cs : Nat → ClassId) (ad : Nat → Nat) (σ : Mm) (i : Nat) : va_E :=
  if Kt i = 7 then .inr (Ln i, (List.range (Nf (Ln i))).map (slotV ad σ (Ln i) i))
  else if Kt i = 3 then .inl (cs 3, Ln i, .inr (.inl (fun k => i64 (σ i k))))
  else if 4 ≤ Kt i then .inl (cs (Kt i), Ln i, .inr (.inr (.inr (.inr (fun k => some (ad (Rf i k)))))))
  else .inl (cs (Kt i), Ln i, .inl (fun k => i32 (σ i k)))
def wsOf (cs : Nat → ClassId) (ad : Nat → Nat) (σ : Mm) (w : Nat) : va_W := (List.range (wn w)).map (fun i => (ad (wlo w + i), cellOf cs ad σ (wlo w + i)))
abbrev inW (w i : Nat) : Prop := wlo w ≤ i ∧ i < wlo w + wn w
theorem ws_at {cs : Nat → ClassId} {ad : Nat → Nat} {σ : Mm} {w i : Nat} (h : inW w i) : (wsOf cs ad σ w)[i - wlo w]? = some (ad i, cellOf cs ad σ i) := by
  unfold wsOf
  rw [List.getElem?_map, List.getElem?_range (by omega)]
  have e : wlo w + (i - wlo w) = i := by omega
  simp only [Option.map_some, e]
theorem ws_set {cs : Nat → ClassId} {ad : Nat → Nat} {σ σ' : Mm} {w i : Nat} (h : inW w i) (ho : ∀ j, j ≠ i → cellOf cs ad σ' j = cellOf cs ad σ j) : (wsOf cs ad σ w).set (i - wlo w) (ad i, cellOf cs ad σ' i) = wsOf cs ad σ' w := by
  unfold wsOf
  apply List.ext_getElem?
  intro k
  rw [List.getElem?_set, List.getElem?_map, List.getElem?_map, List.length_map, List.length_range]
  by_cases hk : i - wlo w = k
  · subst hk
    rw [if_pos rfl, if_pos (by omega), List.getElem?_range (by omega)]
    have e : wlo w + (i - wlo w) = i := by omega
    simp only [Option.map_some, e]
  · rw [if_neg hk]
    by_cases hk2 : k < wn w
    · rw [List.getElem?_range hk2]
      simp only [Option.map_some]
      rw [ho (wlo w + k) (by omega)]
    · rw [List.getElem?_eq_none (by simp; omega)]
      rfl
theorem cell_obj {cs : Nat → ClassId} {ad : Nat → Nat} {σ : Mm} {i : Nat} (h : Kt i = 7) : cellOf cs ad σ i = .inr (Ln i, (List.range (Nf (Ln i))).map (slotV ad σ (Ln i) i)) := if_pos h
theorem cell_long {cs : Nat → ClassId} {ad : Nat → Nat} {σ : Mm} {i : Nat} (h : Kt i = 3) : cellOf cs ad σ i = .inl (cs 3, Ln i, .inr (.inl (fun k => i64 (σ i k)))) := by
  unfold cellOf
  rw [if_neg (by omega), if_pos h]
theorem cell_ref {cs : Nat → ClassId} {ad : Nat → Nat} {σ : Mm} {i : Nat} (h : 4 ≤ Kt i) (h2 : ¬ Kt i = 7) : cellOf cs ad σ i = .inl (cs (Kt i), Ln i, .inr (.inr (.inr (.inr (fun k => some (ad (Rf i k))))))) := by
  unfold cellOf
  rw [if_neg h2, if_neg (by omega), if_pos h]
theorem cell_int {cs : Nat → ClassId} {ad : Nat → Nat} {σ : Mm} {i : Nat} (h : Kt i < 3) : cellOf cs ad σ i = .inl (cs (Kt i), Ln i, .inl (fun k => i32 (σ i k))) := by
  unfold cellOf
  rw [if_neg (by omega), if_neg (by omega), if_neg (by omega)]
theorem cell_off {cs : Nat → ClassId} {ad : Nat → Nat} {σ σ' : Mm} {j : Nat} (h : σ' j = σ j) : cellOf cs ad σ' j = cellOf cs ad σ j := by
  unfold cellOf slotV
  simp only [h]
theorem st2_off {σ : Mm} {i k j : Nat} {x : Int} (h : j ≠ i) : st2 σ i k x j = σ j := by
  funext b
  simp [st2, h]
theorem stR_off {σ : Mm} {i j : Nat} {f : Nat → Int} (h : j ≠ i) : stR σ i f j = σ j := by
  funext b
  simp [stR, h]
theorem slots_set {ad : Nat → Nat} {σ : Mm} {ci i k N : Nat} {x : Int} (hk : k < N) : ((List.range N).map (slotV ad σ ci i)).set k (slotV ad (st2 σ i k x) ci i k) = (List.range N).map (slotV ad (st2 σ i k x) ci i) := by
  apply List.ext_getElem?
  intro j
  rw [List.getElem?_set, List.getElem?_map, List.getElem?_map, List.length_map, List.length_range]
  by_cases hj : k = j
  · subst hj
    rw [if_pos rfl, if_pos hk, List.getElem?_range hk]
    rfl
  · rw [if_neg hj]
    by_cases hj2 : j < N
    · rw [List.getElem?_range hj2]
      simp only [Option.map_some]
      congr 1
      unfold slotV st2
      have hj' : ¬ j = k := fun q => hj q.symm
      simp only [hj', if_true, if_false]
    · rw [List.getElem?_eq_none (by simp; omega)]
      rfl
abbrev okM (σ : Mm) : Prop := ∀ i k, (Kt i = 3 → r64 (σ i k)) ∧ (¬ Kt i = 3 → r32 (σ i k))
theorem okM_st2 {σ : Mm} {i k : Nat} {x : Int} (h : okM σ) (h1 : Kt i = 3 → r64 x) (h2 : ¬ Kt i = 3 → r32 x) : okM (st2 σ i k x) := by
  intro a b
  unfold st2
  by_cases ha : a = i
  · subst ha
    by_cases hb : b = k
    · simp only [hb, if_true]
      exact ⟨h1, h2⟩
    · simp only [hb, if_true, if_false]
      exact h a b
  · simp only [ha, if_false]
    exact h a b
/-! locals -/
def dr2 : Option Value → Option Value
  | some (.long _) => none
  | some (.double _) => none
  | o => o
def set1 : List (Option Value) → Nat → Value → List (Option Value)
  | [], _, _ => []
  | _ :: t, 0, v => some v :: t
  | o :: t, 1, v => dr2 o :: set1 t 0 v
  | o :: t, i + 2, v => o :: set1 t (i + 1) v
def set2 : List (Option Value) → Nat → Value → List (Option Value)
  | [], _, _ => []
  | [_], 0, _ => [none]
  | _ :: _ :: t, 0, v => some v :: none :: t
  | o :: t, 1, v => dr2 o :: set2 t 0 v
  | o :: t, i + 2, v => o :: set2 t (i + 1) v
def LV (ls : Array Slot) (nL : Nat) (lv : List (Option Value)) : Prop := ls.size = nL ∧ lv_wf ls ∧ ∀ (i : Nat) (v : Value), lv[i]? = some (some v) → ls[i]? = some (.val v)
def prs : Nat → List (Option Value) → List (Nat × Value)
  | _, [] => []
  | n, none :: t => prs (n + 1) t
  | n, some v :: t => (n, v) :: prs (n + 1) t
theorem prs_mem {v : Value} : ∀ {lv : List (Option Value)} {n i : Nat}, (i, v) ∈ prs n lv ↔ n ≤ i ∧ lv[i - n]? = some (some v)
  | [], n, i => by simp [prs]
  | none :: t, n, i => by
    rw [prs, prs_mem]
    constructor
    · rintro ⟨h1, h2⟩
      have e : i - n = (i - (n + 1)) + 1 := by omega
      exact ⟨by omega, by rw [e, List.getElem?_cons_succ]; exact h2⟩
    · rintro ⟨h1, h2⟩
      by_cases hi : i = n
      · subst hi; simp at h2
      · have e : i - n = (i - (n + 1)) + 1 := by omega
        rw [e, List.getElem?_cons_succ] at h2
        exact ⟨by omega, h2⟩
  | some u :: t, n, i => by
    rw [prs, List.mem_cons, prs_mem]
    constructor
    · rintro (h | ⟨h1, h2⟩)
      · cases h; simp
      · have e : i - n = (i - (n + 1)) + 1 := by omega
        exact ⟨by omega, by rw [e, List.getElem?_cons_succ]; exact h2⟩
    · rintro ⟨h1, h2⟩
      by_cases hi : i = n
      · subst hi
        simp at h2
        exact Or.inl (by rw [h2])
      · have e : i - n = (i - (n + 1)) + 1 := by omega
        rw [e, List.getElem?_cons_succ] at h2
        exact Or.inr ⟨by omega, h2⟩
theorem LV.has {ls : Array Slot} {nL : Nat} {lv : List (Option Value)} (h : LV ls nL lv) : lv_has ls nL (prs 0 lv) := by
  refine ⟨h.1, h.2.1, fun q hq => ?_⟩
  obtain ⟨i, v⟩ := q
  have h1 := prs_mem.mp hq
  exact h.2.2 i v (by simpa using h1.2)
theorem dr2_some {o : Option Value} {u : Value} (h : dr2 o = some u) : o = some u ∧ u.category = 1 := by
  match o, h with
  | some (.int x), h => cases h; exact ⟨rfl, rfl⟩
  | some (.float x), h => cases h; exact ⟨rfl, rfl⟩
  | some (.ref x), h => cases h; exact ⟨rfl, rfl⟩
  | some (.null), h => cases h; exact ⟨rfl, rfl⟩
  | some (.retAddr x), h => cases h; exact ⟨rfl, rfl⟩
theorem set1_get {v : Value} : ∀ {lv : List (Option Value)} {i j : Nat} {u : Value}, (set1 lv i v)[j]? = some (some u) → (j = i ∧ u = v) ∨ (j ≠ i ∧ lv[j]? = some (some u) ∧ (j + 1 = i → u.category = 1))
  | [], i, j, u, h => by simp [set1] at h
  | o :: t, 0, j, u, h => by
    cases j with
    | zero => simp [set1] at h; exact Or.inl ⟨rfl, h.symm⟩
    | succ j => simp only [set1, List.getElem?_cons_succ] at h; exact Or.inr ⟨by omega, by simpa using h, fun q => by omega⟩
  | o :: t, 1, j, u, h => by
    cases j with
    | zero =>
      simp only [set1, List.getElem?_cons_zero, Option.some.injEq] at h
      obtain ⟨h1, h2⟩ := dr2_some h
      exact Or.inr ⟨by omega, by simp [h1], fun _ => h2⟩
    | succ j =>
      simp only [set1, List.getElem?_cons_succ] at h
      rcases set1_get h with ⟨h1, h2⟩ | ⟨h1, h2, h3⟩
      · exact Or.inl ⟨by omega, h2⟩
      · exact Or.inr ⟨by omega, by simpa using h2, fun q => h3 (by omega)⟩
  | o :: t, i + 2, j, u, h => by
    cases j with
    | zero =>
      simp only [set1, List.getElem?_cons_zero, Option.some.injEq] at h
      exact Or.inr ⟨by omega, by simp [h], fun q => by omega⟩
    | succ j =>
      simp only [set1, List.getElem?_cons_succ] at h
      rcases set1_get h with ⟨h1, h2⟩ | ⟨h1, h2, h3⟩
      · exact Or.inl ⟨by omega, h2⟩
      · exact Or.inr ⟨by omega, by simpa using h2, fun q => h3 (by omega)⟩
theorem set2_get {v : Value} : ∀ {lv : List (Option Value)} {i j : Nat} {u : Value}, (set2 lv i v)[j]? = some (some u) → (j = i ∧ u = v) ∨ (j ≠ i ∧ j ≠ i + 1 ∧ lv[j]? = some (some u) ∧ (j + 1 = i → u.category = 1))
  | [], i, j, u, h => by simp [set2] at h
  | [o], 0, j, u, h => by
    cases j with
    | zero => simp [set2] at h
    | succ j => simp [set2] at h
  | o :: o2 :: t, 0, j, u, h => by
    match j, h with
    | 0, h => simp [set2] at h; exact Or.inl ⟨rfl, h.symm⟩
    | 1, h => simp [set2] at h
    | j + 2, h => simp only [set2, List.getElem?_cons_succ] at h; exact Or.inr ⟨by omega, by omega, by simpa using h, fun q => by omega⟩
  | o :: t, 1, j, u, h => by
    cases j with
    | zero =>
      simp only [set2, List.getElem?_cons_zero, Option.some.injEq] at h
      obtain ⟨h1, h2⟩ := dr2_some h
      exact Or.inr ⟨by omega, by omega, by simp [h1], fun _ => h2⟩
    | succ j =>
      simp only [set2, List.getElem?_cons_succ] at h
      rcases set2_get h with ⟨h1, h2⟩ | ⟨h1, h1b, h2, h3⟩
      · exact Or.inl ⟨by omega, h2⟩
      · exact Or.inr ⟨by omega, by omega, by simpa using h2, fun q => h3 (by omega)⟩
  | o :: t, i + 2, j, u, h => by
    cases j with
    | zero =>
      simp only [set2, List.getElem?_cons_zero, Option.some.injEq] at h
      exact Or.inr ⟨by omega, by omega, by simp [h], fun q => by omega⟩
    | succ j =>
      simp only [set2, List.getElem?_cons_succ] at h
      rcases set2_get h with ⟨h1, h2⟩ | ⟨h1, h1b, h2, h3⟩
      · exact Or.inl ⟨by omega, h2⟩
      · exact Or.inr ⟨by omega, by omega, by simpa using h2, fun q => h3 (by omega)⟩
theorem LV.st1 {ls : Array Slot} {nL i : Nat} {lv : List (Option Value)} {v : Value} (h : lv_has ls nL ((i, v) :: (prs 0 lv).filter (fun q => !(q.1 == i) && !(q.1 + 1 == i && q.2.category == 2)))) : LV ls nL (set1 lv i v) := by
  refine ⟨h.1, h.2.1, fun j u hu => ?_⟩
  refine h.2.2 (j, u) ?_
  rcases set1_get hu with ⟨h1, h2⟩ | ⟨h1, h2, h3⟩
  · subst h1; subst h2; exact List.mem_cons_self
  · refine List.mem_cons_of_mem _ (List.mem_filter.mpr ⟨prs_mem.mpr ⟨Nat.zero_le _, by simpa using h2⟩, ?_⟩)
    by_cases hj : j + 1 = i
    · simp [h1, h3 hj]
    · simp [h1, hj]
theorem LV.st2 {ls : Array Slot} {nL i : Nat} {lv : List (Option Value)} {v : Value} (h : lv_has ls nL ((i, v) :: (prs 0 lv).filter (fun q => !(q.1 == i) && (!(q.1 == i + 1) && !(q.1 + 1 == i && q.2.category == 2))))) : LV ls nL (set2 lv i v) := by
  refine ⟨h.1, h.2.1, fun j u hu => ?_⟩
  refine h.2.2 (j, u) ?_
  rcases set2_get hu with ⟨h1, h2⟩ | ⟨h1, h1b, h2, h3⟩
  · subst h1; subst h2; exact List.mem_cons_self
  · refine List.mem_cons_of_mem _ (List.mem_filter.mpr ⟨prs_mem.mpr ⟨Nat.zero_le _, by simpa using h2⟩, ?_⟩)
    by_cases hj : j + 1 = i
    · simp [h1, h1b, h3 hj]
    · simp [h1, h1b, hj]
/-- fewer known locals -/
def lvLe : List (Option Value) → List (Option Value) → Prop
  | [], _ => True
  | none :: t, [] => lvLe t []
  | some _ :: _, [] => False
  | none :: t, _ :: t2 => lvLe t t2
  | some v :: t, o :: t2 => o = some v ∧ lvLe t t2
theorem lvLe_get : ∀ {a b : List (Option Value)}, lvLe a b → ∀ {i : Nat} {v : Value}, a[i]? = some (some v) → b[i]? = some (some v)
  | [], _, _, i, v, h => by simp at h
  | none :: t, [], hl, i, v, h => by
    cases i with
    | zero => simp at h
    | succ i => simp at h; have := lvLe_get (a := t) (b := []) hl h; simp at this
  | none :: t, o :: t2, hl, i, v, h => by
    cases i with
    | zero => simp at h
    | succ i => simp at h ⊢; exact lvLe_get (a := t) (b := t2) hl h
  | some u :: t, o :: t2, hl, i, v, h => by
    cases i with
    | zero => simp at h ⊢; rw [hl.1, h]
    | succ i => simp at h ⊢; exact lvLe_get (a := t) (b := t2) hl.2 h
theorem LV.le {ls : Array Slot} {nL : Nat} {a b : List (Option Value)} (h : LV ls nL b) (hl : lvLe a b) : LV ls nL a := ⟨h.1, h.2.1, fun i v hv => h.2.2 i v (lvLe_get hl hv)⟩
