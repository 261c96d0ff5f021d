/-! reasoning about the functions: Ok o P: o answers, and P holds of the answer -/
def Ok {α : Type} (o : Option α) (P : α → Prop) : Prop := ∃ x, o = some x ∧ P x
theorem Ok.ret {α : Type} {x : α} {P : α → Prop} (h : P x) : Ok (some x) P := ⟨x, rfl, h⟩
theorem Ok.mono {α : Type} {o : Option α} {P Q : α → Prop} (h : Ok o P) (k : ∀ x, P x → Q x) : Ok o Q := by
  obtain ⟨x, e, p⟩ := h
  exact ⟨x, e, k x p⟩
theorem Ok.ck {α : Type} {c : Prop} {i : Decidable c} {A : Option α} {P : α → Prop} (h : c) (k : Ok A P) : Ok (@ite _ c i A none) P := by rw [if_pos h]; exact k
theorem Ok.it {α : Type} {c : Prop} {i : Decidable c} {A B : Option α} {P : α → Prop} (h : c) (k : Ok A P) : Ok (@ite _ c i A B) P := by rw [if_pos h]; exact k
theorem Ok.ie {α : Type} {c : Prop} {i : Decidable c} {A B : Option α} {P : α → Prop} (h : ¬ c) (k : Ok B P) : Ok (@ite _ c i A B) P := by rw [if_neg h]; exact k
theorem Ok.ite {α : Type} {c : Prop} {i : Decidable c} {A B : Option α} {P : α → Prop} (k : c → Ok A P) (k2 : ¬ c → Ok B P) : Ok (@ite _ c i A B) P := by
  by_cases h : c
  · rw [if_pos h]; exact k h
  · rw [if_neg h]; exact k2 h
theorem Ok.bM {α β : Type} {v : β} {f : β → Option α} {P : α → Prop} (k : Ok (f v) P) : Ok (bindM v f) P := k
theorem Ok.bN {α β : Type} {v : β} {f : β → Option α} {P : α → Prop} (k : ∀ x, x = v → Ok (f x) P) : Ok (bindM v f) P := k v rfl
theorem Ok.eq {α : Type} {o : Option α} {x : α} (h : o = some x) : Ok o (fun y => y = x) := ⟨x, h, rfl⟩
theorem Ok.of {α : Type} {o : Option α} {P : α → Prop} {x : α} (h : Ok o P) (e : o = some x) : P x := by
  obtain ⟨y, e2, p⟩ := h
  rw [e] at e2
  cases e2
  exact p
theorem Ok.b1 {α : Type} {o : Option Int} {f : Int → Option α} {P : α → Prop} {Q : Int → Prop} (h : Ok o Q) (k : ∀ a, Q a → Ok (f a) P) : Ok (b1 o f) P := by
  obtain ⟨x, e, p⟩ := h
  rw [e]; exact k x p
theorem Ok.b1M {α : Type} {o : Option (Int × Mm)} {f : Int → Mm → Option α} {P : α → Prop} {Q : Int × Mm → Prop} (h : Ok o Q) (k : ∀ a s, Q (a, s) → Ok (f a s) P) : Ok (b1M o f) P := by
  obtain ⟨⟨x, s⟩, e, p⟩ := h
  rw [e]; exact k x s p
theorem Ok.b0M {α : Type} {o : Option Mm} {f : Mm → Option α} {P : α → Prop} {Q : Mm → Prop} (h : Ok o Q) (k : ∀ s, Q s → Ok (f s) P) : Ok (b0M o f) P := by
  obtain ⟨x, e, p⟩ := h
  rw [e]; exact k x p
theorem Ok.b2 {α : Type} {o : Option (Int × Int)} {f : Int → Int → Option α} {P : α → Prop} {Q : Int × Int → Prop} (h : Ok o Q) (k : ∀ a b, Q (a, b) → Ok (f a b) P) : Ok (b2 o f) P := by
  obtain ⟨⟨x, s⟩, e, p⟩ := h
  rw [e]; exact k x s p
theorem Ok.b2M {α : Type} {o : Option (Int × Int × Mm)} {f : Int → Int → Mm → Option α} {P : α → Prop} {Q : Int × Int × Mm → Prop} (h : Ok o Q) (k : ∀ a b s, Q (a, b, s) → Ok (f a b s) P) : Ok (b2M o f) P := by
  obtain ⟨⟨x, y, s⟩, e, p⟩ := h
  rw [e]; exact k x y s p
theorem Ok.b3M {α : Type} {o : Option (Int × Int × Int × Mm)} {f : Int → Int → Int → Mm → Option α} {P : α → Prop} {Q : Int × Int × Int × Mm → Prop} (h : Ok o Q) (k : ∀ a b c s, Q (a, b, c, s) → Ok (f a b c s) P) : Ok (b3M o f) P := by
  obtain ⟨⟨x, y, z, s⟩, e, p⟩ := h
  rw [e]; exact k x y z s p
theorem Ok.b0S {R α : Type} {o : Option (R ⊕ Unit)} {g : R → Option α} {f : Option α} {P : α → Prop} {Q : R ⊕ Unit → Prop} (h : Ok o Q) (k1 : ∀ y, Q (.inl y) → Ok (g y) P) (k2 : Q (.inr ()) → Ok f P) : Ok (b0S o g f) P := by
  obtain ⟨x, e, p⟩ := h
  rw [e]
  cases x with
  | inl y => exact k1 y p
  | inr y => exact k2 p
theorem Ok.b0MS {R α : Type} {o : Option (R ⊕ Mm)} {g : R → Option α} {f : Mm → Option α} {P : α → Prop} {Q : R ⊕ Mm → Prop} (h : Ok o Q) (k1 : ∀ y, Q (.inl y) → Ok (g y) P) (k2 : ∀ s, Q (.inr s) → Ok (f s) P) : Ok (b0MS o g f) P := by
  obtain ⟨x, e, p⟩ := h
  rw [e]
  cases x with
  | inl y => exact k1 y p
  | inr y => exact k2 y p
theorem Ok.b1S {R α : Type} {o : Option (R ⊕ Int)} {g : R → Option α} {f : Int → Option α} {P : α → Prop} {Q : R ⊕ Int → Prop} (h : Ok o Q) (k1 : ∀ y, Q (.inl y) → Ok (g y) P) (k2 : ∀ a, Q (.inr a) → Ok (f a) P) : Ok (b1S o g f) P := by
  obtain ⟨x, e, p⟩ := h
  rw [e]
  cases x with
  | inl y => exact k1 y p
  | inr y => exact k2 y p
theorem Ok.b1MS {R α : Type} {o : Option (R ⊕ (Int × Mm))} {g : R → Option α} {f : Int → Mm → Option α} {P : α → Prop} {Q : R ⊕ (Int × Mm) → Prop} (h : Ok o Q) (k1 : ∀ y, Q (.inl y) → Ok (g y) P) (k2 : ∀ a s, Q (.inr (a, s)) → Ok (f a s) P) : Ok (b1MS o g f) P := by
  obtain ⟨x, e, p⟩ := h
  rw [e]
  cases x with
  | inl y => exact k1 y p
  | inr y => exact k2 y.1 y.2 p
/-! memory -/
theorem st2_ss (σ : Mm) (i k : Nat) (x : Int) : st2 σ i k x i k = x := by simp [st2]
theorem st2_sk (σ : Mm) (i k j : Nat) (x : Int) : st2 σ i k x i j = if j = k then x else σ i j := by simp [st2]
theorem st2_ne {σ : Mm} {i k j : Nat} {x : Int} (h : j ≠ i) : st2 σ i k x j = σ j := st2_off h
/-- all cells but those of a list are as they were -/
def Fr (S : List Nat) (a b : Mm) : Prop := ∀ i, i ∉ S → b i = a i
theorem Fr.rf {S : List Nat} {a : Mm} : Fr S a a := fun _ _ => rfl
theorem Fr.tr {S : List Nat} {a b c : Mm} (h : Fr S a b) (k : Fr S b c) : Fr S a c := fun i hi => (k i hi).trans (h i hi)
theorem Fr.st {S : List Nat} {a b : Mm} {i k : Nat} {x : Int} (h : Fr S a b) (hi : i ∈ S) : Fr S a (st2 b i k x) := fun j hj => by
  rw [st2_ne (fun q => hj (by rw [q]; exact hi))]; exact h j hj
theorem Fr.stR {S : List Nat} {a b : Mm} {i : Nat} {f : Nat → Int} (h : Fr S a b) (hi : i ∈ S) : Fr S a (stR b i f) := fun j hj => by
  rw [stR_off (fun q => hj (by rw [q]; exact hi))]; exact h j hj
theorem Fr.w {S T : List Nat} {a b : Mm} (h : Fr S a b) (hs : ∀ i ∈ S, i ∈ T) : Fr T a b := fun i hi => h i (fun q => hi (hs i q))
/-! numbers: bits of what is not below 0 -/
theorem i32_nat (n : Nat) : i32 (n : Int) = nI n := by unfold i32 nI; rw [Int32.ofInt_eq_ofNat]
theorem nI_and (a b : Nat) : nI a &&& nI b = nI (a &&& b) := by
  apply Int32.toBitVec_inj.mp
  simp [nI, BitVec.ofNat_and]
theorem nI_or (a b : Nat) : nI a ||| nI b = nI (a ||| b) := by
  apply Int32.toBitVec_inj.mp
  simp [nI, BitVec.ofNat_or]
theorem nI_xor (a b : Nat) : nI a ^^^ nI b = nI (a ^^^ b) := by
  apply Int32.toBitVec_inj.mp
  simp [nI, BitVec.ofNat_xor]
theorem sh_l : ∀ n, n < 32 → ((nI n &&& 31).toBitVec.smod 32).toNat = n := by decide +kernel
theorem iand_nat {a b : Nat} (ha : a < 2147483648) : iand a b = ((a &&& b : Nat) : Int) := by
  unfold iand
  rw [i32_nat, i32_nat, nI_and, nI_toInt (Nat.lt_of_le_of_lt Nat.and_le_left ha)]
theorem ior_nat {a b : Nat} (h : a ||| b < 2147483648) : ior a b = ((a ||| b : Nat) : Int) := by
  unfold ior
  rw [i32_nat, i32_nat, nI_or, nI_toInt h]
theorem ixor_nat {a b : Nat} (h : a ^^^ b < 2147483648) : ixor a b = ((a ^^^ b : Nat) : Int) := by
  unfold ixor
  rw [i32_nat, i32_nat, nI_xor, nI_toInt h]
theorem ishr_nat {a k : Nat} (ha : a < 2147483648) (hk : k < 32) : ishr a k = ((a / 2 ^ k : Nat) : Int) := by
  unfold ishr
  rw [i32_nat, i32_nat, pk_shrN ha _ k (sh_l k hk), nI_toInt (Nat.lt_of_le_of_lt (Nat.div_le_self _ _) ha)]
theorem ishl_nat {a k : Nat} (h : a * 2 ^ k < 2147483648) (hk : k < 32) : ishl a k = ((a * 2 ^ k : Nat) : Int) := by
  unfold ishl
  rw [i32_nat, i32_nat, pk_shlN _ k (sh_l k hk) (by omega), nI_toInt h]
theorem and1 (a : Nat) : a &&& 1 = a % 2 := Nat.and_one_is_mod a
/-- a bit -/
def bitI (x k : Int) : Int := x / 2 ^ k.toNat % 2
theorem bit_of {x k : Int} (hx : 0 ≤ x) (hx2 : x < 2147483648) (hk : 0 ≤ k) (hk2 : k < 32) : iand (ishr x k) 1 = bitI x k := by
  obtain ⟨a, rfl⟩ := Int.eq_ofNat_of_zero_le hx
  obtain ⟨b, rfl⟩ := Int.eq_ofNat_of_zero_le hk
  rw [ishr_nat (by omega) (by omega)]
  have h1 : (1 : Int) = ((1 : Nat) : Int) := rfl
  rw [h1, iand_nat (Nat.lt_of_le_of_lt (Nat.div_le_self _ _) (by omega)), and1]
  unfold bitI
  simp
theorem bitI_01 (x k : Int) : bitI x k = 0 ∨ bitI x k = 1 := by
  unfold bitI
  have h1 := Int.emod_nonneg (x / 2 ^ k.toNat) (by omega : (2 : Int) ≠ 0)
  have h2 := Int.emod_lt_of_pos (x / 2 ^ k.toNat) (by omega : (0 : Int) < 2)
  omega
