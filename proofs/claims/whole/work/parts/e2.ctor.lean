theorem sg1_row {i : Nat} (h : i ≠ 0 ∧ i ≠ 2 ∧ i ≠ 3 ∧ i ≠ 90) (j : Nat) : sg1 i j = 0 := by
  unfold sg1
  rw [if_neg (by omega), if_neg (by omega), if_neg (by omega)]
theorem mg1_row {i : Nat} (h : i ≠ 200 ∧ i ≠ 201) (j : Nat) : mg1 i j = 0 := by
  unfold mg1
  rw [if_neg (by omega), if_neg (by omega), if_neg (by omega), if_neg (by omega)]
theorem eq_z {cs : Nat → ClassId} {ad : Nat → Nat} {σ : Mm} {k t N : Nat} (h1 : Kt k = t) (ht : t < 3) (h2 : Ln k = N) (hz : ∀ j, σ k j = 0) : eqE (.inl (cs t, N, .inl (fun _ => 0))) (cellOf cs ad σ k) := by
  subst h1
  subst h2
  rw [cell_int ht, show (fun j => i32 (σ k j)) = (fun _ => 0) from funext fun j => by rw [hz]; rfl]
  exact Or.inl rfl
theorem eq_zl {cs : Nat → ClassId} {ad : Nat → Nat} {σ : Mm} {k N : Nat} (h1 : Kt k = 3) (h2 : Ln k = N) (hz : ∀ j, σ k j = 0) : eqE (.inl (cs 3, N, .inr (.inl (fun _ => 0)))) (cellOf cs ad σ k) := by
  subst h2
  rw [cell_long h1, show (fun j => i64 (σ k j)) = (fun _ => 0) from funext fun j => by rw [hz]; rfl]
  exact Or.inl rfl
theorem eq_r {cs : Nat → ClassId} {ad : Nat → Nat} {σ : Mm} {k t N : Nat} {F : Nat → Option Nat} (h1 : Kt k = t) (ht : 4 ≤ t) (ht2 : ¬ t = 7) (h2 : Ln k = N) (hz : ∀ j, j < N → F j = some (ad (Rf k j))) : eqE (.inl (cs t, N, .inr (.inr (.inr (.inr F))))) (cellOf cs ad σ k) := by
  subst h1
  subst h2
  rw [cell_ref ht ht2]
  refine Or.inr ⟨_, _, _, rfl, rfl, ?_⟩
  show arrV _ _ (fun j => va_rf (F j)) = arrV _ _ (fun j => va_rf (some (ad (Rf k j))))
  exact arrV_cg (fun j hj => by rw [hz j hj])
def allB (P : Nat → Prop) : Nat → Prop
  | 0 => True
  | n + 1 => allB P n ∧ P n
theorem allB_0 {P : Nat → Prop} : allB P 0 := trivial
theorem allB_s {P : Nat → Prop} {n : Nat} (h : allB P n) (q : P n) : allB P (n + 1) := ⟨h, q⟩
theorem allB_at {P : Nat → Prop} : ∀ {n : Nat}, allB P n → ∀ k, k < n → P k
  | n + 1, h, k, hk => by
    by_cases e : k = n
    · rw [e]; exact h.2
    · exact allB_at h.1 k (by omega)
def adL10 (a : Nat) (f : Nat → Nat) : List Nat := [a, f 0, f 1, f 2, f 3, f 4, f 5, f 6, f 7, f 8, f 9, f 13, f 17, f 21, f 25, f 29, f 33, f 37, f 41, f 45, f 49, f 53, f 10, f 14, f 18, f 22, f 26, f 30, f 34, f 38, f 42, f 46, f 50, f 54, f 11, f 15, f 19, f 23, f 27, f 31, f 35, f 39, f 43, f 47, f 51, f 55, f 12, f 16, f 20, f 24, f 28, f 32, f 36, f 40, f 44, f 48, f 52, f 56, f 57, f 58, f 59, f 60, f 61, f 62, f 63, f 64, f 65, f 66, f 67, f 68, f 69, f 70, f 71, f 72, f 73, f 74, f 75, f 76, f 77, f 78, f 79, f 80, f 81, f 82, f 83, f 84, f 85, f 86, f 87, f 88, f 89, f 90, f 91, f 92, f 93, f 98, f 103, f 108, f 94, f 99, f 104, f 109, f 95, f 100, f 105, f 110, f 96, f 101, f 106, f 111, f 97, f 102, f 107, f 112, f 113, f 114, f 115, f 116, f 117, f 118, f 119, f 120, f 121, f 122, f 123, f 124, f 125, f 126, f 127, f 128, f 129, f 130, f 131, f 132, f 133, f 134, f 135, f 136, f 137, f 138, f 139, f 140, f 141, f 142, f 143, f 144, f 145, f 146, f 147, f 148, f 149, f 150, f 151, f 152, f 153, f 154, f 155, f 156, f 157, f 158, f 159, f 160, f 161, f 162, f 163, f 164, f 165, f 166, f 167, f 168]
def ad10 (a : Nat) (f : Nat → Nat) : Nat → Nat := fun i => (adL10 a f).getD (i - 0) 0
def is10 : List Nat := [0, 1, 2, 3, 4, 5, 6, 7, 8, 9, 10, 14, 18, 22, 26, 30, 34, 38, 42, 46, 50, 54, 11, 15, 19, 23, 27, 31, 35, 39, 43, 47, 51, 55, 12, 16, 20, 24, 28, 32, 36, 40, 44, 48, 52, 56, 13, 17, 21, 25, 29, 33, 37, 41, 45, 49, 53, 57, 58, 59, 60, 61, 62, 63, 64, 65, 66, 67, 68, 69, 70, 71, 72, 73, 74, 75, 76, 77, 78, 79, 80, 81, 82, 83, 84, 85, 86, 87, 88, 89, 90, 91, 92, 93, 94, 99, 104, 109, 95, 100, 105, 110, 96, 101, 106, 111, 97, 102, 107, 112, 98, 103, 108, 113, 114, 115, 116, 117, 118, 119, 120, 121, 122, 123, 124, 125, 126, 127, 128, 129, 130, 131, 132, 133, 134, 135, 136, 137, 138, 139, 140, 141, 142, 143, 144, 145, 146, 147, 148, 149, 150, 151, 152, 153, 154, 155, 156, 157, 158, 159, 160, 161, 162, 163, 164, 165, 166, 167, 168, 169]
theorem eq_k3 : ∀ j, j < 165 → (upd (upd (upd (upd (upd (upd (upd (upd (upd (upd (upd (fun _ => 0) (i32 0).toNatClampNeg (i32 (5))) (i32 1).toNatClampNeg (i32 (5))) (i32 2).toNatClampNeg (i32 (5))) (i32 3).toNatClampNeg (i32 (5))) (i32 4).toNatClampNeg (i32 (5))) (i32 5).toNatClampNeg (i32 (5))) (i32 6).toNatClampNeg (i32 (5))) (i32 7).toNatClampNeg (i32 (5))) (i32 8).toNatClampNeg (i32 (5))) (i32 9).toNatClampNeg (i32 (5))) (i32 42).toNatClampNeg (i32 (53))) j = i32 (sg1 3 j) := by decide +kernel
theorem eq_c3 {cs : Nat → ClassId} {ad : Nat → Nat} : eqE (.inl (cs 0, 165, .inl (upd (upd (upd (upd (upd (upd (upd (upd (upd (upd (upd (fun _ => 0) (i32 0).toNatClampNeg (i32 (5))) (i32 1).toNatClampNeg (i32 (5))) (i32 2).toNatClampNeg (i32 (5))) (i32 3).toNatClampNeg (i32 (5))) (i32 4).toNatClampNeg (i32 (5))) (i32 5).toNatClampNeg (i32 (5))) (i32 6).toNatClampNeg (i32 (5))) (i32 7).toNatClampNeg (i32 (5))) (i32 8).toNatClampNeg (i32 (5))) (i32 9).toNatClampNeg (i32 (5))) (i32 42).toNatClampNeg (i32 (53))))) (cellOf cs ad sg1 3) := Or.inr ⟨_, _, _, rfl, cell_int (by decide), (show arrV _ _ (fun j => Value.int ((upd (upd (upd (upd (upd (upd (upd (upd (upd (upd (upd (fun _ => 0) (i32 0).toNatClampNeg (i32 (5))) (i32 1).toNatClampNeg (i32 (5))) (i32 2).toNatClampNeg (i32 (5))) (i32 3).toNatClampNeg (i32 (5))) (i32 4).toNatClampNeg (i32 (5))) (i32 5).toNatClampNeg (i32 (5))) (i32 6).toNatClampNeg (i32 (5))) (i32 7).toNatClampNeg (i32 (5))) (i32 8).toNatClampNeg (i32 (5))) (i32 9).toNatClampNeg (i32 (5))) (i32 42).toNatClampNeg (i32 (53))) j)) = arrV _ _ (fun j => Value.int (i32 (sg1 3 j))) from arrV_cg (fun j hj => congrArg Value.int (eq_k3 j hj)))⟩
theorem eq_8 (a : Nat) (f : Nat → Nat) : ∀ j, j < 12 → (va_up (va_up (va_up (va_up (va_up (va_up (va_up (va_up (va_up (va_up (va_up (va_up (fun _ => none) (i32 0).toNatClampNeg (some (f 9))) (i32 1).toNatClampNeg (some (f 13))) (i32 2).toNatClampNeg (some (f 17))) (i32 3).toNatClampNeg (some (f 21))) (i32 4).toNatClampNeg (some (f 25))) (i32 5).toNatClampNeg (some (f 29))) (i32 6).toNatClampNeg (some (f 33))) (i32 7).toNatClampNeg (some (f 37))) (i32 8).toNatClampNeg (some (f 41))) (i32 9).toNatClampNeg (some (f 45))) (i32 10).toNatClampNeg (some (f 49))) (i32 11).toNatClampNeg (some (f 53))) j = some (ad10 a f (Rf 8 j)) := by
  intro j hj
  match j, hj with
  | 0, _ => rfl
  | 1, _ => rfl
  | 2, _ => rfl
  | 3, _ => rfl
  | 4, _ => rfl
  | 5, _ => rfl
  | 6, _ => rfl
  | 7, _ => rfl
  | 8, _ => rfl
  | 9, _ => rfl
  | 10, _ => rfl
  | 11, _ => rfl
  | j + 12, h => exact absurd h (by omega)
theorem eq_59 (a : Nat) (f : Nat → Nat) : ∀ j, j < 30 → (fun k => some ([(f 59), (f 60), (f 61), (f 62), (f 63), (f 64), (f 65), (f 66), (f 67), (f 68), (f 69), (f 70), (f 71), (f 72), (f 73), (f 74), (f 75), (f 76), (f 77), (f 78), (f 79), (f 80), (f 81), (f 82), (f 83), (f 84), (f 85), (f 86), (f 87), (f 88)].getD k 0)) j = some (ad10 a f (Rf 59 j)) := by
  intro j hj
  match j, hj with
  | 0, _ => rfl
  | 1, _ => rfl
  | 2, _ => rfl
  | 3, _ => rfl
  | 4, _ => rfl
  | 5, _ => rfl
  | 6, _ => rfl
  | 7, _ => rfl
  | 8, _ => rfl
  | 9, _ => rfl
  | 10, _ => rfl
  | 11, _ => rfl
  | 12, _ => rfl
  | 13, _ => rfl
  | 14, _ => rfl
  | 15, _ => rfl
  | 16, _ => rfl
  | 17, _ => rfl
  | 18, _ => rfl
  | 19, _ => rfl
  | 20, _ => rfl
  | 21, _ => rfl
  | 22, _ => rfl
  | 23, _ => rfl
  | 24, _ => rfl
  | 25, _ => rfl
  | 26, _ => rfl
  | 27, _ => rfl
  | 28, _ => rfl
  | 29, _ => rfl
  | j + 30, h => exact absurd h (by omega)
theorem eq_93 (a : Nat) (f : Nat → Nat) : ∀ j, j < 4 → (va_up (va_up (va_up (va_up (fun _ => none) (i32 0).toNatClampNeg (some (f 93))) (i32 1).toNatClampNeg (some (f 98))) (i32 2).toNatClampNeg (some (f 103))) (i32 3).toNatClampNeg (some (f 108))) j = some (ad10 a f (Rf 93 j)) := by
  intro j hj
  match j, hj with
  | 0, _ => rfl
  | 1, _ => rfl
  | 2, _ => rfl
  | 3, _ => rfl
  | j + 4, h => exact absurd h (by omega)
theorem eq_136 (a : Nat) (f : Nat → Nat) : ∀ j, j < 30 → (fun k => some ([(f 136), (f 137), (f 138), (f 139), (f 140), (f 141), (f 142), (f 143), (f 144), (f 145), (f 146), (f 147), (f 148), (f 149), (f 150), (f 151), (f 152), (f 153), (f 154), (f 155), (f 156), (f 157), (f 158), (f 159), (f 160), (f 161), (f 162), (f 163), (f 164), (f 165)].getD k 0)) j = some (ad10 a f (Rf 136 j)) := by
  intro j hj
  match j, hj with
  | 0, _ => rfl
  | 1, _ => rfl
  | 2, _ => rfl
  | 3, _ => rfl
  | 4, _ => rfl
  | 5, _ => rfl
  | 6, _ => rfl
  | 7, _ => rfl
  | 8, _ => rfl
  | 9, _ => rfl
  | 10, _ => rfl
  | 11, _ => rfl
  | 12, _ => rfl
  | 13, _ => rfl
  | 14, _ => rfl
  | 15, _ => rfl
  | 16, _ => rfl
  | 17, _ => rfl
  | 18, _ => rfl
  | 19, _ => rfl
  | 20, _ => rfl
  | 21, _ => rfl
  | 22, _ => rfl
  | 23, _ => rfl
  | 24, _ => rfl
  | 25, _ => rfl
  | 26, _ => rfl
  | 27, _ => rfl
  | 28, _ => rfl
  | 29, _ => rfl
  | j + 30, h => exact absurd h (by omega)
def TT10 (a : Nat) (f : Nat → Nat) (cs : Nat → ClassId) (k : Nat) : Prop := ∃ (i : Nat) (e : va_E), is10[k]? = some i ∧ (sub10 a cs f)[i]? = some (ad10 a f (0 + k), e) ∧ eqE e (cellOf cs (ad10 a f) sg1 (0 + k))
theorem u10_0 (a : Nat) (f : Nat → Nat) (cs : Nat → ClassId) : TT10 a f cs 0 := ⟨_, _, rfl, rfl, Or.inl rfl⟩
theorem u10_1 (a : Nat) (f : Nat → Nat) (cs : Nat → ClassId) : TT10 a f cs 1 := ⟨_, _, rfl, rfl, Or.inl rfl⟩
theorem u10_2 (a : Nat) (f : Nat → Nat) (cs : Nat → ClassId) : TT10 a f cs 2 := ⟨_, _, rfl, rfl, Or.inl rfl⟩
theorem u10_3 (a : Nat) (f : Nat → Nat) (cs : Nat → ClassId) : TT10 a f cs 3 := ⟨_, _, rfl, rfl, eq_c3⟩
theorem u10_4 (a : Nat) (f : Nat → Nat) (cs : Nat → ClassId) : TT10 a f cs 4 := ⟨_, _, rfl, rfl, eq_z rfl (by decide) rfl (fun j => sg1_row (by decide) j)⟩
theorem u10_5 (a : Nat) (f : Nat → Nat) (cs : Nat → ClassId) : TT10 a f cs 5 := ⟨_, _, rfl, rfl, eq_z rfl (by decide) rfl (fun j => sg1_row (by decide) j)⟩
theorem u10_6 (a : Nat) (f : Nat → Nat) (cs : Nat → ClassId) : TT10 a f cs 6 := ⟨_, _, rfl, rfl, eq_z rfl (by decide) rfl (fun j => sg1_row (by decide) j)⟩
theorem u10_7 (a : Nat) (f : Nat → Nat) (cs : Nat → ClassId) : TT10 a f cs 7 := ⟨_, _, rfl, rfl, eq_z rfl (by decide) rfl (fun j => sg1_row (by decide) j)⟩
theorem u10_8 (a : Nat) (f : Nat → Nat) (cs : Nat → ClassId) : TT10 a f cs 8 := ⟨_, _, rfl, rfl, eq_r rfl (by decide) (by decide) rfl (fun j hj => eq_8 a f j hj)⟩
theorem u10_9 (a : Nat) (f : Nat → Nat) (cs : Nat → ClassId) : TT10 a f cs 9 := ⟨_, _, rfl, rfl, eq_z rfl (by decide) rfl (fun j => sg1_row (by decide) j)⟩
theorem u10_10 (a : Nat) (f : Nat → Nat) (cs : Nat → ClassId) : TT10 a f cs 10 := ⟨_, _, rfl, rfl, Or.inl rfl⟩
theorem u10_11 (a : Nat) (f : Nat → Nat) (cs : Nat → ClassId) : TT10 a f cs 11 := ⟨_, _, rfl, rfl, Or.inl rfl⟩
theorem u10_12 (a : Nat) (f : Nat → Nat) (cs : Nat → ClassId) : TT10 a f cs 12 := ⟨_, _, rfl, rfl, Or.inl rfl⟩
theorem u10_13 (a : Nat) (f : Nat → Nat) (cs : Nat → ClassId) : TT10 a f cs 13 := ⟨_, _, rfl, rfl, Or.inl rfl⟩
theorem u10_14 (a : Nat) (f : Nat → Nat) (cs : Nat → ClassId) : TT10 a f cs 14 := ⟨_, _, rfl, rfl, Or.inl rfl⟩
theorem u10_15 (a : Nat) (f : Nat → Nat) (cs : Nat → ClassId) : TT10 a f cs 15 := ⟨_, _, rfl, rfl, Or.inl rfl⟩
theorem u10_16 (a : Nat) (f : Nat → Nat) (cs : Nat → ClassId) : TT10 a f cs 16 := ⟨_, _, rfl, rfl, Or.inl rfl⟩
theorem u10_17 (a : Nat) (f : Nat → Nat) (cs : Nat → ClassId) : TT10 a f cs 17 := ⟨_, _, rfl, rfl, Or.inl rfl⟩
theorem u10_18 (a : Nat) (f : Nat → Nat) (cs : Nat → ClassId) : TT10 a f cs 18 := ⟨_, _, rfl, rfl, Or.inl rfl⟩
theorem u10_19 (a : Nat) (f : Nat → Nat) (cs : Nat → ClassId) : TT10 a f cs 19 := ⟨_, _, rfl, rfl, Or.inl rfl⟩
theorem u10_20 (a : Nat) (f : Nat → Nat) (cs : Nat → ClassId) : TT10 a f cs 20 := ⟨_, _, rfl, rfl, Or.inl rfl⟩
theorem u10_21 (a : Nat) (f : Nat → Nat) (cs : Nat → ClassId) : TT10 a f cs 21 := ⟨_, _, rfl, rfl, Or.inl rfl⟩
theorem u10_22 (a : Nat) (f : Nat → Nat) (cs : Nat → ClassId) : TT10 a f cs 22 := ⟨_, _, rfl, rfl, eq_z rfl (by decide) rfl (fun j => sg1_row (by decide) j)⟩
theorem u10_23 (a : Nat) (f : Nat → Nat) (cs : Nat → ClassId) : TT10 a f cs 23 := ⟨_, _, rfl, rfl, eq_z rfl (by decide) rfl (fun j => sg1_row (by decide) j)⟩
theorem u10_24 (a : Nat) (f : Nat → Nat) (cs : Nat → ClassId) : TT10 a f cs 24 := ⟨_, _, rfl, rfl, eq_z rfl (by decide) rfl (fun j => sg1_row (by decide) j)⟩
theorem u10_25 (a : Nat) (f : Nat → Nat) (cs : Nat → ClassId) : TT10 a f cs 25 := ⟨_, _, rfl, rfl, eq_z rfl (by decide) rfl (fun j => sg1_row (by decide) j)⟩
theorem u10_26 (a : Nat) (f : Nat → Nat) (cs : Nat → ClassId) : TT10 a f cs 26 := ⟨_, _, rfl, rfl, eq_z rfl (by decide) rfl (fun j => sg1_row (by decide) j)⟩
theorem u10_27 (a : Nat) (f : Nat → Nat) (cs : Nat → ClassId) : TT10 a f cs 27 := ⟨_, _, rfl, rfl, eq_z rfl (by decide) rfl (fun j => sg1_row (by decide) j)⟩
theorem u10_28 (a : Nat) (f : Nat → Nat) (cs : Nat → ClassId) : TT10 a f cs 28 := ⟨_, _, rfl, rfl, eq_z rfl (by decide) rfl (fun j => sg1_row (by decide) j)⟩
theorem u10_29 (a : Nat) (f : Nat → Nat) (cs : Nat → ClassId) : TT10 a f cs 29 := ⟨_, _, rfl, rfl, eq_z rfl (by decide) rfl (fun j => sg1_row (by decide) j)⟩
theorem u10_30 (a : Nat) (f : Nat → Nat) (cs : Nat → ClassId) : TT10 a f cs 30 := ⟨_, _, rfl, rfl, eq_z rfl (by decide) rfl (fun j => sg1_row (by decide) j)⟩
theorem u10_31 (a : Nat) (f : Nat → Nat) (cs : Nat → ClassId) : TT10 a f cs 31 := ⟨_, _, rfl, rfl, eq_z rfl (by decide) rfl (fun j => sg1_row (by decide) j)⟩
theorem u10_32 (a : Nat) (f : Nat → Nat) (cs : Nat → ClassId) : TT10 a f cs 32 := ⟨_, _, rfl, rfl, eq_z rfl (by decide) rfl (fun j => sg1_row (by decide) j)⟩
theorem u10_33 (a : Nat) (f : Nat → Nat) (cs : Nat → ClassId) : TT10 a f cs 33 := ⟨_, _, rfl, rfl, eq_z rfl (by decide) rfl (fun j => sg1_row (by decide) j)⟩
theorem u10_34 (a : Nat) (f : Nat → Nat) (cs : Nat → ClassId) : TT10 a f cs 34 := ⟨_, _, rfl, rfl, eq_z rfl (by decide) rfl (fun j => sg1_row (by decide) j)⟩
theorem u10_35 (a : Nat) (f : Nat → Nat) (cs : Nat → ClassId) : TT10 a f cs 35 := ⟨_, _, rfl, rfl, eq_z rfl (by decide) rfl (fun j => sg1_row (by decide) j)⟩
theorem u10_36 (a : Nat) (f : Nat → Nat) (cs : Nat → ClassId) : TT10 a f cs 36 := ⟨_, _, rfl, rfl, eq_z rfl (by decide) rfl (fun j => sg1_row (by decide) j)⟩
theorem u10_37 (a : Nat) (f : Nat → Nat) (cs : Nat → ClassId) : TT10 a f cs 37 := ⟨_, _, rfl, rfl, eq_z rfl (by decide) rfl (fun j => sg1_row (by decide) j)⟩
theorem u10_38 (a : Nat) (f : Nat → Nat) (cs : Nat → ClassId) : TT10 a f cs 38 := ⟨_, _, rfl, rfl, eq_z rfl (by decide) rfl (fun j => sg1_row (by decide) j)⟩
theorem u10_39 (a : Nat) (f : Nat → Nat) (cs : Nat → ClassId) : TT10 a f cs 39 := ⟨_, _, rfl, rfl, eq_z rfl (by decide) rfl (fun j => sg1_row (by decide) j)⟩
theorem u10_40 (a : Nat) (f : Nat → Nat) (cs : Nat → ClassId) : TT10 a f cs 40 := ⟨_, _, rfl, rfl, eq_z rfl (by decide) rfl (fun j => sg1_row (by decide) j)⟩
theorem u10_41 (a : Nat) (f : Nat → Nat) (cs : Nat → ClassId) : TT10 a f cs 41 := ⟨_, _, rfl, rfl, eq_z rfl (by decide) rfl (fun j => sg1_row (by decide) j)⟩
theorem u10_42 (a : Nat) (f : Nat → Nat) (cs : Nat → ClassId) : TT10 a f cs 42 := ⟨_, _, rfl, rfl, eq_z rfl (by decide) rfl (fun j => sg1_row (by decide) j)⟩
theorem u10_43 (a : Nat) (f : Nat → Nat) (cs : Nat → ClassId) : TT10 a f cs 43 := ⟨_, _, rfl, rfl, eq_z rfl (by decide) rfl (fun j => sg1_row (by decide) j)⟩
theorem u10_44 (a : Nat) (f : Nat → Nat) (cs : Nat → ClassId) : TT10 a f cs 44 := ⟨_, _, rfl, rfl, eq_z rfl (by decide) rfl (fun j => sg1_row (by decide) j)⟩
theorem u10_45 (a : Nat) (f : Nat → Nat) (cs : Nat → ClassId) : TT10 a f cs 45 := ⟨_, _, rfl, rfl, eq_z rfl (by decide) rfl (fun j => sg1_row (by decide) j)⟩
theorem u10_46 (a : Nat) (f : Nat → Nat) (cs : Nat → ClassId) : TT10 a f cs 46 := ⟨_, _, rfl, rfl, eq_z rfl (by decide) rfl (fun j => sg1_row (by decide) j)⟩
theorem u10_47 (a : Nat) (f : Nat → Nat) (cs : Nat → ClassId) : TT10 a f cs 47 := ⟨_, _, rfl, rfl, eq_z rfl (by decide) rfl (fun j => sg1_row (by decide) j)⟩
theorem u10_48 (a : Nat) (f : Nat → Nat) (cs : Nat → ClassId) : TT10 a f cs 48 := ⟨_, _, rfl, rfl, eq_z rfl (by decide) rfl (fun j => sg1_row (by decide) j)⟩
theorem u10_49 (a : Nat) (f : Nat → Nat) (cs : Nat → ClassId) : TT10 a f cs 49 := ⟨_, _, rfl, rfl, eq_z rfl (by decide) rfl (fun j => sg1_row (by decide) j)⟩
theorem u10_50 (a : Nat) (f : Nat → Nat) (cs : Nat → ClassId) : TT10 a f cs 50 := ⟨_, _, rfl, rfl, eq_z rfl (by decide) rfl (fun j => sg1_row (by decide) j)⟩
theorem u10_51 (a : Nat) (f : Nat → Nat) (cs : Nat → ClassId) : TT10 a f cs 51 := ⟨_, _, rfl, rfl, eq_z rfl (by decide) rfl (fun j => sg1_row (by decide) j)⟩
theorem u10_52 (a : Nat) (f : Nat → Nat) (cs : Nat → ClassId) : TT10 a f cs 52 := ⟨_, _, rfl, rfl, eq_z rfl (by decide) rfl (fun j => sg1_row (by decide) j)⟩
theorem u10_53 (a : Nat) (f : Nat → Nat) (cs : Nat → ClassId) : TT10 a f cs 53 := ⟨_, _, rfl, rfl, eq_z rfl (by decide) rfl (fun j => sg1_row (by decide) j)⟩
theorem u10_54 (a : Nat) (f : Nat → Nat) (cs : Nat → ClassId) : TT10 a f cs 54 := ⟨_, _, rfl, rfl, eq_z rfl (by decide) rfl (fun j => sg1_row (by decide) j)⟩
theorem u10_55 (a : Nat) (f : Nat → Nat) (cs : Nat → ClassId) : TT10 a f cs 55 := ⟨_, _, rfl, rfl, eq_z rfl (by decide) rfl (fun j => sg1_row (by decide) j)⟩
theorem u10_56 (a : Nat) (f : Nat → Nat) (cs : Nat → ClassId) : TT10 a f cs 56 := ⟨_, _, rfl, rfl, eq_z rfl (by decide) rfl (fun j => sg1_row (by decide) j)⟩
theorem u10_57 (a : Nat) (f : Nat → Nat) (cs : Nat → ClassId) : TT10 a f cs 57 := ⟨_, _, rfl, rfl, eq_z rfl (by decide) rfl (fun j => sg1_row (by decide) j)⟩
theorem u10_58 (a : Nat) (f : Nat → Nat) (cs : Nat → ClassId) : TT10 a f cs 58 := ⟨_, _, rfl, rfl, Or.inl rfl⟩
theorem u10_59 (a : Nat) (f : Nat → Nat) (cs : Nat → ClassId) : TT10 a f cs 59 := ⟨_, _, rfl, rfl, eq_r rfl (by decide) (by decide) rfl (fun j hj => eq_59 a f j hj)⟩
theorem u10_60 (a : Nat) (f : Nat → Nat) (cs : Nat → ClassId) : TT10 a f cs 60 := ⟨_, _, rfl, rfl, eq_z rfl (by decide) rfl (fun j => sg1_row (by decide) j)⟩
theorem u10_61 (a : Nat) (f : Nat → Nat) (cs : Nat → ClassId) : TT10 a f cs 61 := ⟨_, _, rfl, rfl, eq_z rfl (by decide) rfl (fun j => sg1_row (by decide) j)⟩
theorem u10_62 (a : Nat) (f : Nat → Nat) (cs : Nat → ClassId) : TT10 a f cs 62 := ⟨_, _, rfl, rfl, eq_z rfl (by decide) rfl (fun j => sg1_row (by decide) j)⟩
theorem u10_63 (a : Nat) (f : Nat → Nat) (cs : Nat → ClassId) : TT10 a f cs 63 := ⟨_, _, rfl, rfl, eq_z rfl (by decide) rfl (fun j => sg1_row (by decide) j)⟩
theorem u10_64 (a : Nat) (f : Nat → Nat) (cs : Nat → ClassId) : TT10 a f cs 64 := ⟨_, _, rfl, rfl, eq_z rfl (by decide) rfl (fun j => sg1_row (by decide) j)⟩
theorem u10_65 (a : Nat) (f : Nat → Nat) (cs : Nat → ClassId) : TT10 a f cs 65 := ⟨_, _, rfl, rfl, eq_z rfl (by decide) rfl (fun j => sg1_row (by decide) j)⟩
theorem u10_66 (a : Nat) (f : Nat → Nat) (cs : Nat → ClassId) : TT10 a f cs 66 := ⟨_, _, rfl, rfl, eq_z rfl (by decide) rfl (fun j => sg1_row (by decide) j)⟩
theorem u10_67 (a : Nat) (f : Nat → Nat) (cs : Nat → ClassId) : TT10 a f cs 67 := ⟨_, _, rfl, rfl, eq_z rfl (by decide) rfl (fun j => sg1_row (by decide) j)⟩
theorem u10_68 (a : Nat) (f : Nat → Nat) (cs : Nat → ClassId) : TT10 a f cs 68 := ⟨_, _, rfl, rfl, eq_z rfl (by decide) rfl (fun j => sg1_row (by decide) j)⟩
theorem u10_69 (a : Nat) (f : Nat → Nat) (cs : Nat → ClassId) : TT10 a f cs 69 := ⟨_, _, rfl, rfl, eq_z rfl (by decide) rfl (fun j => sg1_row (by decide) j)⟩
theorem u10_70 (a : Nat) (f : Nat → Nat) (cs : Nat → ClassId) : TT10 a f cs 70 := ⟨_, _, rfl, rfl, eq_z rfl (by decide) rfl (fun j => sg1_row (by decide) j)⟩
theorem u10_71 (a : Nat) (f : Nat → Nat) (cs : Nat → ClassId) : TT10 a f cs 71 := ⟨_, _, rfl, rfl, eq_z rfl (by decide) rfl (fun j => sg1_row (by decide) j)⟩
theorem u10_72 (a : Nat) (f : Nat → Nat) (cs : Nat → ClassId) : TT10 a f cs 72 := ⟨_, _, rfl, rfl, eq_z rfl (by decide) rfl (fun j => sg1_row (by decide) j)⟩
theorem u10_73 (a : Nat) (f : Nat → Nat) (cs : Nat → ClassId) : TT10 a f cs 73 := ⟨_, _, rfl, rfl, eq_z rfl (by decide) rfl (fun j => sg1_row (by decide) j)⟩
theorem u10_74 (a : Nat) (f : Nat → Nat) (cs : Nat → ClassId) : TT10 a f cs 74 := ⟨_, _, rfl, rfl, eq_z rfl (by decide) rfl (fun j => sg1_row (by decide) j)⟩
theorem u10_75 (a : Nat) (f : Nat → Nat) (cs : Nat → ClassId) : TT10 a f cs 75 := ⟨_, _, rfl, rfl, eq_z rfl (by decide) rfl (fun j => sg1_row (by decide) j)⟩
theorem u10_76 (a : Nat) (f : Nat → Nat) (cs : Nat → ClassId) : TT10 a f cs 76 := ⟨_, _, rfl, rfl, eq_z rfl (by decide) rfl (fun j => sg1_row (by decide) j)⟩
theorem u10_77 (a : Nat) (f : Nat → Nat) (cs : Nat → ClassId) : TT10 a f cs 77 := ⟨_, _, rfl, rfl, eq_z rfl (by decide) rfl (fun j => sg1_row (by decide) j)⟩
theorem u10_78 (a : Nat) (f : Nat → Nat) (cs : Nat → ClassId) : TT10 a f cs 78 := ⟨_, _, rfl, rfl, eq_z rfl (by decide) rfl (fun j => sg1_row (by decide) j)⟩
theorem u10_79 (a : Nat) (f : Nat → Nat) (cs : Nat → ClassId) : TT10 a f cs 79 := ⟨_, _, rfl, rfl, eq_z rfl (by decide) rfl (fun j => sg1_row (by decide) j)⟩
theorem u10_80 (a : Nat) (f : Nat → Nat) (cs : Nat → ClassId) : TT10 a f cs 80 := ⟨_, _, rfl, rfl, eq_z rfl (by decide) rfl (fun j => sg1_row (by decide) j)⟩
theorem u10_81 (a : Nat) (f : Nat → Nat) (cs : Nat → ClassId) : TT10 a f cs 81 := ⟨_, _, rfl, rfl, eq_z rfl (by decide) rfl (fun j => sg1_row (by decide) j)⟩
theorem u10_82 (a : Nat) (f : Nat → Nat) (cs : Nat → ClassId) : TT10 a f cs 82 := ⟨_, _, rfl, rfl, eq_z rfl (by decide) rfl (fun j => sg1_row (by decide) j)⟩
theorem u10_83 (a : Nat) (f : Nat → Nat) (cs : Nat → ClassId) : TT10 a f cs 83 := ⟨_, _, rfl, rfl, eq_z rfl (by decide) rfl (fun j => sg1_row (by decide) j)⟩
theorem u10_84 (a : Nat) (f : Nat → Nat) (cs : Nat → ClassId) : TT10 a f cs 84 := ⟨_, _, rfl, rfl, eq_z rfl (by decide) rfl (fun j => sg1_row (by decide) j)⟩
theorem u10_85 (a : Nat) (f : Nat → Nat) (cs : Nat → ClassId) : TT10 a f cs 85 := ⟨_, _, rfl, rfl, eq_z rfl (by decide) rfl (fun j => sg1_row (by decide) j)⟩
theorem u10_86 (a : Nat) (f : Nat → Nat) (cs : Nat → ClassId) : TT10 a f cs 86 := ⟨_, _, rfl, rfl, eq_z rfl (by decide) rfl (fun j => sg1_row (by decide) j)⟩
theorem u10_87 (a : Nat) (f : Nat → Nat) (cs : Nat → ClassId) : TT10 a f cs 87 := ⟨_, _, rfl, rfl, eq_z rfl (by decide) rfl (fun j => sg1_row (by decide) j)⟩
theorem u10_88 (a : Nat) (f : Nat → Nat) (cs : Nat → ClassId) : TT10 a f cs 88 := ⟨_, _, rfl, rfl, eq_z rfl (by decide) rfl (fun j => sg1_row (by decide) j)⟩
theorem u10_89 (a : Nat) (f : Nat → Nat) (cs : Nat → ClassId) : TT10 a f cs 89 := ⟨_, _, rfl, rfl, eq_z rfl (by decide) rfl (fun j => sg1_row (by decide) j)⟩
theorem u10_90 (a : Nat) (f : Nat → Nat) (cs : Nat → ClassId) : TT10 a f cs 90 := ⟨_, _, rfl, rfl, Or.inl rfl⟩
theorem u10_91 (a : Nat) (f : Nat → Nat) (cs : Nat → ClassId) : TT10 a f cs 91 := ⟨_, _, rfl, rfl, eq_z rfl (by decide) rfl (fun j => sg1_row (by decide) j)⟩
theorem u10_92 (a : Nat) (f : Nat → Nat) (cs : Nat → ClassId) : TT10 a f cs 92 := ⟨_, _, rfl, rfl, eq_z rfl (by decide) rfl (fun j => sg1_row (by decide) j)⟩
theorem u10_93 (a : Nat) (f : Nat → Nat) (cs : Nat → ClassId) : TT10 a f cs 93 := ⟨_, _, rfl, rfl, eq_r rfl (by decide) (by decide) rfl (fun j hj => eq_93 a f j hj)⟩
theorem u10_94 (a : Nat) (f : Nat → Nat) (cs : Nat → ClassId) : TT10 a f cs 94 := ⟨_, _, rfl, rfl, Or.inl rfl⟩
theorem u10_95 (a : Nat) (f : Nat → Nat) (cs : Nat → ClassId) : TT10 a f cs 95 := ⟨_, _, rfl, rfl, Or.inl rfl⟩
theorem u10_96 (a : Nat) (f : Nat → Nat) (cs : Nat → ClassId) : TT10 a f cs 96 := ⟨_, _, rfl, rfl, Or.inl rfl⟩
theorem u10_97 (a : Nat) (f : Nat → Nat) (cs : Nat → ClassId) : TT10 a f cs 97 := ⟨_, _, rfl, rfl, Or.inl rfl⟩
theorem u10_98 (a : Nat) (f : Nat → Nat) (cs : Nat → ClassId) : TT10 a f cs 98 := ⟨_, _, rfl, rfl, eq_z rfl (by decide) rfl (fun j => sg1_row (by decide) j)⟩
theorem u10_99 (a : Nat) (f : Nat → Nat) (cs : Nat → ClassId) : TT10 a f cs 99 := ⟨_, _, rfl, rfl, eq_z rfl (by decide) rfl (fun j => sg1_row (by decide) j)⟩
theorem u10_100 (a : Nat) (f : Nat → Nat) (cs : Nat → ClassId) : TT10 a f cs 100 := ⟨_, _, rfl, rfl, eq_z rfl (by decide) rfl (fun j => sg1_row (by decide) j)⟩
theorem u10_101 (a : Nat) (f : Nat → Nat) (cs : Nat → ClassId) : TT10 a f cs 101 := ⟨_, _, rfl, rfl, eq_z rfl (by decide) rfl (fun j => sg1_row (by decide) j)⟩
theorem u10_102 (a : Nat) (f : Nat → Nat) (cs : Nat → ClassId) : TT10 a f cs 102 := ⟨_, _, rfl, rfl, eq_z rfl (by decide) rfl (fun j => sg1_row (by decide) j)⟩
theorem u10_103 (a : Nat) (f : Nat → Nat) (cs : Nat → ClassId) : TT10 a f cs 103 := ⟨_, _, rfl, rfl, eq_z rfl (by decide) rfl (fun j => sg1_row (by decide) j)⟩
theorem u10_104 (a : Nat) (f : Nat → Nat) (cs : Nat → ClassId) : TT10 a f cs 104 := ⟨_, _, rfl, rfl, eq_z rfl (by decide) rfl (fun j => sg1_row (by decide) j)⟩
theorem u10_105 (a : Nat) (f : Nat → Nat) (cs : Nat → ClassId) : TT10 a f cs 105 := ⟨_, _, rfl, rfl, eq_z rfl (by decide) rfl (fun j => sg1_row (by decide) j)⟩
theorem u10_106 (a : Nat) (f : Nat → Nat) (cs : Nat → ClassId) : TT10 a f cs 106 := ⟨_, _, rfl, rfl, eq_z rfl (by decide) rfl (fun j => sg1_row (by decide) j)⟩
theorem u10_107 (a : Nat) (f : Nat → Nat) (cs : Nat → ClassId) : TT10 a f cs 107 := ⟨_, _, rfl, rfl, eq_z rfl (by decide) rfl (fun j => sg1_row (by decide) j)⟩
theorem u10_108 (a : Nat) (f : Nat → Nat) (cs : Nat → ClassId) : TT10 a f cs 108 := ⟨_, _, rfl, rfl, eq_z rfl (by decide) rfl (fun j => sg1_row (by decide) j)⟩
theorem u10_109 (a : Nat) (f : Nat → Nat) (cs : Nat → ClassId) : TT10 a f cs 109 := ⟨_, _, rfl, rfl, eq_z rfl (by decide) rfl (fun j => sg1_row (by decide) j)⟩
theorem u10_110 (a : Nat) (f : Nat → Nat) (cs : Nat → ClassId) : TT10 a f cs 110 := ⟨_, _, rfl, rfl, eq_z rfl (by decide) rfl (fun j => sg1_row (by decide) j)⟩
theorem u10_111 (a : Nat) (f : Nat → Nat) (cs : Nat → ClassId) : TT10 a f cs 111 := ⟨_, _, rfl, rfl, eq_z rfl (by decide) rfl (fun j => sg1_row (by decide) j)⟩
theorem u10_112 (a : Nat) (f : Nat → Nat) (cs : Nat → ClassId) : TT10 a f cs 112 := ⟨_, _, rfl, rfl, eq_z rfl (by decide) rfl (fun j => sg1_row (by decide) j)⟩
theorem u10_113 (a : Nat) (f : Nat → Nat) (cs : Nat → ClassId) : TT10 a f cs 113 := ⟨_, _, rfl, rfl, eq_z rfl (by decide) rfl (fun j => sg1_row (by decide) j)⟩
theorem u10_114 (a : Nat) (f : Nat → Nat) (cs : Nat → ClassId) : TT10 a f cs 114 := ⟨_, _, rfl, rfl, Or.inl rfl⟩
theorem u10_115 (a : Nat) (f : Nat → Nat) (cs : Nat → ClassId) : TT10 a f cs 115 := ⟨_, _, rfl, rfl, eq_z rfl (by decide) rfl (fun j => sg1_row (by decide) j)⟩
theorem u10_116 (a : Nat) (f : Nat → Nat) (cs : Nat → ClassId) : TT10 a f cs 116 := ⟨_, _, rfl, rfl, eq_z rfl (by decide) rfl (fun j => sg1_row (by decide) j)⟩
theorem u10_117 (a : Nat) (f : Nat → Nat) (cs : Nat → ClassId) : TT10 a f cs 117 := ⟨_, _, rfl, rfl, eq_z rfl (by decide) rfl (fun j => sg1_row (by decide) j)⟩
theorem u10_118 (a : Nat) (f : Nat → Nat) (cs : Nat → ClassId) : TT10 a f cs 118 := ⟨_, _, rfl, rfl, eq_z rfl (by decide) rfl (fun j => sg1_row (by decide) j)⟩
theorem u10_119 (a : Nat) (f : Nat → Nat) (cs : Nat → ClassId) : TT10 a f cs 119 := ⟨_, _, rfl, rfl, eq_z rfl (by decide) rfl (fun j => sg1_row (by decide) j)⟩
theorem u10_120 (a : Nat) (f : Nat → Nat) (cs : Nat → ClassId) : TT10 a f cs 120 := ⟨_, _, rfl, rfl, eq_z rfl (by decide) rfl (fun j => sg1_row (by decide) j)⟩
theorem u10_121 (a : Nat) (f : Nat → Nat) (cs : Nat → ClassId) : TT10 a f cs 121 := ⟨_, _, rfl, rfl, Or.inl rfl⟩
theorem u10_122 (a : Nat) (f : Nat → Nat) (cs : Nat → ClassId) : TT10 a f cs 122 := ⟨_, _, rfl, rfl, eq_z rfl (by decide) rfl (fun j => sg1_row (by decide) j)⟩
theorem u10_123 (a : Nat) (f : Nat → Nat) (cs : Nat → ClassId) : TT10 a f cs 123 := ⟨_, _, rfl, rfl, eq_z rfl (by decide) rfl (fun j => sg1_row (by decide) j)⟩
theorem u10_124 (a : Nat) (f : Nat → Nat) (cs : Nat → ClassId) : TT10 a f cs 124 := ⟨_, _, rfl, rfl, eq_z rfl (by decide) rfl (fun j => sg1_row (by decide) j)⟩
theorem u10_125 (a : Nat) (f : Nat → Nat) (cs : Nat → ClassId) : TT10 a f cs 125 := ⟨_, _, rfl, rfl, eq_z rfl (by decide) rfl (fun j => sg1_row (by decide) j)⟩
theorem u10_126 (a : Nat) (f : Nat → Nat) (cs : Nat → ClassId) : TT10 a f cs 126 := ⟨_, _, rfl, rfl, eq_z rfl (by decide) rfl (fun j => sg1_row (by decide) j)⟩
theorem u10_127 (a : Nat) (f : Nat → Nat) (cs : Nat → ClassId) : TT10 a f cs 127 := ⟨_, _, rfl, rfl, eq_z rfl (by decide) rfl (fun j => sg1_row (by decide) j)⟩
theorem u10_128 (a : Nat) (f : Nat → Nat) (cs : Nat → ClassId) : TT10 a f cs 128 := ⟨_, _, rfl, rfl, eq_z rfl (by decide) rfl (fun j => sg1_row (by decide) j)⟩
theorem u10_129 (a : Nat) (f : Nat → Nat) (cs : Nat → ClassId) : TT10 a f cs 129 := ⟨_, _, rfl, rfl, Or.inl rfl⟩
theorem u10_130 (a : Nat) (f : Nat → Nat) (cs : Nat → ClassId) : TT10 a f cs 130 := ⟨_, _, rfl, rfl, eq_z rfl (by decide) rfl (fun j => sg1_row (by decide) j)⟩
theorem u10_131 (a : Nat) (f : Nat → Nat) (cs : Nat → ClassId) : TT10 a f cs 131 := ⟨_, _, rfl, rfl, eq_z rfl (by decide) rfl (fun j => sg1_row (by decide) j)⟩
theorem u10_132 (a : Nat) (f : Nat → Nat) (cs : Nat → ClassId) : TT10 a f cs 132 := ⟨_, _, rfl, rfl, eq_z rfl (by decide) rfl (fun j => sg1_row (by decide) j)⟩
theorem u10_133 (a : Nat) (f : Nat → Nat) (cs : Nat → ClassId) : TT10 a f cs 133 := ⟨_, _, rfl, rfl, Or.inl rfl⟩
theorem u10_134 (a : Nat) (f : Nat → Nat) (cs : Nat → ClassId) : TT10 a f cs 134 := ⟨_, _, rfl, rfl, eq_z rfl (by decide) rfl (fun j => sg1_row (by decide) j)⟩
theorem u10_135 (a : Nat) (f : Nat → Nat) (cs : Nat → ClassId) : TT10 a f cs 135 := ⟨_, _, rfl, rfl, Or.inl rfl⟩
theorem u10_136 (a : Nat) (f : Nat → Nat) (cs : Nat → ClassId) : TT10 a f cs 136 := ⟨_, _, rfl, rfl, eq_r rfl (by decide) (by decide) rfl (fun j hj => eq_136 a f j hj)⟩
theorem u10_137 (a : Nat) (f : Nat → Nat) (cs : Nat → ClassId) : TT10 a f cs 137 := ⟨_, _, rfl, rfl, eq_z rfl (by decide) rfl (fun j => sg1_row (by decide) j)⟩
theorem u10_138 (a : Nat) (f : Nat → Nat) (cs : Nat → ClassId) : TT10 a f cs 138 := ⟨_, _, rfl, rfl, eq_z rfl (by decide) rfl (fun j => sg1_row (by decide) j)⟩
theorem u10_139 (a : Nat) (f : Nat → Nat) (cs : Nat → ClassId) : TT10 a f cs 139 := ⟨_, _, rfl, rfl, eq_z rfl (by decide) rfl (fun j => sg1_row (by decide) j)⟩
theorem u10_140 (a : Nat) (f : Nat → Nat) (cs : Nat → ClassId) : TT10 a f cs 140 := ⟨_, _, rfl, rfl, eq_z rfl (by decide) rfl (fun j => sg1_row (by decide) j)⟩
theorem u10_141 (a : Nat) (f : Nat → Nat) (cs : Nat → ClassId) : TT10 a f cs 141 := ⟨_, _, rfl, rfl, eq_z rfl (by decide) rfl (fun j => sg1_row (by decide) j)⟩
theorem u10_142 (a : Nat) (f : Nat → Nat) (cs : Nat → ClassId) : TT10 a f cs 142 := ⟨_, _, rfl, rfl, eq_z rfl (by decide) rfl (fun j => sg1_row (by decide) j)⟩
theorem u10_143 (a : Nat) (f : Nat → Nat) (cs : Nat → ClassId) : TT10 a f cs 143 := ⟨_, _, rfl, rfl, eq_z rfl (by decide) rfl (fun j => sg1_row (by decide) j)⟩
theorem u10_144 (a : Nat) (f : Nat → Nat) (cs : Nat → ClassId) : TT10 a f cs 144 := ⟨_, _, rfl, rfl, eq_z rfl (by decide) rfl (fun j => sg1_row (by decide) j)⟩
theorem u10_145 (a : Nat) (f : Nat → Nat) (cs : Nat → ClassId) : TT10 a f cs 145 := ⟨_, _, rfl, rfl, eq_z rfl (by decide) rfl (fun j => sg1_row (by decide) j)⟩
theorem u10_146 (a : Nat) (f : Nat → Nat) (cs : Nat → ClassId) : TT10 a f cs 146 := ⟨_, _, rfl, rfl, eq_z rfl (by decide) rfl (fun j => sg1_row (by decide) j)⟩
theorem u10_147 (a : Nat) (f : Nat → Nat) (cs : Nat → ClassId) : TT10 a f cs 147 := ⟨_, _, rfl, rfl, eq_z rfl (by decide) rfl (fun j => sg1_row (by decide) j)⟩
theorem u10_148 (a : Nat) (f : Nat → Nat) (cs : Nat → ClassId) : TT10 a f cs 148 := ⟨_, _, rfl, rfl, eq_z rfl (by decide) rfl (fun j => sg1_row (by decide) j)⟩
theorem u10_149 (a : Nat) (f : Nat → Nat) (cs : Nat → ClassId) : TT10 a f cs 149 := ⟨_, _, rfl, rfl, eq_z rfl (by decide) rfl (fun j => sg1_row (by decide) j)⟩
theorem u10_150 (a : Nat) (f : Nat → Nat) (cs : Nat → ClassId) : TT10 a f cs 150 := ⟨_, _, rfl, rfl, eq_z rfl (by decide) rfl (fun j => sg1_row (by decide) j)⟩
theorem u10_151 (a : Nat) (f : Nat → Nat) (cs : Nat → ClassId) : TT10 a f cs 151 := ⟨_, _, rfl, rfl, eq_z rfl (by decide) rfl (fun j => sg1_row (by decide) j)⟩
theorem u10_152 (a : Nat) (f : Nat → Nat) (cs : Nat → ClassId) : TT10 a f cs 152 := ⟨_, _, rfl, rfl, eq_z rfl (by decide) rfl (fun j => sg1_row (by decide) j)⟩
theorem u10_153 (a : Nat) (f : Nat → Nat) (cs : Nat → ClassId) : TT10 a f cs 153 := ⟨_, _, rfl, rfl, eq_z rfl (by decide) rfl (fun j => sg1_row (by decide) j)⟩
theorem u10_154 (a : Nat) (f : Nat → Nat) (cs : Nat → ClassId) : TT10 a f cs 154 := ⟨_, _, rfl, rfl, eq_z rfl (by decide) rfl (fun j => sg1_row (by decide) j)⟩
theorem u10_155 (a : Nat) (f : Nat → Nat) (cs : Nat → ClassId) : TT10 a f cs 155 := ⟨_, _, rfl, rfl, eq_z rfl (by decide) rfl (fun j => sg1_row (by decide) j)⟩
theorem u10_156 (a : Nat) (f : Nat → Nat) (cs : Nat → ClassId) : TT10 a f cs 156 := ⟨_, _, rfl, rfl, eq_z rfl (by decide) rfl (fun j => sg1_row (by decide) j)⟩
theorem u10_157 (a : Nat) (f : Nat → Nat) (cs : Nat → ClassId) : TT10 a f cs 157 := ⟨_, _, rfl, rfl, eq_z rfl (by decide) rfl (fun j => sg1_row (by decide) j)⟩
theorem u10_158 (a : Nat) (f : Nat → Nat) (cs : Nat → ClassId) : TT10 a f cs 158 := ⟨_, _, rfl, rfl, eq_z rfl (by decide) rfl (fun j => sg1_row (by decide) j)⟩
theorem u10_159 (a : Nat) (f : Nat → Nat) (cs : Nat → ClassId) : TT10 a f cs 159 := ⟨_, _, rfl, rfl, eq_z rfl (by decide) rfl (fun j => sg1_row (by decide) j)⟩
theorem u10_160 (a : Nat) (f : Nat → Nat) (cs : Nat → ClassId) : TT10 a f cs 160 := ⟨_, _, rfl, rfl, eq_z rfl (by decide) rfl (fun j => sg1_row (by decide) j)⟩
theorem u10_161 (a : Nat) (f : Nat → Nat) (cs : Nat → ClassId) : TT10 a f cs 161 := ⟨_, _, rfl, rfl, eq_z rfl (by decide) rfl (fun j => sg1_row (by decide) j)⟩
theorem u10_162 (a : Nat) (f : Nat → Nat) (cs : Nat → ClassId) : TT10 a f cs 162 := ⟨_, _, rfl, rfl, eq_z rfl (by decide) rfl (fun j => sg1_row (by decide) j)⟩
theorem u10_163 (a : Nat) (f : Nat → Nat) (cs : Nat → ClassId) : TT10 a f cs 163 := ⟨_, _, rfl, rfl, eq_z rfl (by decide) rfl (fun j => sg1_row (by decide) j)⟩
theorem u10_164 (a : Nat) (f : Nat → Nat) (cs : Nat → ClassId) : TT10 a f cs 164 := ⟨_, _, rfl, rfl, eq_z rfl (by decide) rfl (fun j => sg1_row (by decide) j)⟩
theorem u10_165 (a : Nat) (f : Nat → Nat) (cs : Nat → ClassId) : TT10 a f cs 165 := ⟨_, _, rfl, rfl, eq_z rfl (by decide) rfl (fun j => sg1_row (by decide) j)⟩
theorem u10_166 (a : Nat) (f : Nat → Nat) (cs : Nat → ClassId) : TT10 a f cs 166 := ⟨_, _, rfl, rfl, eq_z rfl (by decide) rfl (fun j => sg1_row (by decide) j)⟩
theorem u10_167 (a : Nat) (f : Nat → Nat) (cs : Nat → ClassId) : TT10 a f cs 167 := ⟨_, _, rfl, rfl, eq_z rfl (by decide) rfl (fun j => sg1_row (by decide) j)⟩
theorem u10_168 (a : Nat) (f : Nat → Nat) (cs : Nat → ClassId) : TT10 a f cs 168 := ⟨_, _, rfl, rfl, eq_z rfl (by decide) rfl (fun j => sg1_row (by decide) j)⟩
theorem u10_169 (a : Nat) (f : Nat → Nat) (cs : Nat → ClassId) : TT10 a f cs 169 := ⟨_, _, rfl, rfl, eq_z rfl (by decide) rfl (fun j => sg1_row (by decide) j)⟩
set_option maxRecDepth 100000 in
theorem w10 (a : Nat) (f : Nat → Nat) (cs : Nat → ClassId) : ∀ (k : Nat) (x : Nat × va_E), (wsOf cs (ad10 a f) sg1 0)[k]? = some x → ∃ (i : Nat) (e : va_E), is10[k]? = some i ∧ (sub10 a cs f)[i]? = some (x.1, e) ∧ eqE e x.2 := by
  have all : allB (TT10 a f cs) 170 := (allB_s (allB_s (allB_s (allB_s (allB_s (allB_s (allB_s (allB_s (allB_s (allB_s (allB_s (allB_s (allB_s (allB_s (allB_s (allB_s (allB_s (allB_s (allB_s (allB_s (allB_s (allB_s (allB_s (allB_s (allB_s (allB_s (allB_s (allB_s (allB_s (allB_s (allB_s (allB_s (allB_s (allB_s (allB_s (allB_s (allB_s (allB_s (allB_s (allB_s (allB_s (allB_s (allB_s (allB_s (allB_s (allB_s (allB_s (allB_s (allB_s (allB_s (allB_s (allB_s (allB_s (allB_s (allB_s (allB_s (allB_s (allB_s (allB_s (allB_s (allB_s (allB_s (allB_s (allB_s (allB_s (allB_s (allB_s (allB_s (allB_s (allB_s (allB_s (allB_s (allB_s (allB_s (allB_s (allB_s (allB_s (allB_s (allB_s (allB_s (allB_s (allB_s (allB_s (allB_s (allB_s (allB_s (allB_s (allB_s (allB_s (allB_s (allB_s (allB_s (allB_s (allB_s (allB_s (allB_s (allB_s (allB_s (allB_s (allB_s (allB_s (allB_s (allB_s (allB_s (allB_s (allB_s (allB_s (allB_s (allB_s (allB_s (allB_s (allB_s (allB_s (allB_s (allB_s (allB_s (allB_s (allB_s (allB_s (allB_s (allB_s (allB_s (allB_s (allB_s (allB_s (allB_s (allB_s (allB_s (allB_s (allB_s (allB_s (allB_s (allB_s (allB_s (allB_s (allB_s (allB_s (allB_s (allB_s (allB_s (allB_s (allB_s (allB_s (allB_s (allB_s (allB_s (allB_s (allB_s (allB_s (allB_s (allB_s (allB_s (allB_s (allB_s (allB_s (allB_s (allB_s (allB_s (allB_s (allB_s (allB_s (allB_s (allB_s (allB_s (allB_s (allB_s (allB_s (allB_s (allB_s (allB_s allB_0 (u10_0 a f cs)) (u10_1 a f cs)) (u10_2 a f cs)) (u10_3 a f cs)) (u10_4 a f cs)) (u10_5 a f cs)) (u10_6 a f cs)) (u10_7 a f cs)) (u10_8 a f cs)) (u10_9 a f cs)) (u10_10 a f cs)) (u10_11 a f cs)) (u10_12 a f cs)) (u10_13 a f cs)) (u10_14 a f cs)) (u10_15 a f cs)) (u10_16 a f cs)) (u10_17 a f cs)) (u10_18 a f cs)) (u10_19 a f cs)) (u10_20 a f cs)) (u10_21 a f cs)) (u10_22 a f cs)) (u10_23 a f cs)) (u10_24 a f cs)) (u10_25 a f cs)) (u10_26 a f cs)) (u10_27 a f cs)) (u10_28 a f cs)) (u10_29 a f cs)) (u10_30 a f cs)) (u10_31 a f cs)) (u10_32 a f cs)) (u10_33 a f cs)) (u10_34 a f cs)) (u10_35 a f cs)) (u10_36 a f cs)) (u10_37 a f cs)) (u10_38 a f cs)) (u10_39 a f cs)) (u10_40 a f cs)) (u10_41 a f cs)) (u10_42 a f cs)) (u10_43 a f cs)) (u10_44 a f cs)) (u10_45 a f cs)) (u10_46 a f cs)) (u10_47 a f cs)) (u10_48 a f cs)) (u10_49 a f cs)) (u10_50 a f cs)) (u10_51 a f cs)) (u10_52 a f cs)) (u10_53 a f cs)) (u10_54 a f cs)) (u10_55 a f cs)) (u10_56 a f cs)) (u10_57 a f cs)) (u10_58 a f cs)) (u10_59 a f cs)) (u10_60 a f cs)) (u10_61 a f cs)) (u10_62 a f cs)) (u10_63 a f cs)) (u10_64 a f cs)) (u10_65 a f cs)) (u10_66 a f cs)) (u10_67 a f cs)) (u10_68 a f cs)) (u10_69 a f cs)) (u10_70 a f cs)) (u10_71 a f cs)) (u10_72 a f cs)) (u10_73 a f cs)) (u10_74 a f cs)) (u10_75 a f cs)) (u10_76 a f cs)) (u10_77 a f cs)) (u10_78 a f cs)) (u10_79 a f cs)) (u10_80 a f cs)) (u10_81 a f cs)) (u10_82 a f cs)) (u10_83 a f cs)) (u10_84 a f cs)) (u10_85 a f cs)) (u10_86 a f cs)) (u10_87 a f cs)) (u10_88 a f cs)) (u10_89 a f cs)) (u10_90 a f cs)) (u10_91 a f cs)) (u10_92 a f cs)) (u10_93 a f cs)) (u10_94 a f cs)) (u10_95 a f cs)) (u10_96 a f cs)) (u10_97 a f cs)) (u10_98 a f cs)) (u10_99 a f cs)) (u10_100 a f cs)) (u10_101 a f cs)) (u10_102 a f cs)) (u10_103 a f cs)) (u10_104 a f cs)) (u10_105 a f cs)) (u10_106 a f cs)) (u10_107 a f cs)) (u10_108 a f cs)) (u10_109 a f cs)) (u10_110 a f cs)) (u10_111 a f cs)) (u10_112 a f cs)) (u10_113 a f cs)) (u10_114 a f cs)) (u10_115 a f cs)) (u10_116 a f cs)) (u10_117 a f cs)) (u10_118 a f cs)) (u10_119 a f cs)) (u10_120 a f cs)) (u10_121 a f cs)) (u10_122 a f cs)) (u10_123 a f cs)) (u10_124 a f cs)) (u10_125 a f cs)) (u10_126 a f cs)) (u10_127 a f cs)) (u10_128 a f cs)) (u10_129 a f cs)) (u10_130 a f cs)) (u10_131 a f cs)) (u10_132 a f cs)) (u10_133 a f cs)) (u10_134 a f cs)) (u10_135 a f cs)) (u10_136 a f cs)) (u10_137 a f cs)) (u10_138 a f cs)) (u10_139 a f cs)) (u10_140 a f cs)) (u10_141 a f cs)) (u10_142 a f cs)) (u10_143 a f cs)) (u10_144 a f cs)) (u10_145 a f cs)) (u10_146 a f cs)) (u10_147 a f cs)) (u10_148 a f cs)) (u10_149 a f cs)) (u10_150 a f cs)) (u10_151 a f cs)) (u10_152 a f cs)) (u10_153 a f cs)) (u10_154 a f cs)) (u10_155 a f cs)) (u10_156 a f cs)) (u10_157 a f cs)) (u10_158 a f cs)) (u10_159 a f cs)) (u10_160 a f cs)) (u10_161 a f cs)) (u10_162 a f cs)) (u10_163 a f cs)) (u10_164 a f cs)) (u10_165 a f cs)) (u10_166 a f cs)) (u10_167 a f cs)) (u10_168 a f cs)) (u10_169 a f cs))
  intro k x hx
  unfold wsOf at hx
  rw [List.getElem?_map] at hx
  by_cases hk : k < 170
  · rw [List.getElem?_range (show k < wn 0 from hk)] at hx
    have := Option.some.inj hx
    rw [← this]
    exact allB_at all k hk
  · rw [List.getElem?_eq_none (by rw [List.length_range]; exact Nat.le_of_not_lt hk)] at hx
    cases hx
