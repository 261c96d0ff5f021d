def adL11 (a : Nat) (f : Nat → Nat) : List Nat := [a, f 0, f 1, f 2, f 3, f 4, f 5, f 6, f 7, f 8, f 9, f 10, f 11, f 12, f 13, f 14, f 15, f 16, f 17, f 18, f 19, f 20, f 21, f 22, f 23, f 24, f 25, f 26, f 27, f 28, f 29, f 30, f 31, f 32, f 33, f 34, f 35, f 36, f 37, f 38, f 39, f 40, f 41]
def ad11 (a : Nat) (f : Nat → Nat) : Nat → Nat := fun i => (adL11 a f).getD (i - 200) 0
def is11 : List Nat := [0, 1, 2, 3, 4, 5, 6, 7, 8, 9, 10, 11, 12, 13, 14, 15, 16, 17, 18, 19, 20, 21, 22, 23, 24, 25, 26, 27, 28, 29, 30, 31, 32, 33, 34, 35, 36, 37, 38, 39, 40, 41, 42]
theorem eq_h201 : ∀ j, j < 200 → (upd (upd (upd (upd (upd (upd (upd (upd (upd (upd (upd (upd (fun _ => 0) (i32 2).toNatClampNeg (i32 (-1))) (i32 182).toNatClampNeg (i32 (53))) (i32 140).toNatClampNeg (i32 (5))) (i32 141).toNatClampNeg (i32 (5))) (i32 142).toNatClampNeg (i32 (5))) (i32 143).toNatClampNeg (i32 (5))) (i32 144).toNatClampNeg (i32 (5))) (i32 145).toNatClampNeg (i32 (5))) (i32 146).toNatClampNeg (i32 (5))) (i32 147).toNatClampNeg (i32 (5))) (i32 148).toNatClampNeg (i32 (5))) (i32 149).toNatClampNeg (i32 (5))) j = i32 (mg1 201 j) := by decide +kernel
theorem upd_far {f : Nat → Int32} {k j : Nat} {x : Int32} (h : k < 200) (hj : 200 ≤ j) : upd f k x j = f j := by
  unfold upd
  rw [if_neg (by omega)]
theorem mg1_far {j : Nat} (hj : 200 ≤ j) : mg1 201 j = 0 := by
  unfold mg1
  rw [if_neg (by omega), if_neg (by omega), if_neg (by omega), if_neg (by omega)]
theorem eq_k201 : ∀ j, j < 5240 → (upd (upd (upd (upd (upd (upd (upd (upd (upd (upd (upd (upd (fun _ => 0) (i32 2).toNatClampNeg (i32 (-1))) (i32 182).toNatClampNeg (i32 (53))) (i32 140).toNatClampNeg (i32 (5))) (i32 141).toNatClampNeg (i32 (5))) (i32 142).toNatClampNeg (i32 (5))) (i32 143).toNatClampNeg (i32 (5))) (i32 144).toNatClampNeg (i32 (5))) (i32 145).toNatClampNeg (i32 (5))) (i32 146).toNatClampNeg (i32 (5))) (i32 147).toNatClampNeg (i32 (5))) (i32 148).toNatClampNeg (i32 (5))) (i32 149).toNatClampNeg (i32 (5))) j = i32 (mg1 201 j) := by
  intro j hj
  by_cases h : j < 200
  · exact eq_h201 j h
  · have h : 200 ≤ j := Nat.le_of_not_lt h
    rw [mg1_far h, upd_far (by decide) h, upd_far (by decide) h, upd_far (by decide) h, upd_far (by decide) h, upd_far (by decide) h, upd_far (by decide) h, upd_far (by decide) h, upd_far (by decide) h, upd_far (by decide) h, upd_far (by decide) h, upd_far (by decide) h, upd_far (by decide) h]
    rfl
theorem eq_c201 {cs : Nat → ClassId} {ad : Nat → Nat} : eqE (.inl (cs 0, 5240, .inl (upd (upd (upd (upd (upd (upd (upd (upd (upd (upd (upd (upd (fun _ => 0) (i32 2).toNatClampNeg (i32 (-1))) (i32 182).toNatClampNeg (i32 (53))) (i32 140).toNatClampNeg (i32 (5))) (i32 141).toNatClampNeg (i32 (5))) (i32 142).toNatClampNeg (i32 (5))) (i32 143).toNatClampNeg (i32 (5))) (i32 144).toNatClampNeg (i32 (5))) (i32 145).toNatClampNeg (i32 (5))) (i32 146).toNatClampNeg (i32 (5))) (i32 147).toNatClampNeg (i32 (5))) (i32 148).toNatClampNeg (i32 (5))) (i32 149).toNatClampNeg (i32 (5))))) (cellOf cs ad mg1 201) := Or.inr ⟨_, _, _, rfl, cell_int (by decide), (show arrV _ _ (fun j => Value.int ((upd (upd (upd (upd (upd (upd (upd (upd (upd (upd (upd (upd (fun _ => 0) (i32 2).toNatClampNeg (i32 (-1))) (i32 182).toNatClampNeg (i32 (53))) (i32 140).toNatClampNeg (i32 (5))) (i32 141).toNatClampNeg (i32 (5))) (i32 142).toNatClampNeg (i32 (5))) (i32 143).toNatClampNeg (i32 (5))) (i32 144).toNatClampNeg (i32 (5))) (i32 145).toNatClampNeg (i32 (5))) (i32 146).toNatClampNeg (i32 (5))) (i32 147).toNatClampNeg (i32 (5))) (i32 148).toNatClampNeg (i32 (5))) (i32 149).toNatClampNeg (i32 (5))) j)) = arrV _ _ (fun j => Value.int (i32 (mg1 201 j))) from arrV_cg (fun j hj => congrArg Value.int (eq_k201 j hj)))⟩
def TT11 (a : Nat) (f : Nat → Nat) (cs : Nat → ClassId) (k : Nat) : Prop := ∃ (i : Nat) (e : va_E), is11[k]? = some i ∧ (sub11 a cs f)[i]? = some (ad11 a f (200 + k), e) ∧ eqE e (cellOf cs (ad11 a f) mg1 (200 + k))
theorem u11_0 (a : Nat) (f : Nat → Nat) (cs : Nat → ClassId) : TT11 a f cs 0 := ⟨_, _, rfl, rfl, Or.inl rfl⟩
theorem u11_1 (a : Nat) (f : Nat → Nat) (cs : Nat → ClassId) : TT11 a f cs 1 := ⟨_, _, rfl, rfl, eq_c201⟩
theorem u11_2 (a : Nat) (f : Nat → Nat) (cs : Nat → ClassId) : TT11 a f cs 2 := ⟨_, _, rfl, rfl, eq_z rfl (by decide) rfl (fun j => mg1_row (by decide) j)⟩
theorem u11_3 (a : Nat) (f : Nat → Nat) (cs : Nat → ClassId) : TT11 a f cs 3 := ⟨_, _, rfl, rfl, eq_z rfl (by decide) rfl (fun j => mg1_row (by decide) j)⟩
theorem u11_4 (a : Nat) (f : Nat → Nat) (cs : Nat → ClassId) : TT11 a f cs 4 := ⟨_, _, rfl, rfl, eq_z rfl (by decide) rfl (fun j => mg1_row (by decide) j)⟩
theorem u11_5 (a : Nat) (f : Nat → Nat) (cs : Nat → ClassId) : TT11 a f cs 5 := ⟨_, _, rfl, rfl, eq_z rfl (by decide) rfl (fun j => mg1_row (by decide) j)⟩
theorem u11_6 (a : Nat) (f : Nat → Nat) (cs : Nat → ClassId) : TT11 a f cs 6 := ⟨_, _, rfl, rfl, eq_z rfl (by decide) rfl (fun j => mg1_row (by decide) j)⟩
theorem u11_7 (a : Nat) (f : Nat → Nat) (cs : Nat → ClassId) : TT11 a f cs 7 := ⟨_, _, rfl, rfl, eq_z rfl (by decide) rfl (fun j => mg1_row (by decide) j)⟩
theorem u11_8 (a : Nat) (f : Nat → Nat) (cs : Nat → ClassId) : TT11 a f cs 8 := ⟨_, _, rfl, rfl, eq_z rfl (by decide) rfl (fun j => mg1_row (by decide) j)⟩
theorem u11_9 (a : Nat) (f : Nat → Nat) (cs : Nat → ClassId) : TT11 a f cs 9 := ⟨_, _, rfl, rfl, eq_z rfl (by decide) rfl (fun j => mg1_row (by decide) j)⟩
theorem u11_10 (a : Nat) (f : Nat → Nat) (cs : Nat → ClassId) : TT11 a f cs 10 := ⟨_, _, rfl, rfl, eq_z rfl (by decide) rfl (fun j => mg1_row (by decide) j)⟩
theorem u11_11 (a : Nat) (f : Nat → Nat) (cs : Nat → ClassId) : TT11 a f cs 11 := ⟨_, _, rfl, rfl, eq_z rfl (by decide) rfl (fun j => mg1_row (by decide) j)⟩
theorem u11_12 (a : Nat) (f : Nat → Nat) (cs : Nat → ClassId) : TT11 a f cs 12 := ⟨_, _, rfl, rfl, eq_z rfl (by decide) rfl (fun j => mg1_row (by decide) j)⟩
theorem u11_13 (a : Nat) (f : Nat → Nat) (cs : Nat → ClassId) : TT11 a f cs 13 := ⟨_, _, rfl, rfl, eq_z rfl (by decide) rfl (fun j => mg1_row (by decide) j)⟩
theorem u11_14 (a : Nat) (f : Nat → Nat) (cs : Nat → ClassId) : TT11 a f cs 14 := ⟨_, _, rfl, rfl, eq_z rfl (by decide) rfl (fun j => mg1_row (by decide) j)⟩
theorem u11_15 (a : Nat) (f : Nat → Nat) (cs : Nat → ClassId) : TT11 a f cs 15 := ⟨_, _, rfl, rfl, eq_z rfl (by decide) rfl (fun j => mg1_row (by decide) j)⟩
theorem u11_16 (a : Nat) (f : Nat → Nat) (cs : Nat → ClassId) : TT11 a f cs 16 := ⟨_, _, rfl, rfl, eq_z rfl (by decide) rfl (fun j => mg1_row (by decide) j)⟩
theorem u11_17 (a : Nat) (f : Nat → Nat) (cs : Nat → ClassId) : TT11 a f cs 17 := ⟨_, _, rfl, rfl, eq_z rfl (by decide) rfl (fun j => mg1_row (by decide) j)⟩
theorem u11_18 (a : Nat) (f : Nat → Nat) (cs : Nat → ClassId) : TT11 a f cs 18 := ⟨_, _, rfl, rfl, eq_z rfl (by decide) rfl (fun j => mg1_row (by decide) j)⟩
theorem u11_19 (a : Nat) (f : Nat → Nat) (cs : Nat → ClassId) : TT11 a f cs 19 := ⟨_, _, rfl, rfl, eq_z rfl (by decide) rfl (fun j => mg1_row (by decide) j)⟩
theorem u11_20 (a : Nat) (f : Nat → Nat) (cs : Nat → ClassId) : TT11 a f cs 20 := ⟨_, _, rfl, rfl, eq_z rfl (by decide) rfl (fun j => mg1_row (by decide) j)⟩
theorem u11_21 (a : Nat) (f : Nat → Nat) (cs : Nat → ClassId) : TT11 a f cs 21 := ⟨_, _, rfl, rfl, eq_z rfl (by decide) rfl (fun j => mg1_row (by decide) j)⟩
theorem u11_22 (a : Nat) (f : Nat → Nat) (cs : Nat → ClassId) : TT11 a f cs 22 := ⟨_, _, rfl, rfl, eq_z rfl (by decide) rfl (fun j => mg1_row (by decide) j)⟩
theorem u11_23 (a : Nat) (f : Nat → Nat) (cs : Nat → ClassId) : TT11 a f cs 23 := ⟨_, _, rfl, rfl, eq_z rfl (by decide) rfl (fun j => mg1_row (by decide) j)⟩
theorem u11_24 (a : Nat) (f : Nat → Nat) (cs : Nat → ClassId) : TT11 a f cs 24 := ⟨_, _, rfl, rfl, eq_zl rfl rfl (fun j => mg1_row (by decide) j)⟩
theorem u11_25 (a : Nat) (f : Nat → Nat) (cs : Nat → ClassId) : TT11 a f cs 25 := ⟨_, _, rfl, rfl, eq_z rfl (by decide) rfl (fun j => mg1_row (by decide) j)⟩
theorem u11_26 (a : Nat) (f : Nat → Nat) (cs : Nat → ClassId) : TT11 a f cs 26 := ⟨_, _, rfl, rfl, eq_z rfl (by decide) rfl (fun j => mg1_row (by decide) j)⟩
theorem u11_27 (a : Nat) (f : Nat → Nat) (cs : Nat → ClassId) : TT11 a f cs 27 := ⟨_, _, rfl, rfl, eq_z rfl (by decide) rfl (fun j => mg1_row (by decide) j)⟩
theorem u11_28 (a : Nat) (f : Nat → Nat) (cs : Nat → ClassId) : TT11 a f cs 28 := ⟨_, _, rfl, rfl, eq_z rfl (by decide) rfl (fun j => mg1_row (by decide) j)⟩
theorem u11_29 (a : Nat) (f : Nat → Nat) (cs : Nat → ClassId) : TT11 a f cs 29 := ⟨_, _, rfl, rfl, eq_z rfl (by decide) rfl (fun j => mg1_row (by decide) j)⟩
theorem u11_30 (a : Nat) (f : Nat → Nat) (cs : Nat → ClassId) : TT11 a f cs 30 := ⟨_, _, rfl, rfl, eq_z rfl (by decide) rfl (fun j => mg1_row (by decide) j)⟩
theorem u11_31 (a : Nat) (f : Nat → Nat) (cs : Nat → ClassId) : TT11 a f cs 31 := ⟨_, _, rfl, rfl, eq_z rfl (by decide) rfl (fun j => mg1_row (by decide) j)⟩
theorem u11_32 (a : Nat) (f : Nat → Nat) (cs : Nat → ClassId) : TT11 a f cs 32 := ⟨_, _, rfl, rfl, eq_z rfl (by decide) rfl (fun j => mg1_row (by decide) j)⟩
theorem u11_33 (a : Nat) (f : Nat → Nat) (cs : Nat → ClassId) : TT11 a f cs 33 := ⟨_, _, rfl, rfl, eq_z rfl (by decide) rfl (fun j => mg1_row (by decide) j)⟩
theorem u11_34 (a : Nat) (f : Nat → Nat) (cs : Nat → ClassId) : TT11 a f cs 34 := ⟨_, _, rfl, rfl, eq_z rfl (by decide) rfl (fun j => mg1_row (by decide) j)⟩
theorem u11_35 (a : Nat) (f : Nat → Nat) (cs : Nat → ClassId) : TT11 a f cs 35 := ⟨_, _, rfl, rfl, eq_z rfl (by decide) rfl (fun j => mg1_row (by decide) j)⟩
theorem u11_36 (a : Nat) (f : Nat → Nat) (cs : Nat → ClassId) : TT11 a f cs 36 := ⟨_, _, rfl, rfl, eq_z rfl (by decide) rfl (fun j => mg1_row (by decide) j)⟩
theorem u11_37 (a : Nat) (f : Nat → Nat) (cs : Nat → ClassId) : TT11 a f cs 37 := ⟨_, _, rfl, rfl, eq_z rfl (by decide) rfl (fun j => mg1_row (by decide) j)⟩
theorem u11_38 (a : Nat) (f : Nat → Nat) (cs : Nat → ClassId) : TT11 a f cs 38 := ⟨_, _, rfl, rfl, eq_z rfl (by decide) rfl (fun j => mg1_row (by decide) j)⟩
theorem u11_39 (a : Nat) (f : Nat → Nat) (cs : Nat → ClassId) : TT11 a f cs 39 := ⟨_, _, rfl, rfl, eq_z rfl (by decide) rfl (fun j => mg1_row (by decide) j)⟩
theorem u11_40 (a : Nat) (f : Nat → Nat) (cs : Nat → ClassId) : TT11 a f cs 40 := ⟨_, _, rfl, rfl, eq_z rfl (by decide) rfl (fun j => mg1_row (by decide) j)⟩
theorem u11_41 (a : Nat) (f : Nat → Nat) (cs : Nat → ClassId) : TT11 a f cs 41 := ⟨_, _, rfl, rfl, eq_z rfl (by decide) rfl (fun j => mg1_row (by decide) j)⟩
theorem u11_42 (a : Nat) (f : Nat → Nat) (cs : Nat → ClassId) : TT11 a f cs 42 := ⟨_, _, rfl, rfl, eq_z rfl (by decide) rfl (fun j => mg1_row (by decide) j)⟩
set_option maxRecDepth 100000 in
theorem w11 (a : Nat) (f : Nat → Nat) (cs : Nat → ClassId) : ∀ (k : Nat) (x : Nat × va_E), (wsOf cs (ad11 a f) mg1 1)[k]? = some x → ∃ (i : Nat) (e : va_E), is11[k]? = some i ∧ (sub11 a cs f)[i]? = some (x.1, e) ∧ eqE e x.2 := by
  have all : allB (TT11 a f cs) 43 := (allB_s (allB_s (allB_s (allB_s (allB_s (allB_s (allB_s (allB_s (allB_s (allB_s (allB_s (allB_s (allB_s (allB_s (allB_s (allB_s (allB_s (allB_s (allB_s (allB_s (allB_s (allB_s (allB_s (allB_s (allB_s (allB_s (allB_s (allB_s (allB_s (allB_s (allB_s (allB_s (allB_s (allB_s (allB_s (allB_s (allB_s (allB_s (allB_s (allB_s (allB_s (allB_s (allB_s allB_0 (u11_0 a f cs)) (u11_1 a f cs)) (u11_2 a f cs)) (u11_3 a f cs)) (u11_4 a f cs)) (u11_5 a f cs)) (u11_6 a f cs)) (u11_7 a f cs)) (u11_8 a f cs)) (u11_9 a f cs)) (u11_10 a f cs)) (u11_11 a f cs)) (u11_12 a f cs)) (u11_13 a f cs)) (u11_14 a f cs)) (u11_15 a f cs)) (u11_16 a f cs)) (u11_17 a f cs)) (u11_18 a f cs)) (u11_19 a f cs)) (u11_20 a f cs)) (u11_21 a f cs)) (u11_22 a f cs)) (u11_23 a f cs)) (u11_24 a f cs)) (u11_25 a f cs)) (u11_26 a f cs)) (u11_27 a f cs)) (u11_28 a f cs)) (u11_29 a f cs)) (u11_30 a f cs)) (u11_31 a f cs)) (u11_32 a f cs)) (u11_33 a f cs)) (u11_34 a f cs)) (u11_35 a f cs)) (u11_36 a f cs)) (u11_37 a f cs)) (u11_38 a f cs)) (u11_39 a f cs)) (u11_40 a f cs)) (u11_41 a f cs)) (u11_42 a f cs))
  intro k x hx
  unfold wsOf at hx
  rw [List.getElem?_map] at hx
  by_cases hk : k < 43
  · rw [List.getElem?_range (show k < wn 1 from hk)] at hx
    have := Option.some.inj hx
    rw [← this]
    exact allB_at all k hk
  · rw [List.getElem?_eq_none (by rw [List.length_range]; exact Nat.le_of_not_lt hk)] at hx
    cases hx
