theorem range_map {α : Type} (l : List α) : (List.range l.length).map (fun i => l[i]?) = l.map some := by
  apply List.ext_getElem?
  intro k
  rw [List.getElem?_map, List.getElem?_map]
  by_cases hk : k < l.length
  · rw [List.getElem?_range hk]
    simp [hk]
  · rw [List.getElem?_eq_none (by rw [List.length_range]; omega), List.getElem?_eq_none (by omega)]
    rfl
theorem ws_len {cs : Nat → ClassId} {ad : Nat → Nat} {σ : Mm} {w : Nat} : (wsOf cs ad σ w).length = wn w := by
  unfold wsOf
  rw [List.length_map, List.length_range]
theorem ok_sg1 : okM sg1 := by
  intro i k
  have h : sg1 i k = 5 ∨ sg1 i k = 53 ∨ sg1 i k = -1 ∨ sg1 i k = 0 := by
    unfold sg1
    by_cases a : i = 3 ∧ k < 10
    · rw [if_pos a]; exact Or.inl rfl
    · rw [if_neg a]
      by_cases b : i = 3 ∧ k = 42
      · rw [if_pos b]; exact Or.inr (Or.inl rfl)
      · rw [if_neg b]
        by_cases c : (i = 0 ∧ k = 9) ∨ (i = 2 ∧ k = 6) ∨ (i = 90 ∧ k = 15)
        · rw [if_pos c]; exact Or.inr (Or.inr (Or.inl rfl))
        · rw [if_neg c]; exact Or.inr (Or.inr (Or.inr rfl))
  rcases h with h | h | h | h <;> (rw [h]; exact ⟨fun _ => ⟨by decide, by decide⟩, fun _ => ⟨by decide, by decide⟩⟩)
theorem ok_mg1 : okM mg1 := by
  intro i k
  have h : mg1 i k = 5 ∨ mg1 i k = 53 ∨ mg1 i k = -1 ∨ mg1 i k = 0 := by
    unfold mg1
    by_cases a : i = 200 ∧ (k = 4 ∨ k = 5)
    · rw [if_pos a]; exact Or.inr (Or.inr (Or.inl rfl))
    · rw [if_neg a]
      by_cases b : i = 201 ∧ k = 2
      · rw [if_pos b]; exact Or.inr (Or.inr (Or.inl rfl))
      · rw [if_neg b]
        by_cases c : i = 201 ∧ 140 ≤ k ∧ k < 150
        · rw [if_pos c]; exact Or.inl rfl
        · rw [if_neg c]
          by_cases d : i = 201 ∧ k = 182
          · rw [if_pos d]; exact Or.inr (Or.inl rfl)
          · rw [if_neg d]; exact Or.inr (Or.inr (Or.inr rfl))
  rcases h with h | h | h | h <;> (rw [h]; exact ⟨fun _ => ⟨by decide, by decide⟩, fun _ => ⟨by decide, by decide⟩⟩)
set_option maxRecDepth 100000 in
/-- the class's constructor: the first memory -/
theorem nn_10 (a : Nat) : CI yX10_init cX10_init 2 5 169 20398 [] a (fun _ => []) (.inr (10, [.null, .null, .null, .null, .null, .null, .null, .null, .int 0, .int 0])) (fun cs f => wsOf cs (ad10 a f) sg0 0) := by
  refine MetC 1 (by decide +kernel) rfl rfl (Nat.le_of_ble_eq_true rfl) ?_
  intro X h hR
  refine n_10 a h (by decide) rfl rfl (fun f => ?_)
  refine KW_to h is10 (by decide +kernel) (w10 a f (xcs X)) ?_
  refine KW_callV (w := 0) (As := []) (rest := []) h (ad10 a f) v_X10_image kX10_77 (i := 0) (by decide) rfl rfl (c_A_image sg_image) rfl rfl (by decide) (by decide) rfl (Nat.le_of_ble_eq_true rfl) ok_sg1 (Nat.le_refl _) (Nat.le_refl _) (dt t_n10 66 rfl) (fun _ => ?_)
  refine KW_pop h rfl (dt t_n10 67 rfl) ?_
  exact KW_vret h hR f (List.range (wn 0)) (by rw [← ws_len (cs := xcs X) (ad := ad10 a f) (σ := sg0)]; exact range_map _) (by decide +kernel) (Nat.le_refl _) (Nat.le_refl _) (dt t_n10 68 rfl)
set_option maxRecDepth 100000 in
/-- the reference's constructor: the first memory -/
theorem nn_11 (a : Nat) : CI yX11_init cX11_init 2 1 42 18780 [] a (fun _ => []) (.inr (11, [.null, .null, .null, .int 0, .int 0, .int 0, .null, .null, .null, .null, .null, .null, .null, .null, .int 0, .int 0, .int 0, .int 0, .int 0, .int 0, .int 0, .int 0, .int 0, .null, .null, .int 0, .null, .null, .int 0, .int 0, .int 0, .null, .null, .null, .null, .null, .int 0, .null, .null, .null, .null, .null, .null, .null, .null, .int 0, .int 0, .null, .int 0, .int 0, .null, .null, .null, .int 0, .null, .null, .null, .null, .null, .null, .null, .null, .int 0, .null, .null])) (fun cs f => wsOf cs (ad11 a f) mg0 1) := by
  refine MetC 1 (by decide +kernel) rfl rfl (Nat.le_of_ble_eq_true rfl) ?_
  intro X h hR
  refine n_11 a h (by decide) rfl rfl (fun f => ?_)
  refine KW_to h is11 (by decide +kernel) (w11 a f (xcs X)) ?_
  refine KW_callV (w := 1) (As := [.int (i32 1)]) (rest := []) h (ad11 a f) v_X11_copies kX11_146 (i := 200) (by decide) rfl rfl (c_M_copies 1 (by decide) mg_copies) rfl rfl (by decide) (by decide) rfl (Nat.le_of_ble_eq_true rfl) ok_mg1 (Nat.le_refl _) (Nat.le_refl _) (dt t_n11 202 rfl) (fun _ => ?_)
  exact KW_vret h hR f (List.range (wn 1)) (by rw [← ws_len (cs := xcs X) (ad := ad11 a f) (σ := mg0)]; exact range_map _) (by decide +kernel) (Nat.le_refl _) (Nat.le_refl _) (dt t_n11 203 rfl)
