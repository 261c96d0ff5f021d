theorem ok_sg0 : okM sg0 := by
  intro i k
  have h : sg0 i k = 5 ∨ sg0 i k = 53 ∨ sg0 i k = -1 ∨ sg0 i k = 0 := by
    unfold sg0
    by_cases a : (i = 3 ∨ i = 134) ∧ k < 10
    · rw [if_pos a]; exact Or.inl rfl
    · rw [if_neg a]
      by_cases b : (i = 3 ∨ i = 134) ∧ k = 42
      · rw [if_pos b]; exact Or.inr (Or.inl rfl)
      · rw [if_neg b]
        by_cases c : (i = 0 ∧ k = 9) ∨ (i = 133 ∧ k = 8) ∨ (i = 2 ∧ k = 6) ∨ (i = 90 ∧ k = 15)
        · rw [if_pos c]; exact Or.inr (Or.inr (Or.inl rfl))
        · rw [if_neg c]; exact Or.inr (Or.inr (Or.inr rfl))
  rcases h with h | h | h | h <;> (rw [h]; exact ⟨fun _ => ⟨by decide, by decide⟩, fun _ => ⟨by decide, by decide⟩⟩)
theorem ok_mg0 : okM mg0 := by
  intro i k
  have h : mg0 i k = 5 ∨ mg0 i k = 53 ∨ mg0 i k = -1 ∨ mg0 i k = 0 := by
    unfold mg0
    by_cases a : i = 200 ∧ (k = 4 ∨ k = 5)
    · rw [if_pos a]; exact Or.inr (Or.inr (Or.inl rfl))
    · rw [if_neg a]
      by_cases b : (i = 201 ∨ i = 202) ∧ k = 2
      · rw [if_pos b]; exact Or.inr (Or.inr (Or.inl rfl))
      · rw [if_neg b]
        by_cases c : (i = 201 ∨ i = 202) ∧ 140 ≤ k ∧ k < 150
        · rw [if_pos c]; exact Or.inl rfl
        · rw [if_neg c]
          by_cases d : (i = 201 ∨ i = 202) ∧ k = 182
          · rw [if_pos d]; exact Or.inr (Or.inl rfl)
          · rw [if_neg d]; exact Or.inr (Or.inr (Or.inr rfl))
  rcases h with h | h | h | h <;> (rw [h]; exact ⟨fun _ => ⟨by decide, by decide⟩, fun _ => ⟨by decide, by decide⟩⟩)
theorem apart_of {cs : Nat → ClassId} {ad ad2 : Nat → Nat} {σ μ : Mm} {A : Nat → Prop} (h : va_D A (wsOf cs ad σ 0 ++ wsOf cs ad2 μ 1)) : apartL A ad ad2 := by
  have w0 : wlo 0 = 0 := rfl
  have w1 : wlo 1 = 200 := rfl
  have n0 : wn 0 = 170 := rfl
  have n1 : wn 1 = 43 := rfl
  have l0 : ∀ i, inW 0 i → (wsOf cs ad σ 0 ++ wsOf cs ad2 μ 1)[i]? = some (ad i, cellOf cs ad σ i) := fun i hi => by
    have e := ws_at (cs := cs) (ad := ad) (σ := σ) hi
    have hi2 : i - wlo 0 = i := by omega
    rw [hi2] at e
    rw [List.getElem?_append_left (List.getElem?_eq_some_iff.mp e).1]
    exact e
  have l1 : ∀ i, inW 1 i → (wsOf cs ad σ 0 ++ wsOf cs ad2 μ 1)[170 + (i - 200)]? = some (ad2 i, cellOf cs ad2 μ i) := fun i hi => by
    have e := ws_at (cs := cs) (ad := ad2) (σ := μ) hi
    have hl : (wsOf cs ad σ 0).length = 170 := ws_len
    rw [List.getElem?_append_right (by omega), hl]
    have hi2 : 170 + (i - 200) - 170 = i - wlo 1 := by omega
    rw [hi2]
    exact e
  refine ⟨fun i j hi hj e => h.1 i j _ _ (l0 i hi) (l0 j hj) e, fun i j hi hj e => ?_, fun i j hi hj e => ?_, fun i hi => h.2 _ _ (l0 i hi), fun i hi => h.2 _ _ (l1 i hi)⟩
  · have q := h.1 _ _ _ _ (l1 i hi) (l1 j hj) e
    have a := hi.1
    have a2 := hj.1
    omega
  · have q := h.1 _ _ _ _ (l0 i hi) (l1 j hj) e
    have a := hi.2
    have a2 := hj.1
    omega
set_option maxRecDepth 100000 in
/-- THE LAW, from its entry -/
theorem whole_start {p : Program} {e : Env} {s : State} {m : MethodId} {below : List Frame} {meth : Method} {c : Code} (l : Launch) (hflags : l.flags = flags0) {b L : Nat} {xs : Nat → Int32} (hL : L ≤ 3072) (C0 : lw_At p s m meth c b L xs) : W p l e room_1 s m #[Value.ref b] below meth c s.heap [] 0 0 (lw_Z below #[Value.ref b] s) (entryFrame m ([Value.ref b] : List Value).toArray 4) := by
  obtain ⟨hx, hb, hr, hml, hown, hts, hX, hbl, hlocks, hgv⟩ := id C0
  have htg : ∀ w ∈ lw_g, w.before #[Value.ref b] s = true := fun w hw => hts w (List.mem_filter.mp hw).1
  obtain ⟨D, cs, sK, sV, hK, hSx, hNx⟩ := l_world C0
  have hA : ∀ q : Nat, s.heap.size ≤ q → (fun q : Nat => s.heap.size ≤ q) q := fun _ h => h
  have hl := lv_entry ([.ref b]) (n := 4) (Nat.le_of_ble_eq_true rfl)
  rw [lg_entry_eq]
  generalize (lg_sl ([.ref b]) ++ List.replicate (4 - (lg_sl ([.ref b])).length) Slot.unset).toArray = ls at hl ⊢
  have hl : lv_has ls 4 [(0, .ref b)] := hl
  have hP0 : va_P D vwCl [] s.heap := fun k q h => by simp at h
  have hD0 : va_D (fun q : Nat => s.heap.size ≤ q) [] := ⟨fun i j p q h => by simp at h, fun k q h => by simp at h⟩
  have hS0 : va_S (fun q : Nat => s.heap.size ≤ q) s.heap s.heap [] := va_S.rf
  refine va_new (D := D) (fs := [.null, .null, .null, .null, .null, .null, .null, .null, .int 0, .int 0]) hx hb htg cf10.2.1 tyX10 cf10.2.2.1 hown (htg _ gL_7) (htg _ (lw_k1 23 rfl rfl)) (htg _ mi10.1) hK.1 hP0 hD0 hS0 hA cf10.1 ft10 (Nat.le_of_ble_eq_true rfl) (Nat.le_of_ble_eq_true rfl) (dt t_lh 0 rfl) (fun a H1 hP1 hD1 hS1 => ?_)
  refine W.widen (k := 1) (n := 10) (Nat.le_of_ble_eq_true rfl) (Nat.le_of_ble_eq_true rfl) ?_
  refine lv_dup hx hb (dt t_lh 1 rfl) rfl ?_
  have hC1 := isC_ok (w0 := []) (wE := []) (a := a) (b := .inr (10, [.null, .null, .null, .null, .null, .null, .null, .null, .int 0, .int 0])) (isE := []) rfl
  have hF1 := va_free hD1 hS1 hA _ hC1
  refine W_doneI (va_runI (As := []) (rest := [.ref a]) ⟨hx, hb, hml, hown, htg⟩ (nn_10 a l D cs sK sV H1.size) (cwI 0 htg (goodIn_g (fun _ q => q) (fun w hw => ?_)) rfl rfl rfl (htg _ mi10.1) (htg _ kL_9) (htg _ mi10.2.1) mi10.2.2.2.1 mi10.2.2.2.2 ⟨Nat.le_of_ble_eq_true rfl, Nat.le_of_ble_eq_true rfl⟩) ⟨blindI, fun U hU hW => preI hK hSx hNx hP1 hD1 hS1 _ hC1 (by simp [va_nd]) hA hU hW⟩ rfl rfl hl.1 rfl (Nat.le_of_ble_eq_true rfl) (dt t_lh 2 rfl) ⟨Nat.le_of_ble_eq_true rfl, Nat.le_of_ble_eq_true rfl⟩) hS1 hF1 (fun f H2 locs2 hP2 hD2 hk2 hS2 => ?_)
  · rcases List.mem_cons.mp hw with q | q
    · rw [q]; exact mi10.2.2.1
    · exact q
  have hP2 : va_P D vwCl (wsOf cs (ad10 a f) sg0 0) H2 := hP2
  have hD2 : va_D (fun q : Nat => s.heap.size ≤ q) (wsOf cs (ad10 a f) sg0 0) := va_D.weaken hD2 (fun _ q _ h => hF1 q.1 h)
  refine lv_astore_n (lv' := [(1, .ref a), (0, .ref b)]) hx hb (dt t_lh 3 rfl) rfl hl (by decide) rfl (fun ls hl => ?_)
  refine va_new (D := D) (fs := [.null, .null, .null, .int 0, .int 0, .int 0, .null, .null, .null, .null, .null, .null, .null, .null, .int 0, .int 0, .int 0, .int 0, .int 0, .int 0, .int 0, .int 0, .int 0, .null, .null, .int 0, .null, .null, .int 0, .int 0, .int 0, .null, .null, .null, .null, .null, .int 0, .null, .null, .null, .null, .null, .null, .null, .null, .int 0, .int 0, .null, .int 0, .int 0, .null, .null, .null, .int 0, .null, .null, .null, .null, .null, .null, .null, .null, .int 0, .null, .null]) hx hb htg cf11.2.1 tyX11 cf11.2.2.1 hown (htg _ gL_10) (htg _ (lw_k5 136 rfl rfl)) (htg _ mi11.1) hK.1 hP2 hD2 hS2 hA cf11.1 ft11 (Nat.le_of_ble_eq_true rfl) (Nat.le_of_ble_eq_true rfl) (dt t_lh 4 rfl) (fun a2 H3 hP3 hD3 hS3 => ?_)
  refine W.widen (k := 171) (n := 20473) (Nat.le_of_ble_eq_true rfl) (Nat.le_of_ble_eq_true rfl) ?_
  refine lv_dup hx hb (dt t_lh 5 rfl) rfl ?_
  have hC3 := isC_ok (w0 := wsOf cs (ad10 a f) sg0 0) (wE := []) (a := a2) (b := .inr (11, [.null, .null, .null, .int 0, .int 0, .int 0, .null, .null, .null, .null, .null, .null, .null, .null, .int 0, .int 0, .int 0, .int 0, .int 0, .int 0, .int 0, .int 0, .int 0, .null, .null, .int 0, .null, .null, .int 0, .int 0, .int 0, .null, .null, .null, .null, .null, .int 0, .null, .null, .null, .null, .null, .null, .null, .null, .int 0, .int 0, .null, .int 0, .int 0, .null, .null, .null, .int 0, .null, .null, .null, .null, .null, .null, .null, .null, .int 0, .null, .null])) (isE := []) rfl
  have hF3 := va_free hD3 hS3 hA _ hC3
  refine W_doneI (va_runI (As := []) (rest := [.ref a2]) ⟨hx, hb, hml, hown, htg⟩ (nn_11 a2 l D cs sK sV H3.size) (cwI 0 htg (goodIn_g (fun _ q => q) (fun w hw => ?_)) rfl rfl rfl (htg _ mi11.1) (htg _ kL_12) (htg _ mi11.2.1) mi11.2.2.2.1 mi11.2.2.2.2 ⟨Nat.le_of_ble_eq_true rfl, Nat.le_of_ble_eq_true rfl⟩) ⟨blindI, fun U hU hW => preI hK hSx hNx hP3 hD3 hS3 _ hC3 (by simp [va_nd]) hA hU hW⟩ rfl rfl hl.1 rfl (Nat.le_of_ble_eq_true rfl) (dt t_lh 6 rfl) ⟨Nat.le_of_ble_eq_true rfl, Nat.le_of_ble_eq_true rfl⟩) hS3 hF3 (fun g H4 locs4 hP4 hD4 hk4 hS4 => ?_)
  · rcases List.mem_cons.mp hw with q | q
    · rw [q]; exact mi11.2.2.1
    · exact q
  obtain ⟨j1, j2⟩ := joinI (wE := []) (sub := wsOf cs (ad11 a2 g) mg0 1) hP3 hD3 [] rfl hF3 hP4 hD4 hk4
  have j1 : va_P D vwCl (wsOf cs (ad10 a f) sg0 0 ++ wsOf cs (ad11 a2 g) mg0 1) H4 := j1
  have j2 : va_D (fun q : Nat => s.heap.size ≤ q) (wsOf cs (ad10 a f) sg0 0 ++ wsOf cs (ad11 a2 g) mg0 1) := j2
  have p1 : va_P D vwCl (wsOf cs (ad10 a f) sg0 0) H4 := fun k x hx => j1 k x (by rw [List.getElem?_append_left (List.getElem?_eq_some_iff.mp hx).1]; exact hx)
  have p2 : va_P D vwCl (wsOf cs (ad11 a2 g) mg0 1) H4 := fun k x hx => j1 ((wsOf cs (ad10 a f) sg0 0).length + k) x (by rw [List.getElem?_append_right (Nat.le_add_right _ _), Nat.add_sub_cancel_left]; exact hx)
  refine lv_astore_n (lv' := [(2, .ref a2), (1, .ref a), (0, .ref b)]) hx hb (dt t_lh 7 rfl) rfl hl (by decide) rfl (fun ls hl => ?_)
  refine lv_iconst (v := 0) hx hb (dt t_lh 8 rfl) rfl ?_
  refine lv_istore_n (lv' := [(3, .int 0), (2, .ref a2), (1, .ref a), (0, .ref b)]) hx hb (dt t_lh 9 rfl) rfl hl (by decide) rfl (fun ls hl => ?_)
  refine W.widen (k := 600000) (n := 7302250) (Nat.le_of_ble_eq_true rfl) (Nat.le_of_ble_eq_true rfl) ?_
  have hLC : LC (p, l, e, room_1, s, m, #[Value.ref b], below, meth, c, lw_Z below #[Value.ref b] s, (fun q : Nat => s.heap.size ≤ q), D, cs, ad10 a f, sK, sV) (ad11 a2 g) b L xs := ⟨hx, hb, hml, hown, htg, hK, hSx, rfl, rfl, hlocks, hr, apart_of j2, hX, hbl, rfl, rfl⟩
  have r0 : Rc 0 sg0 mg0 := rel0
  refine l_loop hLC hL 513 0 rfl sg0 mg0 ⟨Nat.zero_le _, r0⟩ H4 locs4 ls p1 p2 hS4 ⟨hl.1, hl.2.1, fun i v h => ?_⟩ ok_sg0 ok_mg0
  match i, h with
  | 0, h => cases h; exact hl.2.2 (0, .ref b) (by simp)
  | 1, h => cases h; exact hl.2.2 (1, .ref a) (by simp)
  | 2, h => cases h; exact hl.2.2 (2, .ref a2) (by simp)
  | 3, h => cases h; exact hl.2.2 (3, .int 0) (by simp)
  | i + 4, h => simp at h
