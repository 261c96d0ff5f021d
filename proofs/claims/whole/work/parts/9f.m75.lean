-- `mostAlike` on both sides
theorem offL_1485 {G O : Law} {E : Nat → Int} {L : DL} (h : L.length ≤ 16) : -1485 ≤ offL (tw G O E) L ∧ offL (tw G O E) L ≤ 1485 := by
  match L, h with
  | [], _ => simp [offL]
  | (d, k) :: t, h =>
    have := sumL_bd (G := G) (O := O) (E := E) t d
    simp only [offL, List.length_cons] at h ⊢
    omega
/-- the cases that fit, in their order -/
def fl (φ : Nat → Int) : Nat → List Nat
  | 0 => []
  | c + 1 => if φ c = 0 then fl φ c else fl φ c ++ [c]
theorem fl_len {φ : Nat → Int} : ∀ c, (fl φ c).length = cntF φ c
  | 0 => rfl
  | c + 1 => by
    unfold fl cntF
    by_cases h : φ c = 0
    · rw [if_pos h, if_pos h, fl_len c]; rfl
    · rw [if_neg h, if_neg h, List.length_append, fl_len c]; rfl
theorem fl_lt {φ : Nat → Int} : ∀ {c d : Nat}, d ∈ fl φ c → d < c
  | 0, d, h => by simp [fl] at h
  | c + 1, d, h => by
    unfold fl at h
    by_cases hz : φ c = 0
    · rw [if_pos hz] at h; have := fl_lt h; omega
    · rw [if_neg hz] at h
      rcases List.mem_append.mp h with q | q
      · have := fl_lt q; omega
      · have := List.mem_singleton.mp q; omega
def Kc (φ a : Nat → Int) (c : Nat) (v : Int) : Nat := (fl φ c).countP (fun d => decide (a d = v))
theorem Kc_s {φ a : Nat → Int} {c : Nat} {v : Int} : Kc φ a (c + 1) v = Kc φ a c v + (if φ c = 0 then 0 else if a c = v then 1 else 0) := by
  unfold Kc
  rw [fl]
  by_cases h : φ c = 0
  · rw [if_pos h, if_pos h]; rfl
  · rw [if_neg h, if_neg h, List.countP_append]
    by_cases e : a c = v
    · rw [if_pos e]; simp [e]
    · rw [if_neg e]; simp [e]
theorem Kc_le {φ a : Nat → Int} {c : Nat} {v : Int} : Kc φ a c v ≤ c := by
  unfold Kc
  have h1 := List.countP_le_length (p := fun d => decide (a d = v)) (l := fl φ c)
  rw [fl_len] at h1
  have := cntF_le (f := φ) c
  omega
def mM (φ a : Nat → Int) : Nat → Nat
  | 0 => 0
  | c + 1 => if φ c = 0 then mM φ a c else max (mM φ a c) (Kc φ a (c + 1) (a c))
theorem mM_spec {φ a : Nat → Int} : ∀ c, (∀ v, Kc φ a c v ≤ mM φ a c) ∧ (mM φ a c = 0 ∨ ∃ v, Kc φ a c v = mM φ a c)
  | 0 => ⟨fun v => Nat.le_refl _, Or.inl rfl⟩
  | c + 1 => by
    obtain ⟨h1, h2⟩ := mM_spec (φ := φ) (a := a) c
    unfold mM
    by_cases hz : φ c = 0
    · have e : ∀ v, Kc φ a (c + 1) v = Kc φ a c v := fun v => by rw [Kc_s, if_pos hz]; rfl
      rw [if_pos hz]
      refine ⟨fun v => by rw [e]; exact h1 v, ?_⟩
      rcases h2 with q | ⟨v, q⟩
      · exact Or.inl q
      · exact Or.inr ⟨v, by rw [e]; exact q⟩
    · have e : ∀ v, Kc φ a (c + 1) v = Kc φ a c v + (if a c = v then 1 else 0) := fun v => by rw [Kc_s, if_neg hz]
      rw [if_neg hz]
      refine ⟨fun v => ?_, ?_⟩
      · by_cases ev : a c = v
        · subst ev; exact Nat.le_max_right _ _
        · rw [e, if_neg ev]
          exact Nat.le_trans (h1 v) (Nat.le_max_left _ _)
      · by_cases hm : mM φ a c ≤ Kc φ a (c + 1) (a c)
        · exact Or.inr ⟨a c, (Nat.max_eq_right hm).symm⟩
        · rw [Nat.max_eq_left (by omega)]
          rcases h2 with q | ⟨v, q⟩
          · exact Or.inl q
          · refine Or.inr ⟨v, ?_⟩
            by_cases ev : a c = v
            · subst ev
              rw [e, if_pos rfl] at hm
              omega
            · rw [e, if_neg ev]; exact q
theorem mM_eq {φ a : Nat → Int} {N x : Nat} (h1 : ∀ v, Kc φ a N v ≤ x) (h2 : x = 0 ∨ ∃ v, Kc φ a N v = x) : x = mM φ a N := by
  obtain ⟨k1, k2⟩ := mM_spec (φ := φ) (a := a) N
  apply Nat.le_antisymm
  · rcases h2 with q | ⟨v, q⟩
    · omega
    · rw [← q]; exact k1 v
  · rcases k2 with q | ⟨v, q⟩
    · omega
    · rw [← q]; exact h1 v
theorem mM_le {φ a : Nat → Int} {N : Nat} : mM φ a N ≤ N := by
  rcases (mM_spec (φ := φ) (a := a) N).2 with q | ⟨v, q⟩
  · omega
  · rw [← q]; exact Kc_le
theorem mostAlike_C {φ a : Nat → Int} {N : Nat} {s : Mm} (hN : N ≤ 1000) (h9 : s 121 9 = (N : Int)) (h125 : ∀ c, c < N → s 125 c = φ c) (h126 : ∀ c, c < N → s 126 c = a c ∧ -1485 ≤ a c ∧ a c ≤ 1485) : ∃ t, F_G_mostAlike s = some (((mM φ a N : Nat) : Int), t) ∧ Fr [128] s t := by
  obtain ⟨s1, E1, z1, f1⟩ := fill_ok (r0 := 128) (v := 0) (s := s) (by decide)
  have L128 : Ln 128 = 2971 := rfl
  rw [L128] at z1
  obtain ⟨q, E2, h1, h2, h3⟩ := loop_inv2 (L := fun n j (q : Int × Mm) => L_G_mostAlike_12 n q.1 j q.2) (I := fun i q => Fr [128] s q.2 ∧ q.1 = ((mM φ a i : Nat) : Int) ∧ ∀ v : Nat, v < 2971 → q.2 128 v = ((Kc φ a i ((v : Int) - 1485) : Nat) : Int)) (x := N) (out := fun q => q)
    (fun n q hq => by
      show L_G_mostAlike_12 (n + 1) q.1 (N : Int) q.2 = _
      rw [L_G_mostAlike_12, hq.1 121 (by decide), h9, if_pos (Int.le_refl _)]) (m := N) (i := 0) (N := LF) (s := ((0 : Int), s1)) (by omega) (by unfold LF; omega) ⟨f1, rfl, fun v hv => by
      show s1 128 v = _
      rw [z1 v hv]; rfl⟩ (fun n c q _ hc hq => by
      obtain ⟨g1, g2, g3⟩ := hq
      have e2 : (c : Int) + 1 = ((c + 1 : Nat) : Int) := by omega
      have ec : ((c : Int)).toNat = c := by omega
      have c1000 : 0 ≤ (c : Int) ∧ (c : Int) < 1000 := by omega
      obtain ⟨b1, b2, b3⟩ := h126 c hc
      have next : r32 ((c + 1 : Nat) : Int) := r32_nat (by omega)
      have z126 : q.2 126 ((c : Int)).toNat = a c := by rw [ec, g1 126 (by decide)]; exact b1
      have z125 : q.2 125 ((c : Int)).toNat = φ c := by rw [ec, g1 125 (by decide)]; exact h125 c hc
      obtain ⟨w, hw⟩ := Int.eq_ofNat_of_zero_le (show 0 ≤ a c + 1485 by omega)
      have ew : ((w : Int)).toNat = w := by omega
      have ea : (w : Int) - 1485 = a c := by omega
      show ∃ q' : Int × Mm, L_G_mostAlike_12 (n + 1) q.1 (c : Int) q.2 = L_G_mostAlike_12 n q'.1 ((c + 1 : Nat) : Int) q'.2 ∧ _
      rw [L_G_mostAlike_12, g1 121 (by decide), h9, if_neg (by omega), if_pos c1000, z126, z125, hw, bindM_eq, if_pos c1000, bindM_eq, e2]
      by_cases hz : φ c = 0
      · rw [if_pos hz]
        dsimp only
        rw [if_pos next]
        refine ⟨q, rfl, g1, ?_, fun v hv => ?_⟩
        · rw [g2, mM, if_pos hz]
        · rw [g3 v hv, Kc_s, if_pos hz]; rfl
      · have w2 : 0 ≤ (w : Int) ∧ (w : Int) < 2971 := by omega
        have k1 := Kc_le (φ := φ) (a := a) (c := c) (v := a c)
        have kv : q.2 128 w = ((Kc φ a c (a c) : Nat) : Int) := by rw [g3 w (by omega), ea]
        have ks : Kc φ a (c + 1) (a c) = Kc φ a c (a c) + 1 := by rw [Kc_s, if_neg hz, if_pos rfl]
        have ke : ((Kc φ a c (a c) : Nat) : Int) + 1 = ((Kc φ a (c + 1) (a c) : Nat) : Int) := by rw [ks]; rfl
        rw [if_neg hz, if_pos (r32_nat (show w < 2147483648 by omega)), if_neg (show ¬ (w : Int) < 0 by omega), if_neg (show ¬ ((2971 : Nat) : Int) ≤ (w : Int) by omega), if_pos w2, ew, kv, ke, if_pos (r32_nat (show Kc φ a (c + 1) (a c) < 2147483648 by omega)), if_pos w2, bindM_eq, if_pos w2, bindM_eq, st2_ss]
        dsimp only
        rw [if_pos next]
        refine ⟨(max q.1 ((Kc φ a (c + 1) (a c) : Nat) : Int), st2 q.2 128 w ((Kc φ a (c + 1) (a c) : Nat) : Int)), rfl, g1.st (by decide), ?_, fun v hv => ?_⟩
        · show max q.1 _ = _
          rw [g2, mM, if_neg hz]
          omega
        · show st2 q.2 128 w ((Kc φ a (c + 1) (a c) : Nat) : Int) 128 v = _
          rw [st2_sk]
          by_cases e : v = w
          · rw [if_pos e, e, ea]
          · rw [if_neg e, g3 v hv, Kc_s, if_neg hz, if_neg (by omega)]; rfl)
  have E2 : L_G_mostAlike_12 LF 0 0 s1 = some (q.1, q.2) := E2
  unfold F_G_mostAlike
  rw [E1, b0M_some, E2, b1M_some, h2]
  exact ⟨q.2, rfl, h1⟩
theorem take_s {l : List Nat} {j : Nat} (h : j < l.length) (p : Nat → Bool) : (l.take (j + 1)).countP p = (l.take j).countP p + (if p (l.getD j 0) then 1 else 0) := by
  rw [List.take_succ, List.countP_append, List.getD_eq_getElem?_getD, List.getElem?_eq_getElem h]
  simp [List.countP_cons]
theorem alike61 {φ a : Nat → Int} {N j : Nat} {T : Int} {s : Mm} (hN : N ≤ 1000) (hj : j < (fl φ N).length) (h238 : ∀ i, i < (fl φ N).length → s 238 i = T + a ((fl φ N).getD i 0)) : L_M_mostAlike_61 LF ((fl φ N).length : Int) (j : Int) 0 0 s = some ((Kc φ a N (a ((fl φ N).getD j 0)) : Nat) : Int) := by
  have lN : (fl φ N).length ≤ 1000 := by rw [fl_len]; have := cntF_le (f := φ) N; omega
  obtain ⟨q, E, h1⟩ := loop_inv2 (L := fun n i (q : Int) => L_M_mostAlike_61 n ((fl φ N).length : Int) (j : Int) q i s) (I := fun i q => q = ((((fl φ N).take i).countP (fun d => decide (a d = a ((fl φ N).getD j 0))) : Nat) : Int)) (x := (fl φ N).length) (out := fun q => q)
    (fun n q hq => by
      show L_M_mostAlike_61 (n + 1) ((fl φ N).length : Int) (j : Int) q ((fl φ N).length : Int) s = _
      rw [L_M_mostAlike_61, if_pos (Int.le_refl _)]) (m := (fl φ N).length) (i := 0) (N := LF) (s := (0 : Int)) (by omega) (by unfold LF; omega) rfl (fun n i q _ hi hq => by
      have e2 : (i : Int) + 1 = ((i + 1 : Nat) : Int) := by omega
      have ei : ((i : Int)).toNat = i := by omega
      have ej : ((j : Int)).toNat = j := by omega
      have z1 : s 238 ((i : Int)).toNat = T + a ((fl φ N).getD i 0) := by rw [ei]; exact h238 i hi
      have z2 : s 238 ((j : Int)).toNat = T + a ((fl φ N).getD j 0) := by rw [ej]; exact h238 j hj
      have cl := List.countP_le_length (p := fun d => decide (a d = a ((fl φ N).getD j 0))) (l := (fl φ N).take (i + 1))
      have tl : ((fl φ N).take (i + 1)).length ≤ 1000 := by rw [List.length_take]; omega
      have ev : q + (if T + a ((fl φ N).getD i 0) = T + a ((fl φ N).getD j 0) then (1 : Int) else 0) = ((((fl φ N).take (i + 1)).countP (fun d => decide (a d = a ((fl φ N).getD j 0))) : Nat) : Int) := by
        rw [take_s hi, hq]
        by_cases e : a ((fl φ N).getD i 0) = a ((fl φ N).getD j 0)
        · rw [if_pos (show T + a ((fl φ N).getD i 0) = T + a ((fl φ N).getD j 0) by omega), if_pos (decide_eq_true e)]; rfl
        · rw [if_neg (show ¬ T + a ((fl φ N).getD i 0) = T + a ((fl φ N).getD j 0) by omega), if_neg (show ¬ decide (a ((fl φ N).getD i 0) = a ((fl φ N).getD j 0)) = true from fun q => e (of_decide_eq_true q))]; rfl
      refine ⟨_, ?_, rfl⟩
      show L_M_mostAlike_61 (n + 1) ((fl φ N).length : Int) (j : Int) q (i : Int) s = _
      rw [L_M_mostAlike_61, if_neg (by omega), if_pos (show 0 ≤ (i : Int) ∧ (i : Int) < 1000 by omega), if_pos (show 0 ≤ (j : Int) ∧ (j : Int) < 1000 by omega), z1, z2, bindM_eq, ev, if_pos (r32_nat (by omega)), e2, if_pos (r32_nat (show i + 1 < 2147483648 by omega))])
  have E : L_M_mostAlike_61 LF ((fl φ N).length : Int) (j : Int) 0 0 s = some q := E
  rw [E, h1, List.take_length]; rfl
theorem alike49 {φ a : Nat → Int} {N : Nat} {T : Int} {s : Mm} (hN : N ≤ 1000) (h238 : ∀ i, i < (fl φ N).length → s 238 i = T + a ((fl φ N).getD i 0)) : L_M_mostAlike_49 LF ((fl φ N).length : Int) 0 0 s = some ((mM φ a N : Nat) : Int) := by
  have lN : (fl φ N).length ≤ 1000 := by rw [fl_len]; have := cntF_le (f := φ) N; omega
  obtain ⟨q, E, x, h0, h1, h2⟩ := loop_inv2 (L := fun n i (q : Int) => L_M_mostAlike_49 n ((fl φ N).length : Int) q i s) (I := fun i q => ∃ x : Nat, q = (x : Int) ∧ (∀ j, j < i → Kc φ a N (a ((fl φ N).getD j 0)) ≤ x) ∧ (x = 0 ∨ ∃ v, Kc φ a N v = x)) (x := (fl φ N).length) (out := fun q => q)
    (fun n q hq => by
      show L_M_mostAlike_49 (n + 1) ((fl φ N).length : Int) q ((fl φ N).length : Int) s = _
      rw [L_M_mostAlike_49, if_pos (Int.le_refl _)]) (m := (fl φ N).length) (i := 0) (N := LF) (s := (0 : Int)) (by omega) (by unfold LF; omega) ⟨0, rfl, fun j hj => by omega, Or.inl rfl⟩ (fun n i q _ hi hq => by
      obtain ⟨x, h0, h1, h2⟩ := hq
      have e2 : (i : Int) + 1 = ((i + 1 : Nat) : Int) := by omega
      refine ⟨if ((Kc φ a N (a ((fl φ N).getD i 0)) : Nat) : Int) ≤ q then q else ((Kc φ a N (a ((fl φ N).getD i 0)) : Nat) : Int), ?_, ?_⟩
      · show L_M_mostAlike_49 (n + 1) ((fl φ N).length : Int) q (i : Int) s = _
        rw [L_M_mostAlike_49, if_neg (by omega), alike61 hN hi h238, b1_some, bindM_eq, e2, if_pos (r32_nat (show i + 1 < 2147483648 by omega))]
      · by_cases le : ((Kc φ a N (a ((fl φ N).getD i 0)) : Nat) : Int) ≤ q
        · rw [if_pos le]
          refine ⟨x, h0, fun j hj => ?_, h2⟩
          by_cases e : j = i
          · subst e; omega
          · exact h1 j (by omega)
        · rw [if_neg le]
          refine ⟨_, rfl, fun j hj => ?_, Or.inr ⟨_, rfl⟩⟩
          by_cases e : j = i
          · subst e; exact Nat.le_refl _
          · have := h1 j (by omega); omega)
  have E : L_M_mostAlike_49 LF ((fl φ N).length : Int) 0 0 s = some q := E
  rw [E, h0]
  rw [mM_eq (fun v => ?_) h2]
  by_cases hk : 0 < Kc φ a N v
  · obtain ⟨d, d1, d2⟩ := List.countP_pos_iff.mp hk
    obtain ⟨j, j1, j2⟩ := List.mem_iff_getElem.mp d1
    have := h1 j j1
    rw [List.getD_eq_getElem?_getD, List.getElem?_eq_getElem j1] at this
    have e : a d = v := of_decide_eq_true d2
    rw [← e, ← j2]; exact this
  · omega
