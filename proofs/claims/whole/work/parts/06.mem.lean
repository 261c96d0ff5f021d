section SWmem
variable {X : Cx} {w nL pc d : Nat} {cc : ByteArray} {own : String} {ret : Option FieldType} {lv : List (Option Value)} {st : List Value} {σ : Mm}
/-- a class of the tables: its fields' words -/
def CF (ci : Nat) (C : String) (T : u_T) (ty : Nat → FieldType) : Prop := vwCl[ci]? = some (C, T, Nf ci) ∧ (∀ w ∈ u_ws C T (Nf ci), w ∈ lw_g) ∧ (∀ k, k < Nf ci → parseFieldDescriptor (T k).2.2.1 = some (ty k)) ∧ (∀ a, a < Nf ci → ∀ b, b < Nf ci → a ≠ b → (T a).2.1 ≠ (T b).2.1)
theorem slot_at {ad : Nat → Nat} {ci i k : Nat} (hk : k < Nf ci) : ((List.range (Nf ci)).map (slotV ad σ ci i))[k]? = some (slotV ad σ ci i k) := by
  rw [List.getElem?_map, List.getElem?_range hk]; rfl
theorem SW_getV (h : CX X w cc nL d ret own) {i k ci idx : Nat} {C : String} {T : u_T} {ty : Nat → FieldType} (hcf : CF ci C T ty) (hw : inW w i) (hK : Kt i = 7) (hL : Ln i = ci) (hk : k < Nf ci) (hfl : Cond.fieldLink own idx (T k).1 (T k).2.1 (T k).2.2.1 ∈ lw_g) (dd : decode cc pc = .ok (.getfield idx, 3)) (kk : SW X w nL (pc + 3) lv (slotV (xad X) σ ci i k :: st) σ) : SW X w nL pc lv (.ref (xad X i) :: st) σ := by
  obtain ⟨p, l, e, R, s, m, args, below, meth, c, Q, A, D, cs, ad, sK, sV⟩ := X
  intro H locs ls hP hD hS hl ho
  subst hL
  exact va_get (D := D) h.1 h.2.1 h.2.2.2.2.1 hcf.2.1 h.2.2.2.1 h.2.2.2.2.2.1.1 hP (i - wlo w) (by rw [ws_at hw, cell_obj hK]; rfl) hcf.1 k hk (h.2.2.2.2.1 _ hfl) (fun _ q => q) (slot_at hk) dd (kk H locs ls hP hD hS hl ho)
theorem SW_getI (h : CX X w cc nL d ret own) {i k ci idx : Nat} {C : String} {T : u_T} {ty : Nat → FieldType} (hcf : CF ci C T ty) (hw : inW w i) (hK : Kt i = 7) (hL : Ln i = ci) (hk : k < Nf ci) (hs : Sk ci k = 0) (hfl : Cond.fieldLink own idx (T k).1 (T k).2.1 (T k).2.2.1 ∈ lw_g) (dd : decode cc pc = .ok (.getfield idx, 3)) (kk : SW X w nL (pc + 3) lv (.int (i32 (σ i k)) :: st) σ) : SW X w nL pc lv (.ref (xad X i) :: st) σ :=
  SW_getV h hcf hw hK hL hk hfl dd (SW_eq (by unfold slotV; rw [if_pos hs]) kk)
theorem SW_getR (h : CX X w cc nL d ret own) {i k ci idx : Nat} {C : String} {T : u_T} {ty : Nat → FieldType} (hcf : CF ci C T ty) (hw : inW w i) (hK : Kt i = 7) (hL : Ln i = ci) (hk : k < Nf ci) (hs : Sk ci k = 1) {j : Nat} (hj : Rf i k = j) (hfl : Cond.fieldLink own idx (T k).1 (T k).2.1 (T k).2.2.1 ∈ lw_g) (dd : decode cc pc = .ok (.getfield idx, 3)) (kk : SW X w nL (pc + 3) lv (.ref (xad X j) :: st) σ) : SW X w nL pc lv (.ref (xad X i) :: st) σ :=
  SW_getV h hcf hw hK hL hk hfl dd (SW_eq (by unfold slotV; rw [if_neg (by omega), if_pos hs, hj]) kk)
/-- a reference that can be null and can change: its number, below 0 for null -/
def dref (X : Cx) (z : Int) : Value := va_rf (if z < 0 then none else some (xad X z.toNat))
theorem SW_getD (h : CX X w cc nL d ret own) {i k ci idx : Nat} {C : String} {T : u_T} {ty : Nat → FieldType} (hcf : CF ci C T ty) (hw : inW w i) (hK : Kt i = 7) (hL : Ln i = ci) (hk : k < Nf ci) (hs : Sk ci k = 2) (hfl : Cond.fieldLink own idx (T k).1 (T k).2.1 (T k).2.2.1 ∈ lw_g) (dd : decode cc pc = .ok (.getfield idx, 3)) (kk : SW X w nL (pc + 3) lv (dref X (σ i k) :: st) σ) : SW X w nL pc lv (.ref (xad X i) :: st) σ :=
  SW_getV h hcf hw hK hL hk hfl dd (SW_eq (by unfold slotV; rw [if_neg (by omega), if_neg (by omega)]; rfl) kk)
theorem dref_pos {z : Int} (h : 0 ≤ z) : dref X z = .ref (xad X z.toNat) := by unfold dref; rw [if_neg (by omega)]; rfl
theorem dref_neg {z : Int} (h : z < 0) : dref X z = .null := by unfold dref; rw [if_pos h]; rfl
theorem SW_putV (h : CX X w cc nL d ret own) {i k ci idx : Nat} {C : String} {T : u_T} {ty : Nat → FieldType} {x : Int} {v : Value} (hcf : CF ci C T ty) (hw : inW w i) (hK : Kt i = 7) (hL : Ln i = ci) (hk : k < Nf ci) (hv : slotV (xad X) (st2 σ i k x) ci i k = v) (hx : okM σ → r32 x) (hfl : Cond.fieldLink own idx (T k).1 (T k).2.1 (T k).2.2.1 ∈ lw_g) (hfin : (T k).2.2.2 = false) (hn : narrow (ty k) v = v) (hfit : fits (ty k) v = true) (dd : decode cc pc = .ok (.putfield idx, 3)) (kk : SW X w nL (pc + 3) lv st (st2 σ i k x)) : SW X w nL pc lv (v :: .ref (xad X i) :: st) σ := by
  obtain ⟨p, l, e, R, s, m, args, below, meth, c, Q, A, D, cs, ad, sK, sV⟩ := X
  intro H locs ls hP hD hS hl ho
  subst hL
  subst hv
  refine va_put (D := D) (fs := (List.range (Nf (Ln i))).map (slotV ad σ (Ln i) i)) h.1 h.2.1 h.2.2.2.2.1 hcf.2.1 ty hcf.2.2.1 hcf.2.2.2 h.2.2.2.1 h.2.2.2.2.2.1.1 hP hD hS (i - wlo w) (by rw [ws_at hw, cell_obj hK]; rfl) hcf.1 k hk (h.2.2.2.2.1 _ hfl) (fun _ q => q) hfin (hcf.2.2.1 k hk) hn hfit (by simp; exact hk) dd ?_
  intro H1 locs1 hP1 hD1 hS1
  have e1 : (wsOf cs ad σ w).set (i - wlo w) (ad i, .inr (Ln i, ((List.range (Nf (Ln i))).map (slotV ad σ (Ln i) i)).set k (slotV ad (st2 σ i k x) (Ln i) i k))) = wsOf cs ad (st2 σ i k x) w := by
    rw [slots_set hk, ← cell_obj (cs := cs) hK]
    exact ws_set hw (fun j hj => cell_off (st2_off hj))
  have hP2 : va_P D vwCl (wsOf cs ad (st2 σ i k x) w) H1 := by rw [← e1]; exact hP1
  have hD2 : va_D A (wsOf cs ad (st2 σ i k x) w) := by rw [← e1]; exact hD1
  exact kk H1 locs1 ls hP2 hD2 hS1 hl (okM_st2 ho (fun q => by omega) (fun _ => hx ho))
theorem st2_self {i k : Nat} {x : Int} : st2 σ i k x i k = x := by simp [st2]
theorem SW_putI (h : CX X w cc nL d ret own) {i k ci idx : Nat} {C : String} {T : u_T} {ty : Nat → FieldType} {x : Int} (hcf : CF ci C T ty) (hw : inW w i) (hK : Kt i = 7) (hL : Ln i = ci) (hk : k < Nf ci) (hs : Sk ci k = 0) (hx : okM σ → r32 x) (hfl : Cond.fieldLink own idx (T k).1 (T k).2.1 (T k).2.2.1 ∈ lw_g) (hfin : (T k).2.2.2 = false) (hty : ty k = .int) (dd : decode cc pc = .ok (.putfield idx, 3)) (kk : SW X w nL (pc + 3) lv st (st2 σ i k x)) : SW X w nL pc lv (.int (i32 x) :: .ref (xad X i) :: st) σ :=
  SW_putV h hcf hw hK hL hk (by unfold slotV; rw [if_pos hs, st2_self]) hx hfl hfin (by rw [hty]; rfl) (by rw [hty]; rfl) dd kk
theorem SW_putZ (h : CX X w cc nL d ret own) {i k ci idx : Nat} {C : String} {T : u_T} {ty : Nat → FieldType} {x : Int} (hcf : CF ci C T ty) (hw : inW w i) (hK : Kt i = 7) (hL : Ln i = ci) (hk : k < Nf ci) (hs : Sk ci k = 0) (hx : x = 0 ∨ x = 1) (hfl : Cond.fieldLink own idx (T k).1 (T k).2.1 (T k).2.2.1 ∈ lw_g) (hfin : (T k).2.2.2 = false) (hty : ty k = .boolean) (dd : decode cc pc = .ok (.putfield idx, 3)) (kk : SW X w nL (pc + 3) lv st (st2 σ i k x)) : SW X w nL pc lv (.int (i32 x) :: .ref (xad X i) :: st) σ :=
  SW_putV h hcf hw hK hL hk (by unfold slotV; rw [if_pos hs, st2_self]) (fun _ => by rcases hx with q | q <;> (rw [q]; exact ⟨by omega, by omega⟩)) hfl hfin (by rw [hty]; rcases hx with q | q <;> (rw [q]; rfl)) (by rw [hty]; rcases hx with q | q <;> (rw [q]; rfl)) dd kk
theorem SW_putD (h : CX X w cc nL d ret own) {i k ci idx j : Nat} {C E : String} {T : u_T} {ty : Nat → FieldType} (hcf : CF ci C T ty) (hw : inW w i) (hK : Kt i = 7) (hL : Ln i = ci) (hk : k < Nf ci) (hs : Sk ci k = 2) (hj : j < 1000) (hfl : Cond.fieldLink own idx (T k).1 (T k).2.1 (T k).2.2.1 ∈ lw_g) (hfin : (T k).2.2.2 = false) (hty : ty k = .object E) (dd : decode cc pc = .ok (.putfield idx, 3)) (kk : SW X w nL (pc + 3) lv st (st2 σ i k (j : Int))) : SW X w nL pc lv (.ref (xad X j) :: .ref (xad X i) :: st) σ :=
  SW_putV h hcf hw hK hL hk (by unfold slotV; rw [if_neg (by omega), if_neg (by omega), st2_self, if_neg (by omega)]; rfl) (fun _ => ⟨by omega, by omega⟩) hfl hfin (by rw [hty]; rfl) (by rw [hty]; rfl) dd kk
theorem SW_putN (h : CX X w cc nL d ret own) {i k ci idx : Nat} {C E : String} {T : u_T} {ty : Nat → FieldType} (hcf : CF ci C T ty) (hw : inW w i) (hK : Kt i = 7) (hL : Ln i = ci) (hk : k < Nf ci) (hs : Sk ci k = 2) (hfl : Cond.fieldLink own idx (T k).1 (T k).2.1 (T k).2.2.1 ∈ lw_g) (hfin : (T k).2.2.2 = false) (hty : ty k = .object E) (dd : decode cc pc = .ok (.putfield idx, 3)) (kk : SW X w nL (pc + 3) lv st (st2 σ i k (-1))) : SW X w nL pc lv (.null :: .ref (xad X i) :: st) σ :=
  SW_putV h hcf hw hK hL hk (by unfold slotV; rw [if_neg (by omega), if_neg (by omega), st2_self, if_pos (by omega)]; rfl) (fun _ => ⟨by omega, by omega⟩) hfl hfin (by rw [hty]; rfl) (by rw [hty]; rfl) dd kk
theorem SW_ifnullR (h : CX X w cc nL d ret own) {a : Nat} {off : Int} (dd : decode cc pc = .ok (.ifnull off, 3)) (k : SW X w nL (pc + 3) lv st σ) : SW X w nL pc lv (.ref a :: st) σ := by
  obtain ⟨p, l, e, R, s, m, args, below, meth, c, Q, A, D, cs, ad, sK, sV⟩ := X
  intro H locs ls hP hD hS hl ho
  exact lv_ifnull h.1 h.2.1 dd (k H locs ls hP hD hS hl ho)
theorem SW_ifnullN (h : CX X w cc nL d ret own) {off : Int} {tgt : Nat} (dd : decode cc pc = .ok (.ifnull off, 3)) (ht : (pc : Int) + off = (tgt : Int)) (k : SW X w nL tgt lv st σ) : SW X w nL pc lv (.null :: st) σ := by
  obtain ⟨p, l, e, R, s, m, args, below, meth, c, Q, A, D, cs, ad, sK, sV⟩ := X
  intro H locs ls hP hD hS hl ho
  exact lv_ifnullN h.1 h.2.1 dd ht (k H locs ls hP hD hS hl ho)
theorem Ln_lt : ∀ i, Ln i < 2147483648 := by
  intro i
  by_cases h : i < 260
  · have : ∀ i, i < 260 → Ln i < 2147483648 := by decide +kernel
    exact this i h
  · have e : LnL.length = 260 := by decide +kernel
    unfold Ln
    rw [List.getD_eq_getElem?_getD, List.getElem?_eq_none (by rw [e]; omega)]
    decide

theorem SW_iald (h : CX X w cc nL d ret own) {i : Nat} {x : Int} (hw : inW w i) (hK : Kt i = 0) (hx0 : 0 ≤ x) (hx1 : x < Ln i) (dd : decode cc pc = .ok (.iaload, 1)) (kk : SW X w nL (pc + 1) lv (.int (i32 (σ i x.toNat)) :: st) σ) : SW X w nL pc lv (.int (i32 x) :: .ref (xad X i) :: st) σ := by
  obtain ⟨p, l, e, R, s, m, args, below, meth, c, Q, A, D, cs, ad, sK, sV⟩ := X
  intro H locs ls hP hD hS hl ho
  have hn := Ln_lt i
  refine va_iald (D := D) h.1 h.2.1 h.2.2.2.2.2.1.1 hP (i - wlo w) 0 (by rw [ws_at hw, cell_int (by omega), hK]; rfl) rfl (i32_in hx0 hx1 hn) dd ?_
  rw [i32_clamp ⟨by omega, by omega⟩ hx0]
  exact kk H locs ls hP hD hS hl ho
theorem SW_bald (h : CX X w cc nL d ret own) {i : Nat} {x : Int} (hw : inW w i) (hK : Kt i = 1) (hx0 : 0 ≤ x) (hx1 : x < Ln i) (dd : decode cc pc = .ok (.baload, 1)) (kk : SW X w nL (pc + 1) lv (.int (i32 (σ i x.toNat)) :: st) σ) : SW X w nL pc lv (.int (i32 x) :: .ref (xad X i) :: st) σ := by
  obtain ⟨p, l, e, R, s, m, args, below, meth, c, Q, A, D, cs, ad, sK, sV⟩ := X
  intro H locs ls hP hD hS hl ho
  have hn := Ln_lt i
  refine va_bald (D := D) h.1 h.2.1 h.2.2.2.2.2.1.1 hP (i - wlo w) 1 (by rw [ws_at hw, cell_int (by omega), hK]; rfl) rfl (i32_in hx0 hx1 hn) dd ?_
  rw [i32_clamp ⟨by omega, by omega⟩ hx0]
  exact kk H locs ls hP hD hS hl ho
theorem SW_zald (h : CX X w cc nL d ret own) {i : Nat} {x : Int} (hw : inW w i) (hK : Kt i = 2) (hx0 : 0 ≤ x) (hx1 : x < Ln i) (dd : decode cc pc = .ok (.baload, 1)) (kk : SW X w nL (pc + 1) lv (.int (i32 (σ i x.toNat)) :: st) σ) : SW X w nL pc lv (.int (i32 x) :: .ref (xad X i) :: st) σ := by
  obtain ⟨p, l, e, R, s, m, args, below, meth, c, Q, A, D, cs, ad, sK, sV⟩ := X
  intro H locs ls hP hD hS hl ho
  have hn := Ln_lt i
  refine va_zald (D := D) h.1 h.2.1 h.2.2.2.2.2.1.1 hP (i - wlo w) 2 (by rw [ws_at hw, cell_int (by omega), hK]; rfl) rfl (i32_in hx0 hx1 hn) dd ?_
  rw [i32_clamp ⟨by omega, by omega⟩ hx0]
  exact kk H locs ls hP hD hS hl ho
theorem SW_lald (h : CX X w cc nL d ret own) {i : Nat} {x : Int} (hw : inW w i) (hK : Kt i = 3) (hx0 : 0 ≤ x) (hx1 : x < Ln i) (dd : decode cc pc = .ok (.laload, 1)) (kk : SW X w nL (pc + 1) lv (.long (i64 (σ i x.toNat)) :: st) σ) : SW X w nL pc lv (.int (i32 x) :: .ref (xad X i) :: st) σ := by
  obtain ⟨p, l, e, R, s, m, args, below, meth, c, Q, A, D, cs, ad, sK, sV⟩ := X
  intro H locs ls hP hD hS hl ho
  have hn := Ln_lt i
  refine va_lald (D := D) h.1 h.2.1 h.2.2.2.2.2.1.1 hP (i - wlo w) 3 (by rw [ws_at hw, cell_long hK]; rfl) rfl (i32_in hx0 hx1 hn) dd ?_
  rw [i32_clamp ⟨by omega, by omega⟩ hx0]
  exact kk H locs ls hP hD hS hl ho
theorem SW_aald (h : CX X w cc nL d ret own) {i t : Nat} {x : Int} (hw : inW w i) (hK : Kt i = t) (ht : t = 4 ∨ t = 5 ∨ t = 6) (hx0 : 0 ≤ x) (hx1 : x < Ln i) {j : Nat} (hj : Rf i x.toNat = j) (dd : decode cc pc = .ok (.aaload, 1)) (kk : SW X w nL (pc + 1) lv (.ref (xad X j) :: st) σ) : SW X w nL pc lv (.int (i32 x) :: .ref (xad X i) :: st) σ := by
  obtain ⟨p, l, e, R, s, m, args, below, meth, c, Q, A, D, cs, ad, sK, sV⟩ := X
  intro H locs ls hP hD hS hl ho
  have hn := Ln_lt i
  have hin := i32_in hx0 hx1 hn
  have hlt : (i32 x).toNatClampNeg < Ln i := Nat.not_le.mp fun q => hin (Or.inr q)
  have hcl : (i32 x).toNatClampNeg = x.toNat := i32_clamp ⟨by omega, by omega⟩ hx0
  have hws : (wsOf cs ad σ w)[i - wlo w]? = some (ad i, .inl (cs (Kt i), Ln i, .inr (.inr (.inr (.inr (fun k => some (ad (Rf i k)))))))) := by rw [ws_at hw, cell_ref (by omega) (by omega)]
  obtain ⟨fty, hty, hrf⟩ : ∃ fty, (tyOf cs)[Kt i]? = some (cs (Kt i), fty) ∧ fty.isReference = true := by
    rw [hK]
    rcases ht with q | q | q <;> subst q <;> exact ⟨_, rfl, rfl⟩
  have kk2 := kk H locs ls hP hD hS hl ho
  refine W.aald (v := .ref (ad j)) (ty := fty) h.1 h.2.1 (hP (i - wlo w) _ hws) ((h.2.2.2.2.2.1.1.2 (Kt i) _ hty).1 (Ln i) (fun k => va_rf (some (ad (Rf i k))))) hrf (fun q => by cases q) (by show ¬ (_ < 0 ∨ (arrV _ _ _).slots.size ≤ _); rw [arrV_size]; exact hin) (by show (arrV _ _ _).slots[_]? = _; rw [arrV_read _ _ hlt, hcl]; show some (Value.ref (ad (Rf i x.toNat))) = _; rw [hj]) rfl rfl dd kk2
theorem SW_alen (h : CX X w cc nL d ret own) {i : Nat} (hw : inW w i) (hK : Kt i < 3) (dd : decode cc pc = .ok (.arraylength, 1)) (kk : SW X w nL (pc + 1) lv (.int (i32 (Ln i : Nat)) :: st) σ) : SW X w nL pc lv (.ref (xad X i) :: st) σ := by
  obtain ⟨p, l, e, R, s, m, args, below, meth, c, Q, A, D, cs, ad, sK, sV⟩ := X
  intro H locs ls hP hD hS hl ho
  obtain ⟨fty, hty⟩ : ∃ fty, (tyOf cs)[Kt i]? = some (cs (Kt i), fty) := by
    have h3 : Kt i = 0 ∨ Kt i = 1 ∨ Kt i = 2 := by omega
    rcases h3 with q | q | q <;> rw [q] <;> exact ⟨_, rfl⟩
  exact va_alen (D := D) h.1 h.2.1 h.2.2.2.2.2.1.1 hP (i - wlo w) (Kt i) (by rw [ws_at hw, cell_int hK]; rfl) hty (by show Int32.ofNat (Ln i) = _; unfold i32; rw [Int32.ofInt_eq_ofNat]) dd (kk H locs ls hP hD hS hl ho)
theorem upd_eq {f : Nat → Int} {k : Nat} {x : Int} {y : Int32} (hy : y = i32 x) : upd (fun j => i32 (f j)) k y = fun j => i32 (if j = k then x else f j) := by
  funext j
  unfold upd
  by_cases hj : j = k
  · rw [if_pos hj, if_pos hj, hy]
  · rw [if_neg hj, if_neg hj]
theorem updL_eq {f : Nat → Int} {k : Nat} {x : Int} : vp_updL (fun j => i64 (f j)) k (i64 x) = fun j => i64 (if j = k then x else f j) := by
  funext j
  unfold vp_updL
  by_cases hj : j = k
  · rw [if_pos hj, if_pos hj]
  · rw [if_neg hj, if_neg hj]
theorem st2_row {i k : Nat} {x : Int} : st2 σ i k x i = fun j => if j = k then x else σ i j := by
  funext j; simp [st2]

theorem SW_iast (h : CX X w cc nL d ret own) {i : Nat} {j x : Int} (hw : inW w i) (hK : Kt i = 0) (hj0 : 0 ≤ j) (hj1 : j < Ln i) (hx : okM σ → r32 x) (dd : decode cc pc = .ok (.iastore, 1)) (kk : SW X w nL (pc + 1) lv st (st2 σ i j.toNat (x))) : SW X w nL pc lv (.int (i32 x) :: .int (i32 j) :: .ref (xad X i) :: st) σ := by
  obtain ⟨p, l, e, R, s, m, args, below, meth, c, Q, A, D, cs, ad, sK, sV⟩ := X
  intro H locs ls hP hD hS hl ho
  have hn := Ln_lt i
  refine va_iast (D := D) h.1 h.2.1 h.2.2.2.2.2.1.1 hP hD hS (i - wlo w) 0 (by rw [ws_at hw, cell_int (by omega), hK]; rfl) rfl (i32_in hj0 hj1 hn) dd ?_
  rw [i32_clamp ⟨by omega, by omega⟩ hj0, upd_eq (x := x) rfl]
  intro H1 locs1 hP1 hD1 hS1
  have e1 : (wsOf cs ad σ w).set (i - wlo w) (ad i, .inl (cs 0, Ln i, .inl (fun k => i32 (if k = j.toNat then x else σ i k)))) = wsOf cs ad (st2 σ i j.toNat (x)) w := by
    have e2 : cellOf cs ad (st2 σ i j.toNat (x)) i = .inl (cs 0, Ln i, .inl (fun k => i32 (if k = j.toNat then x else σ i k))) := by
      rw [cell_int (by omega), hK, st2_row]
    rw [← e2]
    exact ws_set hw (fun q hq => cell_off (st2_off hq))
  exact kk H1 locs1 ls (by rw [← e1]; exact hP1) (by rw [← e1]; exact hD1) hS1 hl (okM_st2 ho (fun q => by omega) (fun _ => hx ho))
theorem SW_bast (h : CX X w cc nL d ret own) {i : Nat} {j x : Int} (hw : inW w i) (hK : Kt i = 1) (hj0 : 0 ≤ j) (hj1 : j < Ln i)  (dd : decode cc pc = .ok (.bastore, 1)) (kk : SW X w nL (pc + 1) lv st (st2 σ i j.toNat (nbI x))) : SW X w nL pc lv (.int (i32 x) :: .int (i32 j) :: .ref (xad X i) :: st) σ := by
  obtain ⟨p, l, e, R, s, m, args, below, meth, c, Q, A, D, cs, ad, sK, sV⟩ := X
  intro H locs ls hP hD hS hl ho
  have hn := Ln_lt i
  refine va_bast (D := D) h.1 h.2.1 h.2.2.2.2.2.1.1 hP hD hS (i - wlo w) 1 (by rw [ws_at hw, cell_int (by omega), hK]; rfl) rfl (i32_in hj0 hj1 hn) dd ?_
  rw [i32_clamp ⟨by omega, by omega⟩ hj0, upd_eq (x := nbI x) (i32_of _).symm]
  intro H1 locs1 hP1 hD1 hS1
  have e1 : (wsOf cs ad σ w).set (i - wlo w) (ad i, .inl (cs 1, Ln i, .inl (fun k => i32 (if k = j.toNat then nbI x else σ i k)))) = wsOf cs ad (st2 σ i j.toNat (nbI x)) w := by
    have e2 : cellOf cs ad (st2 σ i j.toNat (nbI x)) i = .inl (cs 1, Ln i, .inl (fun k => i32 (if k = j.toNat then nbI x else σ i k))) := by
      rw [cell_int (by omega), hK, st2_row]
    rw [← e2]
    exact ws_set hw (fun q hq => cell_off (st2_off hq))
  exact kk H1 locs1 ls (by rw [← e1]; exact hP1) (by rw [← e1]; exact hD1) hS1 hl (okM_st2 ho (fun q => by omega) (fun _ => r32_of _))
theorem SW_zast (h : CX X w cc nL d ret own) {i : Nat} {j x : Int} (hw : inW w i) (hK : Kt i = 2) (hj0 : 0 ≤ j) (hj1 : j < Ln i)  (dd : decode cc pc = .ok (.bastore, 1)) (kk : SW X w nL (pc + 1) lv st (st2 σ i j.toNat (nzI x))) : SW X w nL pc lv (.int (i32 x) :: .int (i32 j) :: .ref (xad X i) :: st) σ := by
  obtain ⟨p, l, e, R, s, m, args, below, meth, c, Q, A, D, cs, ad, sK, sV⟩ := X
  intro H locs ls hP hD hS hl ho
  have hn := Ln_lt i
  refine va_zast (D := D) h.1 h.2.1 h.2.2.2.2.2.1.1 hP hD hS (i - wlo w) 2 (by rw [ws_at hw, cell_int (by omega), hK]; rfl) rfl (i32_in hj0 hj1 hn) dd ?_
  rw [i32_clamp ⟨by omega, by omega⟩ hj0, upd_eq (x := nzI x) (i32_of _).symm]
  intro H1 locs1 hP1 hD1 hS1
  have e1 : (wsOf cs ad σ w).set (i - wlo w) (ad i, .inl (cs 2, Ln i, .inl (fun k => i32 (if k = j.toNat then nzI x else σ i k)))) = wsOf cs ad (st2 σ i j.toNat (nzI x)) w := by
    have e2 : cellOf cs ad (st2 σ i j.toNat (nzI x)) i = .inl (cs 2, Ln i, .inl (fun k => i32 (if k = j.toNat then nzI x else σ i k))) := by
      rw [cell_int (by omega), hK, st2_row]
    rw [← e2]
    exact ws_set hw (fun q hq => cell_off (st2_off hq))
  exact kk H1 locs1 ls (by rw [← e1]; exact hP1) (by rw [← e1]; exact hD1) hS1 hl (okM_st2 ho (fun q => by omega) (fun _ => r32_of _))
theorem SW_last (h : CX X w cc nL d ret own) {i : Nat} {j x : Int} (hw : inW w i) (hK : Kt i = 3) (hj0 : 0 ≤ j) (hj1 : j < Ln i) (hx : okM σ → r64 x) (dd : decode cc pc = .ok (.lastore, 1)) (kk : SW X w nL (pc + 1) lv st (st2 σ i j.toNat x)) : SW X w nL pc lv (.long (i64 x) :: .int (i32 j) :: .ref (xad X i) :: st) σ := by
  obtain ⟨p, l, e, R, s, m, args, below, meth, c, Q, A, D, cs, ad, sK, sV⟩ := X
  intro H locs ls hP hD hS hl ho
  have hn := Ln_lt i
  refine va_last (D := D) h.1 h.2.1 h.2.2.2.2.2.1.1 hP hD hS (i - wlo w) 3 (by rw [ws_at hw, cell_long hK]; rfl) rfl (i32_in hj0 hj1 hn) dd ?_
  rw [i32_clamp ⟨by omega, by omega⟩ hj0, updL_eq]
  intro H1 locs1 hP1 hD1 hS1
  have e1 : (wsOf cs ad σ w).set (i - wlo w) (ad i, .inl (cs 3, Ln i, .inr (.inl (fun k => i64 (if k = j.toNat then x else σ i k))))) = wsOf cs ad (st2 σ i j.toNat x) w := by
    have e2 : cellOf cs ad (st2 σ i j.toNat x) i = .inl (cs 3, Ln i, .inr (.inl (fun k => i64 (if k = j.toNat then x else σ i k)))) := by
      rw [cell_long hK, st2_row]
    rw [← e2]
    exact ws_set hw (fun q hq => cell_off (st2_off hq))
  exact kk H1 locs1 ls (by rw [← e1]; exact hP1) (by rw [← e1]; exact hD1) hS1 hl (okM_st2 ho (fun _ => hx ho) (fun q => absurd hK q))
/-! returns -/
theorem SW_iret (h : CX X w cc nL d (some .int) own) {r : Int} {σ' : Mm} (hR : RX X w (r32 r) (some (.int (i32 r))) σ') (hr : okM σ → r32 r) (hσ : σ = σ') (dd : decode cc pc = .ok (.ireturn, 1)) : SW X w nL pc lv [.int (i32 r)] σ := by
  obtain ⟨p, l, e, R, s, m, args, below, meth, c, Q, A, D, cs, ad, sK, sV⟩ := X
  intro H locs ls hP hD hS hl ho
  have hlk : meth.locks = false := h.2.2.2.2.2.2.2.2.2.1
  have hQ : Q = _ := hR
  subst hQ
  subst hσ
  exact W.iret (hlocks := hlk) h.1 h.2.1 h.2.2.2.2.2.2.2.2.2.2 (fun t ht hW => ⟨rfl, hr ho, ⟨by rw [ht]; exact hP, hD, h.2.2.2.2.2.1.warm hW, h.2.2.2.2.2.2.1.warm hW (fun a h1 h2 => by rw [ht]; exact hS.2.1 a h1 h2) (fun _ q => q), ho⟩, hS.F ht⟩) hS.2.2 dd
theorem SW_zret (h : CX X w cc nL d (some .boolean) own) {r : Int} {σ' : Mm} (hR : RX X w (r = 0 ∨ r = 1) (some (.int (i32 r))) σ') (hr : r = 0 ∨ r = 1) (hσ : σ = σ') (dd : decode cc pc = .ok (.ireturn, 1)) : SW X w nL pc lv [.int (i32 r)] σ := by
  obtain ⟨p, l, e, R, s, m, args, below, meth, c, Q, A, D, cs, ad, sK, sV⟩ := X
  intro H locs ls hP hD hS hl ho
  have hlk : meth.locks = false := h.2.2.2.2.2.2.2.2.2.1
  have hQ : Q = _ := hR
  subst hQ
  subst hσ
  exact W.zret (hlocks := hlk) h.1 h.2.1 h.2.2.2.2.2.2.2.2.2.2 (by rcases hr with q | q <;> (rw [q]; rfl)) (fun t ht hW => ⟨rfl, hr, ⟨by rw [ht]; exact hP, hD, h.2.2.2.2.2.1.warm hW, h.2.2.2.2.2.2.1.warm hW (fun a h1 h2 => by rw [ht]; exact hS.2.1 a h1 h2) (fun _ q => q), ho⟩, hS.F ht⟩) hS.2.2 dd
theorem SW_lret (h : CX X w cc nL d (some .long) own) {r : Int} {σ' : Mm} (hR : RX X w (r64 r) (some (.long (i64 r))) σ') (hr : okM σ → r64 r) (hσ : σ = σ') (dd : decode cc pc = .ok (.lreturn, 1)) : SW X w nL pc lv [.long (i64 r)] σ := by
  obtain ⟨p, l, e, R, s, m, args, below, meth, c, Q, A, D, cs, ad, sK, sV⟩ := X
  intro H locs ls hP hD hS hl ho
  have hlk : meth.locks = false := h.2.2.2.2.2.2.2.2.2.1
  have hQ : Q = _ := hR
  subst hQ
  subst hσ
  exact W.lret (hlocks := hlk) h.1 h.2.1 h.2.2.2.2.2.2.2.2.2.2 (fun t ht hW => ⟨rfl, hr ho, ⟨by rw [ht]; exact hP, hD, h.2.2.2.2.2.1.warm hW, h.2.2.2.2.2.2.1.warm hW (fun a h1 h2 => by rw [ht]; exact hS.2.1 a h1 h2) (fun _ q => q), ho⟩, hS.F ht⟩) hS.2.2 dd
theorem SW_vret (h : CX X w cc nL d none own) {σ' : Mm} (hR : RX X w True none σ') (hσ : σ = σ') (dd : decode cc pc = .ok (.return_, 1)) : SW X w nL pc lv [] σ := by
  obtain ⟨p, l, e, R, s, m, args, below, meth, c, Q, A, D, cs, ad, sK, sV⟩ := X
  intro H locs ls hP hD hS hl ho
  have hlk : meth.locks = false := h.2.2.2.2.2.2.2.2.2.1
  have hQ : Q = _ := hR
  subst hQ
  subst hσ
  exact W.vret (hlocks := hlk) h.1 h.2.1 h.2.2.2.2.2.2.2.2.2.2 (fun t ht hW => ⟨rfl, trivial, ⟨by rw [ht]; exact hP, hD, h.2.2.2.2.2.1.warm hW, h.2.2.2.2.2.2.1.warm hW (fun a h1 h2 => by rw [ht]; exact hS.2.1 a h1 h2) (fun _ q => q), ho⟩, hS.F ht⟩) hS.2.2 dd
/-! calls -/
/-- words of a method that is called -/
def MV (y : MethodName) (ycc : ByteArray) (ynL : Nat) (yret : Option FieldType) (n ci : Nat) : Prop := Cond.instanceMethod y ∈ lw_g ∧ Cond.selects y.cls y y ∈ lw_g ∧ Cond.initialized y.cls ∈ lw_g ∧ Cond.code y ycc ynL yret ∈ lw_g ∧ (y.cls ≠ "java/lang/invoke/MethodHandle" ∧ y.cls ≠ "java/lang/invoke/VarHandle" ∧ (parseMethodDescriptor y.desc).map (fun d => d.parameters.length) = some n) ∧ ∃ q : vw_C, vwCl[ci]? = some q ∧ q.1 = y.cls
def MS (y : MethodName) (ycc : ByteArray) (ynL : Nat) (yret : Option FieldType) (n : Nat) : Prop := Cond.static y ∈ lw_g ∧ Cond.initialized y.cls ∈ lw_g ∧ Cond.code y ycc ynL yret ∈ lw_g ∧ (y.cls ≠ "java/lang/invoke/MethodHandle" ∧ y.cls ≠ "java/lang/invoke/VarHandle" ∧ (parseMethodDescriptor y.desc).map (fun d => d.parameters.length) = some n)
theorem W_done {p : Program} {l : Launch} {e : Env} {R : Room} {s : State} {m : MethodId} {args : Array Value} {below : List Frame} {meth : Method} {c : Code} {Q : State → Prop} {H : Heap} {locs : List Loc} {D : va_G} {cs : Nat → ClassId} {ad sK sV : Nat → Nat} {ls : Array Slot} {st0 rest : List Value} {pr : Prop} {ov : Option Value} {σ' : Mm} {a : Array Value}
    (hr : va_Run p l e R s m args below meth c H locs 0 0 0 0 (F0 m pc ls st0) rest (QcF D cs ad sK sV w (AW ad w H.size) pr ov σ' a) (AW ad w H.size)) (hS : va_S (AW ad w s.heap.size) s.heap H locs)
    (k : ∀ (H1 : Heap) (locs1 : List Loc), pr → va_P D vwCl (wsOf cs ad σ' w) H1 → va_D (AW ad w s.heap.size) (wsOf cs ad σ' w) → va_S (AW ad w s.heap.size) s.heap H1 locs1 → okM σ' → W p l e R s m args below meth c H1 locs1 0 0 Q (F0 m (pc + 3) ls (ov.toList ++ rest))) : W p l e R s m args below meth c H locs 0 0 Q (F0 m pc ls st0) := by
  intro T hT X
  obtain ⟨v, st₀, t, T', L, h0, X', hL, e1, e2, ⟨hv, hpr, ⟨hP, hD, hK, hSx, hok⟩, hz, hk⟩, st⟩ := hr T hT X
  cases hv
  rw [h0] at hz hk
  have hsub : ∀ q, AW ad w H.size q → AW ad w s.heap.size q := fun q h => h.elim Or.inl (fun h => Or.inr (Nat.le_trans hS.1 h))
  obtain ⟨t2, a1, b1⟩ := k T'.heap (locs ++ L) hpr (by rw [e1]; exact hP) hD.aw
    ⟨Nat.le_trans hS.1 (by rw [e1]; exact hz), fun q h1 h2 => by rw [e1, hk q (Nat.lt_of_lt_of_le h1 hS.1) (fun z => h2 (hsub q z))]; exact hS.2.1 q h1 h2, fun q hq => by
      rcases List.mem_append.mp hq with h | h
      · exact hS.2.2 q h
      · exact hsub _ (hL q h)⟩ hok T' rfl X'
  exact ⟨t2, st t2 a1, b1⟩
theorem blind {av : List Value} {D : va_G} {cs : Nat → ClassId} {ad sK sV : Nat → Nat} {sz : Nat} : FrameBlind (va_Pc av (fun U => U.heap.size = sz ∧ WD D cs ad sK sV w (AW ad w sz) σ U)) := by
  intro a U g mk q
  obtain ⟨q0, q1, qP, qD, qK, qS, qo⟩ := q
  exact ⟨q0, q1, qP, qD, KX.same rfl qK, SX.same rfl qS, qo⟩
theorem pre_of {s U : State} {H : Heap} {locs : List Loc} {av : List Value} {D : va_G} {cs : Nat → ClassId} {ad sK sV : Nat → Nat} (hK : KX D cs s) (hSx : SX sK sV (AW ad w s.heap.size) s s.heap) (hP : va_P D vwCl (wsOf cs ad σ w) H) (hD : va_D (AW ad w s.heap.size) (wsOf cs ad σ w)) (hS : va_S (AW ad w s.heap.size) s.heap H locs) (ho : okM σ) (hU : U.heap = H) (hW : s.WarmedH U.vm) : va_Pc av (fun U => U.heap.size = H.size ∧ WD D cs ad sK sV w (AW ad w H.size) σ U) av.toArray U := by
  refine ⟨rfl, by rw [hU], by rw [hU]; exact hP, hD.aw, hK.warm hW, ?_, ho⟩
  rw [hU]
  exact hSx.warm hW hS.2.1 (fun q h => h.elim Or.inl (fun h => Or.inr (Nat.le_trans hS.1 h)))
theorem SW_callV (h : CX X w cc nL d ret own) {y : MethodName} {ycc : ByteArray} {ynL yd n ci idx i : Nat} {yret : Option FieldType} {pr : Prop} {ov : Option Value} {σ' : Mm} {av : (Nat → Nat) → List Value} {As rest : List Value} (hm : MV y ycc ynL yret n ci) (hl : Cond.methodLink own idx y ∈ lw_g) (hw : inW w i) (hK : Kt i = 7) (hL : Ln i = ci) (hc : CT y ycc ynL yret yd w av σ pr ov σ') (hav : av (xad X) = .ref (xad X i) :: As) (hn : As.length = n) (hd : yd + 1 ≤ d) (hnl : ynL ≤ 40) (hst : st = As.reverse ++ .ref (xad X i) :: rest) (hrs : (rest.map fun v => v.category).sum ≤ 8) (dd : decode cc pc = .ok (.invokevirtual idx, 3)) (k : pr → SW X w nL (pc + 3) lv (ov.toList ++ rest) σ') : SW X w nL pc lv st σ := by
  obtain ⟨p, l, e, R, s, m, args, below, meth, c, Q, A, D, cs, ad, sK, sV⟩ := X
  intro H locs ls hP hD hS hlv ho
  obtain ⟨hx, hb, hml, hown, hts, hKx, hSx, hA, hR, hlk, hrt⟩ := h
  subst hA
  subst hR
  obtain ⟨m1, m2, m3, m4, m5, q, m6, m7⟩ := hm
  subst hst
  subst hL
  have hws : (wsOf cs ad σ w)[i - wlo w]? = some (ad i, .inr (Ln i, (List.range (Nf (Ln i))).map (slotV ad σ (Ln i) i))) := by rw [ws_at hw, cell_obj hK]
  have hrec := va_recv hKx.1 hP m6 hws
  rw [m7] at hrec
  have hav2 : av ad = .ref (ad i) :: As := hav
  have hMet := hc l D cs ad sK sV H.size
  rw [hav2] at hMet
  refine W_done (va_runV (As := As) (rest := rest) ⟨hx, hb, hml, hown, hts⟩ hMet (cwV (C := y.cls) n hts (goodIn_g (fun _ q => q) ?_) rfl rfl rfl ⟨rfl, m5⟩ ⟨?_, ?_⟩) ⟨blind, hrec, fun U hU hW => pre_of hKx hSx hP hD hS ho hU hW⟩ rfl hn hlv.1 rfl ?_ dd ⟨Nat.zero_le _, Nat.zero_le _⟩) hS (fun H1 locs1 hpr hP1 hD1 hS1 ho1 => k hpr H1 locs1 ls hP1 hD1 hS1 hlv ho1)
  · intro w hw
    unfold wsV at hw
    rcases List.mem_append.mp hw with h | h
    · simp only [List.mem_cons, List.not_mem_nil, or_false] at h
      rcases h with h | h | h | h <;> (rw [h]; assumption)
    · rcases List.mem_cons.mp h with h | h
      · rw [h]; assumption
      · exact h
  · exact hd
  · show 8 + (ynL + 11) + 60 * yd ≤ 60 * d
    omega
  · show 2 * 0 + _ ≤ 8
    omega
theorem SW_callS (h : CX X w cc nL d ret own) {y : MethodName} {ycc : ByteArray} {ynL yd n idx : Nat} {yret : Option FieldType} {pr : Prop} {ov : Option Value} {σ' : Mm} {av : (Nat → Nat) → List Value} {As rest : List Value} (hm : MS y ycc ynL yret n) (hl : Cond.methodLink own idx y ∈ lw_g) (hc : CT y ycc ynL yret yd w av σ pr ov σ') (hav : av (xad X) = As) (hn : As.length = n) (hd : yd + 1 ≤ d) (hnl : ynL ≤ 40) (hst : st = As.reverse ++ rest) (hrs : (rest.map fun v => v.category).sum ≤ 8) (dd : decode cc pc = .ok (.invokestatic idx, 3)) (k : pr → SW X w nL (pc + 3) lv (ov.toList ++ rest) σ') : SW X w nL pc lv st σ := by
  obtain ⟨p, l, e, R, s, m, args, below, meth, c, Q, A, D, cs, ad, sK, sV⟩ := X
  intro H locs ls hP hD hS hlv ho
  obtain ⟨hx, hb, hml, hown, hts, hKx, hSx, hA, hR, hlk, hrt⟩ := h
  subst hA
  subst hR
  obtain ⟨m1, m3, m4, m5⟩ := hm
  subst hst
  have hav2 : av ad = As := hav
  have hMet := hc l D cs ad sK sV H.size
  rw [hav2] at hMet
  refine W_done (va_runS (As := As) (rest := rest) ⟨hx, hb, hml, hown, hts⟩ hMet (va_cwS n hts (goodIn_g (fun _ q => q) ?_) rfl rfl rfl m5 ⟨?_, ?_⟩) ⟨blind, fun U hU hW => pre_of hKx hSx hP hD hS ho hU hW⟩ rfl hn hlv.1 rfl ?_ dd ⟨Nat.zero_le _, Nat.zero_le _⟩) hS (fun H1 locs1 hpr hP1 hD1 hS1 ho1 => k hpr H1 locs1 ls hP1 hD1 hS1 hlv ho1)
  · intro w hw
    unfold va_wsS at hw
    rcases List.mem_append.mp hw with h | h
    · simp only [List.mem_cons, List.not_mem_nil, or_false] at h
      rcases h with h | h | h <;> (rw [h]; assumption)
    · rcases List.mem_cons.mp h with h | h
      · rw [h]; assumption
      · exact h
  · exact hd
  · show 8 + (ynL + 11) + 60 * yd ≤ 60 * d
    omega
  · show 2 * 0 + _ ≤ 8
    omega
theorem SW_callSN (h : CX X w cc nL d ret RX6) {ycc : ByteArray} {ynL yd n : Nat} {yret : Option FieldType} {pr : Prop} {ov : Option Value} {σ' : Mm} {av : (Nat → Nat) → List Value} {As rest : List Value} (hm : MS yX10_isNumber ycc ynL yret n) (hc : CT yX10_isNumber ycc ynL yret yd w av σ pr ov σ') (hav : av (xad X) = As) (hn : As.length = n) (hd : yd + 1 ≤ d) (hnl : ynL ≤ 40) (hst : st = As.reverse ++ rest) (hrs : (rest.map fun v => v.category).sum ≤ 8) (dd : decode cc pc = .ok (.invokestatic 21, 3)) (k : pr → SW X w nL (pc + 3) lv (ov.toList ++ rest) σ') : SW X w nL pc lv st σ := by
  obtain ⟨p, l, e, R, s, m, args, below, meth, c, Q, A, D, cs, ad, sK, sV⟩ := X
  intro H locs ls hP hD hS hlv ho
  obtain ⟨hx, hb, hml, hown, hts, hKx, hSx, hA, hR, hlk, hrt⟩ := h
  subst hA
  subst hR
  obtain ⟨m1, m3, m4, m5⟩ := hm
  subst hst
  have hav2 : av ad = As := hav
  have hMet := hc l D cs ad sK sV H.size
  rw [hav2] at hMet
  refine W_done (va_runSN (As := As) (rest := rest) ⟨hx, hb, hml, hown, hts⟩ hMet ⟨va_cnB n hts (goodIn_g (fun _ q => q) ?_) rfl rfl rfl hKx.2 (hts _ m3) m5 ⟨?_, ?_⟩, hts _ m1, trivial⟩ ⟨blind, fun U hU hW => pre_of hKx hSx hP hD hS ho hU hW⟩ rfl hn hlv.1 rfl ?_ dd ⟨Nat.zero_le _, Nat.zero_le _⟩) hS (fun H1 locs1 hpr hP1 hD1 hS1 ho1 => k hpr H1 locs1 ls hP1 hD1 hS1 hlv ho1)
  · intro w hw
    rcases List.mem_cons.mp hw with h | h
    · rw [h]; assumption
    · exact h
  · exact hd
  · show 8 + (ynL + 11) + 60 * yd ≤ 60 * d
    omega
  · show 2 * 0 + _ ≤ 8
    omega
end SWmem
