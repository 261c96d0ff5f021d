def bindM {α : Type} {β : Type} (v : α) (f : α → β) : β := f v
def LF : Nat := 1000000
abbrev IsO (w ci i : Nat) : Prop := inW w i ∧ Kt i = 7 ∧ Ln i = ci
abbrev IsA (w kt n i : Nat) : Prop := inW w i ∧ Kt i = kt ∧ Ln i = n
def fgt : List (Option Value) → List Bool → List (Option Value)
  | [], _ => []
  | o :: t, [] => o :: t
  | o :: t, true :: b => o :: fgt t b
  | _ :: t, false :: b => none :: fgt t b
theorem fgt_get : ∀ {lv : List (Option Value)} {b : List Bool} {i : Nat} {v : Value}, (fgt lv b)[i]? = some (some v) → lv[i]? = some (some v)
  | [], _, i, v, h => by simp [fgt] at h
  | o :: t, [], i, v, h => h
  | o :: t, true :: b, i, v, h => by
    cases i with
    | zero => simpa [fgt] using h
    | succ i => simp [fgt] at h ⊢; exact fgt_get h
  | o :: t, false :: b, i, v, h => by
    cases i with
    | zero => simp [fgt] at h
    | succ i => simp [fgt] at h ⊢; exact fgt_get h
def lvA : List Value → List (Option Value)
  | [] => []
  | v :: t => if v.category = 2 then some v :: none :: lvA t else some v :: lvA t
theorem lvA_get : ∀ (vs : List Value) (b : Nat) {i : Nat} {v : Value}, (lvA vs)[i]? = some (some v) → (b + i, v) ∈ lv_args b vs
  | [], b, i, v, h => by simp [lvA] at h
  | u :: t, b, i, v, h => by
    unfold lvA at h
    unfold lv_args
    by_cases hc : u.category = 2
    · rw [if_pos hc] at h
      rw [if_pos hc]
      match i, h with
      | 0, h => simp at h; rw [h]; exact List.mem_cons_self
      | 1, h => simp at h
      | i + 2, h =>
        simp at h
        have := lvA_get t (b + 2) h
        have e : b + 2 + i = b + (i + 2) := by omega
        rw [e] at this
        exact List.mem_cons_of_mem _ this
    · rw [if_neg hc] at h
      rw [if_neg hc]
      match i, h with
      | 0, h => simp at h; rw [h]; exact List.mem_cons_self
      | i + 1, h =>
        simp at h
        have := lvA_get t (b + 1) h
        have e : b + 1 + i = b + (i + 1) := by omega
        rw [e] at this
        exact List.mem_cons_of_mem _ this
theorem MetJ {y : MethodName} {cc : ByteArray} {nL d w : Nat} {ret : Option FieldType} {own : String} {av : (Nat → Nat) → List Value} {σ σ' : Mm} {pr : Prop} {ov : Option Value} (pad : Nat)
    (hy : plainFor y = true) (ho : y.cls = own) (hn : ∀ ad, (lg_sl (av ad)).length ≤ nL)
    (body : ∀ X : Cx, CX X w cc nL d ret own → RX X w pr ov σ' → okM σ → SW X w nL 0 (lvA (av (xad X)) ++ List.replicate pad none) [] σ) : CT y cc nL ret d w av σ pr ov σ' := by
  refine MetI (lv := fun ad => lvA (av ad) ++ List.replicate pad none) hy ho hn (fun ad i v h => ?_) (fun X h hR => SW_ok (fun ok => body X h hR ok))
  have e : (lvA (av ad))[i]? = some (some v) := by
    rw [List.getElem?_append] at h
    split at h
    · exact h
    · rw [List.getElem?_replicate] at h
      split at h <;> simp at h
  have := lvA_get (av ad) 0 e
  rwa [Nat.zero_add] at this
def DT (c : ByteArray) (tb : List (Nat × Instr × Nat)) : Prop := ∀ q ∈ tb, decode c q.1 = .ok q.2
theorem DT.of {c : ByteArray} {tb : List (Nat × Instr × Nat)} (h : tb.all (fun q => decide (decode c q.1 = .ok q.2)) = true) : DT c tb := fun q hq => of_decide_eq_true (List.all_eq_true.mp h q hq)
theorem dt {c : ByteArray} {tb : List (Nat × Instr × Nat)} (h : DT c tb) (k : Nat) {pc : Nat} {i : Instr} {n : Nat} (e : tb[k]? = some (pc, i, n)) : decode c pc = .ok (i, n) := h (pc, i, n) (List.mem_of_getElem? e)
/-- a field: of whole numbers, a fixed reference, a changing one -/
abbrev FI (ci k : Nat) (T : u_T) (ty : Nat → FieldType) : Prop := k < Nf ci ∧ Sk ci k = 0 ∧ (T k).2.2.2 = false ∧ ty k = .int
abbrev FZ (ci k : Nat) (T : u_T) (ty : Nat → FieldType) : Prop := k < Nf ci ∧ Sk ci k = 0 ∧ (T k).2.2.2 = false ∧ ty k = .boolean
abbrev FR (ci k : Nat) : Prop := k < Nf ci ∧ Sk ci k = 1
abbrev FD (ci k : Nat) (T : u_T) (ty : Nat → FieldType) (E : String) : Prop := k < Nf ci ∧ Sk ci k = 2 ∧ (T k).2.2.2 = false ∧ ty k = .object E
section SWshort
variable {X : Cx} {w nL pc d : Nat} {cc : ByteArray} {own : String} {ret : Option FieldType} {lv : List (Option Value)} {st : List Value} {σ : Mm}
theorem SW_fgt {lv2 : List (Option Value)} (b : List Bool) (e : fgt lv b = lv2) (k : SW X w nL pc lv2 st σ) : SW X w nL pc lv st σ := by
  subst e
  obtain ⟨p, l, e, R, s, m, args, below, meth, c, Q, A, D, cs, ad, sK, sV⟩ := X
  exact fun H locs ls hP hD hS h2 ho => k H locs ls hP hD hS ⟨h2.1, h2.2.1, fun i v hv => h2.2.2 i v (fgt_get hv)⟩ ho
theorem SW_bm {ρ : Type} {v : Mm} {f : Mm → Option ρ} {r : ρ} (hf : bindM v f = some r) (k : ∀ σ1, okM σ1 → f σ1 = some r → SW X w nL pc lv st σ1) : SW X w nL pc lv st v := SW_ok (fun ho => k v ho hf)
theorem SW_vi {ρ : Type} {x : Int} {f : Int → Option ρ} {r : ρ} (hf : bindM x f = some r) (hx : r32 x) (k : ∀ v, r32 v → f v = some r → SW X w nL pc lv (.int (i32 v) :: st) σ) : SW X w nL pc lv (.int (i32 x) :: st) σ := k x hx hf
theorem SW_vu {ρ : Type} {x : Int} {f : Int → Option ρ} {r : ρ} (hf : bindM x f = some r) (k : ∀ v, f v = some r → SW X w nL pc lv (.int (i32 v) :: st) σ) : SW X w nL pc lv (.int (i32 x) :: st) σ := k x hf
theorem SW_vl {ρ : Type} {x : Int} {f : Int → Option ρ} {r : ρ} (hf : bindM x f = some r) (hx : r64 x) (k : ∀ v, r64 v → f v = some r → SW X w nL pc lv (.long (i64 v) :: st) σ) : SW X w nL pc lv (.long (i64 x) :: st) σ := k x hx hf
theorem SW_vlu {ρ : Type} {x : Int} {f : Int → Option ρ} {r : ρ} (hf : bindM x f = some r) (k : ∀ v, f v = some r → SW X w nL pc lv (.long (i64 v) :: st) σ) : SW X w nL pc lv (.long (i64 x) :: st) σ := k x hf
theorem gI (h : CX X w cc nL d ret own) {i k ci idx : Nat} {C : String} {T : u_T} {ty : Nat → FieldType} (hcf : CF ci C T ty) (p : IsO w ci i) (f : FI ci k T ty) (fl : Cond.fieldLink own idx (T k).1 (T k).2.1 (T k).2.2.1 ∈ lw_g) (dd : decode cc pc = .ok (.getfield idx, 3)) (kk : SW X w nL (pc + 3) lv (.int (i32 (σ i k)) :: st) σ) : SW X w nL pc lv (.ref (xad X i) :: st) σ := SW_getI h hcf p.1 p.2.1 p.2.2 f.1 f.2.1 fl dd kk
theorem gZ (h : CX X w cc nL d ret own) {i k ci idx : Nat} {C : String} {T : u_T} {ty : Nat → FieldType} (hcf : CF ci C T ty) (p : IsO w ci i) (f : FZ ci k T ty) (fl : Cond.fieldLink own idx (T k).1 (T k).2.1 (T k).2.2.1 ∈ lw_g) (dd : decode cc pc = .ok (.getfield idx, 3)) (kk : SW X w nL (pc + 3) lv (.int (i32 (σ i k)) :: st) σ) : SW X w nL pc lv (.ref (xad X i) :: st) σ := SW_getI h hcf p.1 p.2.1 p.2.2 f.1 f.2.1 fl dd kk
theorem gR (h : CX X w cc nL d ret own) {i k ci idx j : Nat} {C : String} {T : u_T} {ty : Nat → FieldType} (hcf : CF ci C T ty) (p : IsO w ci i) (f : FR ci k) (hj : Rf i k = j) (fl : Cond.fieldLink own idx (T k).1 (T k).2.1 (T k).2.2.1 ∈ lw_g) (dd : decode cc pc = .ok (.getfield idx, 3)) (kk : SW X w nL (pc + 3) lv (.ref (xad X j) :: st) σ) : SW X w nL pc lv (.ref (xad X i) :: st) σ := SW_getR h hcf p.1 p.2.1 p.2.2 f.1 f.2 hj fl dd kk
theorem gD (h : CX X w cc nL d ret own) {i k ci idx : Nat} {C E : String} {T : u_T} {ty : Nat → FieldType} (hcf : CF ci C T ty) (p : IsO w ci i) (f : FD ci k T ty E) (fl : Cond.fieldLink own idx (T k).1 (T k).2.1 (T k).2.2.1 ∈ lw_g) (dd : decode cc pc = .ok (.getfield idx, 3)) (kk : SW X w nL (pc + 3) lv (dref X (σ i k) :: st) σ) : SW X w nL pc lv (.ref (xad X i) :: st) σ := SW_getD h hcf p.1 p.2.1 p.2.2 f.1 f.2.1 fl dd kk
/-- the number is looked at: it is an object of the class -/
theorem SW_isO {ρ : Type} {FA : Option ρ} {r : ρ} {z : Int} {ci : Nat} (hf : (if 0 ≤ z ∧ IsO w ci z.toNat then FA else none) = some r) (k : IsO w ci z.toNat → FA = some r → SW X w nL pc lv (.ref (xad X z.toNat) :: st) σ) : SW X w nL pc lv (dref X z :: st) σ := by
  by_cases q : 0 ≤ z ∧ IsO w ci z.toNat
  · rw [if_pos q] at hf
    exact SW_eq (by rw [dref_pos q.1]) (k q.2 hf)
  · rw [if_neg q] at hf; cases hf
theorem SW_isN (h : CX X w cc nL d ret own) {ρ : Type} {FA FB : Option ρ} {r : ρ} {z : Int} {off : Int} {tgt : Nat} (dd : decode cc pc = .ok (.ifnull off, 3)) (ht : (pc : Int) + off = (tgt : Int)) (hf : (if z < 0 then FA else FB) = some r) (kt : FA = some r → SW X w nL tgt lv st σ) (kf : FB = some r → SW X w nL (pc + 3) lv st σ) : SW X w nL pc lv (dref X z :: st) σ := by
  by_cases q : z < 0
  · rw [if_pos q] at hf
    exact SW_eq (by rw [dref_neg q]) (SW_ifnullN h dd ht (kt hf))
  · rw [if_neg q] at hf
    exact SW_eq (by rw [dref_pos (by omega)]) (SW_ifnullR h dd (kf hf))
theorem pI (h : CX X w cc nL d ret own) {i k ci idx : Nat} {C : String} {T : u_T} {ty : Nat → FieldType} {x : Int} (hcf : CF ci C T ty) (p : IsO w ci i) (f : FI ci k T ty) (hx : r32 x) (fl : Cond.fieldLink own idx (T k).1 (T k).2.1 (T k).2.2.1 ∈ lw_g) (dd : decode cc pc = .ok (.putfield idx, 3)) (kk : SW X w nL (pc + 3) lv st (st2 σ i k x)) : SW X w nL pc lv (.int (i32 x) :: .ref (xad X i) :: st) σ := SW_putI h hcf p.1 p.2.1 p.2.2 f.1 f.2.1 (fun _ => hx) fl f.2.2.1 f.2.2.2 dd kk
theorem pZ (h : CX X w cc nL d ret own) {i k ci idx : Nat} {C : String} {T : u_T} {ty : Nat → FieldType} {x : Int} (hcf : CF ci C T ty) (p : IsO w ci i) (f : FZ ci k T ty) (hx : x = 0 ∨ x = 1) (fl : Cond.fieldLink own idx (T k).1 (T k).2.1 (T k).2.2.1 ∈ lw_g) (dd : decode cc pc = .ok (.putfield idx, 3)) (kk : SW X w nL (pc + 3) lv st (st2 σ i k x)) : SW X w nL pc lv (.int (i32 x) :: .ref (xad X i) :: st) σ := SW_putZ h hcf p.1 p.2.1 p.2.2 f.1 f.2.1 hx fl f.2.2.1 f.2.2.2 dd kk
theorem pD (h : CX X w cc nL d ret own) {i k ci idx j : Nat} {C E : String} {T : u_T} {ty : Nat → FieldType} (hcf : CF ci C T ty) (p : IsO w ci i) (f : FD ci k T ty E) (hj : j < 1000) (fl : Cond.fieldLink own idx (T k).1 (T k).2.1 (T k).2.2.1 ∈ lw_g) (dd : decode cc pc = .ok (.putfield idx, 3)) (kk : SW X w nL (pc + 3) lv st (st2 σ i k (j : Int))) : SW X w nL pc lv (.ref (xad X j) :: .ref (xad X i) :: st) σ := SW_putD h hcf p.1 p.2.1 p.2.2 f.1 f.2.1 hj fl f.2.2.1 f.2.2.2 dd kk
theorem pN (h : CX X w cc nL d ret own) {i k ci idx : Nat} {C E : String} {T : u_T} {ty : Nat → FieldType} (hcf : CF ci C T ty) (p : IsO w ci i) (f : FD ci k T ty E) (fl : Cond.fieldLink own idx (T k).1 (T k).2.1 (T k).2.2.1 ∈ lw_g) (dd : decode cc pc = .ok (.putfield idx, 3)) (kk : SW X w nL (pc + 3) lv st (st2 σ i k (-1))) : SW X w nL pc lv (.null :: .ref (xad X i) :: st) σ := SW_putN h hcf p.1 p.2.1 p.2.2 f.1 f.2.1 fl f.2.2.1 f.2.2.2 dd kk

theorem aI (h : CX X w cc nL d ret own) {ρ : Type} {FA : Option ρ} {r : ρ} {i n : Nat} {x : Int} (p : IsA w 0 n i) (dd : decode cc pc = .ok (.iaload, 1)) (hf : (if 0 ≤ x ∧ x < n then FA else none) = some r) (kk : FA = some r → SW X w nL (pc + 1) lv (.int (i32 (σ i x.toNat)) :: st) σ) : SW X w nL pc lv (.int (i32 x) :: .ref (xad X i) :: st) σ := by
  by_cases q : 0 ≤ x ∧ x < n
  · rw [if_pos q] at hf
    exact SW_iald h p.1 p.2.1 q.1 (by rw [p.2.2]; exact q.2) dd (kk hf)
  · rw [if_neg q] at hf; cases hf
theorem aIk (h : CX X w cc nL d ret own) {i n : Nat} {x : Int} (p : IsA w 0 n i) (q : 0 ≤ x ∧ x < n) (dd : decode cc pc = .ok (.iaload, 1)) (kk : SW X w nL (pc + 1) lv (.int (i32 (σ i x.toNat)) :: st) σ) : SW X w nL pc lv (.int (i32 x) :: .ref (xad X i) :: st) σ := SW_iald h p.1 p.2.1 q.1 (by rw [p.2.2]; exact q.2) dd kk
theorem aB (h : CX X w cc nL d ret own) {ρ : Type} {FA : Option ρ} {r : ρ} {i n : Nat} {x : Int} (p : IsA w 1 n i) (dd : decode cc pc = .ok (.baload, 1)) (hf : (if 0 ≤ x ∧ x < n then FA else none) = some r) (kk : FA = some r → SW X w nL (pc + 1) lv (.int (i32 (σ i x.toNat)) :: st) σ) : SW X w nL pc lv (.int (i32 x) :: .ref (xad X i) :: st) σ := by
  by_cases q : 0 ≤ x ∧ x < n
  · rw [if_pos q] at hf
    exact SW_bald h p.1 p.2.1 q.1 (by rw [p.2.2]; exact q.2) dd (kk hf)
  · rw [if_neg q] at hf; cases hf
theorem aBk (h : CX X w cc nL d ret own) {i n : Nat} {x : Int} (p : IsA w 1 n i) (q : 0 ≤ x ∧ x < n) (dd : decode cc pc = .ok (.baload, 1)) (kk : SW X w nL (pc + 1) lv (.int (i32 (σ i x.toNat)) :: st) σ) : SW X w nL pc lv (.int (i32 x) :: .ref (xad X i) :: st) σ := SW_bald h p.1 p.2.1 q.1 (by rw [p.2.2]; exact q.2) dd kk
theorem aZ (h : CX X w cc nL d ret own) {ρ : Type} {FA : Option ρ} {r : ρ} {i n : Nat} {x : Int} (p : IsA w 2 n i) (dd : decode cc pc = .ok (.baload, 1)) (hf : (if 0 ≤ x ∧ x < n then FA else none) = some r) (kk : FA = some r → SW X w nL (pc + 1) lv (.int (i32 (σ i x.toNat)) :: st) σ) : SW X w nL pc lv (.int (i32 x) :: .ref (xad X i) :: st) σ := by
  by_cases q : 0 ≤ x ∧ x < n
  · rw [if_pos q] at hf
    exact SW_zald h p.1 p.2.1 q.1 (by rw [p.2.2]; exact q.2) dd (kk hf)
  · rw [if_neg q] at hf; cases hf
theorem aZk (h : CX X w cc nL d ret own) {i n : Nat} {x : Int} (p : IsA w 2 n i) (q : 0 ≤ x ∧ x < n) (dd : decode cc pc = .ok (.baload, 1)) (kk : SW X w nL (pc + 1) lv (.int (i32 (σ i x.toNat)) :: st) σ) : SW X w nL pc lv (.int (i32 x) :: .ref (xad X i) :: st) σ := SW_zald h p.1 p.2.1 q.1 (by rw [p.2.2]; exact q.2) dd kk
theorem aL (h : CX X w cc nL d ret own) {ρ : Type} {FA : Option ρ} {r : ρ} {i n : Nat} {x : Int} (p : IsA w 3 n i) (dd : decode cc pc = .ok (.laload, 1)) (hf : (if 0 ≤ x ∧ x < n then FA else none) = some r) (kk : FA = some r → SW X w nL (pc + 1) lv (.long (i64 (σ i x.toNat)) :: st) σ) : SW X w nL pc lv (.int (i32 x) :: .ref (xad X i) :: st) σ := by
  by_cases q : 0 ≤ x ∧ x < n
  · rw [if_pos q] at hf
    exact SW_lald h p.1 p.2.1 q.1 (by rw [p.2.2]; exact q.2) dd (kk hf)
  · rw [if_neg q] at hf; cases hf
theorem aLk (h : CX X w cc nL d ret own) {i n : Nat} {x : Int} (p : IsA w 3 n i) (q : 0 ≤ x ∧ x < n) (dd : decode cc pc = .ok (.laload, 1)) (kk : SW X w nL (pc + 1) lv (.long (i64 (σ i x.toNat)) :: st) σ) : SW X w nL pc lv (.int (i32 x) :: .ref (xad X i) :: st) σ := SW_lald h p.1 p.2.1 q.1 (by rw [p.2.2]; exact q.2) dd kk
theorem aR (h : CX X w cc nL d ret own) {ρ : Type} {FA : Option ρ} {r : ρ} {i n t : Nat} {x : Int} (ht : t = 4 ∨ t = 5 ∨ t = 6) (p : IsA w t n i) {j : Nat} (hj : Rf i x.toNat = j) (dd : decode cc pc = .ok (.aaload, 1)) (hf : (if 0 ≤ x ∧ x < n then FA else none) = some r) (kk : 0 ≤ x ∧ x < n → FA = some r → SW X w nL (pc + 1) lv (.ref (xad X j) :: st) σ) : SW X w nL pc lv (.int (i32 x) :: .ref (xad X i) :: st) σ := by
  by_cases q : 0 ≤ x ∧ x < n
  · rw [if_pos q] at hf
    exact SW_aald h p.1 p.2.1 ht q.1 (by rw [p.2.2]; exact q.2) hj dd (kk q hf)
  · rw [if_neg q] at hf; cases hf
theorem aLen (h : CX X w cc nL d ret own) {i n t : Nat} (ht : t < 3) (p : IsA w t n i) (dd : decode cc pc = .ok (.arraylength, 1)) (kk : SW X w nL (pc + 1) lv (.int (i32 (n : Nat)) :: st) σ) : SW X w nL pc lv (.ref (xad X i) :: st) σ := SW_alen h p.1 (by rw [p.2.1]; exact ht) dd (by rw [p.2.2]; exact kk)

theorem sI (h : CX X w cc nL d ret own) {ρ : Type} {FA : Option ρ} {r : ρ} {i n : Nat} {j x : Int} (p : IsA w 0 n i) (hx : r32 x) (dd : decode cc pc = .ok (.iastore, 1)) (hf : (if 0 ≤ j ∧ j < n then FA else none) = some r) (kk : FA = some r → SW X w nL (pc + 1) lv st (st2 σ i j.toNat (x))) : SW X w nL pc lv (.int (i32 x) :: .int (i32 j) :: .ref (xad X i) :: st) σ := by
  by_cases q : 0 ≤ j ∧ j < n
  · rw [if_pos q] at hf
    exact SW_iast h p.1 p.2.1 q.1 (by rw [p.2.2]; exact q.2) (fun _ => hx) dd (kk hf)
  · rw [if_neg q] at hf; cases hf
theorem sIk (h : CX X w cc nL d ret own) {i n : Nat} {j x : Int} (p : IsA w 0 n i) (q : 0 ≤ j ∧ j < n) (hx : r32 x) (dd : decode cc pc = .ok (.iastore, 1)) (kk : SW X w nL (pc + 1) lv st (st2 σ i j.toNat (x))) : SW X w nL pc lv (.int (i32 x) :: .int (i32 j) :: .ref (xad X i) :: st) σ := SW_iast h p.1 p.2.1 q.1 (by rw [p.2.2]; exact q.2) (fun _ => hx) dd kk
theorem sB (h : CX X w cc nL d ret own) {ρ : Type} {FA : Option ρ} {r : ρ} {i n : Nat} {j x : Int} (p : IsA w 1 n i)  (dd : decode cc pc = .ok (.bastore, 1)) (hf : (if 0 ≤ j ∧ j < n then FA else none) = some r) (kk : FA = some r → SW X w nL (pc + 1) lv st (st2 σ i j.toNat (nbI x))) : SW X w nL pc lv (.int (i32 x) :: .int (i32 j) :: .ref (xad X i) :: st) σ := by
  by_cases q : 0 ≤ j ∧ j < n
  · rw [if_pos q] at hf
    exact SW_bast h p.1 p.2.1 q.1 (by rw [p.2.2]; exact q.2)  dd (kk hf)
  · rw [if_neg q] at hf; cases hf
theorem sBk (h : CX X w cc nL d ret own) {i n : Nat} {j x : Int} (p : IsA w 1 n i) (q : 0 ≤ j ∧ j < n)  (dd : decode cc pc = .ok (.bastore, 1)) (kk : SW X w nL (pc + 1) lv st (st2 σ i j.toNat (nbI x))) : SW X w nL pc lv (.int (i32 x) :: .int (i32 j) :: .ref (xad X i) :: st) σ := SW_bast h p.1 p.2.1 q.1 (by rw [p.2.2]; exact q.2)  dd kk
theorem sZ (h : CX X w cc nL d ret own) {ρ : Type} {FA : Option ρ} {r : ρ} {i n : Nat} {j x : Int} (p : IsA w 2 n i)  (dd : decode cc pc = .ok (.bastore, 1)) (hf : (if 0 ≤ j ∧ j < n then FA else none) = some r) (kk : FA = some r → SW X w nL (pc + 1) lv st (st2 σ i j.toNat (nzI x))) : SW X w nL pc lv (.int (i32 x) :: .int (i32 j) :: .ref (xad X i) :: st) σ := by
  by_cases q : 0 ≤ j ∧ j < n
  · rw [if_pos q] at hf
    exact SW_zast h p.1 p.2.1 q.1 (by rw [p.2.2]; exact q.2)  dd (kk hf)
  · rw [if_neg q] at hf; cases hf
theorem sZk (h : CX X w cc nL d ret own) {i n : Nat} {j x : Int} (p : IsA w 2 n i) (q : 0 ≤ j ∧ j < n)  (dd : decode cc pc = .ok (.bastore, 1)) (kk : SW X w nL (pc + 1) lv st (st2 σ i j.toNat (nzI x))) : SW X w nL pc lv (.int (i32 x) :: .int (i32 j) :: .ref (xad X i) :: st) σ := SW_zast h p.1 p.2.1 q.1 (by rw [p.2.2]; exact q.2)  dd kk
theorem sL (h : CX X w cc nL d ret own) {ρ : Type} {FA : Option ρ} {r : ρ} {i n : Nat} {j x : Int} (p : IsA w 3 n i) (hx : r64 x) (dd : decode cc pc = .ok (.lastore, 1)) (hf : (if 0 ≤ j ∧ j < n then FA else none) = some r) (kk : FA = some r → SW X w nL (pc + 1) lv st (st2 σ i j.toNat x)) : SW X w nL pc lv (.long (i64 x) :: .int (i32 j) :: .ref (xad X i) :: st) σ := by
  by_cases q : 0 ≤ j ∧ j < n
  · rw [if_pos q] at hf
    exact SW_last h p.1 p.2.1 q.1 (by rw [p.2.2]; exact q.2) (fun _ => hx) dd (kk hf)
  · rw [if_neg q] at hf; cases hf
theorem okI (ok : okM σ) (i k : Nat) (h : ¬ Kt i = 3) : r32 (σ i k) := (ok i k).2 h
theorem okL (ok : okM σ) (i k : Nat) (h : Kt i = 3) : r64 (σ i k) := (ok i k).1 h
theorem IsO.n3 {w ci i : Nat} (p : IsO w ci i) : ¬ Kt i = 3 := by rw [p.2.1]; decide
theorem IsA.n3 {w kt n i : Nat} (p : IsA w kt n i) (h : ¬ kt = 3) : ¬ Kt i = 3 := by rw [p.2.1]; exact h
theorem cV (h : CX X w cc nL d ret own) {y : MethodName} {ycc : ByteArray} {ynL yd n ci idx i : Nat} {yret : Option FieldType} {pr : Prop} {v : Value} {σ' : Mm} {av : (Nat → Nat) → List Value} (As rest : List Value) (hm : MV y ycc ynL yret n ci) (hl : Cond.methodLink own idx y ∈ lw_g) (p : IsO w ci i) (hc : CT y ycc ynL yret yd w av σ pr (some v) σ') (hav : av (xad X) = .ref (xad X i) :: As) (hn : As.length = n) (hd : yd + 1 ≤ d) (hnl : ynL ≤ 40) (hst : st = As.reverse ++ .ref (xad X i) :: rest) (hrs : (rest.map fun v => v.category).sum ≤ 8) (dd : decode cc pc = .ok (.invokevirtual idx, 3)) (k : pr → SW X w nL (pc + 3) lv (v :: rest) σ') : SW X w nL pc lv st σ := SW_callV h hm hl p.1 p.2.1 p.2.2 hc hav hn hd hnl hst hrs dd k
theorem cVv (h : CX X w cc nL d ret own) {y : MethodName} {ycc : ByteArray} {ynL yd n ci idx i : Nat} {yret : Option FieldType} {pr : Prop} {σ' : Mm} {av : (Nat → Nat) → List Value} (As rest : List Value) (hm : MV y ycc ynL yret n ci) (hl : Cond.methodLink own idx y ∈ lw_g) (p : IsO w ci i) (hc : CT y ycc ynL yret yd w av σ pr none σ') (hav : av (xad X) = .ref (xad X i) :: As) (hn : As.length = n) (hd : yd + 1 ≤ d) (hnl : ynL ≤ 40) (hst : st = As.reverse ++ .ref (xad X i) :: rest) (hrs : (rest.map fun v => v.category).sum ≤ 8) (dd : decode cc pc = .ok (.invokevirtual idx, 3)) (k : pr → SW X w nL (pc + 3) lv rest σ') : SW X w nL pc lv st σ := SW_callV h hm hl p.1 p.2.1 p.2.2 hc hav hn hd hnl hst hrs dd k
theorem cS (h : CX X w cc nL d ret own) {y : MethodName} {ycc : ByteArray} {ynL yd n idx : Nat} {yret : Option FieldType} {pr : Prop} {v : Value} {σ' : Mm} {av : (Nat → Nat) → List Value} (As rest : List Value) (hm : MS y ycc ynL yret n) (hl : Cond.methodLink own idx y ∈ lw_g) (hc : CT y ycc ynL yret yd w av σ pr (some v) σ') (hav : av (xad X) = As) (hn : As.length = n) (hd : yd + 1 ≤ d) (hnl : ynL ≤ 40) (hst : st = As.reverse ++ rest) (hrs : (rest.map fun v => v.category).sum ≤ 8) (dd : decode cc pc = .ok (.invokestatic idx, 3)) (k : pr → SW X w nL (pc + 3) lv (v :: rest) σ') : SW X w nL pc lv st σ := SW_callS h hm hl hc hav hn hd hnl hst hrs dd k
theorem cSv (h : CX X w cc nL d ret own) {y : MethodName} {ycc : ByteArray} {ynL yd n idx : Nat} {yret : Option FieldType} {pr : Prop} {σ' : Mm} {av : (Nat → Nat) → List Value} (As rest : List Value) (hm : MS y ycc ynL yret n) (hl : Cond.methodLink own idx y ∈ lw_g) (hc : CT y ycc ynL yret yd w av σ pr none σ') (hav : av (xad X) = As) (hn : As.length = n) (hd : yd + 1 ≤ d) (hnl : ynL ≤ 40) (hst : st = As.reverse ++ rest) (hrs : (rest.map fun v => v.category).sum ≤ 8) (dd : decode cc pc = .ok (.invokestatic idx, 3)) (k : pr → SW X w nL (pc + 3) lv rest σ') : SW X w nL pc lv st σ := SW_callS h hm hl hc hav hn hd hnl hst hrs dd k
theorem cSN (h : CX X w cc nL d ret RX6) {ycc : ByteArray} {ynL yd n : Nat} {yret : Option FieldType} {pr : Prop} {v : Value} {σ' : Mm} {av : (Nat → Nat) → List Value} (As rest : List Value) (hm : MS yX10_isNumber ycc ynL yret n) (hc : CT yX10_isNumber ycc ynL yret yd w av σ pr (some v) σ') (hav : av (xad X) = As) (hn : As.length = n) (hd : yd + 1 ≤ d) (hnl : ynL ≤ 40) (hst : st = As.reverse ++ rest) (hrs : (rest.map fun v => v.category).sum ≤ 8) (dd : decode cc pc = .ok (.invokestatic 21, 3)) (k : pr → SW X w nL (pc + 3) lv (v :: rest) σ') : SW X w nL pc lv st σ := SW_callSN h hm hc hav hn hd hnl hst hrs dd k

def b0S {R ρ : Type} (o : Option (R ⊕ (Unit))) (g : R → Option ρ) (f : Option ρ) : Option ρ := match o with
  | some (.inl x) => g x
  | some (.inr ()) => f
  | none => none
theorem b0S_of {R ρ : Type} {o : Option (R ⊕ (Unit))} {g : R → Option ρ} {f : Option ρ} {r : ρ} (h : b0S o g f = some r) : ∃ x, o = some x ∧ (∀ y, x = .inl y → g y = some r) ∧ (x = .inr () → f = some r) := by
  match o, h with
  | some (.inl y), h => exact ⟨_, rfl, fun z e => (by cases e; exact h), (by intro e; cases e)⟩
  | some (.inr q), h => exact ⟨_, rfl, fun z e => (by cases e), (by intro e; cases e; exact h)⟩
def b1 {ρ : Type} (o : Option (Int)) (f : Int → Option ρ) : Option ρ := match o with
  | some a1 => f a1
  | none => none
theorem b1_of {ρ : Type} {o : Option (Int)} {f : Int → Option ρ} {r : ρ} (h : b1 o f = some r) : ∃ (a1 : Int), o = some a1 ∧ f a1 = some r := by
  match o, h with
  | some a1, h => exact ⟨a1, rfl, h⟩
def b1S {R ρ : Type} (o : Option (R ⊕ (Int))) (g : R → Option ρ) (f : Int → Option ρ) : Option ρ := match o with
  | some (.inl x) => g x
  | some (.inr a1) => f a1
  | none => none
theorem b1S_of {R ρ : Type} {o : Option (R ⊕ (Int))} {g : R → Option ρ} {f : Int → Option ρ} {r : ρ} (h : b1S o g f = some r) : ∃ x, o = some x ∧ (∀ y, x = .inl y → g y = some r) ∧ (∀ (a1 : Int), x = .inr a1 → f a1 = some r) := by
  match o, h with
  | some (.inl y), h => exact ⟨_, rfl, fun z e => (by cases e; exact h), fun a1 => (by intro e; cases e)⟩
  | some (.inr q), h => exact ⟨_, rfl, fun z e => (by cases e), fun a1 => (by intro e; cases e; exact h)⟩
def b2 {ρ : Type} (o : Option (Int × Int)) (f : Int → Int → Option ρ) : Option ρ := match o with
  | some (a1, a2) => f a1 a2
  | none => none
theorem b2_of {ρ : Type} {o : Option (Int × Int)} {f : Int → Int → Option ρ} {r : ρ} (h : b2 o f = some r) : ∃ (a1 : Int) (a2 : Int), o = some (a1, a2) ∧ f a1 a2 = some r := by
  match o, h with
  | some (a1, a2), h => exact ⟨a1, a2, rfl, h⟩
def b2S {R ρ : Type} (o : Option (R ⊕ (Int × Int))) (g : R → Option ρ) (f : Int → Int → Option ρ) : Option ρ := match o with
  | some (.inl x) => g x
  | some (.inr (a1, a2)) => f a1 a2
  | none => none
theorem b2S_of {R ρ : Type} {o : Option (R ⊕ (Int × Int))} {g : R → Option ρ} {f : Int → Int → Option ρ} {r : ρ} (h : b2S o g f = some r) : ∃ x, o = some x ∧ (∀ y, x = .inl y → g y = some r) ∧ (∀ (a1 : Int) (a2 : Int), x = .inr (a1, a2) → f a1 a2 = some r) := by
  match o, h with
  | some (.inl y), h => exact ⟨_, rfl, fun z e => (by cases e; exact h), fun a1 a2 => (by intro e; cases e)⟩
  | some (.inr q), h => exact ⟨_, rfl, fun z e => (by cases e), fun a1 a2 => (by intro e; cases e; exact h)⟩
def b3 {ρ : Type} (o : Option (Int × Int × Int)) (f : Int → Int → Int → Option ρ) : Option ρ := match o with
  | some (a1, a2, a3) => f a1 a2 a3
  | none => none
theorem b3_of {ρ : Type} {o : Option (Int × Int × Int)} {f : Int → Int → Int → Option ρ} {r : ρ} (h : b3 o f = some r) : ∃ (a1 : Int) (a2 : Int) (a3 : Int), o = some (a1, a2, a3) ∧ f a1 a2 a3 = some r := by
  match o, h with
  | some (a1, a2, a3), h => exact ⟨a1, a2, a3, rfl, h⟩
def b3S {R ρ : Type} (o : Option (R ⊕ (Int × Int × Int))) (g : R → Option ρ) (f : Int → Int → Int → Option ρ) : Option ρ := match o with
  | some (.inl x) => g x
  | some (.inr (a1, a2, a3)) => f a1 a2 a3
  | none => none
theorem b3S_of {R ρ : Type} {o : Option (R ⊕ (Int × Int × Int))} {g : R → Option ρ} {f : Int → Int → Int → Option ρ} {r : ρ} (h : b3S o g f = some r) : ∃ x, o = some x ∧ (∀ y, x = .inl y → g y = some r) ∧ (∀ (a1 : Int) (a2 : Int) (a3 : Int), x = .inr (a1, a2, a3) → f a1 a2 a3 = some r) := by
  match o, h with
  | some (.inl y), h => exact ⟨_, rfl, fun z e => (by cases e; exact h), fun a1 a2 a3 => (by intro e; cases e)⟩
  | some (.inr q), h => exact ⟨_, rfl, fun z e => (by cases e), fun a1 a2 a3 => (by intro e; cases e; exact h)⟩
def b4 {ρ : Type} (o : Option (Int × Int × Int × Int)) (f : Int → Int → Int → Int → Option ρ) : Option ρ := match o with
  | some (a1, a2, a3, a4) => f a1 a2 a3 a4
  | none => none
theorem b4_of {ρ : Type} {o : Option (Int × Int × Int × Int)} {f : Int → Int → Int → Int → Option ρ} {r : ρ} (h : b4 o f = some r) : ∃ (a1 : Int) (a2 : Int) (a3 : Int) (a4 : Int), o = some (a1, a2, a3, a4) ∧ f a1 a2 a3 a4 = some r := by
  match o, h with
  | some (a1, a2, a3, a4), h => exact ⟨a1, a2, a3, a4, rfl, h⟩
def b4S {R ρ : Type} (o : Option (R ⊕ (Int × Int × Int × Int))) (g : R → Option ρ) (f : Int → Int → Int → Int → Option ρ) : Option ρ := match o with
  | some (.inl x) => g x
  | some (.inr (a1, a2, a3, a4)) => f a1 a2 a3 a4
  | none => none
theorem b4S_of {R ρ : Type} {o : Option (R ⊕ (Int × Int × Int × Int))} {g : R → Option ρ} {f : Int → Int → Int → Int → Option ρ} {r : ρ} (h : b4S o g f = some r) : ∃ x, o = some x ∧ (∀ y, x = .inl y → g y = some r) ∧ (∀ (a1 : Int) (a2 : Int) (a3 : Int) (a4 : Int), x = .inr (a1, a2, a3, a4) → f a1 a2 a3 a4 = some r) := by
  match o, h with
  | some (.inl y), h => exact ⟨_, rfl, fun z e => (by cases e; exact h), fun a1 a2 a3 a4 => (by intro e; cases e)⟩
  | some (.inr q), h => exact ⟨_, rfl, fun z e => (by cases e), fun a1 a2 a3 a4 => (by intro e; cases e; exact h)⟩
def b5 {ρ : Type} (o : Option (Int × Int × Int × Int × Int)) (f : Int → Int → Int → Int → Int → Option ρ) : Option ρ := match o with
  | some (a1, a2, a3, a4, a5) => f a1 a2 a3 a4 a5
  | none => none
theorem b5_of {ρ : Type} {o : Option (Int × Int × Int × Int × Int)} {f : Int → Int → Int → Int → Int → Option ρ} {r : ρ} (h : b5 o f = some r) : ∃ (a1 : Int) (a2 : Int) (a3 : Int) (a4 : Int) (a5 : Int), o = some (a1, a2, a3, a4, a5) ∧ f a1 a2 a3 a4 a5 = some r := by
  match o, h with
  | some (a1, a2, a3, a4, a5), h => exact ⟨a1, a2, a3, a4, a5, rfl, h⟩
def b5S {R ρ : Type} (o : Option (R ⊕ (Int × Int × Int × Int × Int))) (g : R → Option ρ) (f : Int → Int → Int → Int → Int → Option ρ) : Option ρ := match o with
  | some (.inl x) => g x
  | some (.inr (a1, a2, a3, a4, a5)) => f a1 a2 a3 a4 a5
  | none => none
theorem b5S_of {R ρ : Type} {o : Option (R ⊕ (Int × Int × Int × Int × Int))} {g : R → Option ρ} {f : Int → Int → Int → Int → Int → Option ρ} {r : ρ} (h : b5S o g f = some r) : ∃ x, o = some x ∧ (∀ y, x = .inl y → g y = some r) ∧ (∀ (a1 : Int) (a2 : Int) (a3 : Int) (a4 : Int) (a5 : Int), x = .inr (a1, a2, a3, a4, a5) → f a1 a2 a3 a4 a5 = some r) := by
  match o, h with
  | some (.inl y), h => exact ⟨_, rfl, fun z e => (by cases e; exact h), fun a1 a2 a3 a4 a5 => (by intro e; cases e)⟩
  | some (.inr q), h => exact ⟨_, rfl, fun z e => (by cases e), fun a1 a2 a3 a4 a5 => (by intro e; cases e; exact h)⟩
def b6 {ρ : Type} (o : Option (Int × Int × Int × Int × Int × Int)) (f : Int → Int → Int → Int → Int → Int → Option ρ) : Option ρ := match o with
  | some (a1, a2, a3, a4, a5, a6) => f a1 a2 a3 a4 a5 a6
  | none => none
theorem b6_of {ρ : Type} {o : Option (Int × Int × Int × Int × Int × Int)} {f : Int → Int → Int → Int → Int → Int → Option ρ} {r : ρ} (h : b6 o f = some r) : ∃ (a1 : Int) (a2 : Int) (a3 : Int) (a4 : Int) (a5 : Int) (a6 : Int), o = some (a1, a2, a3, a4, a5, a6) ∧ f a1 a2 a3 a4 a5 a6 = some r := by
  match o, h with
  | some (a1, a2, a3, a4, a5, a6), h => exact ⟨a1, a2, a3, a4, a5, a6, rfl, h⟩
def b6S {R ρ : Type} (o : Option (R ⊕ (Int × Int × Int × Int × Int × Int))) (g : R → Option ρ) (f : Int → Int → Int → Int → Int → Int → Option ρ) : Option ρ := match o with
  | some (.inl x) => g x
  | some (.inr (a1, a2, a3, a4, a5, a6)) => f a1 a2 a3 a4 a5 a6
  | none => none
theorem b6S_of {R ρ : Type} {o : Option (R ⊕ (Int × Int × Int × Int × Int × Int))} {g : R → Option ρ} {f : Int → Int → Int → Int → Int → Int → Option ρ} {r : ρ} (h : b6S o g f = some r) : ∃ x, o = some x ∧ (∀ y, x = .inl y → g y = some r) ∧ (∀ (a1 : Int) (a2 : Int) (a3 : Int) (a4 : Int) (a5 : Int) (a6 : Int), x = .inr (a1, a2, a3, a4, a5, a6) → f a1 a2 a3 a4 a5 a6 = some r) := by
  match o, h with
  | some (.inl y), h => exact ⟨_, rfl, fun z e => (by cases e; exact h), fun a1 a2 a3 a4 a5 a6 => (by intro e; cases e)⟩
  | some (.inr q), h => exact ⟨_, rfl, fun z e => (by cases e), fun a1 a2 a3 a4 a5 a6 => (by intro e; cases e; exact h)⟩
def b0M {ρ : Type} (o : Option (Mm)) (f : Mm → Option ρ) : Option ρ := match o with
  | some s => f s
  | none => none
theorem b0M_of {ρ : Type} {o : Option (Mm)} {f : Mm → Option ρ} {r : ρ} (h : b0M o f = some r) : ∃ (s : Mm), o = some s ∧ f s = some r := by
  match o, h with
  | some s, h => exact ⟨s, rfl, h⟩
def b0MS {R ρ : Type} (o : Option (R ⊕ (Mm))) (g : R → Option ρ) (f : Mm → Option ρ) : Option ρ := match o with
  | some (.inl x) => g x
  | some (.inr s) => f s
  | none => none
theorem b0MS_of {R ρ : Type} {o : Option (R ⊕ (Mm))} {g : R → Option ρ} {f : Mm → Option ρ} {r : ρ} (h : b0MS o g f = some r) : ∃ x, o = some x ∧ (∀ y, x = .inl y → g y = some r) ∧ (∀ (s : Mm), x = .inr s → f s = some r) := by
  match o, h with
  | some (.inl y), h => exact ⟨_, rfl, fun z e => (by cases e; exact h), fun s => (by intro e; cases e)⟩
  | some (.inr q), h => exact ⟨_, rfl, fun z e => (by cases e), fun s => (by intro e; cases e; exact h)⟩
def b1M {ρ : Type} (o : Option (Int × Mm)) (f : Int → Mm → Option ρ) : Option ρ := match o with
  | some (a1, s) => f a1 s
  | none => none
theorem b1M_of {ρ : Type} {o : Option (Int × Mm)} {f : Int → Mm → Option ρ} {r : ρ} (h : b1M o f = some r) : ∃ (a1 : Int) (s : Mm), o = some (a1, s) ∧ f a1 s = some r := by
  match o, h with
  | some (a1, s), h => exact ⟨a1, s, rfl, h⟩
def b1MS {R ρ : Type} (o : Option (R ⊕ (Int × Mm))) (g : R → Option ρ) (f : Int → Mm → Option ρ) : Option ρ := match o with
  | some (.inl x) => g x
  | some (.inr (a1, s)) => f a1 s
  | none => none
theorem b1MS_of {R ρ : Type} {o : Option (R ⊕ (Int × Mm))} {g : R → Option ρ} {f : Int → Mm → Option ρ} {r : ρ} (h : b1MS o g f = some r) : ∃ x, o = some x ∧ (∀ y, x = .inl y → g y = some r) ∧ (∀ (a1 : Int) (s : Mm), x = .inr (a1, s) → f a1 s = some r) := by
  match o, h with
  | some (.inl y), h => exact ⟨_, rfl, fun z e => (by cases e; exact h), fun a1 s => (by intro e; cases e)⟩
  | some (.inr q), h => exact ⟨_, rfl, fun z e => (by cases e), fun a1 s => (by intro e; cases e; exact h)⟩
def b2M {ρ : Type} (o : Option (Int × Int × Mm)) (f : Int → Int → Mm → Option ρ) : Option ρ := match o with
  | some (a1, a2, s) => f a1 a2 s
  | none => none
theorem b2M_of {ρ : Type} {o : Option (Int × Int × Mm)} {f : Int → Int → Mm → Option ρ} {r : ρ} (h : b2M o f = some r) : ∃ (a1 : Int) (a2 : Int) (s : Mm), o = some (a1, a2, s) ∧ f a1 a2 s = some r := by
  match o, h with
  | some (a1, a2, s), h => exact ⟨a1, a2, s, rfl, h⟩
def b2MS {R ρ : Type} (o : Option (R ⊕ (Int × Int × Mm))) (g : R → Option ρ) (f : Int → Int → Mm → Option ρ) : Option ρ := match o with
  | some (.inl x) => g x
  | some (.inr (a1, a2, s)) => f a1 a2 s
  | none => none
theorem b2MS_of {R ρ : Type} {o : Option (R ⊕ (Int × Int × Mm))} {g : R → Option ρ} {f : Int → Int → Mm → Option ρ} {r : ρ} (h : b2MS o g f = some r) : ∃ x, o = some x ∧ (∀ y, x = .inl y → g y = some r) ∧ (∀ (a1 : Int) (a2 : Int) (s : Mm), x = .inr (a1, a2, s) → f a1 a2 s = some r) := by
  match o, h with
  | some (.inl y), h => exact ⟨_, rfl, fun z e => (by cases e; exact h), fun a1 a2 s => (by intro e; cases e)⟩
  | some (.inr q), h => exact ⟨_, rfl, fun z e => (by cases e), fun a1 a2 s => (by intro e; cases e; exact h)⟩
def b3M {ρ : Type} (o : Option (Int × Int × Int × Mm)) (f : Int → Int → Int → Mm → Option ρ) : Option ρ := match o with
  | some (a1, a2, a3, s) => f a1 a2 a3 s
  | none => none
theorem b3M_of {ρ : Type} {o : Option (Int × Int × Int × Mm)} {f : Int → Int → Int → Mm → Option ρ} {r : ρ} (h : b3M o f = some r) : ∃ (a1 : Int) (a2 : Int) (a3 : Int) (s : Mm), o = some (a1, a2, a3, s) ∧ f a1 a2 a3 s = some r := by
  match o, h with
  | some (a1, a2, a3, s), h => exact ⟨a1, a2, a3, s, rfl, h⟩
def b3MS {R ρ : Type} (o : Option (R ⊕ (Int × Int × Int × Mm))) (g : R → Option ρ) (f : Int → Int → Int → Mm → Option ρ) : Option ρ := match o with
  | some (.inl x) => g x
  | some (.inr (a1, a2, a3, s)) => f a1 a2 a3 s
  | none => none
theorem b3MS_of {R ρ : Type} {o : Option (R ⊕ (Int × Int × Int × Mm))} {g : R → Option ρ} {f : Int → Int → Int → Mm → Option ρ} {r : ρ} (h : b3MS o g f = some r) : ∃ x, o = some x ∧ (∀ y, x = .inl y → g y = some r) ∧ (∀ (a1 : Int) (a2 : Int) (a3 : Int) (s : Mm), x = .inr (a1, a2, a3, s) → f a1 a2 a3 s = some r) := by
  match o, h with
  | some (.inl y), h => exact ⟨_, rfl, fun z e => (by cases e; exact h), fun a1 a2 a3 s => (by intro e; cases e)⟩
  | some (.inr q), h => exact ⟨_, rfl, fun z e => (by cases e), fun a1 a2 a3 s => (by intro e; cases e; exact h)⟩
def b4M {ρ : Type} (o : Option (Int × Int × Int × Int × Mm)) (f : Int → Int → Int → Int → Mm → Option ρ) : Option ρ := match o with
  | some (a1, a2, a3, a4, s) => f a1 a2 a3 a4 s
  | none => none
theorem b4M_of {ρ : Type} {o : Option (Int × Int × Int × Int × Mm)} {f : Int → Int → Int → Int → Mm → Option ρ} {r : ρ} (h : b4M o f = some r) : ∃ (a1 : Int) (a2 : Int) (a3 : Int) (a4 : Int) (s : Mm), o = some (a1, a2, a3, a4, s) ∧ f a1 a2 a3 a4 s = some r := by
  match o, h with
  | some (a1, a2, a3, a4, s), h => exact ⟨a1, a2, a3, a4, s, rfl, h⟩
def b4MS {R ρ : Type} (o : Option (R ⊕ (Int × Int × Int × Int × Mm))) (g : R → Option ρ) (f : Int → Int → Int → Int → Mm → Option ρ) : Option ρ := match o with
  | some (.inl x) => g x
  | some (.inr (a1, a2, a3, a4, s)) => f a1 a2 a3 a4 s
  | none => none
theorem b4MS_of {R ρ : Type} {o : Option (R ⊕ (Int × Int × Int × Int × Mm))} {g : R → Option ρ} {f : Int → Int → Int → Int → Mm → Option ρ} {r : ρ} (h : b4MS o g f = some r) : ∃ x, o = some x ∧ (∀ y, x = .inl y → g y = some r) ∧ (∀ (a1 : Int) (a2 : Int) (a3 : Int) (a4 : Int) (s : Mm), x = .inr (a1, a2, a3, a4, s) → f a1 a2 a3 a4 s = some r) := by
  match o, h with
  | some (.inl y), h => exact ⟨_, rfl, fun z e => (by cases e; exact h), fun a1 a2 a3 a4 s => (by intro e; cases e)⟩
  | some (.inr q), h => exact ⟨_, rfl, fun z e => (by cases e), fun a1 a2 a3 a4 s => (by intro e; cases e; exact h)⟩
def b5M {ρ : Type} (o : Option (Int × Int × Int × Int × Int × Mm)) (f : Int → Int → Int → Int → Int → Mm → Option ρ) : Option ρ := match o with
  | some (a1, a2, a3, a4, a5, s) => f a1 a2 a3 a4 a5 s
  | none => none
theorem b5M_of {ρ : Type} {o : Option (Int × Int × Int × Int × Int × Mm)} {f : Int → Int → Int → Int → Int → Mm → Option ρ} {r : ρ} (h : b5M o f = some r) : ∃ (a1 : Int) (a2 : Int) (a3 : Int) (a4 : Int) (a5 : Int) (s : Mm), o = some (a1, a2, a3, a4, a5, s) ∧ f a1 a2 a3 a4 a5 s = some r := by
  match o, h with
  | some (a1, a2, a3, a4, a5, s), h => exact ⟨a1, a2, a3, a4, a5, s, rfl, h⟩
def b5MS {R ρ : Type} (o : Option (R ⊕ (Int × Int × Int × Int × Int × Mm))) (g : R → Option ρ) (f : Int → Int → Int → Int → Int → Mm → Option ρ) : Option ρ := match o with
  | some (.inl x) => g x
  | some (.inr (a1, a2, a3, a4, a5, s)) => f a1 a2 a3 a4 a5 s
  | none => none
theorem b5MS_of {R ρ : Type} {o : Option (R ⊕ (Int × Int × Int × Int × Int × Mm))} {g : R → Option ρ} {f : Int → Int → Int → Int → Int → Mm → Option ρ} {r : ρ} (h : b5MS o g f = some r) : ∃ x, o = some x ∧ (∀ y, x = .inl y → g y = some r) ∧ (∀ (a1 : Int) (a2 : Int) (a3 : Int) (a4 : Int) (a5 : Int) (s : Mm), x = .inr (a1, a2, a3, a4, a5, s) → f a1 a2 a3 a4 a5 s = some r) := by
  match o, h with
  | some (.inl y), h => exact ⟨_, rfl, fun z e => (by cases e; exact h), fun a1 a2 a3 a4 a5 s => (by intro e; cases e)⟩
  | some (.inr q), h => exact ⟨_, rfl, fun z e => (by cases e), fun a1 a2 a3 a4 a5 s => (by intro e; cases e; exact h)⟩
def b6M {ρ : Type} (o : Option (Int × Int × Int × Int × Int × Int × Mm)) (f : Int → Int → Int → Int → Int → Int → Mm → Option ρ) : Option ρ := match o with
  | some (a1, a2, a3, a4, a5, a6, s) => f a1 a2 a3 a4 a5 a6 s
  | none => none
theorem b6M_of {ρ : Type} {o : Option (Int × Int × Int × Int × Int × Int × Mm)} {f : Int → Int → Int → Int → Int → Int → Mm → Option ρ} {r : ρ} (h : b6M o f = some r) : ∃ (a1 : Int) (a2 : Int) (a3 : Int) (a4 : Int) (a5 : Int) (a6 : Int) (s : Mm), o = some (a1, a2, a3, a4, a5, a6, s) ∧ f a1 a2 a3 a4 a5 a6 s = some r := by
  match o, h with
  | some (a1, a2, a3, a4, a5, a6, s), h => exact ⟨a1, a2, a3, a4, a5, a6, s, rfl, h⟩
def b6MS {R ρ : Type} (o : Option (R ⊕ (Int × Int × Int × Int × Int × Int × Mm))) (g : R → Option ρ) (f : Int → Int → Int → Int → Int → Int → Mm → Option ρ) : Option ρ := match o with
  | some (.inl x) => g x
  | some (.inr (a1, a2, a3, a4, a5, a6, s)) => f a1 a2 a3 a4 a5 a6 s
  | none => none
theorem b6MS_of {R ρ : Type} {o : Option (R ⊕ (Int × Int × Int × Int × Int × Int × Mm))} {g : R → Option ρ} {f : Int → Int → Int → Int → Int → Int → Mm → Option ρ} {r : ρ} (h : b6MS o g f = some r) : ∃ x, o = some x ∧ (∀ y, x = .inl y → g y = some r) ∧ (∀ (a1 : Int) (a2 : Int) (a3 : Int) (a4 : Int) (a5 : Int) (a6 : Int) (s : Mm), x = .inr (a1, a2, a3, a4, a5, a6, s) → f a1 a2 a3 a4 a5 a6 s = some r) := by
  match o, h with
  | some (.inl y), h => exact ⟨_, rfl, fun z e => (by cases e; exact h), fun a1 a2 a3 a4 a5 a6 s => (by intro e; cases e)⟩
  | some (.inr q), h => exact ⟨_, rfl, fun z e => (by cases e), fun a1 a2 a3 a4 a5 a6 s => (by intro e; cases e; exact h)⟩
end SWshort
