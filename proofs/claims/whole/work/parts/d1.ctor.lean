theorem map_fm {α : Type} {is : List Nat} {g : Nat → Option α} {w : List α} (h : is.map g = w.map some) : is.filterMap g = w := by
  have := congrArg (List.filterMap id) h
  simpa [List.filterMap_map, Function.comp_def] using this
section CWarr
variable {X : Cx} {nL pc d C S : Nat} {cc : ByteArray} {own : String} {ret : Option FieldType} {lv : List (Option Value)} {st : List Value} {ws : va_W} {n m : Nat}
theorem KW_newa (h : CXi X cc nL d C S ret own) (t0 : Nat) {atype : ArrayType} {ty : FieldType} (hty : Jvm.Op.newarray.typeOf atype = ty) (ht : ∀ cs : Nat → ClassId, (tyOf cs)[t0]? = some (cs t0, ty)) (harr : Cond.arrayClass ty ∈ lw_g) {z : Int32} {N : Nat} {a0 : vp_A} (ha : ∀ cA : ClassId, vp_cell cA a0 = arrV cA N (fun _ => defaultValue ty)) (hz : ¬ z < 0) (hN : z.toNatClampNeg = N) (hb : N * componentBytes ty ≤ 536870912) (hn : n + 1 ≤ C) (hm : m + N ≤ S) (dd : decode cc pc = .ok (.newarray atype, 2)) (k : ∀ q : Nat, KW X nL (pc + 2) lv (.ref q :: st) (ws ++ [(q, .inl (xcs X t0, a0))]) (n + 1) (m + N)) : KW X nL pc lv (.int z :: st) ws n m := by
  obtain ⟨p, l, e, R, s, mi, args, below, meth, c, Q, A, D, cs, ad, sK, sV⟩ := X
  intro H locs ls hP hD hS hlv
  obtain ⟨hx, hbb, hml, hown, hts, hK, hSx, hA, hR, hlk, hrt, hnm, hNx⟩ := h
  subst hR
  refine va_newa (D := D) (atype := atype) hx hbb (by rw [hty]; exact hts _ harr) hty hK.1 hP hD hS hA ha hz hN hb hn hm dd (fun q cA H1 hK1 hP1 hD1 hS1 => ?_)
  have e1 : cA = cs t0 := RA_inj (hK1.2 7 (cA, ty) rfl).2 (hK.1.2 t0 _ (ht cs)).2
  subst e1
  exact k q H1 locs ls hP1 hD1 hS1 hlv
theorem KW_newq (h : CXi X cc nL d C S ret own) (t0 : Nat) {idx : Nat} {Cn : String} (ht : ∀ cs : Nat → ClassId, (tyOf cs)[t0]? = some (cs t0, .object Cn)) (hcl : Cond.classLink own idx Cn ∈ lw_g) (hov : ∀ U : State, NX U → va_AO Cn U) {z : Int32} {N : Nat} (hz : ¬ z < 0) (hN : z.toNatClampNeg = N) (hb : N * 4 ≤ 536870912) (hn : n + 1 ≤ C) (hm : m + N ≤ S) (dd : decode cc pc = .ok (.anewarray idx, 3)) (k : ∀ q : Nat, KW X nL (pc + 3) lv (.ref q :: st) (ws ++ [(q, .inl (xcs X t0, N, .inr (.inr (.inr (.inr (fun _ => none))))))]) (n + 1) (m + N)) : KW X nL pc lv (.int z :: st) ws n m := by
  obtain ⟨p, l, e, R, s, mi, args, below, meth, c, Q, A, D, cs, ad, sK, sV⟩ := X
  intro H locs ls hP hD hS hlv
  obtain ⟨hx, hbb, hml, hown, hts, hK, hSx, hA, hR, hlk, hrt, hnm, hNx⟩ := h
  subst hR
  refine va_newq (D := D) hx hbb hown (hts _ hcl) (hov s hNx) hK.1 hP hD hS hA hz hN hb hn hm dd (fun q cA H1 hK1 hP1 hD1 hS1 => ?_)
  have e1 : cA = cs t0 := RA_inj (hK1.2 7 (cA, .object Cn) rfl).2 (hK.1.2 t0 _ (ht cs)).2
  subst e1
  exact k q H1 locs ls hP1 hD1 hS1 hlv
theorem KW_iast (h : CXi X cc nL d C S ret own) (q0 : Nat) {a N : Nat} {f : Nat → Int32} {i x : Int32} (he : ws[q0]? = some (a, .inl (xcs X 0, N, .inl f))) (hi : vp_in i N) (dd : decode cc pc = .ok (.iastore, 1)) (k : KW X nL (pc + 1) lv st (ws.set q0 (a, .inl (xcs X 0, N, .inl (upd f i.toNatClampNeg x)))) n m) : KW X nL pc lv (.int x :: .int i :: .ref a :: st) ws n m := by
  obtain ⟨p, l, e, R, s, mi, args, below, meth, c, Q, A, D, cs, ad, sK, sV⟩ := X
  intro H locs ls hP hD hS hlv
  obtain ⟨hx, hbb, hml, hown, hts, hK, hSx, hA, hR, hlk, hrt, hnm, hNx⟩ := h
  exact va_iast (D := D) hx hbb hK.1 hP hD hS q0 0 he rfl hi dd (fun H1 locs1 hP1 hD1 hS1 => k H1 locs1 ls hP1 hD1 hS1 hlv)
theorem KW_astq (h : CXi X cc nL d C S ret own) (q0 t0 qk ci : Nat) {a v N : Nat} {vs : List Value} {f : Nat → Option Nat} {r : vw_C} {i : Int32} (he : ws[q0]? = some (a, .inl (xcs X t0, N, .inr (.inr (.inr (.inr f)))))) (ht : ∀ cs : Nat → ClassId, (tyOf cs)[t0]? = some (cs t0, .object r.1)) (hv : ws[qk]? = some (v, .inr (ci, vs))) (hc : vwCl[ci]? = some r) (hi : vp_in i N) (dd : decode cc pc = .ok (.aastore, 1)) (k : KW X nL (pc + 1) lv st (ws.set q0 (a, .inl (xcs X t0, N, .inr (.inr (.inr (.inr (va_up f i.toNatClampNeg (some v)))))))) n m) : KW X nL pc lv (.ref v :: .int i :: .ref a :: st) ws n m := by
  obtain ⟨p, l, e, R, s, mi, args, below, meth, c, Q, A, D, cs, ad, sK, sV⟩ := X
  intro H locs ls hP hD hS hlv
  obtain ⟨hx, hbb, hml, hown, hts, hK, hSx, hA, hR, hlk, hrt, hnm, hNx⟩ := h
  exact va_astq (D := D) hx hbb hK.1 hP hD hS q0 t0 qk ci he (ht cs) hv hc hi dd (fun H1 locs1 hP1 hD1 hS1 => k H1 locs1 ls hP1 hD1 hS1 hlv)
end CWarr
/-- a constructor's end: the world is wE and its own cells -/
def QI (D : va_G) (cs : Nat → ClassId) (sK sV : Nat → Nat) (A : Nat → Prop) (w1 : (Nat → Nat) → va_W) : Array Value → State → Outcome → State → Prop := fun _ st oc t => oc = .returned none ∧ (∃ f : Nat → Nat, va_P D vwCl (w1 f) t.heap ∧ va_D A (w1 f)) ∧ KX D cs t ∧ SX sK sV A t t.heap ∧ va_F A st t
/-- what a constructor is entered with: of the caller's world wE it sees what it is given, and the blank object -/
def PI (D : va_G) (cs : Nat → ClassId) (sK sV : Nat → Nat) (w0 : va_W) (sz : Nat) (U : State) : Prop := U.heap.size = sz ∧ va_P D vwCl w0 U.heap ∧ va_D (va_A w0 sz) w0 ∧ KX D cs U ∧ SX sK sV (va_A w0 sz) U U.heap ∧ NX U
def CI (y : MethodName) (cc : ByteArray) (nL d C S : Nat) (as : List Value) (a : Nat) (wE : (Nat → ClassId) → va_W) (b : va_E) (sub : (Nat → ClassId) → (Nat → Nat) → va_W) : Prop :=
  ∀ (l : Launch) (D : va_G) (cs : Nat → ClassId) (sK sV : Nat → Nat) (sz : Nat), Met l y (.code y cc nL none :: lw_g) (rmI d C S) (va_Pc (.ref a :: as) (PI D cs sK sV (wE cs ++ [(a, b)]) sz)) (QI D cs sK sV (va_A (wE cs ++ [(a, b)]) sz) (fun f => wE cs ++ sub cs f)) C S (va_A (wE cs ++ [(a, b)]) sz)
def RXi (X : Cx) (C S : Nat) (w1 : (Nat → Nat) → va_W) : Prop :=
  match X with
  | (_, _, _, _, s, _, args, below, _, _, Q, A, D, cs, _, sK, sV) => Q = MQ below (QI D cs sK sV A w1) args s C S A
theorem MetC {y : MethodName} {cc : ByteArray} {nL d C S : Nat} {own : String} {as : List Value} {a : Nat} {wE : (Nat → ClassId) → va_W} {b : va_E} {sub : (Nat → ClassId) → (Nat → Nat) → va_W} (pad : Nat)
    (hy : plainFor y = true) (ho : y.cls = own) (hi : y.name = "<init>") (hn : (lg_sl (.ref a :: as)).length ≤ nL)
    (body : ∀ X : Cx, CXi X cc nL d C S none own → RXi X C S (fun f => wE (xcs X) ++ sub (xcs X) f) → KW X nL 0 (lvA (.ref a :: as) ++ List.replicate pad none) [] (wE (xcs X) ++ [(a, b)]) 0 0) : CI y cc nL d C S as a wE b sub := by
  intro l D cs sK sV sz
  refine Met_ofWF (cc := cc) (maxL := nL) (ret := none) hy rfl ?_
  intro p e s m args below meth c s₁ B hml hv
  obtain ⟨rfl, hsz, hP, hD, hK, hS, hNx⟩ := hv
  subst hsz
  have hts := atoms_spec (ws := .code y cc nL none :: lw_g) B.pre
  have hown : s.vm.findClass own = some m.cls := by rw [← ho]; exact findClass_of_methodNamed B.named
  have hnm : meth.name = "<init>" := (name_of_methodNamed B.named B.method).1.trans hi
  have key := body (p, l, e, rmI d C S, s, m, (.ref a :: as : List Value).toArray, below, meth, c, MQ below (QI D cs sK sV (va_A (wE cs ++ [(a, b)]) s.heap.size) (fun f => wE cs ++ sub cs f)) (.ref a :: as : List Value).toArray s C S (va_A (wE cs ++ [(a, b)]) s.heap.size), va_A (wE cs ++ [(a, b)]) s.heap.size, D, cs, fun _ => 0, sK, sV)
    ⟨B.exec, B.bytes, hml, hown, fun w hw => hts w (List.mem_cons_of_mem _ hw), hK, hS, fun q hq => Or.inr hq, rfl, B.notSynchronized, B.returns, hnm, hNx⟩ rfl
  have hl := lv_entry (.ref a :: as) (n := nL) hn
  rw [lg_entry_eq]
  refine key s.heap [] _ hP hD va_S.rf ⟨hl.1, hl.2.1, fun i v h => hl.2.2 (i, v) ?_⟩
  have e : (lvA (.ref a :: as))[i]? = some (some v) := by
    have h : (lvA (.ref a :: as) ++ List.replicate pad none)[i]? = some (some v) := h
    rw [List.getElem?_append] at h
    split at h
    · exact h
    · rw [List.getElem?_replicate] at h
      split at h <;> simp at h
  have := lvA_get (.ref a :: as) 0 e
  rwa [Nat.zero_add] at this
section CWend
variable {X : Cx} {nL pc d C S : Nat} {cc : ByteArray} {own : String} {ret : Option FieldType} {lv : List (Option Value)} {st : List Value} {ws : va_W} {n m : Nat}
theorem KW_vret (h : CXi X cc nL d C S none own) {w1 : (Nat → Nat) → va_W} (hR : RXi X C S w1) (f : Nat → Nat) (is : List Nat) (hs2 : is.map (fun i => ws[i]?) = (w1 f).map some) (hnd : va_nd is = true) (hn : n ≤ C) (hm : m ≤ S) (dd : decode cc pc = .ok (.return_, 1)) : KW X nL pc lv [] ws n m := by
  obtain ⟨p, l, e, R, s, mi, args, below, meth, c, Q, A, D, cs, ad, sK, sV⟩ := X
  intro H locs ls hP hD hS hlv
  obtain ⟨hx, hbb, hml, hown, hts, hK, hSx, hA, hRm, hlk, hrt, hnm, hNx⟩ := h
  have hR : Q = MQ below (QI D cs sK sV A w1) args s C S A := hR
  subst hR
  refine W.widen hn hm ?_
  exact W.vret hx hbb hrt (fun t ht hW => ⟨rfl, ⟨f, by rw [ht]; exact hP.sub is (map_fm hs2), hD.sub is hnd hs2⟩, hK.warm hW, by rw [ht]; exact hSx.warm hW hS.2.1 (fun q hq => hq), hS.F ht⟩) hS.2.2 dd hlk
end CWend
