-- constructors: rows
def rmI (d C S : Nat) : Room := { frames := d, cells := C, slots := S, locals := 60 * d }
/-- the links between nest mates that the constructors use -/
def NX (U : State) : Prop := va_Nw (.methodLinkNest RX2 11 yX4_init RX10) U ∧ va_Nw (.methodLinkNest RX2 32 yX6_init RX10) U ∧ va_Nw (.methodLinkNest RX10 18 yX8_init RX10) U ∧ va_Nw (.methodLinkNest RX10 25 yX5_init RX10) U ∧ va_Nw (.methodLinkNest RX10 36 yX9_init RX10) U ∧ va_Nw (.methodLinkNest RX10 68 yX3_init RX10) U ∧ va_Nw (.methodLinkNest RX3 17 yX8_init RX10) U ∧ va_AO RX6 U ∧ va_AO RX9 U ∧ (Cond.arrayOver (.array .int)).before #[] U = true
theorem NX.warm {s U : State} (hW : s.WarmedH U.vm) (h : NX s) : NX U := ⟨va_Nw.warmM hW h.1, va_Nw.warmM hW h.2.1, va_Nw.warmM hW h.2.2.1, va_Nw.warmM hW h.2.2.2.1, va_Nw.warmM hW h.2.2.2.2.1, va_Nw.warmM hW h.2.2.2.2.2.1, va_Nw.warmM hW h.2.2.2.2.2.2.1, va_AO.moved hW.alike h.2.2.2.2.2.2.2.1, va_AO.moved hW.alike h.2.2.2.2.2.2.2.2.1, over_moved hW.alike h.2.2.2.2.2.2.2.2.2⟩
theorem NX.same {s U : State} (hv : s.vm = U.vm) (h : NX s) : NX U := ⟨va_Nw.same rfl hv h.1, va_Nw.same rfl hv h.2.1, va_Nw.same rfl hv h.2.2.1, va_Nw.same rfl hv h.2.2.2.1, va_Nw.same rfl hv h.2.2.2.2.1, va_Nw.same rfl hv h.2.2.2.2.2.1, va_Nw.same rfl hv h.2.2.2.2.2.2.1, va_AO.moved (by rw [hv]; exact Vm.Alike.refl _) h.2.2.2.2.2.2.2.1, va_AO.moved (by rw [hv]; exact Vm.Alike.refl _) h.2.2.2.2.2.2.2.2.1, over_moved (by rw [hv]; exact Vm.Alike.refl _) h.2.2.2.2.2.2.2.2.2⟩
theorem RA_inj {U : State} {c1 c2 : ClassId} {ty : FieldType} (h1 : va_RA U c1 ty) (h2 : va_RA U c2 ty) : c1 = c2 := by
  cases ty with
  | object C =>
    obtain ⟨_, _, _, _, _, e1⟩ := h1
    obtain ⟨_, _, _, _, _, e2⟩ := h2
    exact Option.some.inj (e1.symm.trans e2)
  | _ => exact Option.some.inj (Eq.trans (Eq.symm h1) h2)
def KW (X : Cx) (nL pc : Nat) (lv : List (Option Value)) (st : List Value) (ws : va_W) (n m : Nat) : Prop :=
  match X with
  | (p, l, e, R, s, mi, args, below, meth, c, Q, A, D, _, _, _, _) => ∀ (H : Heap) (locs : List Loc) (ls : Array Slot), va_P D vwCl ws H → va_D A ws → va_S A s.heap H locs → LV ls nL lv → W p l e R s mi args below meth c H locs n m Q (F0 mi pc ls st)
def CXi (X : Cx) (cc : ByteArray) (nL d C S : Nat) (ret : Option FieldType) (own : String) : Prop :=
  match X with
  | (p, _, _, R, s, m, args, _, meth, c, _, A, D, cs, _, sK, sV) => p.tables.exec = Jvm.exec ∧ c.code = cc ∧ c.maxLocals = nL ∧ s.vm.findClass own = some m.cls ∧ (∀ w ∈ lw_g, w.before args s = true) ∧ KX D cs s ∧ SX sK sV A s s.heap ∧ (∀ q : Nat, s.heap.size ≤ q → A q) ∧ R = rmI d C S ∧ meth.locks = false ∧ meth.sig.returnType = ret ∧ meth.name = "<init>" ∧ NX s
def xcs (X : Cx) : Nat → ClassId := X.2.2.2.2.2.2.2.2.2.2.2.2.2.1
section CWrows
variable {X : Cx} {nL pc d C S : Nat} {cc : ByteArray} {own : String} {ret : Option FieldType} {lv : List (Option Value)} {st : List Value} {ws : va_W} {n m : Nat}
theorem KW_ws {ws' : va_W} (e : ws = ws') (k : KW X nL pc lv st ws' n m) : KW X nL pc lv st ws n m := by rw [e]; exact k
theorem KW_iconst (h : CXi X cc nL d C S ret own) {z : Int} (dd : decode cc pc = .ok (.iconst z, 1))  (k : KW X nL (pc + 1) lv (.int (i32 z) :: st) ws n m) : KW X nL pc lv (st) ws n m := by
  obtain ⟨p, l, e, R, s, mi, args, below, meth, c, Q, A, D, cs, ad, sK, sV⟩ := X
  intro H locs ls hP hD hS hl
  exact lv_iconst h.1 h.2.1 dd rfl (k H locs ls hP hD hS hl)
theorem KW_bipush (h : CXi X cc nL d C S ret own) {z : Int} (dd : decode cc pc = .ok (.bipush z, 2)) (hv : (Int8.ofInt z).toInt32 = i32 z) (k : KW X nL (pc + 2) lv (.int (i32 z) :: st) ws n m) : KW X nL pc lv (st) ws n m := by
  obtain ⟨p, l, e, R, s, mi, args, below, meth, c, Q, A, D, cs, ad, sK, sV⟩ := X
  intro H locs ls hP hD hS hl
  exact lv_bipush h.1 h.2.1 dd hv (k H locs ls hP hD hS hl)
theorem KW_sipush (h : CXi X cc nL d C S ret own) {z : Int} (dd : decode cc pc = .ok (.sipush z, 3)) (hv : (Int16.ofInt z).toInt32 = i32 z) (k : KW X nL (pc + 3) lv (.int (i32 z) :: st) ws n m) : KW X nL pc lv (st) ws n m := by
  obtain ⟨p, l, e, R, s, mi, args, below, meth, c, Q, A, D, cs, ad, sK, sV⟩ := X
  intro H locs ls hP hD hS hl
  exact lv_sipush h.1 h.2.1 dd hv (k H locs ls hP hD hS hl)
theorem KW_iload_n (h : CXi X cc nL d C S ret own) {q : Fin 4} {x : Int32} (hv : lv[(q : Nat)]? = some (some (.int x))) (dd : decode cc pc = .ok (.iload_n q, 1))  (k : KW X nL (pc + 1) lv (.int x :: st) ws n m) : KW X nL pc lv (st) ws n m := by
  obtain ⟨p, l, e, R, s, mi, args, below, meth, c, Q, A, D, cs, ad, sK, sV⟩ := X
  intro H locs ls hP hD hS hl
  exact lv_iload_n h.1 h.2.1 dd rfl (hl.2.2 _ _ hv) (k H locs ls hP hD hS hl)
theorem KW_istore_n (h : CXi X cc nL d C S ret own) {q : Fin 4} {x : Int32} {lv2 : List (Option Value)} (dd : decode cc pc = .ok (.istore_n q, 1)) (hi : (q : Nat) < nL) (hl2 : set1 lv (q : Nat) (.int x) = lv2) (k : KW X nL (pc + 1) lv2 st ws n m) : KW X nL pc lv (.int x :: st) ws n m := by
  obtain ⟨p, l, e, R, s, mi, args, below, meth, c, Q, A, D, cs, ad, sK, sV⟩ := X
  intro H locs ls hP hD hS hl
  exact lv_istore_n h.1 h.2.1 dd rfl hl.has hi rfl (fun ls2 hl3 => k H locs ls2 hP hD hS (hl2 ▸ LV.st1 hl3))
theorem KW_aload_n (h : CXi X cc nL d C S ret own) {q : Fin 4} {x : Nat} (hv : lv[(q : Nat)]? = some (some (.ref x))) (dd : decode cc pc = .ok (.aload_n q, 1))  (k : KW X nL (pc + 1) lv (.ref x :: st) ws n m) : KW X nL pc lv (st) ws n m := by
  obtain ⟨p, l, e, R, s, mi, args, below, meth, c, Q, A, D, cs, ad, sK, sV⟩ := X
  intro H locs ls hP hD hS hl
  exact lv_aload_n h.1 h.2.1 dd rfl (hl.2.2 _ _ hv) (k H locs ls hP hD hS hl)
theorem KW_iinc (h : CXi X cc nL d C S ret own) {i : Nat} {z x : Int} {lv2 : List (Option Value)} (dd : decode cc pc = .ok (.iinc i z, 3)) (hv : lv[i]? = some (some (.int (i32 x)))) (hi : i < nL) (hl2 : set1 lv i (.int (i32 (x + z))) = lv2) (k : KW X nL (pc + 3) lv2 st ws n m) : KW X nL pc lv st ws n m := by
  obtain ⟨p, l, e, R, s, mi, args, below, meth, c, Q, A, D, cs, ad, sK, sV⟩ := X
  intro H locs ls hP hD hS hl
  have hm : (i, Value.int (i32 x)) ∈ prs 0 lv := prs_mem.mpr ⟨Nat.zero_le _, by simpa using hv⟩
  obtain ⟨q, hq⟩ := List.getElem?_of_mem hm
  exact lv_iinc h.1 h.2.1 dd hl.has hq (v := i32 (x + z)) (by rw [i32_add]; rfl) hi rfl (fun ls2 hl3 => k H locs ls2 hP hD hS (hl2 ▸ LV.st1 hl3))
theorem KW_iadd (h : CXi X cc nL d C S ret own) {x y : Int} (dd : decode cc pc = .ok (.iadd, 1))  (k : KW X nL (pc + 1) lv (.int (i32 (x + y)) :: st) ws n m) : KW X nL pc lv (.int (i32 y) :: .int (i32 x) :: st) ws n m := by
  obtain ⟨p, l, e, R, s, mi, args, below, meth, c, Q, A, D, cs, ad, sK, sV⟩ := X
  intro H locs ls hP hD hS hl
  exact lv_iadd h.1 h.2.1 dd (by rw [← i32_add]; exact k H locs ls hP hD hS hl)
theorem KW_dup (h : CXi X cc nL d C S ret own) {v : Value} (hc : v.category = 1) (dd : decode cc pc = .ok (.dup, 1))  (k : KW X nL (pc + 1) lv (v :: v :: st) ws n m) : KW X nL pc lv (v :: st) ws n m := by
  obtain ⟨p, l, e, R, s, mi, args, below, meth, c, Q, A, D, cs, ad, sK, sV⟩ := X
  intro H locs ls hP hD hS hl
  exact lv_dup h.1 h.2.1 dd hc (k H locs ls hP hD hS hl)
theorem KW_pop (h : CXi X cc nL d C S ret own) {v : Value} (hc : v.category = 1) (dd : decode cc pc = .ok (.pop, 1))  (k : KW X nL (pc + 1) lv (st) ws n m) : KW X nL pc lv (v :: st) ws n m := by
  obtain ⟨p, l, e, R, s, mi, args, below, meth, c, Q, A, D, cs, ad, sK, sV⟩ := X
  intro H locs ls hP hD hS hl
  exact lv_pop h.1 h.2.1 dd hc (k H locs ls hP hD hS hl)
theorem KW_goto (h : CXi X cc nL d C S ret own) {off : Int} {tgt : Nat} (dd : decode cc pc = .ok (.goto off, 3)) (ht : (pc : Int) + off = (tgt : Int)) (k : KW X nL tgt lv st ws n m) : KW X nL pc lv (st) ws n m := by
  obtain ⟨p, l, e, R, s, mi, args, below, meth, c, Q, A, D, cs, ad, sK, sV⟩ := X
  intro H locs ls hP hD hS hl
  exact lv_goto h.1 h.2.1 dd ht (k H locs ls hP hD hS hl)
theorem KW_icmp_ge (h : CXi X cc nL d C S ret own) {ρ : Type} {FA FB : Option ρ} {r : ρ} {x y : Int} {off : Int} {tgt : Nat} (hx : r32 x) (hy : r32 y) (dd : decode cc pc = .ok (.if_icmp .ge off, 3)) (ht : (pc : Int) + off = (tgt : Int)) (hf : (if y ≤ x then FA else FB) = some r) (kt : FA = some r → KW X nL tgt lv st ws n m) (kf : FB = some r → KW X nL (pc + 3) lv st ws n m) : KW X nL pc lv (.int (i32 y) :: .int (i32 x) :: st) ws n m := by
  obtain ⟨p, l, e, R, s, mi, args, below, meth, c, Q, A, D, cs, ad, sK, sV⟩ := X
  intro H locs ls hP hD hS hl
  exact lv_icmp_ge h.1 h.2.1 dd ht (fun q => kt (by rw [if_pos ((i32_le hy hx).mp q)] at hf; exact hf) H locs ls hP hD hS hl) (fun q => kf (by rw [if_neg (fun z => q ((i32_le hy hx).mpr z))] at hf; exact hf) H locs ls hP hD hS hl)
theorem KW_objInit (h : CXi X cc nL d C S ret own) (hd : 1 ≤ d) {idx a : Nat} (hl : Cond.methodLink own idx Lib.objectInit ∈ lw_g) (hi : Cond.instanceMethod Lib.objectInit ∈ lw_g) (hc : Cond.code Lib.objectInit ⟨#[0xb1]⟩ 1 none ∈ lw_g) (hrs : (st.map fun v => v.category).sum ≤ 8) (dd : decode cc pc = .ok (.invokespecial idx, 3)) (k : KW X nL (pc + 3) lv st ws n m) : KW X nL pc lv (.ref a :: st) ws n m := by
  obtain ⟨p, l, e, R, s, mi, args, below, meth, c, Q, A, D, cs, ad, sK, sV⟩ := X
  intro H locs ls hP hD hS hlv
  obtain ⟨hx, hb, hml, hown, hts, -, -, -, hR, -⟩ := h
  subst hR
  refine W.objInit hx hb hown (hts _ hl) (hts _ hi) (hts _ hc) rfl (by rw [hml]; exact hlv.1) rfl dd hd ?_ (k H locs ls hP hD hS hlv)
  show 2 * 0 + _ + 12 ≤ 60 * d
  omega
theorem KW_get (h : CXi X cc nL d C S ret own) (q0 : Nat) {a ci k idx : Nat} {fs : List Value} {v : Value} {Cn : String} {T : u_T} {ty : Nat → FieldType} (hcf : CF ci Cn T ty) (he : ws[q0]? = some (a, .inr (ci, fs))) (hk : k < Nf ci) (fl : Cond.fieldLink own idx (T k).1 (T k).2.1 (T k).2.2.1 ∈ lw_g) (hv : fs[k]? = some v) (dd : decode cc pc = .ok (.getfield idx, 3)) (kk : KW X nL (pc + 3) lv (v :: st) ws n m) : KW X nL pc lv (.ref a :: st) ws n m := by
  obtain ⟨p, l, e, R, s, mi, args, below, meth, c, Q, A, D, cs, ad, sK, sV⟩ := X
  intro H locs ls hP hD hS hlv
  obtain ⟨hx, hb, hml, hown, hts, hK, hSx, hA, hR, hlk, hrt, hnm, hN⟩ := h
  exact va_get (D := D) hx hb hts hcf.2.1 hown hK.1 hP q0 he hcf.1 k hk (hts _ fl) (fun _ q => q) hv dd (kk H locs ls hP hD hS hlv)
theorem KW_put (h : CXi X cc nL d C S ret own) (q0 : Nat) {a ci k idx : Nat} {fs : List Value} {v : Value} {Cn : String} {T : u_T} {ty : Nat → FieldType} (hcf : CF ci Cn T ty) (he : ws[q0]? = some (a, .inr (ci, fs))) (hk : k < Nf ci) (fl : Cond.fieldLink own idx (T k).1 (T k).2.1 (T k).2.2.1 ∈ lw_g) (hfin : (T k).2.2.2 = false) (hn : narrow (ty k) v = v) (hfit : fits (ty k) v = true) (hlen : k < fs.length) (dd : decode cc pc = .ok (.putfield idx, 3)) (kk : KW X nL (pc + 3) lv st (ws.set q0 (a, .inr (ci, fs.set k v))) n m) : KW X nL pc lv (v :: .ref a :: st) ws n m := by
  obtain ⟨p, l, e, R, s, mi, args, below, meth, c, Q, A, D, cs, ad, sK, sV⟩ := X
  intro H locs ls hP hD hS hlv
  obtain ⟨hx, hb, hml, hown, hts, hK, hSx, hA, hR, hlk, hrt, hnm, hN⟩ := h
  exact va_put (D := D) hx hb hts hcf.2.1 ty hcf.2.2.1 hcf.2.2.2 hown hK.1 hP hD hS q0 he hcf.1 k hk (hts _ fl) (fun _ q => q) hfin (hcf.2.2.1 k hk) hn hfit hlen dd (fun H1 locs1 hP1 hD1 hS1 => kk H1 locs1 ls hP1 hD1 hS1 hlv)
theorem KW_putF (h : CXi X cc nL d C S ret own) (q0 : Nat) {a ci k idx : Nat} {fs : List Value} {v : Value} {Cn : String} {T : u_T} {ty : Nat → FieldType} (hcf : CF ci Cn T ty) (he : ws[q0]? = some (a, .inr (ci, fs))) (hk : k < Nf ci) (fl : Cond.fieldLink own idx (T k).1 (T k).2.1 (T k).2.2.1 ∈ lw_g) (hfin : (T k).2.2.2 = true) (hdecl : (T k).1 = own) (hn : narrow (ty k) v = v) (hfit : fits (ty k) v = true) (hlen : k < fs.length) (dd : decode cc pc = .ok (.putfield idx, 3)) (kk : KW X nL (pc + 3) lv st (ws.set q0 (a, .inr (ci, fs.set k v))) n m) : KW X nL pc lv (v :: .ref a :: st) ws n m := by
  obtain ⟨p, l, e, R, s, mi, args, below, meth, c, Q, A, D, cs, ad, sK, sV⟩ := X
  intro H locs ls hP hD hS hlv
  obtain ⟨hx, hb, hml, hown, hts, hK, hSx, hA, hR, hlk, hrt, hnm, hN⟩ := h
  exact va_putF (D := D) hx hb hts hcf.2.1 ty hcf.2.2.1 hcf.2.2.2 hown hK.1 hP hD hS q0 he hcf.1 k hk (hts _ fl) (fun _ q => q) hfin hnm hdecl (hcf.2.2.1 k hk) hn hfit hlen dd (fun H1 locs1 hP1 hD1 hS1 => kk H1 locs1 ls hP1 hD1 hS1 hlv)
theorem KW_new (h : CXi X cc nL d C S ret own) {ci idx : Nat} {fs : List Value} {Cn : String} {T : u_T} {ty : Nat → FieldType} (hcf : CF ci Cn T ty) (hcl : Cond.classLink own idx Cn ∈ lw_g) (hin : Cond.instantiable Cn (Nf ci) ∈ lw_g) (hini : Cond.initialized Cn ∈ lw_g) (hfs : ∀ j, j < Nf ci → defaultValue (ty j) = vp_V fs j) (hn : n + 1 ≤ C) (hm : m + Nf ci ≤ S) (dd : decode cc pc = .ok (.new idx, 3)) (k : ∀ q : Nat, KW X nL (pc + 3) lv (.ref q :: st) (ws ++ [(q, .inr (ci, fs))]) (n + 1) (m + Nf ci)) : KW X nL pc lv st ws n m := by
  obtain ⟨p, l, e, R, s, mi, args, below, meth, c, Q, A, D, cs, ad, sK, sV⟩ := X
  intro H locs ls hP hD hS hlv
  obtain ⟨hx, hb, hml, hown, hts, hK, hSx, hA, hR, hlk, hrt, hnm, hN⟩ := h
  subst hR
  exact va_new (D := D) hx hb hts hcf.2.1 ty hcf.2.2.1 hown (hts _ hcl) (hts _ hin) (hts _ hini) hK.1 hP hD hS hA hcf.1 hfs hn hm dd (fun q H1 hP1 hD1 hS1 => k q H1 locs ls hP1 hD1 hS1 hlv)
end CWrows
