/-! words -/
def lw_g : List Cond := lw_tbl.filter goodWord
theorem lw_gm {w : Cond} (i : Nat) (h : lw_tbl[i]? = some w) (hg : goodWord w = true) : w ∈ lw_g := List.mem_filter.mpr ⟨List.mem_of_getElem? h, hg⟩
theorem lw_gg {w : Cond} (h : w ∈ lw_g) : goodWord w = true := (List.mem_filter.mp h).2
theorem goodIn_g {big : List Cond} (hb : ∀ w ∈ lw_g, w ∈ big) {ws : List Cond} (h : ∀ w ∈ ws, w ∈ lw_g) : GoodIn big ws := fun w hw => ⟨hb w (h w hw), good_of_word (lw_gg (h w hw))⟩
def rmL (d : Nat) : Room := { frames := d, cells := 0, slots := 0, locals := 60 * d }
def AW (ad : Nat → Nat) (w sz : Nat) : Nat → Prop := fun q => (∃ i, inW w i ∧ q = ad i) ∨ sz ≤ q
def tx0 : String := "gets off mood row reckon turn with soothe to day or and not more less left right warm cool often apart last bad figure temper used rows "
def tx1 : String := "<>=#+-*/%(),;"
def lenJS : List Nat := [136, 13]
def bytJS : List (List Int32) := [[103, 101, 116, 115, 32, 111, 102, 102, 32, 109, 111, 111, 100, 32, 114, 111, 119, 32, 114, 101, 99, 107, 111, 110, 32, 116, 117, 114, 110, 32, 119, 105, 116, 104, 32, 115, 111, 111, 116, 104, 101, 32, 116, 111, 32, 100, 97, 121, 32, 111, 114, 32, 97, 110, 100, 32, 110, 111, 116, 32, 109, 111, 114, 101, 32, 108, 101, 115, 115, 32, 108, 101, 102, 116, 32, 114, 105, 103, 104, 116, 32, 119, 97, 114, 109, 32, 99, 111, 111, 108, 32, 111, 102, 116, 101, 110, 32, 97, 112, 97, 114, 116, 32, 108, 97, 115, 116, 32, 98, 97, 100, 32, 102, 105, 103, 117, 114, 101, 32, 116, 101, 109, 112, 101, 114, 32, 117, 115, 101, 100, 32, 114, 111, 119, 115, 32], [60, 62, 61, 35, 43, 45, 42, 47, 37, 40, 41, 44, 59]]
def tyOf (cs : Nat → ClassId) : List (ClassId × FieldType) := [(cs 0, .int), (cs 1, .byte), (cs 2, .boolean), (cs 3, .long), (cs 4, .object RX6), (cs 5, .object RX9), (cs 6, .array .int)]
def KX (D : va_G) (cs : Nat → ClassId) (U : State) : Prop := va_K D vwCl (tyOf cs) U ∧ va_Nw (.methodLinkNest RX6 21 yX10_isNumber RX10) U
def SX (sK sV : Nat → Nat) (A : Nat → Prop) (U : State) (H : Heap) : Prop := vk_R RX5 83 tx0 (sK 0) U ∧ vk_R RX5 75 tx1 (sK 1) U ∧ vk_S 2 lenJS bytJS sK sV A U H ∧ va_Z "java/lang/String" "COMPACT_STRINGS" "Z" (.int 1) A U H ∧ va_Zq "jdk/internal/util/Preconditions" "SIOOBE_FORMATTER" "Ljava/util/function/BiFunction;" A U H
theorem KX.warm {D : va_G} {cs : Nat → ClassId} {s U : State} (hW : s.WarmedH U.vm) (h : KX D cs s) : KX D cs U := ⟨va_K.moved hW.alike h.1, va_Nw.warmM hW h.2⟩
theorem KX.same {D : va_G} {cs : Nat → ClassId} {s U : State} (hv : s.vm = U.vm) (h : KX D cs s) : KX D cs U := ⟨va_K.moved (by rw [hv]; exact Vm.Alike.refl _) h.1, va_Nw.same rfl hv h.2⟩
theorem SX.warm {sK sV : Nat → Nat} {A B : Nat → Prop} {s U : State} {H H1 : Heap} (hW : s.WarmedH U.vm) (hq : ∀ a : Nat, a < H.size → ¬ A a → H1[a]? = H[a]?) (hB : ∀ q, B q → A q) (h : SX sK sV A s H) : SX sK sV B U H1 :=
  ⟨h.1.warm hW, h.2.1.warm hW, ((h.2.2.1.kept hq).moved hW.alike).narrow hB, ((h.2.2.2.1.kept hq).moved hW.alike).narrow hB, ((h.2.2.2.2.kept hq).moved hW.alike).narrow hB⟩
theorem SX.same {sK sV : Nat → Nat} {A : Nat → Prop} {s U : State} {H : Heap} (hv : s.vm = U.vm) (h : SX sK sV A s H) : SX sK sV A U H :=
  ⟨h.1.same hv.symm, h.2.1.same hv.symm, h.2.2.1.moved (by rw [hv]; exact Vm.Alike.refl _), h.2.2.2.1.moved (by rw [hv]; exact Vm.Alike.refl _), h.2.2.2.2.moved (by rw [hv]; exact Vm.Alike.refl _)⟩
def WD (D : va_G) (cs : Nat → ClassId) (ad sK sV : Nat → Nat) (w : Nat) (A : Nat → Prop) (σ : Mm) (U : State) : Prop := va_P D vwCl (wsOf cs ad σ w) U.heap ∧ va_D A (wsOf cs ad σ w) ∧ KX D cs U ∧ SX sK sV A U U.heap ∧ okM σ
def QcF (D : va_G) (cs : Nat → ClassId) (ad sK sV : Nat → Nat) (w : Nat) (A : Nat → Prop) (pr : Prop) (ov : Option Value) (σ' : Mm) : Array Value → State → Outcome → State → Prop := fun _ st oc t => oc = .returned ov ∧ pr ∧ WD D cs ad sK sV w A σ' t ∧ va_F A st t
/-- a method's contract: from memory σ with the arguments av it returns ov, and the memory is σ' -/
def CT (y : MethodName) (cc : ByteArray) (nL : Nat) (ret : Option FieldType) (d w : Nat) (av : (Nat → Nat) → List Value) (σ : Mm) (pr : Prop) (ov : Option Value) (σ' : Mm) : Prop :=
  ∀ (l : Launch) (D : va_G) (cs : Nat → ClassId) (ad sK sV : Nat → Nat) (sz : Nat), Met l y (.code y cc nL ret :: lw_g) (rmL d) (va_Pc (av ad) (fun U => U.heap.size = sz ∧ WD D cs ad sK sV w (AW ad w sz) σ U)) (QcF D cs ad sK sV w (AW ad w sz) pr ov σ') 0 0 (AW ad w sz)
abbrev Cx : Type := Program × Launch × Env × Room × State × MethodId × Array Value × List Frame × Method × Code × (State → Prop) × (Nat → Prop) × va_G × (Nat → ClassId) × (Nat → Nat) × (Nat → Nat) × (Nat → Nat)
def xad (X : Cx) : Nat → Nat := X.2.2.2.2.2.2.2.2.2.2.2.2.2.2.1
def SW (X : Cx) (w nL pc : Nat) (lv : List (Option Value)) (st : List Value) (σ : Mm) : Prop :=
  match X with
  | (p, l, e, R, s, m, args, below, meth, c, Q, A, D, cs, ad, _, _) => ∀ (H : Heap) (locs : List Loc) (ls : Array Slot), va_P D vwCl (wsOf cs ad σ w) H → va_D A (wsOf cs ad σ w) → va_S A s.heap H locs → LV ls nL lv → okM σ → W p l e R s m args below meth c H locs 0 0 Q (F0 m pc ls st)
def CX (X : Cx) (w : Nat) (cc : ByteArray) (nL d : Nat) (ret : Option FieldType) (own : String) : Prop :=
  match X with
  | (p, _, _, R, s, m, args, _, meth, c, _, A, D, cs, ad, sK, sV) => p.tables.exec = Jvm.exec ∧ c.code = cc ∧ c.maxLocals = nL ∧ s.vm.findClass own = some m.cls ∧ (∀ w ∈ lw_g, w.before args s = true) ∧ KX D cs s ∧ SX sK sV A s s.heap ∧ A = AW ad w s.heap.size ∧ R = rmL d ∧ meth.locks = false ∧ meth.sig.returnType = ret
/-- what the method must come to -/
def RX (X : Cx) (w : Nat) (pr : Prop) (ov : Option Value) (σ' : Mm) : Prop :=
  match X with
  | (_, _, _, _, s, _, args, below, _, _, Q, A, D, cs, ad, sK, sV) => Q = MQ below (QcF D cs ad sK sV w A pr ov σ') args s 0 0 A
theorem va_D.aw {ad : Nat → Nat} {cs : Nat → ClassId} {σ : Mm} {w sz : Nat} {A : Nat → Prop} (h : va_D A (wsOf cs ad σ w)) : va_D (AW ad w sz) (wsOf cs ad σ w) := by
  refine ⟨h.1, fun k q hk => Or.inl ?_⟩
  unfold wsOf at hk
  rw [List.getElem?_map] at hk
  by_cases hk2 : k < wn w
  · rw [List.getElem?_range hk2] at hk
    simp only [Option.map_some, Option.some.injEq] at hk
    exact ⟨wlo w + k, ⟨by omega, by omega⟩, by rw [← hk]⟩
  · rw [List.getElem?_eq_none (by simp; omega)] at hk
    cases hk
theorem Met_ofWF {l : Launch} {y : MethodName} {ws ws' : List Cond} {rm : Room} {Pc : Array Value → State → Prop} {Qc : Array Value → State → Outcome → State → Prop} {mc ms : Nat} {free : Addr → Prop} {cc : ByteArray} {maxL : Nat} {ret : Option FieldType}
    (hy : plainFor y = true) (hw : ws = Cond.code y cc maxL ret :: ws')
    (body : ∀ p e s m args below meth c s₁, BodyLoose p l y (headSpec ws rm) cc maxL ret e s m args below meth c s₁ → c.maxLocals = maxL → Pc args s →
      W p l e (headSpec ws rm).room s m args below meth c s.heap [] 0 0 (MQ below Qc args s mc ms free) (entryFrame m args maxL)) : Met l y ws rm Pc Qc mc ms free := by
  refine MetFree.of_bodySF (code := cc) (maxLocals := maxL) (ret := ret) hy ?_ ?_
  · intro args s m h hn
    obtain ⟨meth, c, h1, h2, h3, h4, h5, h6, -, -⟩ := Cond.code_spec hn (atoms_spec (ws := ws) h _ (by rw [hw]; exact List.mem_cons_self))
    exact ⟨meth, c, h1, h2, h3, h4, h5, h6⟩
  · intro p e s m args below meth c s₁ B hml hP _
    have hh0 : s₁.heap = s.heap := by rw [B.state]; rfl
    obtain ⟨t, a1, o, b1, b2, b3⟩ := body p e s m args below meth c s₁ B hml hP s₁ hh0 (Stand.of_body B)
    exact ⟨t, o, a1, b1, b2, ⟨b3.1, b3.2⟩⟩
theorem MetI {y : MethodName} {cc : ByteArray} {nL d w : Nat} {ret : Option FieldType} {own : String} {av : (Nat → Nat) → List Value} {lv : (Nat → Nat) → List (Option Value)} {σ σ' : Mm} {pr : Prop} {ov : Option Value}
    (hy : plainFor y = true) (ho : y.cls = own) (hn : ∀ ad, (lg_sl (av ad)).length ≤ nL) (hlv : ∀ ad, ∀ (i : Nat) (v : Value), (lv ad)[i]? = some (some v) → (i, v) ∈ lv_args 0 (av ad))
    (body : ∀ X : Cx, CX X w cc nL d ret own → RX X w pr ov σ' → SW X w nL 0 (lv (xad X)) [] σ) : CT y cc nL ret d w av σ pr ov σ' := by
  intro l D cs ad sK sV sz
  refine Met_ofWF (cc := cc) (maxL := nL) (ret := ret) hy rfl ?_
  intro p e s m args below meth c s₁ B hml hv
  obtain ⟨rfl, hsz, hP, hD, hK, hS, hok⟩ := hv
  subst hsz
  have hts := atoms_spec (ws := .code y cc nL ret :: lw_g) B.pre
  have hown : s.vm.findClass own = some m.cls := by rw [← ho]; exact findClass_of_methodNamed B.named
  have key := body (p, l, e, rmL d, s, m, (av ad).toArray, below, meth, c, MQ below (QcF D cs ad sK sV w (AW ad w s.heap.size) pr ov σ') (av ad).toArray s 0 0 (AW ad w s.heap.size), AW ad w s.heap.size, D, cs, ad, sK, sV)
    ⟨B.exec, B.bytes, hml, hown, fun w hw => hts w (List.mem_cons_of_mem _ hw), hK, hS, rfl, rfl, B.notSynchronized, B.returns⟩ rfl
  have hl := lv_entry (av ad) (n := nL) (hn ad)
  rw [lg_entry_eq]
  exact key s.heap [] _ hP hD va_S.rf ⟨hl.1, hl.2.1, fun i v h => hl.2.2 (i, v) (hlv ad i v h)⟩ hok

section SWrows
variable {X : Cx} {w nL pc d : Nat} {cc : ByteArray} {own : String} {ret : Option FieldType} {lv : List (Option Value)} {st : List Value} {σ : Mm}
theorem SW_iconst (h : CX X w cc nL d ret own) {n : Int} (dd : decode cc pc = .ok (.iconst n, 1))  (k : SW X w nL (pc + 1) lv (.int (i32 n) :: st) σ) : SW X w nL pc lv (st) σ := by
  obtain ⟨p, l, e, R, s, m, args, below, meth, c, Q, A, D, cs, ad, sK, sV⟩ := X
  intro H locs ls hP hD hS hl ho
  exact lv_iconst h.1 h.2.1 dd rfl (k H locs ls hP hD hS hl ho)
theorem SW_bipush (h : CX X w cc nL d ret own) {n : Int} (dd : decode cc pc = .ok (.bipush n, 2)) (hv : (Int8.ofInt n).toInt32 = i32 n) (k : SW X w nL (pc + 2) lv (.int (i32 n) :: st) σ) : SW X w nL pc lv (st) σ := by
  obtain ⟨p, l, e, R, s, m, args, below, meth, c, Q, A, D, cs, ad, sK, sV⟩ := X
  intro H locs ls hP hD hS hl ho
  exact lv_bipush h.1 h.2.1 dd hv (k H locs ls hP hD hS hl ho)
theorem SW_sipush (h : CX X w cc nL d ret own) {n : Int} (dd : decode cc pc = .ok (.sipush n, 3)) (hv : (Int16.ofInt n).toInt32 = i32 n) (k : SW X w nL (pc + 3) lv (.int (i32 n) :: st) σ) : SW X w nL pc lv (st) σ := by
  obtain ⟨p, l, e, R, s, m, args, below, meth, c, Q, A, D, cs, ad, sK, sV⟩ := X
  intro H locs ls hP hD hS hl ho
  exact lv_sipush h.1 h.2.1 dd hv (k H locs ls hP hD hS hl ho)
theorem SW_lconst (h : CX X w cc nL d ret own) {n : Fin 2} (dd : decode cc pc = .ok (.lconst n, 1))  (k : SW X w nL (pc + 1) lv (.long (i64 (n : Nat)) :: st) σ) : SW X w nL pc lv (st) σ := by
  obtain ⟨p, l, e, R, s, m, args, below, meth, c, Q, A, D, cs, ad, sK, sV⟩ := X
  intro H locs ls hP hD hS hl ho
  exact lv_lconst h.1 h.2.1 dd (by match n with | 0 => rfl | 1 => rfl) (k H locs ls hP hD hS hl ho)
theorem SW_ldc (h : CX X w cc nL d ret own) {i : Nat} {n : Int} {v : Int32} (hc : Cond.constant own i v ∈ lw_g) (hv : v = i32 n) (dd : decode cc pc = .ok (.ldc i, 2))  (k : SW X w nL (pc + 2) lv (.int (i32 n) :: st) σ) : SW X w nL pc lv (st) σ := by
  obtain ⟨p, l, e, R, s, m, args, below, meth, c, Q, A, D, cs, ad, sK, sV⟩ := X
  intro H locs ls hP hD hS hl ho
  exact lv_ldc h.1 h.2.1 h.2.2.2.1 (h.2.2.2.2.1 _ hc) dd (by rw [hv]; exact k H locs ls hP hD hS hl ho)
theorem SW_ldcw (h : CX X w cc nL d ret own) {i : Nat} {n : Int} {v : Int32} (hc : Cond.constant own i v ∈ lw_g) (hv : v = i32 n) (dd : decode cc pc = .ok (.ldc_w i, 3))  (k : SW X w nL (pc + 3) lv (.int (i32 n) :: st) σ) : SW X w nL pc lv (st) σ := by
  obtain ⟨p, l, e, R, s, m, args, below, meth, c, Q, A, D, cs, ad, sK, sV⟩ := X
  intro H locs ls hP hD hS hl ho
  exact lv_ldcw h.1 h.2.1 h.2.2.2.1 (h.2.2.2.2.1 _ hc) dd (by rw [hv]; exact k H locs ls hP hD hS hl ho)
theorem SW_ldc2 (h : CX X w cc nL d ret own) {i : Nat} {n : Int} {v : Int64} (hc : Cond.constantLong own i v ∈ lw_g) (hv : v = i64 n) (dd : decode cc pc = .ok (.ldc2_w i, 3))  (k : SW X w nL (pc + 3) lv (.long (i64 n) :: st) σ) : SW X w nL pc lv (st) σ := by
  obtain ⟨p, l, e, R, s, m, args, below, meth, c, Q, A, D, cs, ad, sK, sV⟩ := X
  intro H locs ls hP hD hS hl ho
  exact lv_ldc2 h.1 h.2.1 h.2.2.2.1 (h.2.2.2.2.1 _ hc) dd (by rw [hv]; exact k H locs ls hP hD hS hl ho)
theorem SW_iload_n (h : CX X w cc nL d ret own) {q : Fin 4} {x : Int32} (hv : lv[(q : Nat)]? = some (some (.int x))) (dd : decode cc pc = .ok (.iload_n q, 1))  (k : SW X w nL (pc + 1) lv (.int x :: st) σ) : SW X w nL pc lv (st) σ := by
  obtain ⟨p, l, e, R, s, m, args, below, meth, c, Q, A, D, cs, ad, sK, sV⟩ := X
  intro H locs ls hP hD hS hl ho
  exact lv_iload_n h.1 h.2.1 dd rfl (hl.2.2 _ _ hv) (k H locs ls hP hD hS hl ho)
theorem SW_iload (h : CX X w cc nL d ret own) {i : Nat} {x : Int32} (hv : lv[i]? = some (some (.int x))) (dd : decode cc pc = .ok (.iload i, 2))  (k : SW X w nL (pc + 2) lv (.int x :: st) σ) : SW X w nL pc lv (st) σ := by
  obtain ⟨p, l, e, R, s, m, args, below, meth, c, Q, A, D, cs, ad, sK, sV⟩ := X
  intro H locs ls hP hD hS hl ho
  exact lv_iload h.1 h.2.1 dd (hl.2.2 _ _ hv) (k H locs ls hP hD hS hl ho)
theorem SW_istore_n (h : CX X w cc nL d ret own) {q : Fin 4} {x : Int32} {lv2 : List (Option Value)} (dd : decode cc pc = .ok (.istore_n q, 1)) (hi : (q : Nat) < nL) (hl2 : set1 lv (q : Nat) (.int x) = lv2) (k : SW X w nL (pc + 1) lv2 st σ) : SW X w nL pc lv (.int x :: st) σ := by
  obtain ⟨p, l, e, R, s, m, args, below, meth, c, Q, A, D, cs, ad, sK, sV⟩ := X
  intro H locs ls hP hD hS hl ho
  exact lv_istore_n h.1 h.2.1 dd rfl hl.has hi rfl (fun ls2 hl3 => k H locs ls2 hP hD hS (hl2 ▸ LV.st1 hl3) ho)
theorem SW_istore (h : CX X w cc nL d ret own) {i : Nat} {x : Int32} {lv2 : List (Option Value)} (dd : decode cc pc = .ok (.istore i, 2)) (hi : i < nL) (hl2 : set1 lv i (.int x) = lv2) (k : SW X w nL (pc + 2) lv2 st σ) : SW X w nL pc lv (.int x :: st) σ := by
  obtain ⟨p, l, e, R, s, m, args, below, meth, c, Q, A, D, cs, ad, sK, sV⟩ := X
  intro H locs ls hP hD hS hl ho
  exact lv_istore h.1 h.2.1 dd hl.has hi rfl (fun ls2 hl3 => k H locs ls2 hP hD hS (hl2 ▸ LV.st1 hl3) ho)
theorem SW_lload_n (h : CX X w cc nL d ret own) {q : Fin 4} {x : Int64} (hv : lv[(q : Nat)]? = some (some (.long x))) (dd : decode cc pc = .ok (.lload_n q, 1))  (k : SW X w nL (pc + 1) lv (.long x :: st) σ) : SW X w nL pc lv (st) σ := by
  obtain ⟨p, l, e, R, s, m, args, below, meth, c, Q, A, D, cs, ad, sK, sV⟩ := X
  intro H locs ls hP hD hS hl ho
  exact lv_lload_n h.1 h.2.1 dd rfl (hl.2.2 _ _ hv) (k H locs ls hP hD hS hl ho)
theorem SW_lload (h : CX X w cc nL d ret own) {i : Nat} {x : Int64} (hv : lv[i]? = some (some (.long x))) (dd : decode cc pc = .ok (.lload i, 2))  (k : SW X w nL (pc + 2) lv (.long x :: st) σ) : SW X w nL pc lv (st) σ := by
  obtain ⟨p, l, e, R, s, m, args, below, meth, c, Q, A, D, cs, ad, sK, sV⟩ := X
  intro H locs ls hP hD hS hl ho
  exact lv_lload h.1 h.2.1 dd (hl.2.2 _ _ hv) (k H locs ls hP hD hS hl ho)
theorem SW_lstore_n (h : CX X w cc nL d ret own) {q : Fin 4} {x : Int64} {lv2 : List (Option Value)} (dd : decode cc pc = .ok (.lstore_n q, 1)) (hi : (q : Nat) + 1 < nL) (hl2 : set2 lv (q : Nat) (.long x) = lv2) (k : SW X w nL (pc + 1) lv2 st σ) : SW X w nL pc lv (.long x :: st) σ := by
  obtain ⟨p, l, e, R, s, m, args, below, meth, c, Q, A, D, cs, ad, sK, sV⟩ := X
  intro H locs ls hP hD hS hl ho
  exact lv_lstore_n h.1 h.2.1 dd rfl hl.has hi rfl (fun ls2 hl3 => k H locs ls2 hP hD hS (hl2 ▸ LV.st2 hl3) ho)
theorem SW_lstore (h : CX X w cc nL d ret own) {i : Nat} {x : Int64} {lv2 : List (Option Value)} (dd : decode cc pc = .ok (.lstore i, 2)) (hi : i + 1 < nL) (hl2 : set2 lv i (.long x) = lv2) (k : SW X w nL (pc + 2) lv2 st σ) : SW X w nL pc lv (.long x :: st) σ := by
  obtain ⟨p, l, e, R, s, m, args, below, meth, c, Q, A, D, cs, ad, sK, sV⟩ := X
  intro H locs ls hP hD hS hl ho
  exact lv_lstore h.1 h.2.1 dd hl.has hi rfl (fun ls2 hl3 => k H locs ls2 hP hD hS (hl2 ▸ LV.st2 hl3) ho)
theorem SW_aload_n (h : CX X w cc nL d ret own) {q : Fin 4} {x : Nat} (hv : lv[(q : Nat)]? = some (some (.ref x))) (dd : decode cc pc = .ok (.aload_n q, 1))  (k : SW X w nL (pc + 1) lv (.ref x :: st) σ) : SW X w nL pc lv (st) σ := by
  obtain ⟨p, l, e, R, s, m, args, below, meth, c, Q, A, D, cs, ad, sK, sV⟩ := X
  intro H locs ls hP hD hS hl ho
  exact lv_aload_n h.1 h.2.1 dd rfl (hl.2.2 _ _ hv) (k H locs ls hP hD hS hl ho)
theorem SW_aload (h : CX X w cc nL d ret own) {i : Nat} {x : Nat} (hv : lv[i]? = some (some (.ref x))) (dd : decode cc pc = .ok (.aload i, 2))  (k : SW X w nL (pc + 2) lv (.ref x :: st) σ) : SW X w nL pc lv (st) σ := by
  obtain ⟨p, l, e, R, s, m, args, below, meth, c, Q, A, D, cs, ad, sK, sV⟩ := X
  intro H locs ls hP hD hS hl ho
  exact lv_aload h.1 h.2.1 dd (hl.2.2 _ _ hv) (k H locs ls hP hD hS hl ho)
theorem SW_astore_n (h : CX X w cc nL d ret own) {q : Fin 4} {x : Nat} {lv2 : List (Option Value)} (dd : decode cc pc = .ok (.astore_n q, 1)) (hi : (q : Nat) < nL) (hl2 : set1 lv (q : Nat) (.ref x) = lv2) (k : SW X w nL (pc + 1) lv2 st σ) : SW X w nL pc lv (.ref x :: st) σ := by
  obtain ⟨p, l, e, R, s, m, args, below, meth, c, Q, A, D, cs, ad, sK, sV⟩ := X
  intro H locs ls hP hD hS hl ho
  exact lv_astore_n h.1 h.2.1 dd rfl hl.has hi rfl (fun ls2 hl3 => k H locs ls2 hP hD hS (hl2 ▸ LV.st1 hl3) ho)
theorem SW_astore (h : CX X w cc nL d ret own) {i : Nat} {x : Nat} {lv2 : List (Option Value)} (dd : decode cc pc = .ok (.astore i, 2)) (hi : i < nL) (hl2 : set1 lv i (.ref x) = lv2) (k : SW X w nL (pc + 2) lv2 st σ) : SW X w nL pc lv (.ref x :: st) σ := by
  obtain ⟨p, l, e, R, s, m, args, below, meth, c, Q, A, D, cs, ad, sK, sV⟩ := X
  intro H locs ls hP hD hS hl ho
  exact lv_astore h.1 h.2.1 dd hl.has hi rfl (fun ls2 hl3 => k H locs ls2 hP hD hS (hl2 ▸ LV.st1 hl3) ho)
theorem SW_iinc (h : CX X w cc nL d ret own) {i : Nat} {n x : Int} {lv2 : List (Option Value)} (dd : decode cc pc = .ok (.iinc i n, 3)) (hv : lv[i]? = some (some (.int (i32 x)))) (hi : i < nL) (hl2 : set1 lv i (.int (i32 (x + n))) = lv2) (k : SW X w nL (pc + 3) lv2 st σ) : SW X w nL pc lv st σ := by
  obtain ⟨p, l, e, R, s, m, args, below, meth, c, Q, A, D, cs, ad, sK, sV⟩ := X
  intro H locs ls hP hD hS hl ho
  have hm : (i, Value.int (i32 x)) ∈ prs 0 lv := prs_mem.mpr ⟨Nat.zero_le _, by simpa using hv⟩
  obtain ⟨q, hq⟩ := List.getElem?_of_mem hm
  exact lv_iinc h.1 h.2.1 dd hl.has hq (v := i32 (x + n)) (by rw [i32_add]; rfl) hi rfl (fun ls2 hl3 => k H locs ls2 hP hD hS (hl2 ▸ LV.st1 hl3) ho)
theorem SW_iadd (h : CX X w cc nL d ret own) {x y : Int} (dd : decode cc pc = .ok (.iadd, 1))  (k : SW X w nL (pc + 1) lv (.int (i32 (x + y)) :: st) σ) : SW X w nL pc lv (.int (i32 y) :: .int (i32 x) :: st) σ := by
  obtain ⟨p, l, e, R, s, m, args, below, meth, c, Q, A, D, cs, ad, sK, sV⟩ := X
  intro H locs ls hP hD hS hl ho
  exact lv_iadd h.1 h.2.1 dd (by rw [← i32_add]; exact k H locs ls hP hD hS hl ho)
theorem SW_isub (h : CX X w cc nL d ret own) {x y : Int} (dd : decode cc pc = .ok (.isub, 1))  (k : SW X w nL (pc + 1) lv (.int (i32 (x - y)) :: st) σ) : SW X w nL pc lv (.int (i32 y) :: .int (i32 x) :: st) σ := by
  obtain ⟨p, l, e, R, s, m, args, below, meth, c, Q, A, D, cs, ad, sK, sV⟩ := X
  intro H locs ls hP hD hS hl ho
  exact lv_isub h.1 h.2.1 dd (by rw [← i32_sub]; exact k H locs ls hP hD hS hl ho)
theorem SW_imul (h : CX X w cc nL d ret own) {x y : Int} (dd : decode cc pc = .ok (.imul, 1))  (k : SW X w nL (pc + 1) lv (.int (i32 (x * y)) :: st) σ) : SW X w nL pc lv (.int (i32 y) :: .int (i32 x) :: st) σ := by
  obtain ⟨p, l, e, R, s, m, args, below, meth, c, Q, A, D, cs, ad, sK, sV⟩ := X
  intro H locs ls hP hD hS hl ho
  exact lv_imul h.1 h.2.1 dd (by rw [← i32_mul]; exact k H locs ls hP hD hS hl ho)
theorem SW_ladd (h : CX X w cc nL d ret own) {x y : Int} (dd : decode cc pc = .ok (.ladd, 1))  (k : SW X w nL (pc + 1) lv (.long (i64 (x + y)) :: st) σ) : SW X w nL pc lv (.long (i64 y) :: .long (i64 x) :: st) σ := by
  obtain ⟨p, l, e, R, s, m, args, below, meth, c, Q, A, D, cs, ad, sK, sV⟩ := X
  intro H locs ls hP hD hS hl ho
  exact lv_ladd h.1 h.2.1 dd (by rw [← i64_add]; exact k H locs ls hP hD hS hl ho)
theorem SW_lsub (h : CX X w cc nL d ret own) {x y : Int} (dd : decode cc pc = .ok (.lsub, 1))  (k : SW X w nL (pc + 1) lv (.long (i64 (x - y)) :: st) σ) : SW X w nL pc lv (.long (i64 y) :: .long (i64 x) :: st) σ := by
  obtain ⟨p, l, e, R, s, m, args, below, meth, c, Q, A, D, cs, ad, sK, sV⟩ := X
  intro H locs ls hP hD hS hl ho
  exact lv_lsub h.1 h.2.1 dd (by rw [← i64_sub]; exact k H locs ls hP hD hS hl ho)
theorem SW_lmul (h : CX X w cc nL d ret own) {x y : Int} (dd : decode cc pc = .ok (.lmul, 1))  (k : SW X w nL (pc + 1) lv (.long (i64 (x * y)) :: st) σ) : SW X w nL pc lv (.long (i64 y) :: .long (i64 x) :: st) σ := by
  obtain ⟨p, l, e, R, s, m, args, below, meth, c, Q, A, D, cs, ad, sK, sV⟩ := X
  intro H locs ls hP hD hS hl ho
  exact lv_lmul h.1 h.2.1 dd (by rw [← i64_mul]; exact k H locs ls hP hD hS hl ho)
theorem SW_iand (h : CX X w cc nL d ret own) {x y : Int} (dd : decode cc pc = .ok (.iand, 1))  (k : SW X w nL (pc + 1) lv (.int (i32 (iand x y)) :: st) σ) : SW X w nL pc lv (.int (i32 y) :: .int (i32 x) :: st) σ := by
  obtain ⟨p, l, e, R, s, m, args, below, meth, c, Q, A, D, cs, ad, sK, sV⟩ := X
  intro H locs ls hP hD hS hl ho
  exact lv_iand h.1 h.2.1 dd (by have k2 := k H locs ls hP hD hS hl ho; rw [iand, i32_of] at k2; exact k2)
theorem SW_ior (h : CX X w cc nL d ret own) {x y : Int} (dd : decode cc pc = .ok (.ior, 1))  (k : SW X w nL (pc + 1) lv (.int (i32 (ior x y)) :: st) σ) : SW X w nL pc lv (.int (i32 y) :: .int (i32 x) :: st) σ := by
  obtain ⟨p, l, e, R, s, m, args, below, meth, c, Q, A, D, cs, ad, sK, sV⟩ := X
  intro H locs ls hP hD hS hl ho
  exact lv_ior h.1 h.2.1 dd (by have k2 := k H locs ls hP hD hS hl ho; rw [ior, i32_of] at k2; exact k2)
theorem SW_ixor (h : CX X w cc nL d ret own) {x y : Int} (dd : decode cc pc = .ok (.ixor, 1))  (k : SW X w nL (pc + 1) lv (.int (i32 (ixor x y)) :: st) σ) : SW X w nL pc lv (.int (i32 y) :: .int (i32 x) :: st) σ := by
  obtain ⟨p, l, e, R, s, m, args, below, meth, c, Q, A, D, cs, ad, sK, sV⟩ := X
  intro H locs ls hP hD hS hl ho
  exact lv_ixor h.1 h.2.1 dd (by have k2 := k H locs ls hP hD hS hl ho; rw [ixor, i32_of] at k2; exact k2)
theorem SW_ishl (h : CX X w cc nL d ret own) {x y : Int} (dd : decode cc pc = .ok (.ishl, 1))  (k : SW X w nL (pc + 1) lv (.int (i32 (ishl x y)) :: st) σ) : SW X w nL pc lv (.int (i32 y) :: .int (i32 x) :: st) σ := by
  obtain ⟨p, l, e, R, s, m, args, below, meth, c, Q, A, D, cs, ad, sK, sV⟩ := X
  intro H locs ls hP hD hS hl ho
  exact lv_ishl h.1 h.2.1 dd (by have k2 := k H locs ls hP hD hS hl ho; rw [ishl, i32_of] at k2; exact k2)
theorem SW_ishr (h : CX X w cc nL d ret own) {x y : Int} (dd : decode cc pc = .ok (.ishr, 1))  (k : SW X w nL (pc + 1) lv (.int (i32 (ishr x y)) :: st) σ) : SW X w nL pc lv (.int (i32 y) :: .int (i32 x) :: st) σ := by
  obtain ⟨p, l, e, R, s, m, args, below, meth, c, Q, A, D, cs, ad, sK, sV⟩ := X
  intro H locs ls hP hD hS hl ho
  exact lv_ishr h.1 h.2.1 dd (by have k2 := k H locs ls hP hD hS hl ho; rw [ishr, i32_of] at k2; exact k2)
theorem SW_iushr (h : CX X w cc nL d ret own) {x y : Int} (dd : decode cc pc = .ok (.iushr, 1))  (k : SW X w nL (pc + 1) lv (.int (i32 (iushr x y)) :: st) σ) : SW X w nL pc lv (.int (i32 y) :: .int (i32 x) :: st) σ := by
  obtain ⟨p, l, e, R, s, m, args, below, meth, c, Q, A, D, cs, ad, sK, sV⟩ := X
  intro H locs ls hP hD hS hl ho
  exact lv_iushr h.1 h.2.1 dd rfl (by have k2 := k H locs ls hP hD hS hl ho; rw [iushr, i32_of] at k2; exact k2)
theorem SW_ineg (h : CX X w cc nL d ret own) {x : Int} (dd : decode cc pc = .ok (.ineg, 1))  (k : SW X w nL (pc + 1) lv (.int (i32 (-x)) :: st) σ) : SW X w nL pc lv (.int (i32 x) :: st) σ := by
  obtain ⟨p, l, e, R, s, m, args, below, meth, c, Q, A, D, cs, ad, sK, sV⟩ := X
  intro H locs ls hP hD hS hl ho
  exact lv_ineg h.1 h.2.1 dd (by rw [← i32_neg]; exact k H locs ls hP hD hS hl ho)
theorem SW_lneg (h : CX X w cc nL d ret own) {x : Int} (dd : decode cc pc = .ok (.lneg, 1))  (k : SW X w nL (pc + 1) lv (.long (i64 (-x)) :: st) σ) : SW X w nL pc lv (.long (i64 x) :: st) σ := by
  obtain ⟨p, l, e, R, s, m, args, below, meth, c, Q, A, D, cs, ad, sK, sV⟩ := X
  intro H locs ls hP hD hS hl ho
  exact lv_lneg h.1 h.2.1 dd (by rw [← i64_neg]; exact k H locs ls hP hD hS hl ho)
theorem SW_idiv (h : CX X w cc nL d ret own) {x y : Int} (hx : okM σ → r32 x) (hy : okM σ → r32 y) (hz : ¬ y = 0) (dd : decode cc pc = .ok (.idiv, 1))  (k : SW X w nL (pc + 1) lv (.int (i32 (x.tdiv y)) :: st) σ) : SW X w nL pc lv (.int (i32 y) :: .int (i32 x) :: st) σ := by
  obtain ⟨p, l, e, R, s, m, args, below, meth, c, Q, A, D, cs, ad, sK, sV⟩ := X
  intro H locs ls hP hD hS hl ho
  exact lv_idiv h.1 h.2.1 dd (i32_ne0 (hy ho) hz) (by rw [← i32_div (hx ho) (hy ho)]; exact k H locs ls hP hD hS hl ho)
theorem SW_irem (h : CX X w cc nL d ret own) {x y : Int} (hx : okM σ → r32 x) (hy : okM σ → r32 y) (hz : ¬ y = 0) (dd : decode cc pc = .ok (.irem, 1))  (k : SW X w nL (pc + 1) lv (.int (i32 (x.tmod y)) :: st) σ) : SW X w nL pc lv (.int (i32 y) :: .int (i32 x) :: st) σ := by
  obtain ⟨p, l, e, R, s, m, args, below, meth, c, Q, A, D, cs, ad, sK, sV⟩ := X
  intro H locs ls hP hD hS hl ho
  exact lv_irem h.1 h.2.1 dd (i32_ne0 (hy ho) hz) (by rw [← i32_rem (hx ho) (hy ho)]; exact k H locs ls hP hD hS hl ho)
theorem SW_ldiv (h : CX X w cc nL d ret own) {x y : Int} (hx : okM σ → r64 x) (hy : okM σ → r64 y) (hz : ¬ y = 0) (dd : decode cc pc = .ok (.ldiv, 1))  (k : SW X w nL (pc + 1) lv (.long (i64 (x.tdiv y)) :: st) σ) : SW X w nL pc lv (.long (i64 y) :: .long (i64 x) :: st) σ := by
  obtain ⟨p, l, e, R, s, m, args, below, meth, c, Q, A, D, cs, ad, sK, sV⟩ := X
  intro H locs ls hP hD hS hl ho
  exact lv_ldiv h.1 h.2.1 dd (i64_ne0 (hy ho) hz) (by rw [← i64_div (hx ho) (hy ho)]; exact k H locs ls hP hD hS hl ho)
theorem SW_lrem (h : CX X w cc nL d ret own) {x y : Int} (hx : okM σ → r64 x) (hy : okM σ → r64 y) (hz : ¬ y = 0) (dd : decode cc pc = .ok (.lrem, 1))  (k : SW X w nL (pc + 1) lv (.long (i64 (x.tmod y)) :: st) σ) : SW X w nL pc lv (.long (i64 y) :: .long (i64 x) :: st) σ := by
  obtain ⟨p, l, e, R, s, m, args, below, meth, c, Q, A, D, cs, ad, sK, sV⟩ := X
  intro H locs ls hP hD hS hl ho
  exact lv_lrem h.1 h.2.1 dd (i64_ne0 (hy ho) hz) (by rw [← i64_rem (hx ho) (hy ho)]; exact k H locs ls hP hD hS hl ho)
theorem SW_lcmp (h : CX X w cc nL d ret own) {x y : Int} (hx : okM σ → r64 x) (hy : okM σ → r64 y) (dd : decode cc pc = .ok (.lcmp, 1))  (k : SW X w nL (pc + 1) lv (.int (i32 (lcmpI x y)) :: st) σ) : SW X w nL pc lv (.long (i64 y) :: .long (i64 x) :: st) σ := by
  obtain ⟨p, l, e, R, s, m, args, below, meth, c, Q, A, D, cs, ad, sK, sV⟩ := X
  intro H locs ls hP hD hS hl ho
  exact W.lcmp h.1 h.2.1 dd (by rw [lcmp_i (hx ho) (hy ho)]; exact k H locs ls hP hD hS hl ho)
theorem SW_i2l (h : CX X w cc nL d ret own) {x : Int} (hx : okM σ → r32 x) (dd : decode cc pc = .ok (.i2l, 1))  (k : SW X w nL (pc + 1) lv (.long (i64 x) :: st) σ) : SW X w nL pc lv (.int (i32 x) :: st) σ := by
  obtain ⟨p, l, e, R, s, m, args, below, meth, c, Q, A, D, cs, ad, sK, sV⟩ := X
  intro H locs ls hP hD hS hl ho
  exact lv_i2l h.1 h.2.1 dd (i32_i64 (hx ho)) (k H locs ls hP hD hS hl ho)
theorem SW_l2i (h : CX X w cc nL d ret own) {x : Int} (dd : decode cc pc = .ok (.l2i, 1))  (k : SW X w nL (pc + 1) lv (.int (i32 (l2iI x)) :: st) σ) : SW X w nL pc lv (.long (i64 x) :: st) σ := by
  obtain ⟨p, l, e, R, s, m, args, below, meth, c, Q, A, D, cs, ad, sK, sV⟩ := X
  intro H locs ls hP hD hS hl ho
  exact lv_l2i h.1 h.2.1 dd (by rw [l2iI, i32_of]) (k H locs ls hP hD hS hl ho)
theorem SW_i2b (h : CX X w cc nL d ret own) {x : Int} (dd : decode cc pc = .ok (.i2b, 1))  (k : SW X w nL (pc + 1) lv (.int (i32 (i2bI x)) :: st) σ) : SW X w nL pc lv (.int (i32 x) :: st) σ := by
  obtain ⟨p, l, e, R, s, m, args, below, meth, c, Q, A, D, cs, ad, sK, sV⟩ := X
  intro H locs ls hP hD hS hl ho
  exact lv_i2b h.1 h.2.1 dd (by rw [i2bI, i32_of]) (k H locs ls hP hD hS hl ho)
theorem SW_i2c (h : CX X w cc nL d ret own) {x : Int} (dd : decode cc pc = .ok (.i2c, 1))  (k : SW X w nL (pc + 1) lv (.int (i32 (i2cI x)) :: st) σ) : SW X w nL pc lv (.int (i32 x) :: st) σ := by
  obtain ⟨p, l, e, R, s, m, args, below, meth, c, Q, A, D, cs, ad, sK, sV⟩ := X
  intro H locs ls hP hD hS hl ho
  exact lv_i2c h.1 h.2.1 dd (by rw [i2cI, i32_of]) (k H locs ls hP hD hS hl ho)
theorem SW_dup (h : CX X w cc nL d ret own) {v : Value} (hc : v.category = 1) (dd : decode cc pc = .ok (.dup, 1))  (k : SW X w nL (pc + 1) lv (v :: v :: st) σ) : SW X w nL pc lv (v :: st) σ := by
  obtain ⟨p, l, e, R, s, m, args, below, meth, c, Q, A, D, cs, ad, sK, sV⟩ := X
  intro H locs ls hP hD hS hl ho
  exact lv_dup h.1 h.2.1 dd hc (k H locs ls hP hD hS hl ho)
theorem SW_pop (h : CX X w cc nL d ret own) {v : Value} (hc : v.category = 1) (dd : decode cc pc = .ok (.pop, 1))  (k : SW X w nL (pc + 1) lv (st) σ) : SW X w nL pc lv (v :: st) σ := by
  obtain ⟨p, l, e, R, s, m, args, below, meth, c, Q, A, D, cs, ad, sK, sV⟩ := X
  intro H locs ls hP hD hS hl ho
  exact lv_pop h.1 h.2.1 dd hc (k H locs ls hP hD hS hl ho)
theorem SW_dup2 (h : CX X w cc nL d ret own) {u v : Value} (hu : u.category = 1) (hc : v.category = 1) (dd : decode cc pc = .ok (.dup2, 1))  (k : SW X w nL (pc + 1) lv (u :: v :: u :: v :: st) σ) : SW X w nL pc lv (u :: v :: st) σ := by
  obtain ⟨p, l, e, R, s, m, args, below, meth, c, Q, A, D, cs, ad, sK, sV⟩ := X
  intro H locs ls hP hD hS hl ho
  exact lv_dup2_11 h.1 h.2.1 dd hu hc (k H locs ls hP hD hS hl ho)
theorem SW_null (h : CX X w cc nL d ret own)  (dd : decode cc pc = .ok (.aconst_null, 1))  (k : SW X w nL (pc + 1) lv (.null :: st) σ) : SW X w nL pc lv (st) σ := by
  obtain ⟨p, l, e, R, s, m, args, below, meth, c, Q, A, D, cs, ad, sK, sV⟩ := X
  intro H locs ls hP hD hS hl ho
  exact lv_null h.1 h.2.1 dd (k H locs ls hP hD hS hl ho)
theorem SW_goto (h : CX X w cc nL d ret own) {off : Int} {tgt : Nat} (dd : decode cc pc = .ok (.goto off, 3)) (ht : (pc : Int) + off = (tgt : Int)) (k : SW X w nL tgt lv st σ) : SW X w nL pc lv (st) σ := by
  obtain ⟨p, l, e, R, s, m, args, below, meth, c, Q, A, D, cs, ad, sK, sV⟩ := X
  intro H locs ls hP hD hS hl ho
  exact lv_goto h.1 h.2.1 dd ht (k H locs ls hP hD hS hl ho)
theorem SW_icmp_eq (h : CX X w cc nL d ret own) {ρ : Type} {FA FB : Option ρ} {r : ρ} {x y : Int} {off : Int} {tgt : Nat} (hx : okM σ → r32 x) (hy : okM σ → r32 y) (dd : decode cc pc = .ok (.if_icmp .eq off, 3)) (ht : (pc : Int) + off = (tgt : Int)) (hf : (if x = y then FA else FB) = some r) (kt : FA = some r → SW X w nL tgt lv st σ) (kf : FB = some r → SW X w nL (pc + 3) lv st σ) : SW X w nL pc lv (.int (i32 y) :: .int (i32 x) :: st) σ := by
  obtain ⟨p, l, e, R, s, m, args, below, meth, c, Q, A, D, cs, ad, sK, sV⟩ := X
  intro H locs ls hP hD hS hl ho
  exact lv_icmp_eq h.1 h.2.1 dd ht (fun q => kt (by rw [if_pos ((i32_inj (hx ho) (hy ho)).mp q)] at hf; exact hf) H locs ls hP hD hS hl ho) (fun q => kf (by rw [if_neg (fun z => q ((i32_inj (hx ho) (hy ho)).mpr z))] at hf; exact hf) H locs ls hP hD hS hl ho)
theorem SW_icmp_ne (h : CX X w cc nL d ret own) {ρ : Type} {FA FB : Option ρ} {r : ρ} {x y : Int} {off : Int} {tgt : Nat} (hx : okM σ → r32 x) (hy : okM σ → r32 y) (dd : decode cc pc = .ok (.if_icmp .ne off, 3)) (ht : (pc : Int) + off = (tgt : Int)) (hf : (if x = y then FA else FB) = some r) (kt : FA = some r → SW X w nL (pc + 3) lv st σ) (kf : FB = some r → SW X w nL tgt lv st σ) : SW X w nL pc lv (.int (i32 y) :: .int (i32 x) :: st) σ := by
  obtain ⟨p, l, e, R, s, m, args, below, meth, c, Q, A, D, cs, ad, sK, sV⟩ := X
  intro H locs ls hP hD hS hl ho
  exact lv_icmp_ne h.1 h.2.1 dd ht (fun q => kf (by rw [if_neg (fun z => q ((i32_inj (hx ho) (hy ho)).mpr z))] at hf; exact hf) H locs ls hP hD hS hl ho) (fun q => kt (by rw [if_pos ((i32_inj (hx ho) (hy ho)).mp q)] at hf; exact hf) H locs ls hP hD hS hl ho)
theorem SW_icmp_lt (h : CX X w cc nL d ret own) {ρ : Type} {FA FB : Option ρ} {r : ρ} {x y : Int} {off : Int} {tgt : Nat} (hx : okM σ → r32 x) (hy : okM σ → r32 y) (dd : decode cc pc = .ok (.if_icmp .lt off, 3)) (ht : (pc : Int) + off = (tgt : Int)) (hf : (if x < y then FA else FB) = some r) (kt : FA = some r → SW X w nL tgt lv st σ) (kf : FB = some r → SW X w nL (pc + 3) lv st σ) : SW X w nL pc lv (.int (i32 y) :: .int (i32 x) :: st) σ := by
  obtain ⟨p, l, e, R, s, m, args, below, meth, c, Q, A, D, cs, ad, sK, sV⟩ := X
  intro H locs ls hP hD hS hl ho
  exact lv_icmp_lt h.1 h.2.1 dd ht (fun q => kt (by rw [if_pos ((i32_lt (hx ho) (hy ho)).mp q)] at hf; exact hf) H locs ls hP hD hS hl ho) (fun q => kf (by rw [if_neg (fun z => q ((i32_lt (hx ho) (hy ho)).mpr z))] at hf; exact hf) H locs ls hP hD hS hl ho)
theorem SW_icmp_ge (h : CX X w cc nL d ret own) {ρ : Type} {FA FB : Option ρ} {r : ρ} {x y : Int} {off : Int} {tgt : Nat} (hx : okM σ → r32 x) (hy : okM σ → r32 y) (dd : decode cc pc = .ok (.if_icmp .ge off, 3)) (ht : (pc : Int) + off = (tgt : Int)) (hf : (if y ≤ x then FA else FB) = some r) (kt : FA = some r → SW X w nL tgt lv st σ) (kf : FB = some r → SW X w nL (pc + 3) lv st σ) : SW X w nL pc lv (.int (i32 y) :: .int (i32 x) :: st) σ := by
  obtain ⟨p, l, e, R, s, m, args, below, meth, c, Q, A, D, cs, ad, sK, sV⟩ := X
  intro H locs ls hP hD hS hl ho
  exact lv_icmp_ge h.1 h.2.1 dd ht (fun q => kt (by rw [if_pos ((i32_le (hy ho) (hx ho)).mp q)] at hf; exact hf) H locs ls hP hD hS hl ho) (fun q => kf (by rw [if_neg (fun z => q ((i32_le (hy ho) (hx ho)).mpr z))] at hf; exact hf) H locs ls hP hD hS hl ho)
theorem SW_icmp_gt (h : CX X w cc nL d ret own) {ρ : Type} {FA FB : Option ρ} {r : ρ} {x y : Int} {off : Int} {tgt : Nat} (hx : okM σ → r32 x) (hy : okM σ → r32 y) (dd : decode cc pc = .ok (.if_icmp .gt off, 3)) (ht : (pc : Int) + off = (tgt : Int)) (hf : (if y < x then FA else FB) = some r) (kt : FA = some r → SW X w nL tgt lv st σ) (kf : FB = some r → SW X w nL (pc + 3) lv st σ) : SW X w nL pc lv (.int (i32 y) :: .int (i32 x) :: st) σ := by
  obtain ⟨p, l, e, R, s, m, args, below, meth, c, Q, A, D, cs, ad, sK, sV⟩ := X
  intro H locs ls hP hD hS hl ho
  exact lv_icmp_gt h.1 h.2.1 dd ht (fun q => kt (by rw [if_pos ((i32_lt (hy ho) (hx ho)).mp q)] at hf; exact hf) H locs ls hP hD hS hl ho) (fun q => kf (by rw [if_neg (fun z => q ((i32_lt (hy ho) (hx ho)).mpr z))] at hf; exact hf) H locs ls hP hD hS hl ho)
theorem SW_icmp_le (h : CX X w cc nL d ret own) {ρ : Type} {FA FB : Option ρ} {r : ρ} {x y : Int} {off : Int} {tgt : Nat} (hx : okM σ → r32 x) (hy : okM σ → r32 y) (dd : decode cc pc = .ok (.if_icmp .le off, 3)) (ht : (pc : Int) + off = (tgt : Int)) (hf : (if x ≤ y then FA else FB) = some r) (kt : FA = some r → SW X w nL tgt lv st σ) (kf : FB = some r → SW X w nL (pc + 3) lv st σ) : SW X w nL pc lv (.int (i32 y) :: .int (i32 x) :: st) σ := by
  obtain ⟨p, l, e, R, s, m, args, below, meth, c, Q, A, D, cs, ad, sK, sV⟩ := X
  intro H locs ls hP hD hS hl ho
  exact lv_icmp_le h.1 h.2.1 dd ht (fun q => kt (by rw [if_pos ((i32_le (hx ho) (hy ho)).mp q)] at hf; exact hf) H locs ls hP hD hS hl ho) (fun q => kf (by rw [if_neg (fun z => q ((i32_le (hx ho) (hy ho)).mpr z))] at hf; exact hf) H locs ls hP hD hS hl ho)
theorem SW_if_eq (h : CX X w cc nL d ret own) {ρ : Type} {FA FB : Option ρ} {r : ρ} {x : Int} {off : Int} {tgt : Nat} (hx : okM σ → r32 x) (dd : decode cc pc = .ok (.ifCond .eq off, 3)) (ht : (pc : Int) + off = (tgt : Int)) (hf : (if x = 0 then FA else FB) = some r) (kt : FA = some r → SW X w nL tgt lv st σ) (kf : FB = some r → SW X w nL (pc + 3) lv st σ) : SW X w nL pc lv (.int (i32 x) :: st) σ := by
  obtain ⟨p, l, e, R, s, m, args, below, meth, c, Q, A, D, cs, ad, sK, sV⟩ := X
  intro H locs ls hP hD hS hl ho
  exact lv_if_eq h.1 h.2.1 dd ht (fun q => kt (by rw [if_pos ((i32_inj (hx ho) (show r32 0 from ⟨by omega, by omega⟩)).mp q)] at hf; exact hf) H locs ls hP hD hS hl ho) (fun q => kf (by rw [if_neg (fun z => q ((i32_inj (hx ho) (show r32 0 from ⟨by omega, by omega⟩)).mpr z))] at hf; exact hf) H locs ls hP hD hS hl ho)
theorem SW_if_ne (h : CX X w cc nL d ret own) {ρ : Type} {FA FB : Option ρ} {r : ρ} {x : Int} {off : Int} {tgt : Nat} (hx : okM σ → r32 x) (dd : decode cc pc = .ok (.ifCond .ne off, 3)) (ht : (pc : Int) + off = (tgt : Int)) (hf : (if x = 0 then FA else FB) = some r) (kt : FA = some r → SW X w nL (pc + 3) lv st σ) (kf : FB = some r → SW X w nL tgt lv st σ) : SW X w nL pc lv (.int (i32 x) :: st) σ := by
  obtain ⟨p, l, e, R, s, m, args, below, meth, c, Q, A, D, cs, ad, sK, sV⟩ := X
  intro H locs ls hP hD hS hl ho
  exact lv_if_ne h.1 h.2.1 dd ht (fun q => kf (by rw [if_neg (fun z => q ((i32_inj (hx ho) (show r32 0 from ⟨by omega, by omega⟩)).mpr z))] at hf; exact hf) H locs ls hP hD hS hl ho) (fun q => kt (by rw [if_pos ((i32_inj (hx ho) (show r32 0 from ⟨by omega, by omega⟩)).mp q)] at hf; exact hf) H locs ls hP hD hS hl ho)
theorem SW_if_lt (h : CX X w cc nL d ret own) {ρ : Type} {FA FB : Option ρ} {r : ρ} {x : Int} {off : Int} {tgt : Nat} (hx : okM σ → r32 x) (dd : decode cc pc = .ok (.ifCond .lt off, 3)) (ht : (pc : Int) + off = (tgt : Int)) (hf : (if x < 0 then FA else FB) = some r) (kt : FA = some r → SW X w nL tgt lv st σ) (kf : FB = some r → SW X w nL (pc + 3) lv st σ) : SW X w nL pc lv (.int (i32 x) :: st) σ := by
  obtain ⟨p, l, e, R, s, m, args, below, meth, c, Q, A, D, cs, ad, sK, sV⟩ := X
  intro H locs ls hP hD hS hl ho
  exact lv_if_lt h.1 h.2.1 dd ht (fun q => kt (by rw [if_pos ((i32_lt (hx ho) (show r32 0 from ⟨by omega, by omega⟩)).mp q)] at hf; exact hf) H locs ls hP hD hS hl ho) (fun q => kf (by rw [if_neg (fun z => q ((i32_lt (hx ho) (show r32 0 from ⟨by omega, by omega⟩)).mpr z))] at hf; exact hf) H locs ls hP hD hS hl ho)
theorem SW_if_ge (h : CX X w cc nL d ret own) {ρ : Type} {FA FB : Option ρ} {r : ρ} {x : Int} {off : Int} {tgt : Nat} (hx : okM σ → r32 x) (dd : decode cc pc = .ok (.ifCond .ge off, 3)) (ht : (pc : Int) + off = (tgt : Int)) (hf : (if 0 ≤ x then FA else FB) = some r) (kt : FA = some r → SW X w nL tgt lv st σ) (kf : FB = some r → SW X w nL (pc + 3) lv st σ) : SW X w nL pc lv (.int (i32 x) :: st) σ := by
  obtain ⟨p, l, e, R, s, m, args, below, meth, c, Q, A, D, cs, ad, sK, sV⟩ := X
  intro H locs ls hP hD hS hl ho
  exact lv_if_ge h.1 h.2.1 dd ht (fun q => kt (by rw [if_pos ((i32_le (show r32 0 from ⟨by omega, by omega⟩) (hx ho)).mp q)] at hf; exact hf) H locs ls hP hD hS hl ho) (fun q => kf (by rw [if_neg (fun z => q ((i32_le (show r32 0 from ⟨by omega, by omega⟩) (hx ho)).mpr z))] at hf; exact hf) H locs ls hP hD hS hl ho)
theorem SW_if_gt (h : CX X w cc nL d ret own) {ρ : Type} {FA FB : Option ρ} {r : ρ} {x : Int} {off : Int} {tgt : Nat} (hx : okM σ → r32 x) (dd : decode cc pc = .ok (.ifCond .gt off, 3)) (ht : (pc : Int) + off = (tgt : Int)) (hf : (if 0 < x then FA else FB) = some r) (kt : FA = some r → SW X w nL tgt lv st σ) (kf : FB = some r → SW X w nL (pc + 3) lv st σ) : SW X w nL pc lv (.int (i32 x) :: st) σ := by
  obtain ⟨p, l, e, R, s, m, args, below, meth, c, Q, A, D, cs, ad, sK, sV⟩ := X
  intro H locs ls hP hD hS hl ho
  exact lv_if_gt h.1 h.2.1 dd ht (fun q => kt (by rw [if_pos ((i32_lt (show r32 0 from ⟨by omega, by omega⟩) (hx ho)).mp q)] at hf; exact hf) H locs ls hP hD hS hl ho) (fun q => kf (by rw [if_neg (fun z => q ((i32_lt (show r32 0 from ⟨by omega, by omega⟩) (hx ho)).mpr z))] at hf; exact hf) H locs ls hP hD hS hl ho)
theorem SW_if_le (h : CX X w cc nL d ret own) {ρ : Type} {FA FB : Option ρ} {r : ρ} {x : Int} {off : Int} {tgt : Nat} (hx : okM σ → r32 x) (dd : decode cc pc = .ok (.ifCond .le off, 3)) (ht : (pc : Int) + off = (tgt : Int)) (hf : (if x ≤ 0 then FA else FB) = some r) (kt : FA = some r → SW X w nL tgt lv st σ) (kf : FB = some r → SW X w nL (pc + 3) lv st σ) : SW X w nL pc lv (.int (i32 x) :: st) σ := by
  obtain ⟨p, l, e, R, s, m, args, below, meth, c, Q, A, D, cs, ad, sK, sV⟩ := X
  intro H locs ls hP hD hS hl ho
  exact lv_if_le h.1 h.2.1 dd ht (fun q => kt (by rw [if_pos ((i32_le (hx ho) (show r32 0 from ⟨by omega, by omega⟩)).mp q)] at hf; exact hf) H locs ls hP hD hS hl ho) (fun q => kf (by rw [if_neg (fun z => q ((i32_le (hx ho) (show r32 0 from ⟨by omega, by omega⟩)).mpr z))] at hf; exact hf) H locs ls hP hD hS hl ho)
/-- a test that F makes and the machine doesn't -/
theorem SW_chk {ρ : Type} {c : Prop} {i : Decidable c} {FA : Option ρ} {r : ρ} (hf : (@ite _ c i FA none) = some r) (k : c → FA = some r → SW X w nL pc lv st σ) : SW X w nL pc lv st σ := by
  by_cases q : c
  · rw [if_pos q] at hf; exact k q hf
  · rw [if_neg q] at hf; cases hf
theorem SW_ite {ρ : Type} {c : Prop} {i : Decidable c} {FA FB : Option ρ} {r : ρ} (hf : (@ite _ c i FA FB) = some r) (kt : c → FA = some r → SW X w nL pc lv st σ) (kf : ¬ c → FB = some r → SW X w nL pc lv st σ) : SW X w nL pc lv st σ := by
  by_cases q : c
  · rw [if_pos q] at hf; exact kt q hf
  · rw [if_neg q] at hf; exact kf q hf
theorem SW_lv {lv2 : List (Option Value)} (hl : lvLe lv2 lv) (k : SW X w nL pc lv2 st σ) : SW X w nL pc lv st σ := by
  obtain ⟨p, l, e, R, s, m, args, below, meth, c, Q, A, D, cs, ad, sK, sV⟩ := X
  exact fun H locs ls hP hD hS h2 ho => k H locs ls hP hD hS (h2.le hl) ho
theorem SW_eq {st2 : List Value} (e : st2 = st) (k : SW X w nL pc lv st2 σ) : SW X w nL pc lv st σ := e ▸ k
theorem SW_ok (k : okM σ → SW X w nL pc lv st σ) : SW X w nL pc lv st σ := by
  obtain ⟨p, l, e, R, s, m, args, below, meth, c, Q, A, D, cs, ad, sK, sV⟩ := X
  exact fun H locs ls hP hD hS h2 ho => k ho H locs ls hP hD hS h2 ho
theorem SW_tabIn (h : CX X w cc nL d ret own) {dflt lo hi : Int} {offs : Array Int} {len : Nat} {x : Int} {off : Int} {tgt : Nat} (i : Nat) (hx : okM σ → r32 x) (dd : decode cc pc = .ok (.tableswitch dflt lo hi offs, len)) (hxi : x = lo + i) (hi2 : lo + i ≤ hi) (hof : offs[i]? = some off) (ht : (pc : Int) + off = (tgt : Int)) (k : SW X w nL tgt lv st σ) : SW X w nL pc lv (.int (i32 x) :: st) σ := by
  obtain ⟨p, l, e, R, s, m, args, below, meth, c, Q, A, D, cs, ad, sK, sV⟩ := X
  intro H locs ls hP hD hS hl ho
  refine lv_tableIn h.1 h.2.1 dd ?_ ?_ ?_ ht (k H locs ls hP hD hS hl ho)
  · rw [i32_toInt (hx ho)]; omega
  · rw [i32_toInt (hx ho)]; omega
  · rw [i32_toInt (hx ho)]
    have e2 : (x - lo).toNat = i := by omega
    rw [e2]; exact hof
theorem SW_tabOut (h : CX X w cc nL d ret own) {dflt lo hi : Int} {offs : Array Int} {len : Nat} {x : Int} {tgt : Nat} (hx : okM σ → r32 x) (dd : decode cc pc = .ok (.tableswitch dflt lo hi offs, len)) (hxo : x < lo ∨ hi < x) (ht : (pc : Int) + dflt = (tgt : Int)) (k : SW X w nL tgt lv st σ) : SW X w nL pc lv (.int (i32 x) :: st) σ := by
  obtain ⟨p, l, e, R, s, m, args, below, meth, c, Q, A, D, cs, ad, sK, sV⟩ := X
  intro H locs ls hP hD hS hl ho
  exact lv_tableOut h.1 h.2.1 dd (by rw [i32_toInt (hx ho)]; exact hxo) ht (k H locs ls hP hD hS hl ho)
theorem SW_look (h : CX X w cc nL d ret own) {dflt : Int} {ps : Array (Int × Int)} {len : Nat} {x off : Int} {tgt : Nat} (hx : okM σ → r32 x) (dd : decode cc pc = .ok (.lookupswitch dflt ps, len)) (hp : (ps.toList.zip (ps.toList.drop 1)).all (fun (a, next) => a.1 < next.1) = true) (ho : Op.lookupswitch.offset ps.toList dflt x = off) (ht : (pc : Int) + off = (tgt : Int)) (k : SW X w nL tgt lv st σ) : SW X w nL pc lv (.int (i32 x) :: st) σ := by
  obtain ⟨p, l, e, R, s, m, args, below, meth, c, Q, A, D, cs, ad, sK, sV⟩ := X
  intro H locs ls hP hD hS hl ho2
  exact lv_lookup h.1 h.2.1 dd hp (by rw [i32_toInt (hx ho2)]; exact ho) ht (k H locs ls hP hD hS hl ho2)

end SWrows
