/-! THE CLAIM OUT OF ONE WALK OF THE LAW'S BODY. Your part is whole_start (and what it stands on); all else here is the same for every law, but numbers. -/
def R_law : String := "FigureTempersLaw"
def lw_P (b : Addr) (xs : List Int32) (args : Array Value) (s : State) : Prop := args = #[.ref b] ∧ s.IntsAt b xs ∧ xs.length ≤ 3072 ∧ (Jvm.Cond.and given_1 narrow_1).before args s = true
def lw_Q (_ : Array Value) (s : State) (o : Outcome) (t : State) : Prop := o = .returned (some (.int 1)) ∧ Framed s o t [] 600000 7302250
def lw_Z (below : List Frame) (a : Array Value) (s : State) : State → Prop := fun t => ∃ o, t.status = .running ∧ Ended t below o ∧ lw_Q a s o t
/-- the law's own end, with 1 on the stack, nothing written that was there before, its room as the claim has it -/
theorem lw_ret {p : Program} {l : Launch} {e : Env} {s : State} {m : MethodId} {below : List Frame} {meth : Method} {c : Code} {b : Nat} (hx : p.tables.exec = Jvm.exec) (hb : c.code = code) (hr : meth.sig.returnType = ret) (hlocks : meth.locks = false) {pc : Nat} {H : Heap} {ls : Array Slot} (hdg : decode code pc = .ok (.ireturn, 1)) : W p l e room_1 s m #[Value.ref b] below meth c H [] 600000 7302250 (lw_Z below #[Value.ref b] s) (F0 m pc ls [.int 1]) := by
  intro T hT X
  obtain ⟨fs, hret, hrun, hended, hW, hframe⟩ := X.leave (v := some (.int 1)) (hlocks := hlocks) (fun h => by rw [hr] at h; cases h)
  have hmeth' : T.vm.method? m = some meth := X.method'
  refine ⟨T.setFrames fs, ?_, .returned (some (.int 1)), hrun, hended, rfl, ⟨_, rfl⟩, hW, hframe⟩
  jvm_step X.here [X.here.top, hx, hb, hdg, hmeth', hr, ret, narrow_b1]
  (try refine ⟨rfl, ?_⟩); (try refine ⟨rfl, ?_⟩)
  first | (intro acts; rw [hret _ acts rfl rfl rfl]) | rw [hret _ _ rfl rfl rfl]
  exact Steps.refl _
/-- what holds at the law's entry: the machine, the code, the tables' words (any of lw_tbl by 'hts w (by decide +kernel)'), the script of L ints xs at the cell b, what the Statement gives of the start (any of its parts by flat_of_before) -/
def lw_At (p : Program) (s : State) (m : MethodId) (meth : Method) (c : Code) (b L : Nat) (xs : Nat → Int32) : Prop :=
  p.tables.exec = Jvm.exec ∧ c.code = code ∧ meth.sig.returnType = ret ∧ c.maxLocals = 4 ∧ s.vm.findClass R_law = some m.cls ∧ (∀ w ∈ lw_tbl, w.before #[Value.ref b] s = true) ∧ va_X b L xs s s.heap ∧ b < s.heap.size ∧ meth.locks = false ∧ (Jvm.Cond.and given_1 narrow_1).before #[Value.ref b] s = true
/-! the law's rows: two worlds side by side, the class's at the addresses ad, the reference's at ad2 -/
def apartL (A : Nat → Prop) (ad ad2 : Nat → Nat) : Prop := (∀ i j, inW 0 i → inW 0 j → ad i = ad j → i = j) ∧ (∀ i j, inW 1 i → inW 1 j → ad2 i = ad2 j → i = j) ∧ (∀ i j, inW 0 i → inW 1 j → ¬ ad i = ad2 j) ∧ (∀ i, inW 0 i → A (ad i)) ∧ ∀ i, inW 1 i → A (ad2 i)
def LC (X : Cx) (ad2 : Nat → Nat) (b L : Nat) (xs : Nat → Int32) : Prop :=
  match X with
  | (p, _, _, R, s, m, args, below, meth, c, Q, A, D, cs, ad, sK, sV) => p.tables.exec = Jvm.exec ∧ c.code = code ∧ c.maxLocals = 4 ∧ s.vm.findClass R_law = some m.cls ∧ (∀ w ∈ lw_g, w.before args s = true) ∧ KX D cs s ∧ SX sK sV A s s.heap ∧ A = (fun q => s.heap.size ≤ q) ∧ R = room_1 ∧ meth.locks = false ∧ meth.sig.returnType = ret ∧ apartL A ad ad2 ∧ va_X b L xs s s.heap ∧ b < s.heap.size ∧ args = #[Value.ref b] ∧ Q = lw_Z below #[Value.ref b] s
def LW (X : Cx) (ad2 : Nat → Nat) (pc : Nat) (lv : List (Option Value)) (st : List Value) (σ μ : Mm) : Prop :=
  match X with
  | (p, l, e, R, s, m, args, below, meth, c, Q, A, D, cs, ad, _, _) => ∀ (H : Heap) (locs : List Loc) (ls : Array Slot), va_P D vwCl (wsOf cs ad σ 0) H → va_P D vwCl (wsOf cs ad2 μ 1) H → va_S A s.heap H locs → LV ls 4 lv → okM σ → okM μ → W p l e R s m args below meth c H locs 600000 7302250 Q (F0 m pc ls st)
theorem wsOf_at {cs : Nat → ClassId} {ad : Nat → Nat} {σ : Mm} {w k : Nat} {x : Nat × va_E} (h : (wsOf cs ad σ w)[k]? = some x) : k < wn w ∧ x.1 = ad (wlo w + k) := by
  unfold wsOf at h
  rw [List.getElem?_map] at h
  by_cases hk : k < wn w
  · rw [List.getElem?_range hk] at h
    have h := Option.some.inj h
    exact ⟨hk, by rw [← h]⟩
  · rw [List.getElem?_eq_none (by rw [List.length_range]; omega)] at h
    cases h
theorem wsOf_D {cs : Nat → ClassId} {ad : Nat → Nat} {σ : Mm} {w : Nat} {A : Nat → Prop} (h1 : ∀ i j, inW w i → inW w j → ad i = ad j → i = j) (h2 : ∀ i, inW w i → A (ad i)) : va_D A (wsOf cs ad σ w) := by
  refine ⟨fun i j x y hx hy hxy => ?_, fun k x hx => ?_⟩
  · obtain ⟨a1, a2⟩ := wsOf_at hx
    obtain ⟨b1, b2⟩ := wsOf_at hy
    rw [a2, b2] at hxy
    have := h1 _ _ ⟨by omega, by omega⟩ ⟨by omega, by omega⟩ hxy
    omega
  · obtain ⟨a1, a2⟩ := wsOf_at hx
    rw [a2]
    exact h2 _ ⟨by omega, by omega⟩
/-- a call leaves the other world as it is -/
theorem wsOf_kept {D : va_G} {cs : Nat → ClassId} {ad ad' : Nat → Nat} {σ : Mm} {w w' : Nat} {H H1 : Heap} (hne : ∀ i j, inW w i → inW w' j → ¬ ad i = ad' j) (hP : va_P D vwCl (wsOf cs ad' σ w') H) (hk : ∀ q : Nat, q < H.size → ¬ AW ad w H.size q → H1[q]? = H[q]?) : va_P D vwCl (wsOf cs ad' σ w') H1 := by
  refine hP.kept (fun k x hx => ?_)
  have hl := (hP k x hx).lt
  obtain ⟨a1, a2⟩ := wsOf_at hx
  refine hk x.1 hl (fun z => ?_)
  rcases z with ⟨i, hi, z⟩ | z
  · rw [a2] at z
    exact hne i _ hi ⟨by omega, by omega⟩ z.symm
  · omega
theorem W_doneL {p : Program} {l : Launch} {e : Env} {R : Room} {s : State} {mi : MethodId} {args : Array Value} {below : List Frame} {meth : Method} {c : Code} {Q : State → Prop} {H : Heap} {locs : List Loc} {D : va_G} {cs : Nat → ClassId} {ad sK sV : Nat → Nat} {ls : Array Slot} {st0 rest : List Value} {pr : Prop} {ov : Option Value} {σ' : Mm} {a : Array Value} {A : Nat → Prop} {cells slots w pc : Nat}
    (hr : va_Run p l e R s mi args below meth c H locs cells slots 0 0 (F0 mi pc ls st0) rest (QcF D cs ad sK sV w (AW ad w H.size) pr ov σ' a) (AW ad w H.size)) (hS : va_S A s.heap H locs) (hsub : ∀ q, AW ad w H.size q → A q)
    (k : ∀ (H1 : Heap) (locs1 : List Loc), pr → okM σ' → va_P D vwCl (wsOf cs ad σ' w) H1 → (∀ q : Nat, q < H.size → ¬ AW ad w H.size q → H1[q]? = H[q]?) → va_S A s.heap H1 locs1 → W p l e R s mi args below meth c H1 locs1 cells slots Q (F0 mi (pc + 3) ls (ov.toList ++ rest))) : W p l e R s mi args below meth c H locs cells slots Q (F0 mi pc ls st0) := by
  intro T hT X
  obtain ⟨v, st₀, t, T', L, h0, X', hL, e1, e2, ⟨hv, hpr, ⟨hP, hD, hK, hSx, hok⟩, hz, hk⟩, st⟩ := hr T hT X
  cases hv
  rw [h0] at hz hk
  obtain ⟨t2, a1, b1⟩ := k T'.heap (locs ++ L) hpr hok (by rw [e1]; exact hP) (fun q h1 h2 => by rw [e1]; exact hk q h1 h2)
    ⟨Nat.le_trans hS.1 (by rw [e1]; exact hz), fun q h1 h2 => by rw [e1, hk q (Nat.lt_of_lt_of_le h1 hS.1) (fun z => h2 (hsub q z))]; exact hS.2.1 q h1 h2, fun q hq => by
      rcases List.mem_append.mp hq with h | h
      · exact hS.2.2 q h
      · exact hsub _ (hL q h)⟩ T' rfl X'
  exact ⟨t2, st t2 a1, b1⟩
theorem L_run {p : Program} {l : Launch} {e : Env} {R : Room} {s : State} {m : MethodId} {args : Array Value} {below : List Frame} {meth : Method} {c : Code} {Q : State → Prop} {A : Nat → Prop} {D : va_G} {cs : Nat → ClassId} {ad sK sV : Nat → Nat} {w pc ynL yd k idx i ci : Nat} {y : MethodName} {ycc : ByteArray} {yret : Option FieldType} {pr : Prop} {ov : Option Value} {σ σ' : Mm} {av : (Nat → Nat) → List Value} {As rest st : List Value} {H : Heap} {locs : List Loc} {ls : Array Slot}
    (hx : p.tables.exec = Jvm.exec) (hb : c.code = code) (hml : c.maxLocals = 4) (hown : s.vm.findClass R_law = some m.cls) (hts : ∀ w ∈ lw_g, w.before args s = true) (hKx : KX D cs s) (hSx : SX sK sV A s s.heap) (hA : A = (fun q => s.heap.size ≤ q)) (hR : R = room_1) (hap : ∀ i j, inW w i → inW w j → ad i = ad j → i = j) (hin : ∀ i, inW w i → A (ad i))
    (hm : MV y ycc ynL yret k ci) (hl : Cond.methodLink R_law idx y ∈ lw_g) (hw : inW w i) (hKt : Kt i = 7) (hL : Ln i = ci) (hc : CT y ycc ynL yret yd w av σ pr ov σ') (hav : av ad = .ref (ad i) :: As) (hn : As.length = k) (hd : yd ≤ 60) (hnl : ynL ≤ 40) (hst : st = As.reverse ++ .ref (ad i) :: rest) (hrs : (rest.map fun v => v.category).sum ≤ 8) (dd : decode code pc = .ok (.invokevirtual idx, 3))
    (hP : va_P D vwCl (wsOf cs ad σ w) H) (hS : va_S A s.heap H locs) (hls : ls.size = 4) (ho : okM σ)
    (kk : ∀ (H1 : Heap) (locs1 : List Loc), pr → okM σ' → va_P D vwCl (wsOf cs ad σ' w) H1 → (∀ q : Nat, q < H.size → ¬ AW ad w H.size q → H1[q]? = H[q]?) → va_S A s.heap H1 locs1 → W p l e R s m args below meth c H1 locs1 600000 7302250 Q (F0 m (pc + 3) ls (ov.toList ++ rest))) : W p l e R s m args below meth c H locs 600000 7302250 Q (F0 m pc ls st) := by
  subst hR
  subst hst
  subst hL
  obtain ⟨m1, m2, m3, m4, m5, q, m6, m7⟩ := hm
  have hD : va_D A (wsOf cs ad σ w) := wsOf_D hap hin
  have hws : (wsOf cs ad σ w)[i - wlo w]? = some (ad i, .inr (Ln i, (List.range (Nf (Ln i))).map (slotV ad σ (Ln i) i))) := by rw [ws_at hw, cell_obj hKt]
  have hrec := va_recv hKx.1 hP m6 hws
  rw [m7] at hrec
  have hMet := hc l D cs ad sK sV H.size
  rw [hav] at hMet
  have hsub : ∀ q, AW ad w H.size q → A q := fun q hq => by
    rcases hq with ⟨j, hj, rfl⟩ | hq
    · exact hin j hj
    · rw [hA]; exact Nat.le_trans hS.1 hq
  refine W_doneL (va_runV (As := As) (rest := rest) ⟨hx, hb, hml, hown, hts⟩ hMet (cwV (C := y.cls) k hts (goodIn_g (fun _ q => q) ?_) rfl rfl rfl ⟨rfl, m5⟩ ⟨?_, ?_⟩) ⟨blind, hrec, fun U hU hW => ⟨rfl, by rw [hU], by rw [hU]; exact hP, hD.aw, hKx.warm hW, by rw [hU]; exact hSx.warm hW hS.2.1 hsub, ho⟩⟩ rfl hn hls rfl ?_ dd ⟨Nat.le_refl _, Nat.le_refl _⟩) hS hsub kk
  · intro w hw
    unfold wsV at hw
    rcases List.mem_append.mp hw with h | h
    · simp only [List.mem_cons, List.not_mem_nil, or_false] at h
      rcases h with h | h | h | h <;> (rw [h]; assumption)
    · rcases List.mem_cons.mp h with h | h
      · rw [h]; assumption
      · exact h
  · show yd + 1 ≤ 2048
    omega
  · show 8 + (ynL + 11) + 60 * yd ≤ 84000
    omega
  · show 2 * 0 + _ ≤ 8
    omega
abbrev ag (xs : Nat → Int32) (i k : Nat) : Int := (xs (6 * i + k)).toInt
abbrev bz (x : Int) : Int := if x = 0 then 0 else 1
theorem bz_r (x : Int) : r32 (bz x) := by
  unfold bz
  split <;> exact ⟨by decide, by decide⟩
abbrev lvL (X : Cx) (ad2 : Nat → Nat) (b i : Nat) : List (Option Value) := [some (.ref b), some (.ref (xad X 0)), some (.ref (ad2 200)), some (.int (i32 (6 * (i : Int))))]
section LWrows
variable {X : Cx} {ad2 : Nat → Nat} {b L : Nat} {xs : Nat → Int32} {pc : Nat} {lv : List (Option Value)} {st : List Value} {σ μ : Mm}
theorem LW_iconst (h : LC X ad2 b L xs) {z : Int} (dd : decode code pc = .ok (.iconst z, 1)) (k : LW X ad2 (pc + 1) lv (.int (i32 z) :: st) σ μ) : LW X ad2 pc lv st σ μ := by
  obtain ⟨p, l, e, R, s, m, args, below, meth, c, Q, A, D, cs, ad, sK, sV⟩ := X
  intro H locs ls hP hP2 hS hl o1 o2
  exact lv_iconst h.1 h.2.1 dd rfl (k H locs ls hP hP2 hS hl o1 o2)
theorem LW_aload (h : LC X ad2 b L xs) {q : Fin 4} {x : Nat} (hv : lv[(q : Nat)]? = some (some (.ref x))) (dd : decode code pc = .ok (.aload_n q, 1)) (k : LW X ad2 (pc + 1) lv (.ref x :: st) σ μ) : LW X ad2 pc lv st σ μ := by
  obtain ⟨p, l, e, R, s, m, args, below, meth, c, Q, A, D, cs, ad, sK, sV⟩ := X
  intro H locs ls hP hP2 hS hl o1 o2
  exact lv_aload_n h.1 h.2.1 dd rfl (hl.2.2 _ _ hv) (k H locs ls hP hP2 hS hl o1 o2)
theorem LW_goto (h : LC X ad2 b L xs) {off : Int} {tgt : Nat} (dd : decode code pc = .ok (.goto off, 3)) (ht : (pc : Int) + off = (tgt : Int)) (k : LW X ad2 tgt lv st σ μ) : LW X ad2 pc lv st σ μ := by
  obtain ⟨p, l, e, R, s, m, args, below, meth, c, Q, A, D, cs, ad, sK, sV⟩ := X
  intro H locs ls hP hP2 hS hl o1 o2
  exact lv_goto h.1 h.2.1 dd ht (k H locs ls hP hP2 hS hl o1 o2)
/-- two equal answers: on -/
theorem LW_eq (h : LC X ad2 b L xs) {x : Int32} {off : Int} {tgt : Nat} (dd : decode code pc = .ok (.if_icmp .eq off, 3)) (ht : (pc : Int) + off = (tgt : Int)) (k : LW X ad2 tgt lv st σ μ) : LW X ad2 pc lv (.int x :: .int x :: st) σ μ := by
  obtain ⟨p, l, e, R, s, m, args, below, meth, c, Q, A, D, cs, ad, sK, sV⟩ := X
  intro H locs ls hP hP2 hS hl o1 o2
  exact lv_icmp_eq h.1 h.2.1 dd ht (fun _ => k H locs ls hP hP2 hS hl o1 o2) (fun z => absurd rfl z)
/-- a number of the script -/
theorem LW_arg (h : LC X ad2 b L xs) {i : Nat} {va vb : Option Value} (k : Nat) (hL : L ≤ 3072) (hk : 6 * i + k < L) (hlv : lv = [some (.ref b), va, vb, some (.int (i32 (6 * (i : Int))))]) (d0 : decode code pc = .ok (.aload_n 0, 1)) (d1 : decode code (pc + 1) = .ok (.iload_n 3, 1)) (d2 : decode code (pc + 2) = .ok (.iconst (k : Int), 1)) (d3 : decode code (pc + 3) = .ok (.iadd, 1)) (d4 : decode code (pc + 4) = .ok (.iaload, 1)) (kk : LW X ad2 (pc + 5) lv (.int (i32 (ag xs i k)) :: st) σ μ) : LW X ad2 pc lv st σ μ := by
  obtain ⟨p, l, e, R, s, m, args, below, meth, c, Q, A, D, cs, ad, sK, sV⟩ := X
  intro H locs ls hP hP2 hS hl o1 o2
  obtain ⟨hx, hb, hml, hown, hts, hK, hSx, hA, hR, hlk, hrt, hap, hX, hbl, hargs, hQ⟩ := h
  have hbA : ¬ A b := by rw [hA]; exact Nat.not_le.mpr hbl
  subst hlv
  refine lv_aload_n hx hb d0 rfl (hl.2.2 0 _ rfl) ?_
  refine lv_iload_n hx hb d1 rfl (hl.2.2 3 _ rfl) ?_
  refine lv_iconst (v := i32 (k : Int)) hx hb d2 rfl ?_
  refine lv_iadd hx hb d3 ?_
  have e1 : i32 (6 * (i : Int)) + i32 (k : Int) = i32 ((6 * i + k : Nat) : Int) := by rw [← i32_add]; exact congrArg i32 (by omega)
  rw [e1]
  have e2 : (i32 ((6 * i + k : Nat) : Int)).toNatClampNeg = 6 * i + k := by
    rw [i32_clamp ⟨by omega, by omega⟩ (by omega)]
    rfl
  refine va_sld hx hb hX hbl hbA hS (i32_in (by omega) (by omega) (by omega)) d4 ?_
  rw [e2]
  have e3 : i32 (ag xs i k) = xs (6 * i + k) := i32_of _
  rw [← e3]
  exact kk H locs ls hP hP2 hS hl o1 o2
/-- x != 0 as a boolean -/
theorem LW_bool (h : LC X ad2 b L xs) {x : Int} (hx : r32 x) (d0 : decode code pc = .ok (.ifCond .eq 7, 3)) (d1 : decode code (pc + 3) = .ok (.iconst 1, 1)) (d2 : decode code (pc + 4) = .ok (.goto 4, 3)) (d3 : decode code (pc + 7) = .ok (.iconst 0, 1)) (kk : LW X ad2 (pc + 8) lv (.int (i32 (bz x)) :: st) σ μ) : LW X ad2 pc lv (.int (i32 x) :: st) σ μ := by
  obtain ⟨p, l, e, R, s, m, args, below, meth, c, Q, A, D, cs, ad, sK, sV⟩ := X
  intro H locs ls hP hP2 hS hl o1 o2
  have kk := kk H locs ls hP hP2 hS hl o1 o2
  refine lv_if_eq (tgt := pc + 7) h.1 h.2.1 d0 (by omega) (fun z => ?_) (fun z => ?_)
  · have e : x = 0 := (i32_inj hx ⟨by decide, by decide⟩).mp z
    unfold bz at kk
    rw [if_pos e] at kk
    exact lv_iconst (v := i32 0) h.1 h.2.1 d3 rfl kk
  · have e : ¬ x = 0 := fun q => z (by rw [q]; rfl)
    unfold bz at kk
    rw [if_neg e] at kk
    refine lv_iconst (v := i32 1) h.1 h.2.1 d1 rfl ?_
    exact lv_goto (tgt := pc + 8) h.1 h.2.1 d2 (by omega) kk
theorem LW_callA (h : LC X ad2 b L xs) {ynL yd k idx : Nat} {y : MethodName} {ycc : ByteArray} {yret : Option FieldType} {pr : Prop} {ov : Option Value} {σ' : Mm} {av : (Nat → Nat) → List Value} {As rest : List Value} (hm : MV y ycc ynL yret k 10) (hl : Cond.methodLink R_law idx y ∈ lw_g) (hc : CT y ycc ynL yret yd 0 av σ pr ov σ') (hav : av (xad X) = .ref (xad X 0) :: As) (hn : As.length = k) (hd : yd ≤ 60) (hnl : ynL ≤ 40) (hst : st = As.reverse ++ .ref (xad X 0) :: rest) (hrs : (rest.map fun v => v.category).sum ≤ 8) (dd : decode code pc = .ok (.invokevirtual idx, 3)) (kk : pr → LW X ad2 (pc + 3) lv (ov.toList ++ rest) σ' μ) : LW X ad2 pc lv st σ μ := by
  obtain ⟨p, l, e, R, s, m, args, below, meth, c, Q, A, D, cs, ad, sK, sV⟩ := X
  intro H locs ls hP hP2 hS hlv o1 o2
  obtain ⟨hx, hb, hml, hown, hts, hK, hSx, hA, hR, hlk, hrt, ⟨h1, h2, h3, h4, h5⟩, hX, hbl, hargs, hQ⟩ := h
  exact L_run (i := 0) hx hb hml hown hts hK hSx hA hR h1 h4 hm hl ⟨by decide, by decide⟩ rfl rfl hc hav hn hd hnl hst hrs dd hP hS hlv.1 o1 (fun H1 locs1 hpr o1' hP1 hk1 hS1 => kk hpr H1 locs1 ls hP1 (wsOf_kept h3 hP2 hk1) hS1 hlv o1' o2)
theorem LW_callM (h : LC X ad2 b L xs) {ynL yd k idx : Nat} {y : MethodName} {ycc : ByteArray} {yret : Option FieldType} {pr : Prop} {ov : Option Value} {μ' : Mm} {av : (Nat → Nat) → List Value} {As rest : List Value} (hm : MV y ycc ynL yret k 11) (hl : Cond.methodLink R_law idx y ∈ lw_g) (hc : CT y ycc ynL yret yd 1 av μ pr ov μ') (hav : av ad2 = .ref (ad2 200) :: As) (hn : As.length = k) (hd : yd ≤ 60) (hnl : ynL ≤ 40) (hst : st = As.reverse ++ .ref (ad2 200) :: rest) (hrs : (rest.map fun v => v.category).sum ≤ 8) (dd : decode code pc = .ok (.invokevirtual idx, 3)) (kk : pr → LW X ad2 (pc + 3) lv (ov.toList ++ rest) σ μ') : LW X ad2 pc lv st σ μ := by
  obtain ⟨p, l, e, R, s, m, args, below, meth, c, Q, A, D, cs, ad, sK, sV⟩ := X
  intro H locs ls hP hP2 hS hlv o1 o2
  obtain ⟨hx, hb, hml, hown, hts, hK, hSx, hA, hR, hlk, hrt, ⟨h1, h2, h3, h4, h5⟩, hX, hbl, hargs, hQ⟩ := h
  exact L_run (i := 200) hx hb hml hown hts hK hSx hA hR h2 h5 hm hl ⟨by decide, by decide⟩ rfl rfl hc hav hn hd hnl hst hrs dd hP2 hS hlv.1 o2 (fun H1 locs1 hpr o2' hP1 hk1 hS1 => kk hpr H1 locs1 ls (wsOf_kept (fun i j hi hj z => h3 j i hj hi z.symm) hP hk1) hP1 hS1 hlv o1 o2')
end LWrows
