def MIc (y : MethodName) (ycc : ByteArray) (ynL k : Nat) : Prop := Cond.initialized y.cls ∈ lw_g ∧ Cond.instanceMethod y ∈ lw_g ∧ Cond.code y ycc ynL none ∈ lw_g ∧ y.name = "<init>" ∧ (y.cls ≠ "java/lang/invoke/MethodHandle" ∧ y.cls ≠ "java/lang/invoke/VarHandle" ∧ (parseMethodDescriptor y.desc).map (fun d => d.parameters.length) = some k)
theorem W_doneI {p : Program} {l : Launch} {e : Env} {R : Room} {s : State} {m : MethodId} {args : Array Value} {below : List Frame} {meth : Method} {c : Code} {Q : State → Prop} {H : Heap} {locs : List Loc} {D : va_G} {cs : Nat → ClassId} {sK sV : Nat → Nat} {ls : Array Slot} {st0 rest : List Value} {a : Array Value} {A B : Nat → Prop} {w1 : (Nat → Nat) → va_W} {pc cells slots mc ms : Nat}
    (hr : va_Run p l e R s m args below meth c H locs cells slots mc ms (F0 m pc ls st0) rest (QI D cs sK sV B w1 a) B) (hS : va_S A s.heap H locs) (hB : ∀ q, B q → A q)
    (k : ∀ (f : Nat → Nat) (H1 : Heap) (locs1 : List Loc), va_P D vwCl (w1 f) H1 → va_D B (w1 f) → (∀ q : Nat, q < H.size → ¬ B q → H1[q]? = H[q]?) → va_S A s.heap H1 locs1 → W p l e R s m args below meth c H1 locs1 (cells + mc) (slots + ms) Q (F0 m (pc + 3) ls rest)) : W p l e R s m args below meth c H locs cells slots Q (F0 m pc ls st0) := by
  intro T hT X
  obtain ⟨v, st₀, t, T', L, h0, X', hL, e1, e2, ⟨hv, ⟨f, hP, hD⟩, hK, hSx, hz, hk⟩, st⟩ := hr T hT X
  cases hv
  rw [h0] at hz hk
  obtain ⟨t2, a1, b1⟩ := k f T'.heap (locs ++ L) (by rw [e1]; exact hP) hD (fun q h1 h2 => by rw [e1]; exact hk q h1 h2)
    ⟨Nat.le_trans hS.1 (by rw [e1]; exact hz), fun q h1 h2 => by rw [e1, hk q (Nat.lt_of_lt_of_le h1 hS.1) (fun z => h2 (hB q z))]; exact hS.2.1 q h1 h2, fun q hq => by
      rcases List.mem_append.mp hq with h | h
      · exact hS.2.2 q h
      · exact hB _ (hL q h)⟩ T' rfl X'
  exact ⟨t2, st t2 a1, b1⟩
/-- behind a constructor: the caller's world and the new cells -/
theorem joinI {D : va_G} {A : Nat → Prop} {w0 wE sub : va_W} {a : Nat} {b : va_E} {H H1 : Heap} (hP : va_P D vwCl (w0 ++ [(a, b)]) H) (hD : va_D A (w0 ++ [(a, b)])) (isE : List Nat) (hE : isE.map (fun i => w0[i]?) = wE.map some)
    (hB : ∀ q, va_A (wE ++ [(a, b)]) H.size q → A q) (hP1 : va_P D vwCl (wE ++ sub) H1) (hD1 : va_D (va_A (wE ++ [(a, b)]) H.size) (wE ++ sub)) (hk : ∀ q : Nat, q < H.size → ¬ va_A (wE ++ [(a, b)]) H.size q → H1[q]? = H[q]?) : va_P D vwCl (w0 ++ sub) H1 ∧ va_D A (w0 ++ sub) := by
  have inE : ∀ (k : Nat) (x : Nat × va_E), wE[k]? = some x → ∃ i : Nat, w0[i]? = some x := by
    intro k x hx
    have h1 : (isE.map (fun i => w0[i]?))[k]? = some (some x) := by rw [hE, List.getElem?_map, hx]; rfl
    rw [List.getElem?_map] at h1
    cases hi : isE[k]? with
    | none => rw [hi] at h1; cases h1
    | some i => rw [hi] at h1; exact ⟨i, Option.some.inj h1⟩
  have up : ∀ (k : Nat) (x : Nat × va_E), w0[k]? = some x → (w0 ++ [(a, b)])[k]? = some x := fun k x hx => by
    rw [List.getElem?_append_left (List.getElem?_eq_some_iff.mp hx).1]; exact hx
  have last : (w0 ++ [(a, b)])[w0.length]? = some (a, b) := by rw [List.getElem?_append_right (Nat.le_refl _), Nat.sub_self]; rfl
  have key : ∀ (k : Nat) (x : Nat × va_E), w0[k]? = some x → va_A (wE ++ [(a, b)]) H.size x.1 → ∃ j : Nat, wE[j]? = some x := by
    intro k x hx hA
    have hl := (hP k x (up k x hx)).lt
    rcases hA with ⟨j, e, he⟩ | he
    · rw [List.getElem?_append] at he
      split at he
      · obtain ⟨i, hi⟩ := inE j _ he
        have := hD.1 k i x (x.1, e) (up k x hx) (up i _ hi) rfl
        subst this
        rw [hx] at hi
        exact ⟨j, by rw [he]; exact hi.symm⟩
      · have hj : j - wE.length = 0 := by
          have := (List.getElem?_eq_some_iff.mp he).1
          simp at this
          omega
        rw [hj] at he
        have ea : a = x.1 := by have := Option.some.inj he; rw [Prod.mk.injEq] at this; exact this.1
        have := hD.1 k w0.length x (a, b) (up k x hx) last ea.symm
        have hlt := (List.getElem?_eq_some_iff.mp hx).1
        omega
    · omega
  have at0 : ∀ (k : Nat) (x : Nat × va_E), w0[k]? = some x → x.1 < H.size := fun k x hx => (hP k x (up k x hx)).lt
  constructor
  · refine va_P.app (fun k x hx => ?_) (fun k x hx => ?_)
    · by_cases hA : va_A (wE ++ [(a, b)]) H.size x.1
      · obtain ⟨j, hj⟩ := key k x hx hA
        exact hP1 j x (by rw [List.getElem?_append_left (List.getElem?_eq_some_iff.mp hj).1]; exact hj)
      · exact (hP k x (up k x hx)).kept (hk x.1 (at0 k x hx) hA)
    · exact hP1 (wE.length + k) x (by rw [List.getElem?_append_right (by omega), Nat.add_sub_cancel_left]; exact hx)
  · refine va_D.app ⟨fun i j x y hx hy hxy => hD.1 i j x y (up i x hx) (up j y hy) hxy, fun k x hx => hD.2 k x (up k x hx)⟩ ⟨fun i j x y hx hy hxy => ?_, fun k x hx => hB _ (hD1.2 (wE.length + k) x (by rw [List.getElem?_append_right (by omega), Nat.add_sub_cancel_left]; exact hx))⟩ (fun i j x y hx hy hxy => ?_)
    · have := hD1.1 (wE.length + i) (wE.length + j) x y (by rw [List.getElem?_append_right (by omega), Nat.add_sub_cancel_left]; exact hx) (by rw [List.getElem?_append_right (by omega), Nat.add_sub_cancel_left]; exact hy) hxy
      omega
    · have hy2 : (wE ++ sub)[wE.length + j]? = some y := by rw [List.getElem?_append_right (by omega), Nat.add_sub_cancel_left]; exact hy
      have hB2 := hD1.2 _ y hy2
      rw [← hxy] at hB2
      obtain ⟨q, hq⟩ := key i x hx hB2
      have hlt := (List.getElem?_eq_some_iff.mp hq).1
      have := hD1.1 q (wE.length + j) x y (by rw [List.getElem?_append_left hlt]; exact hq) hy2 hxy
      omega
section CWcall
variable {X : Cx} {nL pc d C S : Nat} {cc : ByteArray} {own : String} {ret : Option FieldType} {lv : List (Option Value)} {st : List Value} {n m : Nat}
theorem blindI {av : List Value} {D : va_G} {cs : Nat → ClassId} {sK sV : Nat → Nat} {w0 : va_W} {sz : Nat} : FrameBlind (va_Pc av (PI D cs sK sV w0 sz)) := by
  intro a U g mk q
  obtain ⟨q0, q1, qP, qD, qK, qS, qo⟩ := q
  exact ⟨q0, q1, qP, qD, KX.same rfl qK, SX.same rfl qS, NX.same rfl qo⟩
theorem preI {s U : State} {H : Heap} {locs : List Loc} {av : List Value} {D : va_G} {cs : Nat → ClassId} {sK sV : Nat → Nat} {A : Nat → Prop} {w0 wc : va_W} (hK : KX D cs s) (hSx : SX sK sV A s s.heap) (hNx : NX s) (hP : va_P D vwCl w0 H) (hD : va_D A w0) (hS : va_S A s.heap H locs) (isC : List Nat) (hC : isC.map (fun i => w0[i]?) = wc.map some) (hnd : va_nd isC = true) (hA : ∀ q, s.heap.size ≤ q → A q) (hU : U.heap = H) (hW : s.WarmedH U.vm) : va_Pc av (PI D cs sK sV wc H.size) av.toArray U := by
  refine ⟨rfl, by rw [hU], by rw [hU]; exact hP.sub isC (map_fm hC), (hD.sub isC hnd hC).self, hK.warm hW, ?_, hNx.warm hW⟩
  rw [hU]
  exact hSx.warm hW hS.2.1 (va_free hD hS hA isC hC)
theorem isC_ok {w0 wE : va_W} {a : Nat} {b : va_E} {isE : List Nat} (hE : isE.map (fun i => w0[i]?) = wE.map some) : (isE ++ [w0.length]).map (fun i => (w0 ++ [(a, b)])[i]?) = (wE ++ [(a, b)]).map some := by
  rw [List.map_append, List.map_append, ← hE]
  congr 1
  · apply List.map_congr_left
    intro i hi
    have h1 : w0[i]? ∈ isE.map (fun i => w0[i]?) := List.mem_map.mpr ⟨i, hi, rfl⟩
    rw [hE] at h1
    obtain ⟨x, -, hx⟩ := List.mem_map.mp h1
    rw [List.getElem?_append_left (List.getElem?_eq_some_iff.mp hx.symm).1]
  · simp
theorem KW_ctor (h : CXi X cc nL d C S ret own) {y : MethodName} {ycc : ByteArray} {ynL yd yC yS k idx a : Nat} {As rest : List Value} {wE : (Nat → ClassId) → va_W} {b : va_E} {sub : (Nat → ClassId) → (Nat → Nat) → va_W} {w0 : va_W} (hm : MIc y ycc ynL k) (hl : Cond.methodLink own idx y ∈ lw_g) (hc : CI y ycc ynL yd yC yS As a wE b sub) (isE : List Nat) (hE : isE.map (fun i => w0[i]?) = (wE (xcs X)).map some) (hnd : va_nd (isE ++ [w0.length]) = true) (hlen : As.length = k) (hd : yd + 1 ≤ d) (hnl : ynL ≤ 40) (hn : n + yC ≤ C) (hmm : m + yS ≤ S) (hst : st = As.reverse ++ .ref a :: rest) (hrs : (rest.map fun v => v.category).sum ≤ 8) (dd : decode cc pc = .ok (.invokespecial idx, 3)) (kk : ∀ f : Nat → Nat, KW X nL (pc + 3) lv rest (w0 ++ sub (xcs X) f) (n + yC) (m + yS)) : KW X nL pc lv st (w0 ++ [(a, b)]) n m := by
  obtain ⟨p, l, e, R, s, mi, args, below, meth, c, Q, A, D, cs, ad, sK, sV⟩ := X
  intro H locs ls hP hD hS hlv
  obtain ⟨hx, hbb, hml, hown, hts, hK, hSx, hA, hR, hlk, hrt, hnm, hNx⟩ := h
  subst hR
  subst hst
  obtain ⟨m1, m2, m3, m4, m5⟩ := hm
  have hE : isE.map (fun i => w0[i]?) = (wE cs).map some := hE
  have hC := isC_ok (a := a) (b := b) hE
  have hF := va_free hD hS hA (isE ++ [w0.length]) hC
  refine W_doneI (va_runI (As := As) (rest := rest) ⟨hx, hbb, hml, hown, hts⟩ (hc l D cs sK sV H.size) (cwI k hts (goodIn_g (fun _ q => q) (fun w hw => ?_)) rfl rfl rfl (hts _ m1) (hts _ hl) (hts _ m2) m4 m5 ⟨hd, ?_⟩) ⟨blindI, fun U hU hW => preI hK hSx hNx hP hD hS _ hC hnd hA hU hW⟩ rfl hlen hlv.1 rfl ?_ dd ⟨hn, hmm⟩) hS hF (fun f H1 locs1 hP1 hD1 hk1 hS1 => ?_)
  · rcases List.mem_cons.mp hw with q | q
    · rw [q]; exact m3
    · exact q
  · show 8 + (ynL + 11) + 60 * yd ≤ 60 * d
    omega
  · show 2 * 0 + _ ≤ 8
    omega
  · obtain ⟨j1, j2⟩ := joinI hP hD isE hE hF hP1 hD1 hk1
    exact kk f H1 locs1 ls j1 j2 hS1 hlv
theorem KW_ctorN (h : CXi X cc nL d C S ret own) {y : MethodName} {ycc : ByteArray} {ynL yd yC yS k idx a : Nat} {As rest : List Value} {wE : (Nat → ClassId) → va_W} {b : va_E} {sub : (Nat → ClassId) → (Nat → Nat) → va_W} {w0 : va_W} (hm : MIc y ycc ynL k) (hl : ∀ U : State, NX U → va_Nw (.methodLinkNest own idx y RX10) U) (hc : CI y ycc ynL yd yC yS As a wE b sub) (isE : List Nat) (hE : isE.map (fun i => w0[i]?) = (wE (xcs X)).map some) (hnd : va_nd (isE ++ [w0.length]) = true) (hlen : As.length = k) (hd : yd + 1 ≤ d) (hnl : ynL ≤ 40) (hn : n + yC ≤ C) (hmm : m + yS ≤ S) (hst : st = As.reverse ++ .ref a :: rest) (hrs : (rest.map fun v => v.category).sum ≤ 8) (dd : decode cc pc = .ok (.invokespecial idx, 3)) (kk : ∀ f : Nat → Nat, KW X nL (pc + 3) lv rest (w0 ++ sub (xcs X) f) (n + yC) (m + yS)) : KW X nL pc lv st (w0 ++ [(a, b)]) n m := by
  obtain ⟨p, l, e, R, s, mi, args, below, meth, c, Q, A, D, cs, ad, sK, sV⟩ := X
  intro H locs ls hP hD hS hlv
  obtain ⟨hx, hbb, hml, hown, hts, hK, hSx, hA, hR, hlk, hrt, hnm, hNx⟩ := h
  subst hR
  subst hst
  obtain ⟨m1, m2, m3, m4, m5⟩ := hm
  have hE : isE.map (fun i => w0[i]?) = (wE cs).map some := hE
  have hC := isC_ok (a := a) (b := b) hE
  have hF := va_free hD hS hA (isE ++ [w0.length]) hC
  refine W_doneI (va_runIN (As := As) (rest := rest) ⟨hx, hbb, hml, hown, hts⟩ (hc l D cs sK sV H.size) ⟨va_cnB k hts (goodIn_g (fun _ q => q) (fun w hw => ?_)) rfl rfl rfl (hl s hNx) (hts _ m1) m5 ⟨hd, ?_⟩, m4, hts _ m2⟩ ⟨blindI, fun U hU hW => preI hK hSx hNx hP hD hS _ hC hnd hA hU hW⟩ rfl hlen hlv.1 rfl ?_ dd ⟨hn, hmm⟩) hS hF (fun f H1 locs1 hP1 hD1 hk1 hS1 => ?_)
  · rcases List.mem_cons.mp hw with q | q
    · rw [q]; exact m3
    · exact q
  · show 8 + (ynL + 11) + 60 * yd ≤ 60 * d
    omega
  · show 2 * 0 + _ ≤ 8
    omega
  · obtain ⟨j1, j2⟩ := joinI hP hD isE hE hF hP1 hD1 hk1
    exact kk f H1 locs1 ls j1 j2 hS1 hlv
end CWcall
