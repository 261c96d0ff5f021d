-- the end of the two constructors: the world as a memory, a call of a method
def eqE (e e' : va_E) : Prop := e = e' ∨ ∃ (c : ClassId) (a a' : vp_A), e = .inl (c, a) ∧ e' = .inl (c, a') ∧ vp_cell c a = vp_cell c a'
theorem P_to {D : va_G} {H : Heap} {ws w : va_W} (hP : va_P D vwCl ws H) (is : List Nat) (he : ∀ (k : Nat) (x : Nat × va_E), w[k]? = some x → ∃ (i : Nat) (e : va_E), is[k]? = some i ∧ ws[i]? = some (x.1, e) ∧ eqE e x.2) : va_P D vwCl w H := by
  intro k x hx
  obtain ⟨i, e, -, h1, h2⟩ := he k x hx
  have hp := hP i _ h1
  obtain ⟨a, e'⟩ := x
  rcases h2 with h2 | ⟨c, a1, a2, rfl, h3, h4⟩
  · have h2 : e = e' := h2
    subst h2
    exact hp
  · have h3 : e' = .inl (c, a2) := h3
    subst h3
    show H[a]? = some (vp_cell c a2)
    rw [← h4]
    exact hp
theorem D_to {A : Nat → Prop} {ws w : va_W} (hD : va_D A ws) (is : List Nat) (hnd : va_nd is = true) (he : ∀ (k : Nat) (x : Nat × va_E), w[k]? = some x → ∃ (i : Nat) (e : va_E), is[k]? = some i ∧ ws[i]? = some (x.1, e) ∧ eqE e x.2) : va_D A w := by
  refine ⟨fun i j x y hx hy hxy => ?_, fun k x hx => ?_⟩
  · obtain ⟨i1, e1, a1, b1, -⟩ := he i x hx
    obtain ⟨i2, e2, a2, b2, -⟩ := he j y hy
    have := hD.1 i1 i2 _ _ b1 b2 hxy
    subst this
    exact va_nd_inj is hnd i j i1 a1 a2
  · obtain ⟨i1, e1, a1, b1, -⟩ := he k x hx
    exact hD.2 i1 (x.1, e1) b1
section KWcall
variable {X : Cx} {nL pc d C S w : Nat} {cc : ByteArray} {own : String} {ret : Option FieldType} {lv : List (Option Value)} {st : List Value} {n m : Nat} {σ : Mm}
theorem KW_to (h : CXi X cc nL d C S ret own) {ws w1 : va_W} (is : List Nat) (hnd : va_nd is = true) (he : ∀ (k : Nat) (x : Nat × va_E), w1[k]? = some x → ∃ (i : Nat) (e : va_E), is[k]? = some i ∧ ws[i]? = some (x.1, e) ∧ eqE e x.2) (kk : KW X nL pc lv st w1 n m) : KW X nL pc lv st ws n m := by
  obtain ⟨p, l, e, R, s, mi, args, below, meth, c, Q, A, D, cs, ad, sK, sV⟩ := X
  intro H locs ls hP hD hS hlv
  exact kk H locs ls (P_to hP is he) (D_to hD is hnd he) hS hlv
theorem W_doneK {p : Program} {l : Launch} {e : Env} {R : Room} {s : State} {mi : MethodId} {args : Array Value} {below : List Frame} {meth : Method} {c : Code} {Q : State → Prop} {H : Heap} {locs : List Loc} {D : va_G} {cs : Nat → ClassId} {ad sK sV : Nat → Nat} {ls : Array Slot} {st0 rest : List Value} {pr : Prop} {ov : Option Value} {σ' : Mm} {a : Array Value} {A : Nat → Prop} {cells slots : Nat}
    (hr : va_Run p l e R s mi args below meth c H locs cells slots 0 0 (F0 mi pc ls st0) rest (QcF D cs ad sK sV w (AW ad w H.size) pr ov σ' a) (AW ad w H.size)) (hS : va_S A s.heap H locs) (hsub : ∀ q, AW ad w H.size q → A q)
    (k : ∀ (H1 : Heap) (locs1 : List Loc), pr → va_P D vwCl (wsOf cs ad σ' w) H1 → va_D A (wsOf cs ad σ' w) → va_S A s.heap H1 locs1 → W p l e R s mi args below meth c H1 locs1 cells slots Q (F0 mi (pc + 3) ls (ov.toList ++ rest))) : W p l e R s mi args below meth c H locs cells slots Q (F0 mi pc ls st0) := by
  intro T hT X
  obtain ⟨v, st₀, t, T', L, h0, X', hL, e1, e2, ⟨hv, hpr, ⟨hP, hD, hK, hSx, hok⟩, hz, hk⟩, st⟩ := hr T hT X
  cases hv
  rw [h0] at hz hk
  obtain ⟨t2, a1, b1⟩ := k T'.heap (locs ++ L) hpr (by rw [e1]; exact hP) (hD.weaken (fun k q _ h => hsub q.1 h))
    ⟨Nat.le_trans hS.1 (by rw [e1]; exact hz), fun q h1 h2 => by rw [e1, hk q (Nat.lt_of_lt_of_le h1 hS.1) (fun z => h2 (hsub q z))]; exact hS.2.1 q h1 h2, fun q hq => by
      rcases List.mem_append.mp hq with h | h
      · exact hS.2.2 q h
      · exact hsub _ (hL q h)⟩ T' rfl X'
  exact ⟨t2, st t2 a1, b1⟩
theorem KW_callV (h : CXi X cc nL d C S ret own) {y : MethodName} {ycc : ByteArray} {ynL yd k ci idx i : Nat} {yret : Option FieldType} {pr : Prop} {ov : Option Value} {σ' : Mm} {av : (Nat → Nat) → List Value} {As rest : List Value} (ad : Nat → Nat) (hm : MV y ycc ynL yret k ci) (hl : Cond.methodLink own idx y ∈ lw_g) (hw : inW w i) (hK : Kt i = 7) (hL : Ln i = ci) (hc : CT y ycc ynL yret yd w av σ pr ov σ') (hav : av ad = .ref (ad i) :: As) (hn : As.length = k) (hd : yd + 1 ≤ d) (hnl : ynL ≤ 40) (hst : st = As.reverse ++ .ref (ad i) :: rest) (hrs : (rest.map fun v => v.category).sum ≤ 8) (ho : okM σ) (hnC : n ≤ C) (hmS : m ≤ S) (dd : decode cc pc = .ok (.invokevirtual idx, 3)) (kk : pr → KW X nL (pc + 3) lv (ov.toList ++ rest) (wsOf (xcs X) ad σ' w) n m) : KW X nL pc lv st (wsOf (xcs X) ad σ w) n m := by
  obtain ⟨p, l, e, R, s, mi, args, below, meth, c, Q, A, D, cs, ad0, sK, sV⟩ := X
  intro H locs ls hP hD hS hlv
  obtain ⟨hx, hb, hml, hown, hts, hKx, hSx, hA, hR, hlk, hrt, -⟩ := h
  subst hR
  obtain ⟨m1, m2, m3, m4, m5, q, m6, m7⟩ := hm
  subst hst
  subst hL
  have hP : va_P D vwCl (wsOf cs ad σ w) H := hP
  have hD : va_D A (wsOf cs ad σ w) := hD
  have hws : (wsOf cs ad σ w)[i - wlo w]? = some (ad i, .inr (Ln i, (List.range (Nf (Ln i))).map (slotV ad σ (Ln i) i))) := by rw [ws_at hw, cell_obj hK]
  have hrec := va_recv hKx.1 hP m6 hws
  rw [m7] at hrec
  have hMet := hc l D cs ad sK sV H.size
  rw [hav] at hMet
  have hsub : ∀ q, AW ad w H.size q → A q := fun q hq => by
    rcases hq with ⟨j, hj, rfl⟩ | hq
    · exact hD.2 (j - wlo w) _ (ws_at hj)
    · exact hA q (Nat.le_trans hS.1 hq)
  refine W_doneK (va_runV (As := As) (rest := rest) ⟨hx, hb, hml, hown, hts⟩ hMet (cwV (C := y.cls) k hts (goodIn_g (fun _ q => q) ?_) rfl rfl rfl ⟨rfl, m5⟩ ⟨?_, ?_⟩) ⟨blind, hrec, fun U hU hW => ⟨rfl, by rw [hU], by rw [hU]; exact hP, hD.aw, hKx.warm hW, by rw [hU]; exact hSx.warm hW hS.2.1 hsub, ho⟩⟩ rfl hn hlv.1 rfl ?_ dd ⟨hnC, hmS⟩) hS hsub (fun H1 locs1 hpr hP1 hD1 hS1 => kk hpr H1 locs1 ls hP1 hD1 hS1 hlv)
  · intro w hw
    unfold wsV at hw
    rcases List.mem_append.mp hw with h | h
    · simp only [List.mem_cons, List.not_mem_nil, or_false] at h
      rcases h with h | h | h | h <;> (rw [h]; assumption)
    · rcases List.mem_cons.mp h with h | h
      · rw [h]; assumption
      · exact h
  · exact hd
  · show 8 + (ynL + 11) + 60 * yd ≤ 60 * d
    omega
  · show 2 * 0 + _ ≤ 8
    omega
end KWcall
