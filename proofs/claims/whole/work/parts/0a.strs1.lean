/-! the JDK's own methods over the two literals -/
def xsv (X : Cx) : Nat → Nat := X.2.2.2.2.2.2.2.2.2.2.2.2.2.2.2.2
abbrev AvS : Type := (Nat → Nat) → (Nat → Nat) → List Value
def CTs (y : MethodName) (cc : ByteArray) (nL : Nat) (ret : Option FieldType) (d w : Nat) (av : AvS) (σ : Mm) (pr : Prop) (ov : Option Value) (σ' : Mm) : Prop :=
  ∀ (l : Launch) (D : va_G) (cs : Nat → ClassId) (ad sK sV : Nat → Nat) (sz : Nat), Met l y (.code y cc nL ret :: lw_g) (rmL d) (va_Pc (av sK sV) (fun U => U.heap.size = sz ∧ WD D cs ad sK sV w (AW ad w sz) σ U)) (QcF D cs ad sK sV w (AW ad w sz) pr ov σ') 0 0 (AW ad w sz)
theorem MetJs {y : MethodName} {cc : ByteArray} {nL d w : Nat} {ret : Option FieldType} {own : String} {av : AvS} {σ σ' : Mm} {pr : Prop} {ov : Option Value} (pad : Nat)
    (hy : plainFor y = true) (ho : y.cls = own) (hn : ∀ sK sV, (lg_sl (av sK sV)).length ≤ nL)
    (body : ∀ X : Cx, CX X w cc nL d ret own → RX X w pr ov σ' → okM σ → SW X w nL 0 (lvA (av (xsk X) (xsv X)) ++ List.replicate pad none) [] σ) : CTs y cc nL ret d w av σ pr ov σ' := by
  intro l D cs ad sK sV sz
  refine Met_ofWF (cc := cc) (maxL := nL) (ret := ret) hy rfl ?_
  intro p e s m args below meth c s₁ B hml hv
  obtain ⟨rfl, hsz, hP, hD, hK, hS, hok⟩ := hv
  subst hsz
  have hts := atoms_spec (ws := .code y cc nL ret :: lw_g) B.pre
  have hown : s.vm.findClass own = some m.cls := by rw [← ho]; exact findClass_of_methodNamed B.named
  have key := body (p, l, e, rmL d, s, m, (av sK sV).toArray, below, meth, c, MQ below (QcF D cs ad sK sV w (AW ad w s.heap.size) pr ov σ') (av sK sV).toArray s 0 0 (AW ad w s.heap.size), AW ad w s.heap.size, D, cs, ad, sK, sV)
    ⟨B.exec, B.bytes, hml, hown, fun w hw => hts w (List.mem_cons_of_mem _ hw), hK, hS, rfl, rfl, B.notSynchronized, B.returns⟩ rfl hok
  have hl := lv_entry (av sK sV) (n := nL) (hn sK sV)
  rw [lg_entry_eq]
  refine key s.heap [] _ hP hD va_S.rf ⟨hl.1, hl.2.1, fun i v h => hl.2.2 (i, v) ?_⟩ hok
  have e : (lvA (av sK sV))[i]? = some (some v) := by
    have h : (lvA (av sK sV) ++ List.replicate pad none)[i]? = some (some v) := h
    rw [List.getElem?_append] at h
    split at h
    · exact h
    · rw [List.getElem?_replicate] at h
      split at h <;> simp at h
  have := lvA_get (av sK sV) 0 e
  rwa [Nat.zero_add] at this
def MVs (y : MethodName) (ycc : ByteArray) (ynL : Nat) (yret : Option FieldType) (n : Nat) : Prop := Cond.instanceMethod y ∈ lw_g ∧ Cond.selects y.cls y y ∈ lw_g ∧ Cond.initialized y.cls ∈ lw_g ∧ Cond.code y ycc ynL yret ∈ lw_g ∧ (y.cls ≠ "java/lang/invoke/MethodHandle" ∧ y.cls ≠ "java/lang/invoke/VarHandle" ∧ (parseMethodDescriptor y.desc).map (fun d => d.parameters.length) = some n) ∧ y.cls = "java/lang/String"
section STR
variable {X : Cx} {w nL pc d : Nat} {cc : ByteArray} {own : String} {ret : Option FieldType} {lv : List (Option Value)} {st : List Value} {σ : Mm}
theorem SW_callVs (h : CX X w cc nL d ret own) {y : MethodName} {ycc : ByteArray} {ynL yd n idx i : Nat} {yret : Option FieldType} {pr : Prop} {ov : Option Value} {σ' : Mm} {av : AvS} {As rest : List Value} (hm : MVs y ycc ynL yret n) (hl : Cond.methodLink own idx y ∈ lw_g) (hi : i < 2) (hc : CTs y ycc ynL yret yd w av σ pr ov σ') (hav : av (xsk X) (xsv X) = .ref (xsk X i) :: As) (hn : As.length = n) (hd : yd + 1 ≤ d) (hnl : ynL ≤ 40) (hst : st = As.reverse ++ .ref (xsk X i) :: rest) (hrs : (rest.map fun v => v.category).sum ≤ 8) (dd : decode cc pc = .ok (.invokevirtual idx, 3)) (k : pr → SW X w nL (pc + 3) lv (ov.toList ++ rest) σ') : SW X w nL pc lv st σ := by
  obtain ⟨p, l, e, R, s, m, args, below, meth, c, Q, A, D, cs, ad, sK, sV⟩ := X
  intro H locs ls hP hD hS hlv ho
  obtain ⟨hx, hb, hml, hown, hts, hKx, hSx, hA, hR, hlk, hrt⟩ := h
  subst hA
  subst hR
  obtain ⟨m1, m2, m3, m4, m5, m7⟩ := hm
  subst hst
  have hrec := vk_recv hSx.2.2.1 hi hS
  rw [← m7] at hrec
  have hav2 : av sK sV = .ref (sK i) :: As := hav
  have hMet := hc l D cs ad sK sV H.size
  rw [hav2] at hMet
  refine W_done (va_runV (As := As) (rest := rest) ⟨hx, hb, hml, hown, hts⟩ hMet (cwV (C := y.cls) n hts (goodIn_g (fun _ q => q) ?_) rfl rfl rfl ⟨rfl, m5⟩ ⟨?_, ?_⟩) ⟨blind, hrec, fun U hU hW => pre_of hKx hSx hP hD hS ho hU hW⟩ rfl hn hlv.1 rfl ?_ dd ⟨Nat.zero_le _, Nat.zero_le _⟩) hS (fun H1 locs1 hpr hP1 hD1 hS1 ho1 => k hpr H1 locs1 ls hP1 hD1 hS1 hlv ho1)
  · intro w hw
    unfold wsV at hw
    rcases List.mem_append.mp hw with h | h
    · simp only [List.mem_cons, List.not_mem_nil, or_false] at h
      rcases h with h | h | h | h <;> (rw [h]; assumption)
    · rcases List.mem_cons.mp h with h | h
      · rw [h]; assumption
      · exact h
  · exact hd
  · show 8 + (ynL + 11) + 60 * yd ≤ 60 * d
    omega
  · show 2 * 0 + _ ≤ 8
    omega
theorem SW_callSs (h : CX X w cc nL d ret own) {y : MethodName} {ycc : ByteArray} {ynL yd n idx : Nat} {yret : Option FieldType} {pr : Prop} {ov : Option Value} {σ' : Mm} {av : AvS} {As rest : List Value} (hm : MS y ycc ynL yret n) (hl : Cond.methodLink own idx y ∈ lw_g) (hc : CTs y ycc ynL yret yd w av σ pr ov σ') (hav : av (xsk X) (xsv X) = As) (hn : As.length = n) (hd : yd + 1 ≤ d) (hnl : ynL ≤ 40) (hst : st = As.reverse ++ rest) (hrs : (rest.map fun v => v.category).sum ≤ 8) (dd : decode cc pc = .ok (.invokestatic idx, 3)) (k : pr → SW X w nL (pc + 3) lv (ov.toList ++ rest) σ') : SW X w nL pc lv st σ := by
  obtain ⟨p, l, e, R, s, m, args, below, meth, c, Q, A, D, cs, ad, sK, sV⟩ := X
  intro H locs ls hP hD hS hlv ho
  obtain ⟨hx, hb, hml, hown, hts, hKx, hSx, hA, hR, hlk, hrt⟩ := h
  subst hA
  subst hR
  obtain ⟨m1, m3, m4, m5⟩ := hm
  subst hst
  have hav2 : av sK sV = As := hav
  have hMet := hc l D cs ad sK sV H.size
  rw [hav2] at hMet
  refine W_done (va_runS (As := As) (rest := rest) ⟨hx, hb, hml, hown, hts⟩ hMet (va_cwS n hts (goodIn_g (fun _ q => q) ?_) rfl rfl rfl m5 ⟨?_, ?_⟩) ⟨blind, fun U hU hW => pre_of hKx hSx hP hD hS ho hU hW⟩ rfl hn hlv.1 rfl ?_ dd ⟨Nat.zero_le _, Nat.zero_le _⟩) hS (fun H1 locs1 hpr hP1 hD1 hS1 ho1 => k hpr H1 locs1 ls hP1 hD1 hS1 hlv ho1)
  · intro w hw
    unfold va_wsS at hw
    rcases List.mem_append.mp hw with h | h
    · simp only [List.mem_cons, List.not_mem_nil, or_false] at h
      rcases h with h | h | h <;> (rw [h]; assumption)
    · rcases List.mem_cons.mp h with h | h
      · rw [h]; assumption
      · exact h
  · exact hd
  · show 8 + (ynL + 11) + 60 * yd ≤ 60 * d
    omega
  · show 2 * 0 + _ ≤ 8
    omega
theorem fJ0_9 : Cond.fieldLink RJ0 9 "java/lang/String" "value" "[B" ∈ lw_g := lw_gm 1937 (by decide +kernel) rfl
theorem fJ0_15 : Cond.fieldLink RJ0 15 "java/lang/String" "coder" "B" ∈ lw_g := lw_gm 1938 (by decide +kernel) rfl
theorem fJ0_38 : Cond.fieldLink RJ0 38 "java/lang/String" "COMPACT_STRINGS" "Z" ∈ lw_g := lw_gm 725 (by decide +kernel) rfl
theorem fJ0_1053 : Cond.fieldLink RJ0 1053 "jdk/internal/util/Preconditions" "SIOOBE_FORMATTER" "Ljava/util/function/BiFunction;" ∈ lw_g := lw_gm 741 (by decide +kernel) rfl
theorem SW_sval (h : CX X w cc nL d ret RJ0) {i : Nat} (hi : i < 2) (dd : decode cc pc = .ok (.getfield 9, 3)) (k : SW X w nL (pc + 3) lv (.ref (xsv X i) :: st) σ) : SW X w nL pc lv (.ref (xsk X i) :: st) σ := by
  obtain ⟨p, l, e, R, s, m, args, below, meth, c, Q, A, D, cs, ad, sK, sV⟩ := X
  intro H locs ls hP hD hS hl ho
  exact vk_getf h.1 h.2.1 (h.2.2.2.2.2.2.1.2.2.1.1 i hi).2.2.1 hS h.2.2.2.1 (h.2.2.2.2.1 _ fJ0_9) (fun _ q => q) dd (k H locs ls hP hD hS hl ho)
theorem SW_scod (h : CX X w cc nL d ret RJ0) {i : Nat} (hi : i < 2) (dd : decode cc pc = .ok (.getfield 15, 3)) (k : SW X w nL (pc + 3) lv (.int (i32 0) :: st) σ) : SW X w nL pc lv (.ref (xsk X i) :: st) σ := by
  obtain ⟨p, l, e, R, s, m, args, below, meth, c, Q, A, D, cs, ad, sK, sV⟩ := X
  intro H locs ls hP hD hS hl ho
  exact vk_getf h.1 h.2.1 (h.2.2.2.2.2.2.1.2.2.1.1 i hi).2.1 hS h.2.2.2.1 (h.2.2.2.2.1 _ fJ0_15) (fun _ q => q) dd (k H locs ls hP hD hS hl ho)
theorem SW_scmp (h : CX X w cc nL d ret RJ0) (dd : decode cc pc = .ok (.getstatic 38, 3)) (k : SW X w nL (pc + 3) lv (.int (i32 1) :: st) σ) : SW X w nL pc lv st σ := by
  obtain ⟨p, l, e, R, s, m, args, below, meth, c, Q, A, D, cs, ad, sK, sV⟩ := X
  intro H locs ls hP hD hS hl ho
  exact va_gets h.1 h.2.1 h.2.2.2.2.2.2.1.2.2.2.1 hS h.2.2.2.1 (h.2.2.2.2.1 _ fJ0_38) (fun _ q => q) dd (k H locs ls hP hD hS hl ho)
theorem SW_sfmt (h : CX X w cc nL d ret RJ0) (dd : decode cc pc = .ok (.getstatic 1053, 3)) (k : ∀ v : Value, v.category = 1 → SW X w nL (pc + 3) lv (v :: st) σ) : SW X w nL pc lv st σ := by
  obtain ⟨p, l, e, R, s, m, args, below, meth, c, Q, A, D, cs, ad, sK, sV⟩ := X
  intro H locs ls hP hD hS hl ho
  rcases h.2.2.2.2.2.2.1.2.2.2.2 with z | ⟨t, z⟩
  · exact va_gets h.1 h.2.1 z hS h.2.2.2.1 (h.2.2.2.2.1 _ fJ0_1053) (fun _ q => q) dd (k .null rfl H locs ls hP hD hS hl ho)
  · exact va_gets h.1 h.2.1 z hS h.2.2.2.1 (h.2.2.2.2.1 _ fJ0_1053) (fun _ q => q) dd (k (.ref t) rfl H locs ls hP hD hS hl ho)
theorem SW_stb (h : CX X w cc nL d ret own) {i : Nat} {x : Int} (hi : i < 2) (h0 : 0 ≤ x) (h1 : x < lenJS.getD i 0) (hn : lenJS.getD i 0 < 2147483648) (dd : decode cc pc = .ok (.baload, 1)) (k : SW X w nL (pc + 1) lv (.int (i32 (schI i x.toNat)) :: st) σ) : SW X w nL pc lv (.int (i32 x) :: .ref (xsv X i) :: st) σ := by
  obtain ⟨p, l, e, R, s, m, args, below, meth, c, Q, A, D, cs, ad, sK, sV⟩ := X
  intro H locs ls hP hD hS hl ho
  have hx : r32 x := ⟨by omega, by omega⟩
  refine va_tb h.1 h.2.1 (h.2.2.2.2.2.2.1.2.2.1.1 i hi).2.2.2 hS (i32_in h0 h1 hn) (v := .int (i32 (schI i x.toNat))) ?_ dd (k H locs ls hP hD hS hl ho)
  rw [i32_clamp hx h0]
  unfold schI
  rw [i32_of]
theorem SW_stl (h : CX X w cc nL d ret own) {i : Nat} (hi : i < 2) (dd : decode cc pc = .ok (.arraylength, 1)) (k : SW X w nL (pc + 1) lv (.int (i32 (lenJS.getD i 0 : Nat)) :: st) σ) : SW X w nL pc lv (.ref (xsv X i) :: st) σ := by
  obtain ⟨p, l, e, R, s, m, args, below, meth, c, Q, A, D, cs, ad, sK, sV⟩ := X
  intro H locs ls hP hD hS hl ho
  exact va_tlen h.1 h.2.1 (h.2.2.2.2.2.2.1.2.2.1.1 i hi).2.2.2 hS (by unfold i32; rw [Int32.ofInt_eq_ofNat]) dd (k H locs ls hP hD hS hl ho)
/-- a byte, a char is returned -/
theorem SW_nret {ty : FieldType} (h : CX X w cc nL d (some ty) own) {r : Int} {pr : Prop} {σ' : Mm} (hR : RX X w pr (some (.int (i32 r))) σ') (hr : pr) (hn : narrow ty (.int (i32 r)) = .int (i32 r)) (hσ : σ = σ') (dd : decode cc pc = .ok (.ireturn, 1)) : SW X w nL pc lv [.int (i32 r)] σ := by
  obtain ⟨p, l, e, R, s, m, args, below, meth, c, Q, A, D, cs, ad, sK, sV⟩ := X
  intro H locs ls hP hD hS hl ho
  have hlk : meth.locks = false := h.2.2.2.2.2.2.2.2.2.1
  have hQ : Q = _ := hR
  subst hQ
  subst hσ
  exact W.zret (hlocks := hlk) h.1 h.2.1 h.2.2.2.2.2.2.2.2.2.2 hn (fun t ht hW => ⟨rfl, hr, ⟨by rw [ht]; exact hP, hD, h.2.2.2.2.2.1.warm hW, h.2.2.2.2.2.2.1.warm hW (fun a h1 h2 => by rw [ht]; exact hS.2.1 a h1 h2) (fun _ q => q), ho⟩, hS.F ht⟩) hS.2.2 dd
end STR
