-- the entry: what the tables and the premises say of the world
def tmS : Nat → Term := fun i => if i = 0 then .string RX5 83 else .string RX5 75
def plS (i : Nat) : Nat := if i = 0 then 33 else 173
def gvL : List Cond := flatC (Jvm.Cond.and given_1 narrow_1)
theorem gv_ex : ∀ i, i < 2 → gvL[plS i]? = some (Cond.exactly (tmS i) "java/lang/String") := by decide +kernel
theorem gv_co : ∀ i, i < 2 → gvL[plS i + 1]? = some (Cond.eq (.field (tmS i) "java/lang/String" "coder" "B") (.int 0)) := by decide +kernel
theorem gv_ar : ∀ i, i < 2 → gvL[plS i + 2]? = some (Cond.arrayOf (.field (tmS i) "java/lang/String" "value" "[B") .byte) := by decide +kernel
theorem gv_le : ∀ i, i < 2 → gvL[plS i + 3]? = some (Cond.eq (.length (.field (tmS i) "java/lang/String" "value" "[B")) (.int (Int32.ofNat (lenJS.getD i 0)))) := by decide +kernel
theorem gv_el : ∀ i, i < 2 → ∀ j, j < lenJS.getD i 0 → gvL[plS i + 4 + j]? = some (Cond.eq (.elem (.field (tmS i) "java/lang/String" "value" "[B") (.int (Int32.ofNat j))) (.int ((bytJS.getD i []).getD j 0))) := by decide +kernel
theorem gv_ne : gvL[190]? = some (Cond.not (Cond.eq (tmS 0) (tmS 1))) := by decide +kernel
theorem gv_cs : gvL[4]? = some (Cond.eq (.static "java/lang/String" "COMPACT_STRINGS" "Z") (.int 1)) := by decide +kernel
theorem gv_sf : gvL[5]? = some (Cond.isRef (.static "jdk/internal/util/Preconditions" "SIOOBE_FORMATTER" "Ljava/util/function/BiFunction;")) := by decide +kernel
theorem kn_of {args : Array Value} {s : State} {ci : Nat} {Cn : String} {T : u_T} {ty : Nat → FieldType} (hcf : CF ci Cn T ty) (hts : ∀ w ∈ lw_g, w.before args s = true) (hi : Cond.instantiable Cn (Nf ci) ∈ lw_g) : ∃ z : ClassId × (Nat → Nat), ∀ q : vw_C, vwCl[ci]? = some q → u_Kn s q.1 q.2.1 q.2.2 z.1 z.2 := by
  obtain ⟨cC, iS, h⟩ := u_known hts hcf.2.1 (hts _ hi)
  refine ⟨(cC, iS), fun q hq => ?_⟩
  rw [hcf.1] at hq
  have hq := Option.some.inj hq
  subst hq
  exact h
theorem arr_p {args : Array Value} {s : State} {ty : FieldType} (h : (Cond.arrayClass ty).before args s = true) : ∃ cA : ClassId, ArrOfT s cA ty ∧ s.vm.findClass ("[" ++ ty.toString) = some cA := by
  obtain ⟨cA, kA, comp, h1, h2, h3⟩ := Cond.arrayClass_spec h
  exact ⟨cA, fun n z => ⟨(fun k h => by cases h), kA, h2, comp, h3⟩, h1⟩
theorem arr_o {args : Array Value} {s : State} {n : String} (h : (Cond.arrayOver (.object n)).before args s = true) : ∃ cA : ClassId, ArrOfT s cA (.object n) ∧ va_RA s cA (.object n) := by
  obtain ⟨comp, cA, k, f1, f2, f3, f4, f5⟩ := Cond.arrayOver_spec h
  exact ⟨cA, fun N z => ⟨(fun k h => by cases h), k, f3, comp, f4⟩, k, comp, f3, f4, f1, f5⟩
theorem arr_a {args : Array Value} {s : State} {t : FieldType} (h : (Cond.arrayOver (.array t)).before args s = true) : ∃ cA : ClassId, ArrOfT s cA (.array t) ∧ s.vm.findClass ("[" ++ (FieldType.array t).toString) = some cA := by
  obtain ⟨comp, cA, k, f1, f2, f3, f4, f5⟩ := arrayOverA_spec h
  exact ⟨cA, fun N z => ⟨(fun k h => by cases h), k, f3, comp, f4⟩, f5⟩
theorem l_world {p : Program} {s : State} {m : MethodId} {meth : Method} {c : Code} {b L : Nat} {xs : Nat → Int32} (C0 : lw_At p s m meth c b L xs) : ∃ (D : va_G) (cs : Nat → ClassId) (sK sV : Nat → Nat), KX D cs s ∧ SX sK sV (fun q : Nat => s.heap.size ≤ q) s s.heap ∧ NX s := by
  obtain ⟨hx, hb, hr, hml, hown, hts, hX, hbl, hlocks, hgv⟩ := C0
  have htg : ∀ w ∈ lw_g, w.before #[Value.ref b] s = true := fun w hw => hts w (List.mem_filter.mp hw).1
  have tb : ∀ (k : Nat) (w : Cond), lw_tbl[k]? = some w → w.before #[Value.ref b] s = true := fun k w e => hts w (List.mem_of_getElem? e)
  have gv : ∀ (k : Nat) (w : Cond), gvL[k]? = some w → w.before #[Value.ref b] s = true := fun k w e => flat_of_before _ hgv w (List.mem_of_getElem? e)
  have hA : ∀ a : Nat, a < s.heap.size → ¬ (fun q : Nat => s.heap.size ≤ q) a := fun a ha => Nat.not_le.mpr ha
  have hcl : ∀ k : Nat, ∃ z : ClassId × (Nat → Nat), ∀ q : vw_C, vwCl[k]? = some q → u_Kn s q.1 q.2.1 q.2.2 z.1 z.2 := by
    intro k
    match k with
    | 0 => exact kn_of cf0 htg (lw_k2 87 rfl rfl)
    | 1 => exact kn_of cf1 htg (lw_k2 47 rfl rfl)
    | 2 => exact kn_of cf2 htg (lw_k1 31 rfl rfl)
    | 3 => exact kn_of cf3 htg (lw_k2 108 rfl rfl)
    | 4 => exact kn_of cf4 htg (lw_k1 37 rfl rfl)
    | 5 => exact kn_of cf5 htg (lw_k1 162 rfl rfl)
    | 6 => exact kn_of cf6 htg (lw_k1 69 rfl rfl)
    | 7 => exact kn_of cf7 htg (lw_k2 15 rfl rfl)
    | 8 => exact kn_of cf8 htg (lw_k1 143 rfl rfl)
    | 9 => exact kn_of cf9 htg (lw_k1 222 rfl rfl)
    | 10 => exact kn_of cf10 htg (lw_k1 23 rfl rfl)
    | 11 => exact kn_of cf11 htg (lw_k5 136 rfl rfl)
    | k + 12 => exact ⟨(0, fun _ => 0), fun q hq => by simp [vwCl] at hq⟩
  obtain ⟨z, hz⟩ := Classical.axiomOfChoice hcl
  obtain ⟨c0, a0, r0⟩ := arr_p (tb 173 (Cond.arrayClass .int) (by decide +kernel))
  obtain ⟨c1, a1, r1⟩ := arr_p (tb 898 (Cond.arrayClass .byte) (by decide +kernel))
  obtain ⟨c2, a2, r2⟩ := arr_p (tb 392 (Cond.arrayClass .boolean) (by decide +kernel))
  obtain ⟨c3, a3, r3⟩ := arr_p (tb 1408 (Cond.arrayClass .long) (by decide +kernel))
  have t4 := tb 175 (Cond.arrayOver (.object RX6)) (by decide +kernel)
  have t5 := tb 328 (Cond.arrayOver (.object RX9)) (by decide +kernel)
  have t6 := tb 256 (Cond.arrayOver (.array .int)) (by decide +kernel)
  obtain ⟨c4, a4, r4⟩ := arr_o t4
  obtain ⟨c5, a5, r5⟩ := arr_o t5
  obtain ⟨c6, a6, r6⟩ := arr_a t6
  obtain ⟨sK, sV, hS, he⟩ := vk_Sof (args := #[Value.ref b]) (s := s) (N := 2) (tm := tmS) (len := lenJS) (byt := bytJS) (A := fun q : Nat => s.heap.size ≤ q) (by decide +kernel) (fun i hi => gv _ _ (gv_ex i hi)) (fun i hi => gv _ _ (gv_co i hi)) (fun i hi => gv _ _ (gv_ar i hi)) (fun i hi => gv _ _ (gv_le i hi)) (fun i hi j hj => gv _ _ (gv_el i hi j hj)) (fun i j hi hj hij => by
    rcases (show (i = 0 ∧ j = 1) ∨ (i = 1 ∧ j = 0) by omega) with ⟨rfl, rfl⟩ | ⟨rfl, rfl⟩
    · exact Or.inl (gv _ _ gv_ne)
    · exact Or.inr (gv _ _ gv_ne)) hA
  refine ⟨(fun k => (z k).1, fun k => (z k).2), fun k => match k with | 0 => c0 | 1 => c1 | 2 => c2 | 3 => c3 | 4 => c4 | 5 => c5 | _ => c6, sK, sV, ⟨⟨fun k q hq => hz k q hq, fun k q hq => ?_⟩, va_Nw.of rfl (tb 545 _ (by decide +kernel))⟩, ⟨vk_R.of (tb 716 _ (by decide +kernel)) (he 0 (by decide)), vk_R.of (tb 765 _ (by decide +kernel)) (he 1 (by decide)), hS, va_Zof (tb 726 _ (by decide +kernel)) (htg _ (lw_k1 17 rfl rfl)) (va_eqi (gv _ _ gv_cs)) hA, va_Zqof (tb 742 _ (by decide +kernel)) (htg _ (lw_k1 19 rfl rfl)) (gv _ _ gv_sf) hA⟩, va_Nw.of rfl (tb 145 _ (by decide +kernel)), va_Nw.of rfl (tb 177 _ (by decide +kernel)), va_Nw.of rfl (tb 251 _ (by decide +kernel)), va_Nw.of rfl (tb 270 _ (by decide +kernel)), va_Nw.of rfl (tb 330 _ (by decide +kernel)), va_Nw.of rfl (tb 456 _ (by decide +kernel)), va_Nw.of rfl (tb 461 _ (by decide +kernel)), va_AO.of t4, va_AO.of t5, t6⟩
  unfold tyOf at hq
  match k, hq with
  | 0, hq => cases hq; exact ⟨a0, r0⟩
  | 1, hq => cases hq; exact ⟨a1, r1⟩
  | 2, hq => cases hq; exact ⟨a2, r2⟩
  | 3, hq => cases hq; exact ⟨a3, r3⟩
  | 4, hq => cases hq; exact ⟨a4, r4⟩
  | 5, hq => cases hq; exact ⟨a5, r5⟩
  | 6, hq => cases hq; exact ⟨a6, r6⟩
  | k + 7, hq => simp at hq
