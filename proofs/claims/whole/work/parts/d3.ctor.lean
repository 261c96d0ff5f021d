theorem outer_mh (cA : ClassId) (N h0 : Nat) : ∀ i : Nat, (Jvm.Free.Multi.outerC cA N h0 i).monitor = ({ cls := cA, slots := #[], vm := .none } : Cell).monitor ∧ (Jvm.Free.Multi.outerC cA N h0 i).hash = ({ cls := cA, slots := #[], vm := .none } : Cell).hash
  | 0 => ⟨rfl, rfl⟩
  | i + 1 => outer_mh cA N h0 i
theorem outer_arr (cA : ClassId) (N h0 : Nat) : Jvm.Free.Multi.outerC cA N h0 N = arrV cA N (fun j => .ref (h0 + 1 + j)) := by
  obtain ⟨o1, o2, o3⟩ := Jvm.Free.Multi.outerC_facts cA N h0 N
  obtain ⟨o4, o5⟩ := outer_mh cA N h0 N
  have os := fun (j : Nat) (hj : j < N) => Jvm.Free.Multi.outerC_slot cA N h0 N j hj
  generalize Jvm.Free.Multi.outerC cA N h0 N = o at o1 o2 o3 o4 o5 os
  have e : o.slots = Array.ofFn (n := N) fun j => Value.ref (h0 + 1 + j.val) := by
    apply Array.ext
    · simp [o3]
    · intro i h1 h2
      have hi : i < N := by rw [← o3]; exact h1
      have e := os i hi
      rw [if_pos hi, Array.getElem?_eq_getElem h1] at e
      rw [Option.some.inj e]
      simp
  obtain ⟨a, b, c, d, g⟩ := o
  dsimp only at o1 o2 o3 o4 o5 e
  subst o1
  unfold arrV
  rw [e, o2, o4, o5]
theorem arrV_cg {cA : ClassId} {N : Nat} {f g : Nat → Value} (h : ∀ j, j < N → f j = g j) : arrV cA N f = arrV cA N g := by
  unfold arrV
  congr 1
  congr 1
  funext j
  exact h j.val j.isLt
def multiL (cs : Nat → ClassId) (N M q : Nat) (g : Nat → Nat) : va_W := (q, .inl (cs 6, N, .inr (.inr (.inr (.inr (fun k => some (((List.range N).map g).getD k 0))))))) :: (List.range N).map (fun j => (g j, .inl (cs 0, M, .inl (fun _ => 0))))
theorem multiL_at {cs : Nat → ClassId} {N M q k : Nat} {x : Nat × va_E} (h : (multiL cs N M q (fun j => q + 1 + j))[k]? = some x) : x.1 = q + k ∧ k ≤ N := by
  unfold multiL at h
  cases k with
  | zero => have := Option.some.inj h; rw [← this]; exact ⟨rfl, Nat.zero_le _⟩
  | succ k =>
    rw [List.getElem?_cons_succ, List.getElem?_map] at h
    by_cases hk : k < N
    · rw [List.getElem?_range hk] at h
      have := Option.some.inj h
      rw [← this]
      exact ⟨by show q + 1 + k = q + (k + 1); omega, hk⟩
    · rw [List.getElem?_eq_none (by simp; omega)] at h
      cases h
section CWmulti
variable {X : Cx} {nL pc d C S : Nat} {cc : ByteArray} {own : String} {ret : Option FieldType} {lv : List (Option Value)} {st : List Value} {ws : va_W} {n m : Nat}
theorem KW_multi (h : CXi X cc nL d C S ret own) {idx N M : Nat} {zN zM : Int32} (hcl : Cond.classLink own idx "[[I" ∈ lw_g) (harr : Cond.arrayClass .int ∈ lw_g) (hzN : ¬ zN < 0) (hzM : ¬ zM < 0) (hN : zN.toNatClampNeg = N) (hM : zM.toNatClampNeg = M) (hbN : N * 4 ≤ 536870912) (hbM : M * 4 ≤ 536870912) (hn : n + (1 + N) ≤ C) (hm : m + (N + N * M) ≤ S) (dd : decode cc pc = .ok (.multianewarray idx 2, 4)) (k : ∀ (q : Nat) (g : Nat → Nat), KW X nL (pc + 4) lv (.ref q :: st) (ws ++ multiL (xcs X) N M q g) (n + 1 + N) (m + N + N * M)) : KW X nL pc lv (.int zM :: .int zN :: st) ws n m := by
  obtain ⟨p, l, e, R, s, mi, args, below, meth, c, Q, A, D, cs, ad, sK, sV⟩ := X
  intro H locs ls hP hD hS hlv T hT XS
  obtain ⟨hx, hbb, hml, hown, hts, hK, hSx, hA, hR, hlk, hrt, hnm, hNx⟩ := h
  subst hR
  subst hN
  subst hM
  subst hT
  subst hbb
  obtain ⟨vm₁, cA, comp, hW, hfA, hfC, hO, hI, X1, stp⟩ := XS.multianewarray2F hx (ty := .int) (n := zN) (k := zM) (g := F0 mi pc ls (.int zM :: .int zN :: st)) hown (hts _ hcl) (over_moved (Vm.Alike.refl _) hNx.2.2.2.2.2.2.2.2.2) (hts _ harr) rfl dd rfl hzN hzM hbN hbM (by omega) rfl rfl hn hm
  obtain ⟨f1, f2, f3, f4⟩ := Jvm.Free.Multi.fill_facts (T.setVm vm₁) cA comp zN.toNatClampNeg zM.toNatClampNeg (defaultValue .int) zN.toNatClampNeg
  have fo := fun (a : Addr) (ha : a < T.heap.size) => Jvm.Free.Multi.fill_old (T.setVm vm₁) cA comp zN.toNatClampNeg zM.toNatClampNeg (defaultValue .int) (a := a) ha zN.toNatClampNeg
  have fi := fun (j : Nat) (hj : j < zN.toNatClampNeg) => Jvm.Free.Multi.fill_inner (T.setVm vm₁) cA comp zN.toNatClampNeg zM.toNatClampNeg (defaultValue .int) zN.toNatClampNeg j hj
  have e1 : cA = cs 6 := Option.some.inj (hfA.symm.trans (hK.1.2 6 _ rfl).2)
  have e2 : comp = cs 0 := Option.some.inj (hfC.symm.trans (hK.1.2 0 _ rfl).2)
  subst e1
  subst e2
  generalize hT1 : Jvm.Free.Multi.fill (T.setVm vm₁) (cs 6) (cs 0) zN.toNatClampNeg zM.toNatClampNeg (defaultValue .int) zN.toNatClampNeg = T1 at X1 stp f1 f2 fo fi
  have f1 : T1.heap.size = T.heap.size + 1 + zN.toNatClampNeg := f1
  have f2 : T1.heap[T.heap.size]? = some (Jvm.Free.Multi.outerC (cs 6) zN.toNatClampNeg T.heap.size zN.toNatClampNeg) := f2
  have old : ∀ (k : Nat) (x : Nat × va_E), ws[k]? = some x → x.1 < T.heap.size := fun k x hx => (hP k x hx).lt
  have hP1 : va_P D vwCl (ws ++ multiL cs zN.toNatClampNeg zM.toNatClampNeg T.heap.size (fun j => T.heap.size + 1 + j)) T1.heap := by
    refine (hP.kept (fun k x hx => fo x.1 (old k x hx))).app (fun k x hx => ?_)
    cases k with
    | zero =>
      have := Option.some.inj hx
      subst this
      show T1.heap[T.heap.size]? = some (vp_cell _ _)
      rw [f2, outer_arr]
      refine congrArg some (Eq.trans (arrV_cg (g := fun j => va_rf (some (((List.range zN.toNatClampNeg).map (fun j => T.heap.size + 1 + j)).getD j 0))) (fun j hj => ?_)) rfl)
      rw [List.getD_eq_getElem?_getD, List.getElem?_map, List.getElem?_range hj]
      rfl
    | succ k =>
      have hk := (multiL_at hx).2
      unfold multiL at hx
      rw [List.getElem?_cons_succ, List.getElem?_map, List.getElem?_range hk] at hx
      have := Option.some.inj hx
      subst this
      show T1.heap[T.heap.size + 1 + k]? = some (vp_cell _ _)
      have := fi k hk
      rw [show (T.setVm vm₁).heap = T.heap from rfl] at this
      rw [this]
      exact congrArg some (arrV_new ..)
  have hD1 : va_D A (ws ++ multiL cs zN.toNatClampNeg zM.toNatClampNeg T.heap.size (fun j => T.heap.size + 1 + j)) := by
    refine va_D.app hD ⟨fun i j x y hx hy hxy => ?_, fun k x hx => ?_⟩ (fun i j x y hx hy hxy => ?_)
    · have a1 := (multiL_at hx).1
      have a2 := (multiL_at hy).1
      omega
    · have a1 := (multiL_at hx).1
      exact hA _ (Nat.le_trans hS.1 (by rw [a1]; exact Nat.le_add_right _ _))
    · have a1 := old i x hx
      have a2 := (multiL_at hy).1
      omega
  have hS1 : va_S A s.heap T1.heap locs := ⟨Nat.le_trans hS.1 (by omega), fun q h1 h2 => (fo q (Nat.lt_of_lt_of_le h1 hS.1)).trans (hS.2.1 q h1 h2), hS.2.2⟩
  obtain ⟨t, a1, b1⟩ := k T.heap.size (fun j => T.heap.size + 1 + j) T1.heap locs ls hP1 hD1 hS1 hlv T1 rfl X1
  exact ⟨t, stp t a1, b1⟩
end CWmulti
