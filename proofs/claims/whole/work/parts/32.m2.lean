def CodeAt (f : Nat → Int) : Nat → List Int → Prop
  | _, [] => True
  | i, c :: cs => f i = c ∧ CodeAt f (i + 1) cs
theorem isO9 {t : Nat} (q : IsO 0 9 t) : 94 ≤ t ∧ t ≤ 97 := (show ∀ t, t < 260 → IsO 0 9 t → 94 ≤ t ∧ t ≤ 97 by decide +kernel) t (Kt_lt q.2.1) q
theorem CodeAt.cong {f g : Nat → Int} : ∀ {cs : List Int} {i : Nat}, (∀ k, g k = f k) → CodeAt f i cs → CodeAt g i cs
  | [], _, _, _ => trivial
  | _ :: _, _, h, hs => ⟨(h _).trans hs.1, CodeAt.cong h hs.2⟩
theorem StkR.of_st {σ : Mm} {i k : Nat} {x : Int} {st : List Int} (h : StkR (σ i) st) (hk : st.length ≤ k) : StkR (st2 σ i k x i) st := StkR.cong (fun j hj => by rw [st2_sk, if_neg (by omega)]) h
theorem StkR.push {σ : Mm} {i : Nat} {x : Int} {st : List Int} (h : StkR (σ i) st) : StkR (st2 σ i st.length x i) (x :: st) := ⟨st2_ss _ _ _ _, h.of_st (Nat.le_refl _)⟩
theorem wst_len {ok : Int → Bool} {ty t2 : List Bool} {c : Int} (hw : wst ok ty c = some t2) (h : ty.length ≤ 60) : t2.length ≤ 60 := by
  unfold wst at hw
  split at hw
  · split at hw
    · cases hw
      simp; omega
    · cases hw
  · match ty, hw with
    | a :: t, hw =>
      simp only [List.length_cons] at h hw
      split at hw
      · split at hw <;> cases hw
        simp; omega
      · split at hw
        · split at hw <;> cases hw
          simp; omega
        · match t, hw with
          | b :: u, hw =>
            simp only [List.length_cons] at h hw
            split at hw
            · split at hw <;> cases hw
              simp; omega
            · split at hw
              · split at hw <;> cases hw
                simp; omega
              · split at hw
                · split at hw <;> cases hw
                  simp; omega
                · cases hw
set_option maxHeartbeats 1000000 in
theorem run_loop {t : Nat} (q : IsO 0 9 t) {w : Int} (hw : 0 ≤ w ∧ w < 3) {ok : Int → Bool} {nm : Nat → Int} (hb : ∀ k : Int, ok k = true → -100000000 ≤ nm k.toNat ∧ nm k.toNat ≤ 100000000) :
    ∀ (cs : List Int) (n i : Nat) (st : List Int) (ty ty2 : List Bool) (σ : Mm), cs.length < n → σ 2 6 = (t : Int) → CodeAt (σ (t + 4)) i cs → σ (t + 12) w.toNat = ((i + cs.length : Nat) : Int) → i + cs.length ≤ 300 → StkR (σ 5) st → TyL ty st → ty.length ≤ 60 → wfS ok ty cs = some ty2 → (∀ k : Int, ok k = true → 0 ≤ k ∧ k < 13 ∧ σ 4 k.toNat = nm k.toNat) →
    Ok (L_J_run_12 n w (st.length : Int) (i : Int) σ) (fun r => r.1 = ((evS nm st cs).length : Int) ∧ StkR (r.2 5) (evS nm st cs) ∧ Fr [5] σ r.2) := by
  have ht := isO9 q
  intro cs
  induction cs with
  | nil =>
    intro n i st ty ty2 σ hn h26 hc hto hi hs hty hl0 hwf hnm
    cases n with
    | zero => exact absurd hn (by simp)
    | succ n =>
      rw [L_J_run_12]
      simp only [h26, Int.toNat_natCast]
      refine Ok.ck ⟨by omega, q⟩ (Ok.ck hw (Ok.it ?_ (Ok.ret ⟨rfl, hs, Fr.rf⟩)))
      rw [hto]; simp
  | cons c cs ih =>
    intro n i st ty ty2 σ hn h26 hc hto hi hs hty hl0 hwf hnm
    cases n with
    | zero => exact absurd hn (by simp)
    | succ n =>
      rw [L_J_run_12]
      simp only [h26, Int.toNat_natCast]
      have hlen := hty.len
      simp only [List.length_cons] at hto hi hn
      refine Ok.ck ⟨by omega, q⟩ (Ok.ck hw (Ok.ie (by rw [hto]; omega) (Ok.ck ⟨by omega, q⟩ (Ok.ck (by omega) (Ok.bM ?_)))))
      rw [hc.1]
      -- the way on
      unfold wfS at hwf
      obtain ⟨t2, hw2⟩ : ∃ t2, wst ok ty c = some t2 := by
        cases h : wst ok ty c with
        | some t2 => exact ⟨t2, rfl⟩
        | none => rw [h] at hwf; cases hwf
      rw [hw2] at hwf
      simp only at hwf
      have hty2 := evc_ty hb hty hw2
      have go : ∀ σ1 : Mm, Fr [5] σ σ1 → StkR (σ1 5) (evc nm st c) → Ok (if r32 ((i : Int) + 1) then L_J_run_12 n w (((evc nm st c).length : Nat) : Int) ((i : Int) + 1) σ1 else none) (fun r => r.1 = ((evS nm st (c :: cs)).length : Int) ∧ StkR (r.2 5) (evS nm st (c :: cs)) ∧ Fr [5] σ r.2) := by
        intro σ1 hf hst
        refine Ok.ck ⟨by omega, by omega⟩ ?_
        have e1 : ((i : Int) + 1) = ((i + 1 : Nat) : Int) := by omega
        rw [e1]
        refine (ih n (i + 1) (evc nm st c) t2 ty2 σ1 (by omega) ?_ ?_ ?_ (by omega) hst hty2 (wst_len hw2 hl0) hwf ?_).mono (fun r hr => ⟨hr.1, hr.2.1, hf.tr hr.2.2⟩)
        · rw [hf 2 (by simp)]; exact h26
        · rw [hf (t + 4) (by simp; omega)]; exact hc.2
        · rw [hf (t + 12) (by simp), hto]; congr 1; omega
        · rw [hf 4 (by simp)]; exact hnm
      refine Ok.bM ?_
      unfold wst at hw2
      by_cases c1 : c < 20000
      · rw [if_pos c1] at hw2
        split at hw2
        · rename_i h2
          cases hw2
          refine Ok.ie (by omega) (Ok.ie (by omega) (Ok.bM ?_))
          have ev : evc nm st c = (if c < 10000 then c else nm (c - 10000).toNat) :: st := by unfold evc; rw [if_pos c1]
          have fin : ∀ y : Int, y = (if c < 10000 then c else nm (c - 10000).toNat) → Ok (if 0 ≤ (st.length : Int) ∧ (st.length : Int) < 64 then bindM (st2 σ 5 st.length y) fun s16 => if r32 ((st.length : Int) + 1) then (if r32 ((i : Int) + 1) then L_J_run_12 n w ((st.length : Int) + 1) ((i : Int) + 1) s16 else none) else none else none) (fun r => r.1 = ((evS nm st (c :: cs)).length : Int) ∧ StkR (r.2 5) (evS nm st (c :: cs)) ∧ Fr [5] σ r.2) := by
            intro y hy
            refine Ok.ck (by omega) (Ok.bM (Ok.ck ⟨by omega, by omega⟩ ?_))
            have e2 : ((st.length : Int) + 1) = (((evc nm st c).length : Nat) : Int) := by rw [ev]; simp
            rw [e2]
            refine go _ (Fr.rf.st (by simp)) ?_
            rw [ev, ← hy]
            exact hs.push
          by_cases c2 : c < 10000
          · exact Ok.ie (by omega) (fin c (by rw [if_pos c2]))
          · have h3 := hnm (c - 10000) (h2.2.1.resolve_left c2)
            refine Ok.it (by omega) (Ok.ck ⟨h3.1, h3.2.1⟩ (fin _ (by rw [if_neg c2, h3.2.2])))
        · cases hw2
      · rw [if_neg c1] at hw2
        refine Ok.it (by omega) ?_
        match ty, st, hty, hw2, hlen, hs, hl0 with
        | [], [], hty, hw2, hlen, hs, hl0 => cases hw2
        | p :: ty1, a :: st1, hty, hw2, hlen, hs, hl0 =>
          simp only [List.length_cons] at hlen hl0
          simp only at hw2
          have l1 : (((a :: st1).length : Nat) : Int) = (st1.length : Int) + 1 := by simp
          have l2 : (((a :: st1).length : Nat) : Int) - 1 = (st1.length : Int) := by rw [l1]; omega
          have ha : σ 5 st1.length = a := hs.1
          by_cases c2 : c < 20015
          · refine Ok.it c2 ?_
            rw [if_neg (by omega), if_neg (by omega)] at hw2
            match ty1, st1, hty, hw2, hlen, hs, l1, l2, ha, hl0 with
            | [], [], hty, hw2, hlen, hs, l1, l2, ha, hl0 => cases hw2
            | q1 :: ty1, b :: st1, hty, hw2, hlen, hs, l1, l2, ha, hl0 =>
              simp only at hw2
              have m1 : (((a :: b :: st1).length : Nat) : Int) + (-1) = ((st1.length + 1 : Nat) : Int) := by simp; omega
              have m2 : ((st1.length + 1 : Nat) : Int) - 1 = (st1.length : Int) := by omega
              have hl : st1.length < 62 := by simp only [List.length_cons] at hlen hl0; omega
              refine Ok.ie (by simp; omega) ?_
              rw [m1, m2]
              simp only [Int.toNat_natCast]
              have hbv : σ 5 st1.length = b := hs.2.1
              have ha2 : σ 5 (st1.length + 1) = a := ha
              rw [hbv, ha2]
              refine Ok.ck (by omega) (Ok.ck (by omega) ?_)
              have hcb : F_J_combine c b a = some (comb c b a) := by
                split at hw2
                · rename_i h4
                  split at hw2
                  · rename_i h5
                    obtain ⟨rfl, rfl⟩ := h5
                    exact combine_b hty.2.1.b hty.1.b h4
                  · cases hw2
                · rename_i h4
                  split at hw2
                  · split at hw2
                    · rename_i h5
                      obtain ⟨rfl, rfl⟩ := h5
                      exact combine_n hty.2.1.n hty.1.n h4
                    · cases hw2
                  · split at hw2
                    · split at hw2
                      · rename_i h5
                        obtain ⟨rfl, rfl⟩ := h5
                        exact combine_n hty.2.1.n hty.1.n h4
                      · cases hw2
                    · cases hw2
              rw [hcb]
              refine Ok.ck (by omega) (Ok.bM (Ok.ck ⟨by omega, by omega⟩ ?_))
              have ev : evc nm (a :: b :: st1) c = comb c b a :: st1 := by
                unfold evc
                rw [if_neg c1]
                simp only
                rw [if_neg (by omega), if_neg (by omega)]
              have e2 : ((st1.length + 1 : Nat) : Int) = (((evc nm (a :: b :: st1) c).length : Nat) : Int) := by rw [ev]; simp
              rw [e2]
              refine go _ (Fr.rf.st (by simp)) ?_
              rw [ev]
              exact hs.2.2.push
          · refine Ok.ie c2 (Ok.ie (by rw [l1]; omega) (Ok.bM ?_))
            rw [l2]
            simp only [Int.toNat_natCast]
            rw [ha]
            have hl : st1.length < 63 := by omega
            have fin : ∀ y : Int, evc nm (a :: st1) c = y :: st1 → Ok (if 0 ≤ (st1.length : Int) ∧ (st1.length : Int) < 64 then bindM (st2 σ 5 st1.length y) fun s12 => (if r32 ((i : Int) + 1) then L_J_run_12 n w (((a :: st1).length : Nat) : Int) ((i : Int) + 1) s12 else none) else none) (fun r => r.1 = ((evS nm (a :: st1) (c :: cs)).length : Int) ∧ StkR (r.2 5) (evS nm (a :: st1) (c :: cs)) ∧ Fr [5] σ r.2) := by
              intro y ev
              refine Ok.ck (by omega) (Ok.bM ?_)
              have e2 : (((a :: st1).length : Nat) : Int) = (((evc nm (a :: st1) c).length : Nat) : Int) := by rw [ev]; simp
              rw [e2]
              refine go _ (Fr.rf.st (by simp)) ?_
              rw [ev]
              exact hs.2.push
            split at hw2
            · rename_i h3
              split at hw2
              · rename_i h4
                subst h4
                have hn := hty.1.n
                refine Ok.it h3 (Ok.ck (by omega) (Ok.ck ⟨by omega, by omega⟩ (fin _ ?_)))
                unfold evc
                rw [if_neg c1]
                simp only
                rw [if_pos h3]
              · cases hw2
            · rename_i h3
              split at hw2
              · rename_i h4
                split at hw2
                · rename_i h5
                  subst h5
                  have hn := hty.1.b
                  refine Ok.ie h3 (Ok.ck (by omega) (Ok.ck ⟨by omega, by omega⟩ (fin _ ?_)))
                  unfold evc
                  rw [if_neg c1]
                  simp only
                  rw [if_neg h3, if_pos h4]
                · cases hw2
              · rename_i h4
                exfalso
                match ty1, hw2 with
                | [], hw2 => cases hw2
                | q1 :: u, hw2 =>
                  simp only at hw2
                  rw [if_neg (by omega), if_neg (by omega), if_neg (by omega)] at hw2
                  cases hw2
/-- a law of a TEXT: where it lies, what it is -/
theorem run_ok {t : Nat} (q : IsO 0 9 t) {w : Int} (hw : 0 ≤ w ∧ w < 3) {ok : Int → Bool} {nm : Nat → Int} (hb : ∀ k : Int, ok k = true → -100000000 ≤ nm k.toNat ∧ nm k.toNat ≤ 100000000) {cs : List Int} {i : Nat} {b : Bool} {σ : Mm} (h26 : σ 2 6 = (t : Int)) (hfr : σ (t + 8) w.toNat = (i : Int)) (hc : CodeAt (σ (t + 4)) i cs) (hto : σ (t + 12) w.toNat = ((i + cs.length : Nat) : Int)) (hi : i + cs.length ≤ 300) (hwf : wfS ok [] cs = some [b]) (hnm : ∀ k : Int, ok k = true → 0 ≤ k ∧ k < 13 ∧ σ 4 k.toNat = nm k.toNat) :
    ∃ v, evS nm [] cs = [v] ∧ Ty1 b v ∧ Ok (F_J_run w σ) (fun r => r.1 = v ∧ Fr [5] σ r.2) := by
  have hty := evS_ty hb (ty := []) (st := []) trivial hwf
  obtain ⟨v, hv⟩ : ∃ v, evS nm [] cs = [v] := by
    match h : evS nm [] cs, hty with
    | [v], hty => exact ⟨v, rfl⟩
  rw [hv] at hty
  refine ⟨v, hv, hty.1, ?_⟩
  unfold F_J_run
  simp only [h26, Int.toNat_natCast]
  refine Ok.ck ⟨by omega, q⟩ (Ok.ck hw (Ok.bM ?_))
  rw [hfr]
  refine Ok.b1M (run_loop q hw hb cs LF i [] [] [b] σ (by unfold LF; omega) h26 hc hto hi trivial trivial (by simp) hwf hnm) (fun a s hr => ?_)
  obtain ⟨h1, h2, h3⟩ := hr
  rw [hv] at h1 h2
  simp only [List.length_cons, List.length_nil] at h1
  refine Ok.ie (by omega) (Ok.ck (by omega) (Ok.ret ⟨?_, h3⟩))
  have e : (a - 1).toNat = 0 := by omega
  show s 5 (a - 1).toNat = v
  rw [e]
  exact h2.1
