theorem enc_7 (c : Int) : encO c ≤ 407 := by
  unfold encO
  by_cases h : c < 10000
  · rw [if_pos h]; decide
  rw [if_neg h]; clear h
  by_cases h : c < 20000
  · rw [if_pos h]; decide
  rw [if_neg h]; clear h
  by_cases h : c = 20000
  · rw [if_pos h]; decide
  rw [if_neg h]; clear h
  by_cases h : c = 20001
  · rw [if_pos h]; decide
  rw [if_neg h]; clear h
  by_cases h : c = 20002
  · rw [if_pos h]; decide
  rw [if_neg h]; clear h
  by_cases h : c = 20003
  · rw [if_pos h]; decide
  rw [if_neg h]; clear h
  by_cases h : c = 20004
  · rw [if_pos h]; decide
  rw [if_neg h]; clear h
  by_cases h : c = 20005
  · rw [if_pos h]; decide
  rw [if_neg h]; clear h
  by_cases h : c = 20006
  · rw [if_pos h]; decide
  rw [if_neg h]; clear h
  by_cases h : c = 20007
  · rw [if_pos h]; decide
  rw [if_neg h]; clear h
  by_cases h : c = 20008
  · rw [if_pos h]; decide
  rw [if_neg h]; clear h
  by_cases h : c = 20009
  · rw [if_pos h]; decide
  rw [if_neg h]; clear h
  by_cases h : c = 20010
  · rw [if_pos h]; decide
  rw [if_neg h]; clear h
  by_cases h : c = 20011
  · rw [if_pos h]; decide
  rw [if_neg h]; clear h
  by_cases h : c = 20012
  · rw [if_pos h]; decide
  rw [if_neg h]; clear h
  by_cases h : c = 20013
  · rw [if_pos h]; decide
  rw [if_neg h]; clear h
  by_cases h : c = 20014
  · rw [if_pos h]; decide
  rw [if_neg h]; clear h
  by_cases h : c = 20015
  · rw [if_pos h]; decide
  rw [if_neg h]; clear h
  decide
theorem enc_8 (c : Int) : ¬ encO c = 408 := by have := enc_7 c; omega
theorem enc_bin {c : Int} (h : 20000 ≤ c) (h2 : c ≤ 20014) : ¬ encO c = 400 ∧ ¬ encO c = 401 ∧ ¬ encO c = 402 ∧ ¬ encO c = 405 := by
  refine ⟨?_, ?_, ?_, ?_⟩ <;>
  · intro h
    unfold encO at h
    repeat' (split at h)
    all_goals first | exact absurd h (by decide) | omega
set_option maxHeartbeats 1000000 in
theorem says_loop {ok : Int → Bool} {nm : Nat → Int} (hb : ∀ k : Int, ok k = true → -100000000 ≤ nm k.toNat ∧ nm k.toNat ≤ 100000000) :
    ∀ (cs : List Int) (n i : Nat) (st : List Int) (ty ty2 : List Bool) (σ : Mm), cs.length < n → MCode (σ 210) (σ 211) i cs → i + cs.length < 1600 → StkR (σ 224) st → TyL ty st → ty.length ≤ 60 → wfS ok ty cs = some ty2 → (∀ k : Int, ok k = true → 0 ≤ k ∧ k < 13 ∧ σ 223 k.toNat = nm k.toNat) →
    Ok (L_M_saysOf_4 n (st.length : Int) (i : Int) σ) (fun r => StkR (r 224) (evS nm st cs) ∧ Fr [224] σ r) := by
  intro cs
  induction cs with
  | nil =>
    intro n i st ty ty2 σ hn hc hi hs hty hl0 hwf hnm
    cases n with
    | zero => exact absurd hn (by simp)
    | succ n =>
      rw [L_M_saysOf_4]
      simp only [Int.toNat_natCast]
      simp only [List.length_nil] at hi
      exact Ok.ck (by omega) (Ok.it hc (Ok.ret ⟨hs, Fr.rf⟩))
  | cons c cs ih =>
    intro n i st ty ty2 σ hn hc hi hs hty hl0 hwf hnm
    cases n with
    | zero => exact absurd hn (by simp)
    | succ n =>
      rw [L_M_saysOf_4]
      simp only [Int.toNat_natCast]
      have hlen := hty.len
      simp only [List.length_cons] at hi hn
      obtain ⟨hc1, hcv, hc2⟩ := hc
      refine Ok.ck (by omega) (Ok.ie (by rw [hc1]; exact enc_8 c) (Ok.ck (by omega) (Ok.bM ?_)))
      rw [hc1]
      unfold wfS at hwf
      obtain ⟨t2, hw2⟩ : ∃ t2, wst ok ty c = some t2 := by
        cases h : wst ok ty c with
        | some t2 => exact ⟨t2, rfl⟩
        | none => rw [h] at hwf; cases hwf
      rw [hw2] at hwf
      simp only at hwf
      have hty2 := evc_ty hb hty hw2
      have go : ∀ σ1 : Mm, Fr [224] σ σ1 → StkR (σ1 224) (evc nm st c) → Ok (if r32 ((i : Int) + 1) then L_M_saysOf_4 n (((evc nm st c).length : Nat) : Int) ((i : Int) + 1) σ1 else none) (fun r => StkR (r 224) (evS nm st (c :: cs)) ∧ Fr [224] σ r) := by
        intro σ1 hf hst
        refine Ok.ck ⟨by omega, by omega⟩ ?_
        have e1 : ((i : Int) + 1) = ((i + 1 : Nat) : Int) := by omega
        rw [e1]
        refine (ih n (i + 1) (evc nm st c) t2 ty2 σ1 (by omega) ?_ (by omega) hst hty2 (wst_len hw2 hl0) hwf ?_).mono (fun r hr => ⟨hr.1, hf.tr hr.2⟩)
        · rw [hf 210 (by simp), hf 211 (by simp)]; exact hc2
        · rw [hf 223 (by simp)]; exact hnm
      refine Ok.bM (Ok.bM ?_)
      unfold wst at hw2
      by_cases c1 : c < 20000
      · rw [if_pos c1] at hw2
        split at hw2
        · rename_i h2
          cases hw2
          have ev : evc nm st c = (if c < 10000 then c else nm (c - 10000).toNat) :: st := by unfold evc; rw [if_pos c1]
          have hv := hcv c1
          have fin : ∀ y : Int, y = (if c < 10000 then c else nm (c - 10000).toNat) → Ok (if 0 ≤ (st.length : Int) ∧ (st.length : Int) < 200 then bindM (st2 σ 224 st.length y) fun s6 => if r32 ((st.length : Int) + 1) then (if r32 ((i : Int) + 1) then L_M_saysOf_4 n ((st.length : Int) + 1) ((i : Int) + 1) s6 else none) else none else none) (fun r => StkR (r 224) (evS nm st (c :: cs)) ∧ Fr [224] σ r) := by
            intro y hy
            refine Ok.ck (by omega) (Ok.bM (Ok.ck ⟨by omega, by omega⟩ ?_))
            have e2 : ((st.length : Int) + 1) = (((evc nm st c).length : Nat) : Int) := by rw [ev]; simp
            rw [e2]
            refine go _ (Fr.rf.st (by simp)) ?_
            rw [ev, ← hy]
            exact hs.push
          by_cases c2 : c < 10000
          · have e : encO c = 400 := by unfold encO; rw [if_pos c2]
            rw [e]
            rw [if_pos c2] at hv
            exact Ok.it rfl (Ok.bM (Ok.it rfl (Ok.ck (by omega) (fin _ (by rw [hv, if_pos c2])))))
          · have e : encO c = 401 := by unfold encO; rw [if_neg c2, if_pos c1]
            rw [e]
            rw [if_neg c2] at hv
            have h3 := hnm (c - 10000) (h2.2.1.resolve_left c2)
            refine Ok.ie (by decide) (Ok.it rfl (Ok.bM (Ok.ie (by decide) (Ok.ck (by omega) ?_))))
            rw [hv]
            exact Ok.ck ⟨h3.1, h3.2.1⟩ (fin _ (by rw [if_neg c2, h3.2.2]))
        · cases hw2
      · rw [if_neg c1] at hw2
        match ty, st, hty, hw2, hlen, hs, hl0 with
        | [], [], hty, hw2, hlen, hs, hl0 => cases hw2
        | p :: ty1, a :: st1, hty, hw2, hlen, hs, hl0 =>
          simp only [List.length_cons] at hlen hl0
          simp only at hw2
          have l1 : (((a :: st1).length : Nat) : Int) = (st1.length : Int) + 1 := by simp
          have l2 : (((a :: st1).length : Nat) : Int) - 1 = (st1.length : Int) := by rw [l1]; omega
          have ha : σ 224 st1.length = a := hs.1
          have fin : ∀ y : Int, evc nm (a :: st1) c = y :: st1 → Ok (if 0 ≤ (st1.length : Int) ∧ (st1.length : Int) < 200 then bindM (st2 σ 224 st1.length y) fun s12 => (if r32 ((i : Int) + 1) then L_M_saysOf_4 n (((a :: st1).length : Nat) : Int) ((i : Int) + 1) s12 else none) else none) (fun r => StkR (r 224) (evS nm (a :: st1) (c :: cs)) ∧ Fr [224] σ r) := by
              intro y ev
              refine Ok.ck (by omega) (Ok.bM ?_)
              have e2 : (((a :: st1).length : Nat) : Int) = (((evc nm (a :: st1) c).length : Nat) : Int) := by rw [ev]; simp
              rw [e2]
              refine go _ (Fr.rf.st (by simp)) ?_
              rw [ev]
              exact hs.2.push
          split at hw2
          · rename_i h3
            split at hw2
            · rename_i h4
              subst h4
              have hn := hty.1.n
              have e : encO c = 402 := by rw [h3]; decide
              rw [e, l2]
              simp only [Int.toNat_natCast]
              rw [ha]
              refine Ok.ie (by decide) (Ok.ie (by decide) (Ok.it trivial (Ok.ck (by omega) (Ok.ck ⟨by omega, by omega⟩ (fin _ ?_)))))
              unfold evc
              rw [if_neg c1]
              simp only
              rw [if_pos h3]
            · cases hw2
          · rename_i h3
            split at hw2
            · rename_i h4
              split at hw2
              · rename_i h5
                subst h5
                have hn := hty.1.b
                have e : encO c = 405 := by rw [h4]; decide
                rw [e, l2]
                simp only [Int.toNat_natCast]
                rw [ha]
                refine Ok.ie (by decide) (Ok.ie (by decide) (Ok.ie (by decide) (Ok.it trivial (Ok.ck (by omega) (Ok.ck ⟨by omega, by omega⟩ (fin _ ?_))))))
                unfold evc
                rw [if_neg c1]
                simp only
                rw [if_neg h3, if_pos h4]
              · cases hw2
            · rename_i h4
              match ty1, st1, hty, hw2, hlen, hs, l1, l2, ha, hl0 with
              | [], [], hty, hw2, hlen, hs, l1, l2, ha, hl0 => cases hw2
              | q1 :: ty1, b :: st1, hty, hw2, hlen, hs, l1, l2, ha, hl0 =>
                simp only at hw2
                simp only [List.length_cons] at hlen hl0
                have m1 : (((a :: b :: st1).length : Nat) : Int) + (-1) = ((st1.length + 1 : Nat) : Int) := by simp; omega
                have m2 : ((st1.length + 1 : Nat) : Int) - 1 = (st1.length : Int) := by omega
                have hcc : c ≤ 20014 ∧ F_M_worked (encO c) b a = some (comb c b a) := by
                  split at hw2
                  · rename_i h4
                    split at hw2
                    · rename_i h5
                      obtain ⟨rfl, rfl⟩ := h5
                      exact ⟨by omega, worked_b hty.2.1.b hty.1.b h4⟩
                    · cases hw2
                  · rename_i h4
                    split at hw2
                    · split at hw2
                      · rename_i h5
                        obtain ⟨rfl, rfl⟩ := h5
                        exact ⟨by omega, worked_n hty.2.1.n hty.1.n (by omega) (by omega) h4⟩
                      · cases hw2
                    · split at hw2
                      · split at hw2
                        · rename_i h5
                          obtain ⟨rfl, rfl⟩ := h5
                          exact ⟨by omega, worked_n hty.2.1.n hty.1.n (by omega) (by omega) h4⟩
                        · cases hw2
                      · cases hw2
                obtain ⟨n1, n2, n3, n4⟩ := enc_bin (by omega : 20000 ≤ c) hcc.1
                refine Ok.ie n1 (Ok.ie n2 (Ok.ie n3 (Ok.ie n4 ?_)))
                rw [m1, m2]
                simp only [Int.toNat_natCast]
                have hbv : σ 224 st1.length = b := hs.2.1
                have ha2 : σ 224 (st1.length + 1) = a := ha
                rw [hbv, ha2]
                refine Ok.ck (by omega) (Ok.ck (by omega) ?_)
                refine Ok.b1 (Ok.eq hcc.2) (fun y hy => ?_)
                subst hy
                refine Ok.ck (by omega) (Ok.bM (Ok.ck ⟨by omega, by omega⟩ ?_))
                have ev : evc nm (a :: b :: st1) c = comb c b a :: st1 := by
                  unfold evc
                  rw [if_neg c1]
                  simp only
                  rw [if_neg (by omega), if_neg (by omega)]
                have e2 : ((st1.length + 1 : Nat) : Int) = (((evc nm (a :: b :: st1) c).length : Nat) : Int) := by rw [ev]; simp
                rw [e2]
                refine go _ (Fr.rf.st (by simp)) ?_
                rw [ev]
                exact hs.2.2.push
theorem says_ok {ok : Int → Bool} {nm : Nat → Int} (hb : ∀ k : Int, ok k = true → -100000000 ≤ nm k.toNat ∧ nm k.toNat ≤ 100000000) {cs : List Int} {i : Nat} {b : Bool} {v : Int} {σ : Mm} (hc : MCode (σ 210) (σ 211) i cs) (hi : i + cs.length < 1600) (hwf : wfS ok [] cs = some [b]) (hv : evS nm [] cs = [v]) (hnm : ∀ k : Int, ok k = true → 0 ≤ k ∧ k < 13 ∧ σ 223 k.toNat = nm k.toNat) :
    Ok (F_M_saysOf (i : Int) σ) (fun r => r.1 = v ∧ Fr [224] σ r.2) := by
  unfold F_M_saysOf
  refine Ok.b0M (says_loop hb cs LF i [] [] [b] σ (by unfold LF; omega) hc hi trivial trivial (by simp) hwf hnm) (fun s hr => Ok.ret ⟨?_, hr.2⟩)
  have h := hr.1
  rw [hv] at h
  exact h.1
