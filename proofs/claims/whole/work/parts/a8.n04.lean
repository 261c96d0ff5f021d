-- a law under way: behind a ONE, faults and the end of an ASK
theorem some_ite {c : Prop} {i : Decidable c} {x : Int} {A : Option Int} {B : Int} (h : A = some B) : (@ite _ c i (some x) A) = some (@ite _ c i x B) := by
  by_cases q : c
  · rw [if_pos q, if_pos q]
  · rw [if_neg q, if_neg q]; exact h
def dnB (x : Int) : Int := if x = 3 then 20006 else if x = 4 then 20008 else if x = 35 then 20010 else if x = 37 then 20002 else if x = 42 then 20000 else if x = 43 then 20003 else if x = 45 then 20004 else if x = 47 then 20001 else if x = 60 then 20005 else if x = 61 then 20009 else if x = 62 then 20007 else if x = 310 then 20012 else if x = 311 then 20011 else -1
theorem done_by (s : Mm) : F_R_doneBy s = some (dnB (s 90 7)) := by
  unfold F_R_doneBy dnB
  exact some_ite (some_ite (some_ite (some_ite (some_ite (some_ite (some_ite (some_ite (some_ite (some_ite (some_ite (some_ite (some_ite rfl))))))))))))
abbrev PK (a c d : Int) : Prop := (dnB a = -1 ∧ ¬ (c = 3 ∧ (d = 43 ∨ d = 45 ∨ d = 42 ∨ d = 47 ∨ d = 37 ∨ d = 60 ∨ d = 62 ∨ d = 61 ∨ d = 35 ∨ d = 300 ∨ d = 301)) ∧ ¬ (c = 1 ∧ (d = 10 ∨ d = 11))) ∨ (ari (dnB a) ∧ c = 3 ∧ d = encO (dnB a)) ∨ (cmq (dnB a) ∧ c = 3 ∧ d = encO (dnB a)) ∨ (dnB a = 20011 ∧ c = 1 ∧ d = 11) ∨ (dnB a = 20012 ∧ c = 1 ∧ d = 10)
theorem pk_word : ∀ j : Nat, j < 27 → PK ((300 + j : Nat) : Int) 1 ((wmap j : Nat) : Int) := by decide +kernel
theorem dn_kind {a b c d : Int} (h : KindR a b c d) : PK a c d := by
  rcases h with ⟨h1, h2⟩ | ⟨h1, h2, h3⟩ | ⟨j, h1, h2, h3, h4⟩ | ⟨h1, h2⟩ | ⟨h1, h2⟩
  · exact Or.inl ⟨by rw [h1]; rfl, by omega, by omega⟩
  · exact Or.inl ⟨by rw [h1]; rfl, by omega, by omega⟩
  · rw [h2, h3, h4]; exact pk_word j h1
  · rw [h1]
    rcases h2 with ⟨h2, h3⟩ | ⟨h2, h3⟩ | ⟨h2, h3⟩
    · rw [h2]
      unfold sgn at h3
      clear h1 h2
      rcases (show d = 35 ∨ d = 37 ∨ d = 40 ∨ d = 41 ∨ d = 42 ∨ d = 43 ∨ d = 44 ∨ d = 45 ∨ d = 47 ∨ d = 59 ∨ d = 60 ∨ d = 61 ∨ d = 62 by omega) with rfl | rfl | rfl | rfl | rfl | rfl | rfl | rfl | rfl | rfl | rfl | rfl | rfl
      all_goals decide
    · rw [h2, h3]; decide
    · rw [h2, h3]; decide
  · exact Or.inl ⟨by rw [h1]; rfl, by omega, by omega⟩
/-- the right side of an ASK is over -/
theorem LwM.dropc {law O : Nat} {b x : Int} {g cs : List Int} {u : Mm} (h : LwM u law b (x :: g) cs O) (hx : cmq x) : u 200 22 = (((frs b g).length + 1 : Nat) : Int) ∧ u 213 ((frs b g).length + 1) = encO x ∧ LwM (st2 u 200 22 ((frs b g).length : Int)) law b g cs O := by
  obtain ⟨h1, ⟨h2, h3, h4⟩, ⟨h5, h6, h7⟩, h8, h9, h10⟩ := h
  have c := h4.1 hx
  rw [frs_f (by omega)] at h2 h3 c
  rw [List.length_cons] at h2 c
  rw [wos_f (by omega)] at h5 h6
  rw [wfr_f (by omega)] at h7
  rw [opn_0 (by omega)] at h8
  refine ⟨h2, c, ⟨?_, ⟨?_, ?_, ?_⟩, ⟨?_, ?_, ?_⟩, ?_, ?_, ?_⟩⟩
  · rw [st2_sk, if_neg (by decide)]; exact h1
  · rw [st2_ss]
  · rw [st2_ne (by decide)]; exact h3.2
  · rw [st2_ne (by decide)]; exact h4.2
  · rw [st2_sk, if_neg (by decide)]; exact h5
  · rw [st2_ne (by decide)]; exact h6
  · rw [st2_ne (by decide)]; exact h7
  · rw [st2_sk, if_neg (by decide)]; exact h8
  · rw [st2_sk, if_neg (by decide)]; exact h9
  · rw [st2_ne (by decide), st2_ne (by decide)]; exact h10
theorem right_ok {law O : Nat} {b x : Int} {g h em cs : List Int} {u : Mm} (z19 : u 200 19 = 0) (h28 : u 200 28 = 2) (M : LwM u law b g cs O) (hg : Gk b g false) (ho : opn g ≤ 8) (hs : (stk g).length ≤ 300) (hn : O + cs.length + (stk g).length ≤ 340) (hf : finM 3 g = (x :: h, em)) (hem : em.length ≤ (stk g).length) (hx : cmq x) (hh : Gk b h true) (hoh : opn h ≤ 8) (hfr : frs b g = frs b (x :: h)) (na : ¬ arM u) : ∃ u3, MT u u3 1 ∧ LwM u3 law b (ldr 20016 h).1 (cs ++ em ++ [x] ++ (ldr 20016 h).2) O ∧ FV u u3 O ∧ u3 200 28 = 3 := by
  have f0 : frs b g = 5 :: frs b h := by
    rw [hfr, frs_f (by omega)]
    unfold frK
    rw [if_neg (by omega), if_pos (by omega)]
  have hw := Gk_w hg ho
  obtain ⟨v, E, M2, F2, -⟩ := wk_ok (r := 3) M hg ho hs (by omega)
  rw [hf] at M2
  have M2 : LwM v law b (x :: h) (cs ++ em) O := M2
  obtain ⟨d1, d2, d3⟩ := LwM.dropc M2 hx
  have hl := (Gk_w hh hoh).2.1
  have e1 : (((frs b h).length + 1 : Nat) : Int) - 1 = ((frs b h).length : Int) := by omega
  obtain ⟨E3, M3, F3⟩ := d3.emit (c := x) (v := 0) (by rw [List.length_append]; omega) (fun q => absurd q (by omega))
  have hlen : h.length < LF := by have := (Gk_w hh hoh).2.2.2; rw [stk_t hh] at this; have := (Gk_t hh).2.1; have a1 := Gk_w hg ho; have : h.length ≤ 400 := by
                                    have a2 : (x :: h).length + em.length ≤ g.length := by
                                      have key : ∀ l : List Int, (finM 3 l).1.length + (finM 3 l).2.length = l.length := fun l => by
                                        induction l with
                                        | nil => rfl
                                        | cons y l ih =>
                                          by_cases c : frm y ∨ rkM y < 3
                                          · rw [finM_s c]; simp
                                          · rw [finM_g c]
                                            show (finM 3 l).1.length + (y :: (finM 3 l).2).length = _
                                            rw [List.length_cons, List.length_cons]; omega
                                      have := key g
                                      rw [hf] at this
                                      exact Nat.le_of_eq this
                                    rw [List.length_cons] at a2
                                    omega
                                  unfold LF; omega
  obtain ⟨u3, E4, M4, F4, k28⟩ := askOver_ok hlen M3 hh hoh (by rw [List.length_append, List.length_append, List.length_singleton]; omega)
  refine ⟨u3, MT.t2 z19 h28 ?_, M4, (F2.tr ((FV.rf.p0 (by omega)).tr F3)).tr F4, k28⟩
  rw [go_na (top_ok M f0 (by omega)) na, go5]
  unfold gRt
  rw [E, b0M_some, d1, if_pos (show 0 ≤ (((frs b h).length + 1 : Nat) : Int) ∧ (((frs b h).length + 1 : Nat) : Int) < 41 by omega), Int.toNat_natCast, d2, bindM_eq, e1, if_pos (r32_nat (by omega)), bindM_eq, E3, b0M_some, E4, b0M_some]
/-- where the reference can't go on behind a ONE -/
theorem beh_err {s u : Mm} {T law : Nat} {b : Int} {g cs B em : List Int} {S O n e : Nat} (hT : 94 ≤ T) (tok : TokR s u n e) (z19 : u 200 19 = 0) (h28 : u 200 28 = 2) (M : LwM u law b g cs O) (hg : Gk b g false) (ho : opn g ≤ 8) (hs : (stk g).length ≤ 300) (hn : O + cs.length + (stk g).length ≤ 340) (hf : finM 3 g = (B, em)) (hem : em.length ≤ (stk g).length) (hR : Reg b B) (hoB : opn B ≤ 8) (hfr : frs b B = frs b g) (hb : b = 1 ∨ b = 2) (na : ¬ arM u)
    (n1 : B = [] → ¬ (u 200 17 = 3 ∧ u 200 18 = 59)) (n2 : (∃ h, B = 1 :: h) → ¬ (u 200 17 = 3 ∧ F_M_isAsking (u 200 18) = some 1)) (n3 : (∃ x h, B = x :: h ∧ cmq x) → ¬ (u 200 17 = 1 ∧ (u 200 18 = 10 ∨ u 200 18 = 11)) ∧ ¬ (u 200 17 = 3 ∧ u 200 18 = 59)) (n4 : ∀ x h, B = x :: h → (x = 20017 ∨ x = 20020 ∨ x = 20021 → ¬ (u 200 17 = 3 ∧ u 200 18 = 41)) ∧ (x = 20018 ∨ x = 20019 → ¬ (u 200 17 = 3 ∧ u 200 18 = 44))) :
    ∃ u1 m, MT u u1 m ∧ m ≤ 1 ∧ TokR s u1 n e ∧ GM u u1 O ∧ MT u1 (st2 (st2 u1 200 19 1) 200 20 (u1 200 16)) 1 := by
  have hw := Gk_w hg ho
  have hA : F_M_isAsking (u 200 18) = some 1 ∨ F_M_isAsking (u 200 18) = some 0 := by
    rw [ask_in]
    by_cases c : u 200 18 = 60 ∨ u 200 18 = 62 ∨ u 200 18 = 61 ∨ u 200 18 = 35 ∨ u 200 18 = 300 ∨ u 200 18 = 301
    · rw [if_pos c]; exact Or.inl rfl
    · rw [if_neg c]; exact Or.inr rfl
  have hl : (frs b g).length ≤ 40 := by omega
  rcases hR with ⟨rfl, hb2⟩ | ⟨h, rfl, k⟩ | ⟨x, h, rfl, hx, k⟩ | ⟨x, h, rfl, hx, k⟩
  · have f0 : frs b g = b :: [] := hfr.symm
    have b1 : b = 1 := by omega
    refine ⟨u, 0, MT.rf, by omega, tok, GM.rf, MT.t2 z19 h28 ?_⟩
    rw [go_na (top_ok M f0 hl) na]
    exact go_J5 z19 (by omega) (fun q => by omega) (fun _ => n1 rfl) (fun q => by omega) (fun q => by omega) (fun q => by omega) hA
  · have f0 : frs b g = 4 :: frs b h := by rw [← hfr]; exact frs_f (by omega)
    refine ⟨u, 0, MT.rf, by omega, tok, GM.rf, MT.t2 z19 h28 ?_⟩
    rw [go_na (top_ok M f0 hl) na]
    exact go_J5 z19 (by omega) (fun _ => n2 ⟨h, rfl⟩) (fun q => by omega) (fun q => by omega) (fun q => by omega) (fun q => by omega) hA
  · rw [opn_0 (by omega)] at hoB
    obtain ⟨u3, mt, M3, F3, k28⟩ := right_ok z19 h28 M hg ho hs hn hf hem hx k hoB hfr.symm na
    obtain ⟨h2, ns, e1, e2, e3, e4, ⟨e5, e6, e7⟩, e8⟩ := not_ok k
    rw [e1] at M3
    have y17 : u3 200 17 = u 200 17 := F3.2.1 17 (by decide) (by decide) (by decide) (by decide) (by decide)
    have y18 : u3 200 18 = u 200 18 := F3.2.1 18 (by decide) (by decide) (by decide) (by decide) (by decide)
    have y19 : u3 200 19 = 0 := by rw [F3.2.1 19 (by decide) (by decide) (by decide) (by decide) (by decide)]; exact z19
    obtain ⟨q1, q2⟩ := n3 ⟨x, h, rfl, hx⟩
    have f2 := join_fr e2 e3
    refine ⟨u3, 1, mt, Nat.le_refl _, tok.f (S := S) hT FW.rf F3, F3.g, MT.t3 y19 k28 (on_err y19 (by rw [y17, y18]; exact q1) (by rw [y17, y18]; exact q2) (top_ok M3 f2 (by rw [f2]; simp)))⟩
  · have f0 : frs b g = frK x :: frs b h := by rw [← hfr]; exact frs_f (by omega)
    obtain ⟨q1, q2⟩ := n4 x h rfl
    refine ⟨u, 0, MT.rf, by omega, tok, GM.rf, MT.t2 z19 h28 ?_⟩
    rw [go_na (top_ok M f0 hl) na]
    rcases (show x = 20017 ∨ x = 20018 ∨ x = 20019 ∨ x = 20020 ∨ x = 20021 by omega) with rfl | rfl | rfl | rfl | rfl
    · exact go_J5 (f := 6) z19 (by decide) (fun q => absurd q (by decide)) (fun q => absurd q (by decide)) (fun _ => q1 (by omega)) (fun q => absurd q (by decide)) (fun q => absurd q (by decide)) hA
    · exact go_J5 (f := 8) z19 (by decide) (fun q => absurd q (by decide)) (fun q => absurd q (by decide)) (fun q => absurd q (by decide)) (fun _ => q2 (by omega)) (fun q => absurd q (by decide)) hA
    · exact go_J5 (f := 9) z19 (by decide) (fun q => absurd q (by decide)) (fun q => absurd q (by decide)) (fun q => absurd q (by decide)) (fun _ => q2 (by omega)) (fun q => absurd q (by decide)) hA
    · exact go_J5 (f := 10) z19 (by decide) (fun q => absurd q (by decide)) (fun q => absurd q (by decide)) (fun q => absurd q (by decide)) (fun q => absurd q (by decide)) (fun _ => q1 (by omega)) hA
    · exact go_J5 (f := 11) z19 (by decide) (fun q => absurd q (by decide)) (fun q => absurd q (by decide)) (fun q => absurd q (by decide)) (fun q => absurd q (by decide)) (fun _ => q1 (by omega)) hA
