-- a law under way: the reference's side
def MC (f g : Nat → Int) : Nat → List Int → Prop
  | _, [] => True
  | i, c :: cs => f i = encO c ∧ (c < 20000 → g i = if c < 10000 then c else c - 10000) ∧ MC f g (i + 1) cs
theorem MC.app {f g : Nat → Int} {c : Int} : ∀ {cs : List Int} {i : Nat}, MC f g i cs → f (i + cs.length) = encO c → (c < 20000 → g (i + cs.length) = if c < 10000 then c else c - 10000) → MC f g i (cs ++ [c])
  | [], i, _, h, k => ⟨h, k, trivial⟩
  | d :: cs, i, hs, h, k => by
    have e : i + 1 + cs.length = i + (d :: cs).length := by rw [List.length_cons]; omega
    exact ⟨hs.1, hs.2.1, MC.app hs.2.2 (by rw [e]; exact h) (by rw [e]; exact k)⟩
theorem MC.on {f g f2 g2 : Nat → Int} : ∀ {cs : List Int} {i : Nat}, (∀ k, i ≤ k → k < i + cs.length → f2 k = f k ∧ g2 k = g k) → MC f g i cs → MC f2 g2 i cs
  | [], _, _, _ => trivial
  | d :: cs, i, h, hs => by
    obtain ⟨h1, h2⟩ := h i (Nat.le_refl _) (by rw [List.length_cons]; omega)
    exact ⟨h1.trans hs.1, fun q => h2.trans (hs.2.1 q), MC.on (fun k h1 h2 => h k (by omega) (by rw [List.length_cons]; omega)) hs.2.2⟩
theorem MC.whole {f g : Nat → Int} : ∀ {cs : List Int} {i : Nat}, MC f g i cs → f (i + cs.length) = 408 → MCode f g i cs
  | [], _, _, h => h
  | d :: cs, i, hs, h => ⟨hs.1, hs.2.1, MC.whole hs.2.2 (by rw [← h]; congr 1; rw [List.length_cons]; omega)⟩
theorem MCode.on {f g f2 g2 : Nat → Int} : ∀ {cs : List Int} {i : Nat}, (∀ k, i ≤ k → k ≤ i + cs.length → f2 k = f k ∧ g2 k = g k) → MCode f g i cs → MCode f2 g2 i cs
  | [], i, h, hs => (h i (Nat.le_refl _) (Nat.le_refl _)).1.trans hs
  | d :: cs, i, h, hs => by
    obtain ⟨h1, h2⟩ := h i (Nat.le_refl _) (by omega)
    exact ⟨h1.trans hs.1, fun q => h2.trans (hs.2.1 q), MCode.on (fun k h1 h2 => h k (by omega) (by rw [List.length_cons]; omega)) hs.2.2⟩
def LwM (u : Mm) (law : Nat) (b : Int) (g cs : List Int) (O : Nat) : Prop := u 200 30 = (law : Int) ∧ (u 200 22 = ((frs b g).length : Int) ∧ StkR (u 212) (frs b g) ∧ CmpR (u 213) b g) ∧ (u 200 25 = ((wos g).length : Int) ∧ StkR (u 214) (wos g) ∧ StkR (u 215) (wfr b g)) ∧ u 200 21 = (opn g : Int) ∧ (u 200 36 = ((O + cs.length : Nat) : Int) ∧ MC (u 221) (u 222) O cs)
/-- what a law's reading may change in the reference, but the token -/
def FV (u v : Mm) (O : Nat) : Prop := (∀ i, i ≠ 200 → i ≠ 212 → i ≠ 213 → i ≠ 214 → i ≠ 215 → i ≠ 221 → i ≠ 222 → v i = u i) ∧ (∀ k, k ≠ 21 → k ≠ 22 → k ≠ 25 → k ≠ 28 → k ≠ 36 → v 200 k = u 200 k) ∧ ∀ k, k < O → v 221 k = u 221 k ∧ v 222 k = u 222 k
theorem FV.rf {u : Mm} {O : Nat} : FV u u O := ⟨fun _ _ _ _ _ _ _ _ => rfl, fun _ _ _ _ _ _ => rfl, fun _ _ => ⟨rfl, rfl⟩⟩
theorem FV.tr {a b c : Mm} {O : Nat} (h : FV a b O) (k : FV b c O) : FV a c O := ⟨fun i a b c d e f g => (k.1 i a b c d e f g).trans (h.1 i a b c d e f g), fun i a b c d e => (k.2.1 i a b c d e).trans (h.2.1 i a b c d e), fun i a => ⟨(k.2.2 i a).1.trans (h.2.2 i a).1, (k.2.2 i a).2.trans (h.2.2 i a).2⟩⟩
theorem FV.p0 {u v : Mm} {O k : Nat} {x : Int} (h : FV u v O) (hk : k = 21 ∨ k = 22 ∨ k = 25 ∨ k = 28 ∨ k = 36) : FV u (st2 v 200 k x) O :=
  ⟨fun i a b c d e f g => by rw [st2_ne a]; exact h.1 i a b c d e f g, fun i a b c d e => by rw [st2_sk, if_neg (by omega)]; exact h.2.1 i a b c d e, fun i a => by rw [st2_ne (by decide), st2_ne (by decide)]; exact h.2.2 i a⟩
theorem FV.p1 {u v : Mm} {O j k : Nat} {x : Int} (h : FV u v O) (hj : j = 212 ∨ j = 213 ∨ j = 214 ∨ j = 215) : FV u (st2 v j k x) O :=
  ⟨fun i a b c d e f g => by rw [st2_ne (by omega)]; exact h.1 i a b c d e f g, fun i a b c d e => by rw [st2_ne (by omega)]; exact h.2.1 i a b c d e, fun i a => by rw [st2_ne (by omega), st2_ne (by omega)]; exact h.2.2 i a⟩
theorem FV.p2 {u v : Mm} {O j k : Nat} {x : Int} (h : FV u v O) (hj : j = 221 ∨ j = 222) (hk : O ≤ k) : FV u (st2 v j k x) O := by
  refine ⟨fun i a b c d e f g => by rw [st2_ne (by omega)]; exact h.1 i a b c d e f g, fun i a b c d e => by rw [st2_ne (by omega)]; exact h.2.1 i a b c d e, fun i a => ?_⟩
  have e1 : st2 v j k x 221 i = v 221 i := by
    rcases hj with rfl | rfl
    · rw [st2_sk, if_neg (by omega)]
    · rw [st2_ne (by decide)]
  have e2 : st2 v j k x 222 i = v 222 i := by
    rcases hj with rfl | rfl
    · rw [st2_ne (by decide)]
    · rw [st2_sk, if_neg (by omega)]
  rw [e1, e2]; exact h.2.2 i a
/-- where the code goes on -/
def em3 (u : Mm) (n : Nat) (o v : Int) : Mm := st2 (st2 (st2 u 221 n o) 222 n v) 200 36 ((n + 1 : Nat) : Int)
theorem em3_off {u : Mm} {n i : Nat} {o v : Int} (h1 : i ≠ 200) (h2 : i ≠ 221) (h3 : i ≠ 222) : em3 u n o v i = u i := by
  unfold em3
  rw [st2_ne h1, st2_ne h3, st2_ne h2]
theorem em3_0 {u : Mm} {n k : Nat} {o v : Int} (h : k ≠ 36) : em3 u n o v 200 k = u 200 k := by
  unfold em3
  rw [st2_sk, if_neg h, st2_ne (by decide), st2_ne (by decide)]
theorem em3_36 {u : Mm} {n : Nat} {o v : Int} : em3 u n o v 200 36 = ((n + 1 : Nat) : Int) := st2_ss _ _ _ _
theorem em3_F {u v : Mm} {n O : Nat} {o w : Int} (h : FV u v O) (hn : O ≤ n) : FV u (em3 v n o w) O := ((h.p2 (Or.inl rfl) hn).p2 (Or.inr rfl) hn).p0 (by omega)
theorem em3_221 {u : Mm} {n k : Nat} {o v : Int} : em3 u n o v 221 k = if k = n then o else u 221 k := by
  unfold em3
  rw [st2_ne (by decide), st2_ne (by decide), st2_sk]
theorem em3_222 {u : Mm} {n k : Nat} {o v : Int} : em3 u n o v 222 k = if k = n then v else u 222 k := by
  unfold em3
  rw [st2_ne (by decide), st2_sk, st2_ne (by decide)]
theorem emits_raw {u : Mm} {n : Nat} {o v : Int} (h : u 200 36 = (n : Int)) (hn : n < 400) : F_M_emits o v u = some (em3 u n o v) := by
  have e : st2 u 221 n o 200 36 = (n : Int) := by rw [st2_ne (by decide)]; exact h
  have e2 : st2 (st2 u 221 n o) 222 n v 200 36 = (n : Int) := by rw [st2_ne (by decide)]; exact e
  have e1 : (n : Int) + 1 = ((n + 1 : Nat) : Int) := by omega
  unfold F_M_emits em3
  rw [h, if_pos (show 0 ≤ (n : Int) ∧ (n : Int) < 400 by omega), Int.toNat_natCast, bindM_eq, e, if_pos (show 0 ≤ (n : Int) ∧ (n : Int) < 400 by omega), Int.toNat_natCast, bindM_eq, e2, e1, if_pos (r32_nat (by omega)), bindM_eq]
theorem MC.em {u : Mm} {O : Nat} {c v : Int} {cs : List Int} (h : MC (u 221) (u 222) O cs) (hv : c < 20000 → v = if c < 10000 then c else c - 10000) : MC (em3 u (O + cs.length) (encO c) v 221) (em3 u (O + cs.length) (encO c) v 222) O (cs ++ [c]) :=
  MC.app (MC.on (fun k _ k2 => by rw [em3_221, if_neg (by omega), em3_222, if_neg (by omega)]; exact ⟨rfl, rfl⟩) h) (by rw [em3_221, if_pos rfl]) (fun q => by rw [em3_222, if_pos rfl]; exact hv q)
theorem LwM.emit {u : Mm} {law O : Nat} {b c v : Int} {g cs : List Int} (h : LwM u law b g cs O) (hn : O + cs.length < 400) (hv : c < 20000 → v = if c < 10000 then c else c - 10000) : F_M_emits (encO c) v u = some (em3 u (O + cs.length) (encO c) v) ∧ LwM (em3 u (O + cs.length) (encO c) v) law b g (cs ++ [c]) O ∧ FV u (em3 u (O + cs.length) (encO c) v) O := by
  obtain ⟨h1, ⟨h2, h3, h4⟩, ⟨h5, h6, h7⟩, h8, h9, h10⟩ := h
  refine ⟨emits_raw h9 hn, ⟨?_, ⟨?_, ?_, ?_⟩, ⟨?_, ?_, ?_⟩, ?_, ?_, h10.em hv⟩, em3_F FV.rf (by omega)⟩
  · rw [em3_0 (by decide)]; exact h1
  · rw [em3_0 (by decide)]; exact h2
  · rw [em3_off (by decide) (by decide) (by decide)]; exact h3
  · rw [em3_off (by decide) (by decide) (by decide)]; exact h4
  · rw [em3_0 (by decide)]; exact h5
  · rw [em3_off (by decide) (by decide) (by decide)]; exact h6
  · rw [em3_off (by decide) (by decide) (by decide)]; exact h7
  · rw [em3_0 (by decide)]; exact h8
  · rw [em3_36, List.length_append, List.length_singleton, Nat.add_assoc]
theorem rankM_k : ∀ k : Nat, k < 13 → F_M_rank (encO (20000 + (k : Int))) = some (rkM (20000 + (k : Int))) := by decide +kernel
theorem rank_M {x : Int} (h : 20000 ≤ x ∧ x ≤ 20012) : F_M_rank (encO x) = some (rkM x) := by
  obtain ⟨k, hk⟩ := Int.eq_ofNat_of_zero_le (show 0 ≤ x - 20000 by omega)
  have e : x = 20000 + (k : Int) := by omega
  rw [e]; exact rankM_k k (by omega)
theorem wfr_len {b : Int} : ∀ {g : List Int}, (wfr b g).length = (wos g).length
  | [] => rfl
  | x :: g => by
    by_cases c : frm x
    · rw [wfr_f c, wos_f c]; exact wfr_len
    · rw [wfr_n c, wos_n c, List.length_cons, List.length_cons, wfr_len]
theorem wfr_le {b : Int} : ∀ {g : List Int}, ∀ y ∈ wfr b g, y ≤ ((frs b g).length : Int)
  | [], y, hy => by simp [wfr] at hy
  | x :: g, y, hy => by
    by_cases c : frm x
    · rw [wfr_f c] at hy
      have := wfr_le y hy
      rw [frs_f c, List.length_cons]; omega
    · rw [wfr_n c] at hy
      rw [frs_n c]
      rcases List.mem_cons.mp hy with q | q
      · omega
      · exact wfr_le y q
theorem CmpR.on {f f2 : Nat → Int} {b : Int} : ∀ {g : List Int}, (∀ k, k ≤ (frs b g).length → f2 k = f k) → CmpR f b g → CmpR f2 b g
  | [], _, _ => trivial
  | x :: g, h, hs => by
    have hl : (frs b g).length ≤ (frs b (x :: g)).length := by
      by_cases c : frm x
      · rw [frs_f c, List.length_cons]; omega
      · rw [frs_n c]; omega
    exact ⟨fun q => (h _ (Nat.le_refl _)).trans (hs.1 q), CmpR.on (fun k hk => h k (by omega)) hs.2⟩
/-- does what waits in this frame -/
theorem wrkL_ok {law O : Nat} {b r : Int} : ∀ (g cs : List Int) (N : Nat) (u : Mm), g.length < N → LwM u law b g cs O → (∀ x ∈ g, ¬ frm x → 20000 ≤ x ∧ x ≤ 20012) → (wos g).length ≤ 80 → O + cs.length + (wos g).length ≤ 400 → ∃ v, L_M_works_0 N r u = some v ∧ LwM v law b (finM r g).1 (cs ++ (finM r g).2) O ∧ FV u v O ∧ v 200 28 = u 200 28 := by
  intro g
  induction g with
  | nil =>
    intro cs N u hN h _ _ _
    match N, hN with
    | N + 1, _ =>
      have h2 : u 200 25 = 0 := h.2.2.1.1
      rw [L_M_works_0, h2, if_pos (Int.le_refl 0)]
      refine ⟨u, rfl, ?_, FV.rf, rfl⟩
      show LwM u law b [] (cs ++ []) O
      rw [List.append_nil]; exact h
  | cons x g ih =>
    intro cs N u hN h ho hw hn
    match N, hN with
    | N + 1, hN =>
      have h0 := h
      obtain ⟨h1, ⟨h2, h3, h4⟩, ⟨h5, h6, h7⟩, h8, h9, h10⟩ := h
      by_cases c : frm x
      · have done : ∃ v, some u = some v ∧ LwM v law b (finM r (x :: g)).1 (cs ++ (finM r (x :: g)).2) O ∧ FV u v O ∧ v 200 28 = u 200 28 := by
          refine ⟨u, rfl, ?_, FV.rf, rfl⟩
          rw [finM_s (Or.inl c)]
          show LwM u law b (x :: g) (cs ++ []) O
          rw [List.append_nil]; exact h0
        rw [wos_f c] at h5 h6 hw
        rw [wfr_f c] at h7
        rw [frs_f c, List.length_cons] at h2
        have hle := wfr_le (b := b) (g := g)
        have hlen := wfr_len (b := b) (g := g)
        rw [L_M_works_0, h5, h2]
        generalize wos g = l at *
        generalize wfr b g = l2 at *
        match l, l2, h7, hlen, hle with
        | [], _, _, _, _ => rw [if_pos (show ((List.length ([] : List Int) : Nat) : Int) ≤ 0 from Int.le_refl 0)]; exact done
        | y :: l, z :: l2, h7, hlen, hle =>
          have hz := hle z (List.mem_cons_self ..)
          have e7 := h7.1
          rw [List.length_cons, List.length_cons] at hlen
          rw [List.length_cons] at hw ⊢
          have hl : ((l.length + 1 : Nat) : Int) - 1 = (l.length : Int) := by omega
          have el : l2.length = l.length := by omega
          rw [el] at e7
          rw [if_neg (show ¬ ((l.length + 1 : Nat) : Int) ≤ 0 by omega), hl, if_pos (show 0 ≤ (l.length : Int) ∧ (l.length : Int) < 80 by omega), Int.toNat_natCast, e7, if_neg (show ¬ z = (((frs b g).length + 1 : Nat) : Int) by omega)]
          exact done
        | _ :: _, [], _, hlen, _ => rw [List.length_cons] at hlen; simp at hlen
      · have hx := ho x (List.mem_cons_self ..) c
        rw [wos_n c] at h5 h6 hw hn
        rw [wfr_n c] at h7
        rw [frs_n c] at h2 h3
        rw [List.length_cons] at h5 hw hn
        have hl : (((wos g).length + 1 : Nat) : Int) - 1 = ((wos g).length : Int) := by omega
        have e7 := h7.1
        rw [wfr_len] at e7
        rw [L_M_works_0, h5, h2, if_neg (show ¬ (((wos g).length + 1 : Nat) : Int) ≤ 0 by omega), hl, if_pos (show 0 ≤ ((wos g).length : Int) ∧ ((wos g).length : Int) < 80 by omega), Int.toNat_natCast, e7, if_pos rfl, if_pos (show 0 ≤ ((wos g).length : Int) ∧ ((wos g).length : Int) < 80 by omega), h6.1, rank_M hx, b1_some]
        by_cases c2 : rkM x < r
        · rw [if_pos c2]
          refine ⟨u, rfl, ?_, FV.rf, rfl⟩
          rw [finM_s (Or.inr c2)]
          show LwM u law b (x :: g) (cs ++ []) O
          rw [List.append_nil]; exact h0
        · have a25 : st2 u 200 25 ((wos g).length : Int) 200 25 = ((wos g).length : Int) := st2_ss _ _ _ _
          have a214 : st2 u 200 25 ((wos g).length : Int) 214 = u 214 := st2_ne (by decide)
          have hlw : LwM (st2 u 200 25 ((wos g).length : Int)) law b g cs O := by
            refine ⟨?_, ⟨?_, ?_, ?_⟩, ⟨a25, ?_, ?_⟩, ?_, ?_, ?_⟩
            · rw [st2_sk, if_neg (by decide)]; exact h1
            · rw [st2_sk, if_neg (by decide)]; exact h2
            · rw [st2_ne (by decide)]; exact h3
            · rw [st2_ne (by decide)]; exact h4.2
            · rw [a214]; exact h6.2
            · rw [st2_ne (by decide)]; exact h7.2
            · rw [st2_sk, if_neg (by decide), h8, opn_0 (by omega)]
            · rw [st2_sk, if_neg (by decide)]; exact h9
            · rw [st2_ne (by decide), st2_ne (by decide)]; exact h10
          have f1 : FV u (st2 u 200 25 ((wos g).length : Int)) O := FV.rf.p0 (by omega)
          have k28 : st2 u 200 25 ((wos g).length : Int) 200 28 = u 200 28 := by rw [st2_sk, if_neg (by decide)]
          obtain ⟨E1, L1, F1⟩ := hlw.emit (c := x) (v := 0) (by omega) (fun q => absurd q (by omega))
          obtain ⟨v, E, k1, k2, k3⟩ := ih (cs ++ [x]) N _ (by rw [List.length_cons] at hN; omega) L1 (fun y hy => ho y (List.mem_cons_of_mem _ hy)) (by omega) (by rw [List.length_append, List.length_singleton]; omega)
          rw [if_neg c2, if_pos (r32_nat (by omega)), bindM_eq, a25, if_pos (show 0 ≤ ((wos g).length : Int) ∧ ((wos g).length : Int) < 80 by omega), Int.toNat_natCast, a214, h6.1, E1, b0M_some]
          refine ⟨v, E, ?_, (f1.tr F1).tr k2, by rw [k3, em3_0 (by decide)]; exact k28⟩
          rw [finM_g (by omega)]
          rw [List.append_assoc] at k1
          exact k1
theorem works_ok {law O : Nat} {b r : Int} {g cs : List Int} {u : Mm} (hg : g.length < LF) (h : LwM u law b g cs O) (ho : ∀ x ∈ g, ¬ frm x → 20000 ≤ x ∧ x ≤ 20012) (hw : (wos g).length ≤ 80) (hn : O + cs.length + (wos g).length ≤ 400) : ∃ v, F_M_works r u = some v ∧ LwM v law b (finM r g).1 (cs ++ (finM r g).2) O ∧ FV u v O ∧ v 200 28 = u 200 28 := by
  obtain ⟨v, E, k⟩ := wrkL_ok (r := r) g cs LF u hg h ho hw hn
  refine ⟨v, ?_, k⟩
  unfold F_M_works
  rw [E, b0M_some]
theorem top_ok {law O : Nat} {b f : Int} {g cs fs : List Int} {u : Mm} (h : LwM u law b g cs O) (hf : frs b g = f :: fs) (hl : (frs b g).length ≤ 40) : F_M_top u = some f := by
  obtain ⟨h1, ⟨h2, h3, h4⟩, -⟩ := h
  rw [hf] at h2 h3 hl
  rw [List.length_cons] at h2 hl
  have e : ((fs.length + 1 : Nat) : Int) - 1 = (fs.length : Int) := by omega
  unfold F_M_top
  rw [h2, e, if_pos (show 0 ≤ (fs.length : Int) ∧ (fs.length : Int) < 40 by omega), Int.toNat_natCast, h3.1]
/-- a frame more -/
theorem LwM.frame {law O : Nat} {b x : Int} {g cs : List Int} {u v : Mm} (h : LwM u law b g cs O) (hf : frm x) (hc : ¬ cmq x) (hl : (frs b g).length < 40) (f : FV u v O) (e22 : v 200 22 = u 200 22) (e21 : v 200 21 = (opn (x :: g) : Int)) (e25 : v 200 25 = u 200 25) (e36 : v 200 36 = u 200 36) (e : ∀ i, 212 ≤ i → i ≤ 222 → v i = u i) : F_M_opensFrame (frK x) v = some (st2 (st2 v 212 (frs b g).length (frK x)) 200 22 (((frs b g).length + 1 : Nat) : Int)) ∧ LwM (st2 (st2 v 212 (frs b g).length (frK x)) 200 22 (((frs b g).length + 1 : Nat) : Int)) law b (x :: g) cs O ∧ FV u (st2 (st2 v 212 (frs b g).length (frK x)) 200 22 (((frs b g).length + 1 : Nat) : Int)) O := by
  obtain ⟨h1, ⟨h2, h3, h4⟩, ⟨h5, h6, h7⟩, h8, h9, h10⟩ := h
  have c22 : v 200 22 = ((frs b g).length : Int) := e22.trans h2
  have d22 : st2 v 212 (frs b g).length (frK x) 200 22 = ((frs b g).length : Int) := by rw [st2_ne (by decide)]; exact c22
  have e1 : ((frs b g).length : Int) + 1 = (((frs b g).length + 1 : Nat) : Int) := by omega
  refine ⟨?_, ⟨?_, ⟨?_, ?_, ?_, ?_⟩, ⟨?_, ?_, ?_⟩, ?_, ?_, ?_⟩, (f.p1 (by omega)).p0 (by omega)⟩
  · unfold F_M_opensFrame
    rw [c22, if_pos (show 0 ≤ ((frs b g).length : Int) ∧ ((frs b g).length : Int) < 40 by omega), Int.toNat_natCast, bindM_eq, d22, e1, if_pos (r32_nat (by omega)), bindM_eq]
  · rw [st2_sk, if_neg (by decide), st2_ne (by decide), f.2.1 30 (by decide) (by decide) (by decide) (by decide) (by decide)]; exact h1
  · rw [st2_ss, frs_f hf, List.length_cons]
  · rw [st2_ne (by decide), frs_f hf]
    exact StkR.push (by rw [e 212 (by omega) (by omega)]; exact h3)
  · exact fun q => absurd q hc
  · rw [st2_ne (by decide), st2_ne (by decide), e 213 (by omega) (by omega)]; exact h4
  · rw [st2_sk, if_neg (by decide), st2_ne (by decide), wos_f hf, e25]; exact h5
  · rw [st2_ne (by decide), st2_ne (by decide), wos_f hf, e 214 (by omega) (by omega)]; exact h6
  · rw [st2_ne (by decide), st2_ne (by decide), wfr_f hf, e 215 (by omega) (by omega)]; exact h7
  · rw [st2_sk, if_neg (by decide), st2_ne (by decide)]; exact e21
  · rw [st2_sk, if_neg (by decide), st2_ne (by decide), e36]; exact h9
  · rw [st2_ne (by decide), st2_ne (by decide), st2_ne (by decide), st2_ne (by decide), e 221 (by omega) (by omega), e 222 (by omega) (by omega)]; exact h10
