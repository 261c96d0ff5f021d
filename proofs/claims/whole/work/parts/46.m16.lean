-- the reference's `reckons`
def incL (T : TW) (L : DL) (E : Nat → Int) : Nat → Int := match L with
  | [] => E
  | (d, _) :: t => incQ T d t E
theorem sumL_bd {G O : Law} {E : Nat → Int} : ∀ (L : DL) (d : Int), -99 * (L.length : Int) ≤ sumL (t0 (tw G O E)) d L ∧ sumL (t0 (tw G O E)) d L ≤ 99 * (L.length : Int)
  | [], _ => by simp [sumL]
  | (e, m) :: t, d => by
    have h := sumL_bd (G := G) (O := O) (E := E) t e
    have hb := t0_bd (G := G) (O := O) (E := E) (l := d) (r := e) (k := m)
    simp only [sumL, List.length_cons]
    omega
theorem offL_bd {G O : Law} {E : Nat → Int} (L : DL) : -99 * (L.length : Int) ≤ offL (tw G O E) L ∧ offL (tw G O E) L ≤ 99 * (L.length : Int) := by
  match L with
  | [] => simp [offL]
  | (d, m) :: t =>
    have h := sumL_bd (G := G) (O := O) (E := E) t d
    simp only [offL, List.length_cons]
    omega
theorem reckons_ok {σ : Mm} {G O M : Law} (hM : MOK σ G O M) {r p : Nat} {mn B : Int} {nums : Nat → Int} (hr : r < 12) (hR : RowM (σ 201) r p mn nums) (hb : -9999999 ≤ σ 200 46 ∧ σ 200 46 ≤ 9999999) (hQ : QB (EM σ) B) (hB : B + 32 ≤ 90000000) :
    Ok (F_M_reckons (r : Int) σ) (fun x => x.1 = trs mn nums p + offL (tw G O (EM σ)) (drw nums p) ∧ EM x.2 = useD (drw nums p) (incL (tw G O (EM σ)) (drw nums p) (EM σ)) ∧ x.2 200 46 = max (-9999999) (min 9999999 (σ 200 46 + x.1)) ∧ (Laid x.2 p mn ∧ ∀ j, j < 4 → x.2 229 j = nums j) ∧ Fr [200, 223, 224, 226, 227, 229, 230, 231, 232] σ x.2 ∧ (∀ s, s ≠ 46 → s ≠ 48 → s ≠ 49 → s ≠ 53 → x.2 200 s = σ 200 s) ∧ QB (EM x.2) (B + 32) ∧ MOK x.2 G O M) := by
  unfold F_M_reckons
  refine Ok.b0M (laysRow_ok hr hR) (fun s1 h1 => ?_)
  obtain ⟨hL1, hn1, hf1, hs1⟩ := h1
  have hM1 : MOK s1 G O M := hM.fr hf1 (by rw [hf1 201 (by decide)]) (hs1 45 (by decide) (by decide)) (by decide)
  have hE1 : EM s1 = EM σ := EM_fr hf1 (hs1 45 (by decide) (by decide)) (by decide)
  have hp := hR.2.1
  have hd1 : drw (s1 229) p = drw nums p := drw_cong (fun i hi => hn1 i (by omega))
  have ht1 : trs mn (s1 229) p = trs mn nums p := trs_cong (fun i hi => hn1 i (by omega))
  refine Ok.b1M (outNow_ok hM1 hL1) (fun v2 s2 h2 => ?_)
  obtain ⟨hv, hf2, hs2, hr2, hl2⟩ := h2
  have hv : v2 = trs mn nums p + offL (tw G O (EM σ)) (drw nums p) := by rw [← hd1, ← ht1, ← hE1]; exact hv
  have hf2 : Fr SM s1 s2 := hf2
  have hs2 : ∀ s, s ≠ 53 → s2 200 s = s1 200 s := hs2
  have hr2 : MRow (s2 230) (s2 231) (s2 232) (drw nums p) := by rw [← hd1]; exact hr2
  have hl2 : s2 200 53 = ((drw nums p).length : Int) := by rw [← hd1]; exact hl2
  have hM2 : MOK s2 G O M := hM1.fr hf2 (by rw [hf2 201 (by decide)]) (hs2 45 (by decide)) (by decide)
  have hE2 : EM s2 = EM σ := (EM_fr hf2 (hs2 45 (by decide)) (by decide)).trans hE1
  have hlen := drw_len nums p
  have htb := trs_bd (mn := mn) (k := p) hR.2.2.2.2.2.2.2
  have hob := offL_bd (G := G) (O := O) (E := EM σ) (drw nums p)
  have e46 : s2 200 46 = σ 200 46 := by rw [hs2 46 (by decide), hs1 46 (by decide) (by decide)]
  have hok := drw_ok (nums := nums) (k := p) (fun i hi => (hR.2.2.2.2.2.2.2 i hi).1)
  rw [e46]
  refine Ok.ck ⟨by omega, by omega⟩ ?_
  refine Ok.b1 (Ok.eq (held_ok (lo := -9999999) (hi := 9999999) ⟨by omega, by omega⟩ (by decide))) (fun w hw => ?_)
  subst hw
  refine Ok.bN (fun s6 h6 => ?_)
  have hf6 : Fr [200] s2 s6 := by rw [h6]; exact Fr.rf.st (by decide)
  have hs6 : ∀ s, s ≠ 46 → s6 200 s = s2 200 s := fun s hs => by rw [h6]; simp [st2_f, hs]
  have h46 : s6 200 46 = max (-9999999) (min 9999999 (σ 200 46 + v2)) := by rw [h6, st2_ss]
  have hM6 : MOK s6 G O M := hM2.fr hf6 (by rw [hf6 201 (by decide)]) (hs6 45 (by decide)) (by decide)
  have hE6 : EM s6 = EM σ := (EM_fr hf6 (hs6 45 (by decide)) (by decide)).trans hE2
  obtain ⟨d, k, t, hd⟩ := drw_ne (nums := nums) hR.1
  have hl6 : s6 200 53 = ((drw nums p).length : Int) := by rw [hs6 53 (by decide)]; exact hl2
  have hr6 : MRow (s6 230) (s6 231) (s6 232) (drw nums p) := by rw [hf6 230 (by decide), hf6 231 (by decide), hf6 232 (by decide)]; exact hr2
  have hlen2 := hlen
  have hok2 := hok
  have hl62 := hl6
  have hr62 := hr6
  rw [hd] at hlen2 hok2 hl62 hr62
  simp only [List.length_cons] at hlen2 hl62
  refine Ok.b0M (reckM_loop (E0 := EM σ) t LF 0 d B s6 (by unfold LF; omega) hM6 (by rw [hE6]; exact EqQ.rf) (by rw [hE6]; exact hQ) (by omega) (by rw [hl62]; congr 1; omega) (by omega) hr62.1 ⟨hok2.1.1, hok2.1.2.1⟩ hr62.2 hok2.2) (fun s7 h7 => ?_)
  obtain ⟨hE7, hQ7, hf7⟩ := h7
  rw [hE6] at hE7
  have hE7 : EM s7 = incL (tw G O (EM σ)) (drw nums p) (EM σ) := by rw [hE7, hd]; rfl
  have hEq : EqQ (EM σ) (EM s7) := by
    intro q hq
    have n : ∀ i, i ≠ 223 → i ≠ 224 → i ≠ 227 → s7 i = s6 i := fun i h1 h2 h3 => hf7 i (by simp; omega)
    rw [← hE6]
    unfold EM
    rw [n 225 (by decide) (by decide) (by decide), n 226 (by decide) (by decide) (by decide), n 228 (by decide) (by decide) (by decide), n 200 (by decide) (by decide) (by decide)]
    by_cases g1 : q < 10
    · simp [g1]
    · by_cases g2 : q < 20
      · simp [g1, g2]
      · have g3 : ¬ q < 30 := by omega
        simp [g1, g2, g3]
  have hEv7 : EnvOK (EM s7) := hM.2.2.2.2.q hEq hQ7 (by omega)
  have e200 : s7 200 = s6 200 := hf7 200 (by decide)
  refine Ok.b0M (uses_ok (L := drw nums p) (by rw [e200]; exact hl6) (by omega) (by rw [hf7 230 (by decide)]; exact hr6.df) hok hEv7) (fun s8 h8 => ?_)
  obtain ⟨hE8, hf8⟩ := h8
  have e8 : s8 200 = s6 200 := (hf8 200 (by decide)).trans e200
  have F1 : Fr [200, 223, 224, 226, 227, 229, 230, 231, 232] σ s8 := ((((hf1.w (by decide)).tr (hf2.w (by decide))).tr (hf6.w (by decide))).tr (hf7.w (by decide))).tr (hf8.w (by decide))
  have S1 : ∀ s, s ≠ 46 → s ≠ 48 → s ≠ 49 → s ≠ 53 → s8 200 s = σ 200 s := fun s a b c d => by rw [e8, hs6 s a, hs2 s d, hs1 s b c]
  obtain ⟨u1, u2⟩ := useD_env hok hEv7
  have e229 : s8 229 = s1 229 := by rw [hf8 229 (by decide), hf7 229 (by decide), hf6 229 (by decide), hf2 229 (by decide)]
  refine Ok.ret ⟨hv, by rw [hE8, hE7], (congrFun e8 46).trans h46, ⟨⟨hL1.1, hL1.2.1, hL1.2.2.1, hL1.2.2.2.1, ?_, ?_, ?_⟩, ?_⟩, F1, S1, ?_, ?_⟩
  · show s8 200 48 = _
    rw [e8, hs6 48 (by decide), hs2 48 (by decide)]; exact hL1.2.2.2.2.1
  · show s8 200 49 = _
    rw [e8, hs6 49 (by decide), hs2 49 (by decide)]; exact hL1.2.2.2.2.2.1
  · show ∀ i, i < p → 0 ≤ s8 229 i ∧ s8 229 i ≤ 9999
    rw [e229]; exact hL1.2.2.2.2.2.2
  · show ∀ j, j < 4 → s8 229 j = nums j
    rw [e229]; exact hn1
  · intro k hk
    show 0 ≤ EM s8 (20 + k) ∧ EM s8 (20 + k) ≤ B + 32
    rw [hE8, u2 (20 + k) (by omega)]
    have := hQ7 k hk
    omega
  · refine ⟨?_, hM.2.1, hM.2.2.1, hM.2.2.2.1, by rw [hE8]; exact u1⟩
    exact hM6.1.fr ((hf7.w (T := [223, 224, 226, 227]) (by decide)).tr (hf8.w (by decide))) (by show s8 201 2 = _; rw [hf8 201 (by decide), hf7 201 (by decide)]) (by decide)
