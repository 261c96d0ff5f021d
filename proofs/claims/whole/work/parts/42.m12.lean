theorem pow_ne1 (j : Nat) : ¬ (10 : Int) ^ (j + 1) = 1 := by
  have := pow_pos10 j
  rw [Int.pow_succ]
  omega
theorem lays67 {k : Nat} {v : Int} (hk : k < 4) (h0 : 0 ≤ v) (hv2 : v ≤ 9999) : ∀ (j n : Nat) (ap : Int) (σ : Mm) (D : DL), j + 1 < n → σ 229 k = v → σ 200 53 = (D.length : Int) → D.length + j < 16 → MRow (σ 230) (σ 231) (σ 232) D → (ap = 0 ∨ ap = 2) → (0 < D.length → (if σ 231 (D.length - 1) = (k : Int) then (0 : Int) else 1) = ap / 2) →
    Ok (L_M_laysDigits_67 n (k : Int) (10 ^ j) σ) (fun τ => MRow (τ 230) (τ 231) (τ 232) (D ++ dnR j ap v) ∧ τ 200 53 = ((D ++ dnR j ap v).length : Int) ∧ τ 231 ((D ++ dnR j ap v).length - 1) = (k : Int) ∧ Fr [200, 230, 231, 232] σ τ ∧ (∀ s, s ≠ 53 → τ 200 s = σ 200 s)) := by
  intro j
  induction j with
  | zero =>
    intro n ap σ D hn hv hl hlt hr hap hq
    match n, hn with
    | n + 2, hn =>
      refine lays_digit (n := n + 1) (D := D) (ap := ap) (la := 1) hk hv h0 hv2 (by decide) hl (by omega) (by simp) hr hap hq (fun τ t1 t2 t3 t4 t5 => ?_)
      have e : ((10 : Int) ^ 0).tdiv 10 = 0 := by decide
      rw [e, L_M_laysDigits_67]
      refine Ok.it (by omega) (Ok.ret ⟨?_, ?_, ?_, t4, t5⟩)
      · simpa [dnR] using t1
      · simpa [dnR] using t2
      · simpa [dnR] using t3
  | succ j ih =>
    intro n ap σ D hn hv hl hlt hr hap hq
    match n, hn with
    | n + 1, hn =>
      refine lays_digit (n := n) (D := D) (ap := ap) (la := 0) hk hv h0 hv2 (pow_pos10 _) hl (by omega) (by rw [if_neg (pow_ne1 j)]) hr hap hq (fun τ t1 t2 t3 t4 t5 => ?_)
      rw [pow_div10, Int.add_zero] at *
      have el : (D ++ [(v / 10 ^ (j + 1) % 10, ap)]).length = D.length + 1 := by simp
      have ed : D ++ dnR (j + 1) ap v = (D ++ [(v / 10 ^ (j + 1) % 10, ap)]) ++ dnR j 0 v := by simp [dnR]
      rw [ed]
      refine (ih n 0 τ (D ++ [(v / 10 ^ (j + 1) % 10, ap)]) (by omega) (by rw [t4 229 (by decide)]; exact hv) t2 (by omega) t1 (Or.inl rfl) (fun _ => ?_)).mono (fun x hx => ⟨hx.1, hx.2.1, hx.2.2.1, t4.tr hx.2.2.2.1, fun s hs => (hx.2.2.2.2 s hs).trans (t5 s hs)⟩)
      rw [el]
      have : D.length + 1 - 1 = D.length := by omega
      rw [this, t3]; simp
theorem lays7 {nums : Nat → Int} {p : Nat} (hp : p ≤ 4) (hn0 : ∀ i, i < p → 0 ≤ nums i ∧ nums i ≤ 9999) : ∀ (m n k : Nat) (σ : Mm), k + m = p → m < n → (∀ i, i < p → σ 229 i = nums i) → σ 200 48 = (p : Int) → σ 200 53 = ((drw nums k).length : Int) → MRow (σ 230) (σ 231) (σ 232) (drw nums k) → (0 < k → σ 231 ((drw nums k).length - 1) = ((k - 1 : Nat) : Int)) →
    Ok (L_M_laysDigits_7 n (k : Int) σ) (fun τ => MRow (τ 230) (τ 231) (τ 232) (drw nums p) ∧ τ 200 53 = ((drw nums p).length : Int) ∧ Fr [200, 230, 231, 232] σ τ ∧ (∀ s, s ≠ 53 → τ 200 s = σ 200 s)) := by
  intro m
  induction m with
  | zero =>
    intro n k σ hkm hn hnum h48 h53 hr hg
    have : k = p := by omega
    subst this
    match n, hn with
    | n + 1, _ =>
      rw [L_M_laysDigits_7]
      exact Ok.it (by omega) (Ok.ret ⟨hr, h53, Fr.rf, fun _ _ => rfl⟩)
  | succ m ih =>
    intro n k σ hkm hn hnum h48 h53 hr hg
    match n, hn with
    | n + 1, hn =>
      have hkp : k < p := by omega
      have hv := hn0 k hkp
      have hlen := drw_len nums k
      rw [L_M_laysDigits_7]
      simp only [Int.toNat_natCast, hnum k hkp]
      refine Ok.ie (by omega) (Ok.ck (by omega) (Ok.bM ?_))
      have hq : 0 < (drw nums k).length → (if σ 231 ((drw nums k).length - 1) = (k : Int) then (0 : Int) else 1) = (if k = 0 then (0 : Int) else 2) / 2 := by
        intro hpos
        by_cases z : k = 0
        · subst z; simp [drw] at hpos
        · rw [hg (by omega), if_neg (by omega), if_neg z]; decide
      have go : ∀ j : Nat, j ≤ 3 → dn (if k = 0 then 0 else 2) (nums k) = dnR j (if k = 0 then 0 else 2) (nums k) → Ok (b0M (L_M_laysDigits_67 LF (k : Int) (10 ^ j) σ) fun s13 => if r32 ((k : Int) + 1) then L_M_laysDigits_7 n ((k : Int) + 1) s13 else none) (fun τ => MRow (τ 230) (τ 231) (τ 232) (drw nums p) ∧ τ 200 53 = ((drw nums p).length : Int) ∧ Fr [200, 230, 231, 232] σ τ ∧ (∀ s, s ≠ 53 → τ 200 s = σ 200 s)) := by
        intro j hj hdn
        have l1 := dnR_len j (if k = 0 then 0 else 2) (nums k)
        refine Ok.b0M (lays67 (k := k) (v := nums k) (by omega) hv.1 hv.2 j LF (if k = 0 then 0 else 2) σ (drw nums k) (by unfold LF; omega) (hnum k hkp) h53 (by omega) hr (by split <;> omega) hq) (fun τ hτ => ?_)
        obtain ⟨t1, t2, t3, t4, t5⟩ := hτ
        rw [← hdn] at t1 t2 t3
        refine Ok.ck ⟨by omega, by omega⟩ ?_
        have e2 : (k : Int) + 1 = ((k + 1 : Nat) : Int) := by omega
        rw [e2]
        refine (ih n (k + 1) τ (by omega) (by omega) (fun i hi => by rw [t4 229 (by decide)]; exact hnum i hi) (by rw [t5 48 (by decide)]; exact h48) t2 t1 (fun _ => t3)).mono (fun x hx => ⟨hx.1, hx.2.1, t4.tr hx.2.2.1, fun s hs => (hx.2.2.2 s hs).trans (t5 s hs)⟩)
      refine Ok.ite (fun z1 => Ok.ck (by omega) (Ok.ite (fun z2 => Ok.ck (by omega) (Ok.ite (fun z3 => ?_) (fun z3 => ?_))) (fun z2 => ?_))) (fun z1 => ?_)
      · exact go 0 (by omega) (by unfold dn; rw [if_pos z1, if_pos z2, if_pos z3])
      · exact go 1 (by omega) (by unfold dn; rw [if_pos z1, if_pos z2, if_neg z3])
      · exact go 2 (by omega) (by unfold dn; rw [if_pos z1, if_neg z2])
      · exact go 3 (by omega) (by unfold dn; rw [if_neg z1])
theorem laysDigits_ok {σ : Mm} {p : Nat} (hp : p ≤ 4) (h48 : σ 200 48 = (p : Int)) (hn : ∀ i, i < p → 0 ≤ σ 229 i ∧ σ 229 i ≤ 9999) : Ok (F_M_laysDigits σ) (fun τ => MRow (τ 230) (τ 231) (τ 232) (drw (σ 229) p) ∧ τ 200 53 = ((drw (σ 229) p).length : Int) ∧ Fr [200, 230, 231, 232] σ τ ∧ (∀ s, s ≠ 53 → τ 200 s = σ 200 s)) := by
  unfold F_M_laysDigits
  refine Ok.bM ?_
  refine Ok.b0M (lays7 (nums := σ 229) (p := p) hp hn p LF 0 (st2 σ 200 53 0) (by omega) (by unfold LF; omega) (fun i _ => by simp [st2_f]) (by simp [st2_f, h48]) (by simp [st2_f, drw]) trivial (fun h => absurd h (by omega))) (fun τ hτ => Ok.ret ⟨hτ.1, hτ.2.1, fun i hi => ?_, fun s hs => ?_⟩)
  · rw [hτ.2.2.1 i hi]
    simp only [List.mem_cons, List.not_mem_nil, or_false, not_or] at hi
    simp [st2_f, hi.1]
  · rw [hτ.2.2.2 s hs]; simp [st2_f, hs]
/-- a ROW's sum -/
def trs (mn : Int) (nums : Nat → Int) : Nat → Int
  | 0 => 0
  | k + 1 => trs mn nums k + (if bitI mn k = 1 then -nums k else nums k)
theorem trs_cong {mn : Int} {f g : Nat → Int} : ∀ {k : Nat}, (∀ i, i < k → f i = g i) → trs mn f k = trs mn g k
  | 0, _ => rfl
  | k + 1, h => by rw [trs, trs, trs_cong (fun i hi => h i (by omega)), h k (by omega)]
theorem trs_bd {mn : Int} {nums : Nat → Int} : ∀ {k : Nat}, (∀ i, i < k → 0 ≤ nums i ∧ nums i ≤ 9999) → -9999 * k ≤ trs mn nums k ∧ trs mn nums k ≤ 9999 * k
  | 0, _ => by simp [trs]
  | k + 1, h => by
    have h1 := trs_bd (mn := mn) (k := k) (fun i hi => h i (by omega))
    have h2 := h k (by omega)
    rw [trs]
    split <;> omega
theorem hasM_ok {x k : Int} (hx : 0 ≤ x) (hx2 : x < 2147483648) (hk : 0 ≤ k) (hk2 : k < 32) : F_M_has x k = some (bitI x k) := by
  unfold F_M_has
  rw [bit_of hx hx2 hk hk2]
  rcases bitI_01 x k with h | h <;> rw [h] <;> rfl
theorem trueNow_loop {nums : Nat → Int} {mn : Int} (hm : 0 ≤ mn ∧ mn ≤ 15) {p : Nat} (hp : p ≤ 4) (hn : ∀ i, i < p → 0 ≤ nums i ∧ nums i ≤ 9999) {σ : Mm} (hnum : ∀ i, i < p → σ 229 i = nums i) (h48 : σ 200 48 = (p : Int)) (h49 : σ 200 49 = mn) : ∀ (m n k : Nat), k + m = p → m < n → L_M_trueNow_4 n (trs mn nums k) (k : Int) σ = some (trs mn nums p) := by
  intro m
  induction m with
  | zero =>
    intro n k hk hm2
    have : k = p := by omega
    subst this
    match n, hm2 with
    | n + 1, _ => rw [L_M_trueNow_4, if_pos (by omega)]
  | succ m ih =>
    intro n k hk hm2
    match n, hm2 with
    | n + 1, hm2 =>
      have hkp : k < p := by omega
      have hv := hn k hkp
      have hb := trs_bd (mn := mn) (k := k) (fun i hi => hn i (by omega))
      rw [L_M_trueNow_4, if_neg (by omega), h49, hasM_ok hm.1 (by omega) (by omega) (by omega)]
      simp only [Int.toNat_natCast, hnum k hkp, bindM, b1]
      have e2 : (k : Int) + 1 = ((k + 1 : Nat) : Int) := by omega
      have h3 := ih n (k + 1) (by omega) (by omega)
      rcases bitI_01 mn k with h | h
      · have e3 : trs mn nums (k + 1) = trs mn nums k + nums k := by rw [trs, if_neg (by omega)]
        rw [e3] at h3
        rw [if_pos h, if_pos (by omega), if_pos ⟨by omega, by omega⟩, if_pos ⟨by omega, by omega⟩, e2]
        exact h3
      · have e3 : trs mn nums (k + 1) = trs mn nums k + -nums k := by rw [trs, if_pos h]
        rw [e3] at h3
        rw [if_neg (by omega), if_pos (by omega), if_pos ⟨by omega, by omega⟩, if_pos ⟨by omega, by omega⟩, if_pos ⟨by omega, by omega⟩, e2]
        exact h3
theorem trueNow_ok {mn : Int} (hm : 0 ≤ mn ∧ mn ≤ 15) {p : Nat} (hp : p ≤ 4) {σ : Mm} (hn : ∀ i, i < p → 0 ≤ σ 229 i ∧ σ 229 i ≤ 9999) (h48 : σ 200 48 = (p : Int)) (h49 : σ 200 49 = mn) : F_M_trueNow σ = some (trs mn (σ 229) p) := by
  unfold F_M_trueNow
  have := trueNow_loop hm hp hn (fun i _ => rfl) h48 h49 p LF 0 (by omega) (by unfold LF; omega)
  rw [show trs mn (σ 229) 0 = 0 from rfl, show ((0 : Nat) : Int) = 0 from rfl] at this
  rw [this]; rfl
