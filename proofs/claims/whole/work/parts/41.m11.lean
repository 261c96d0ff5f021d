/-! NUMBERS as digits -/
def dnR : Nat → Int → Int → DL
  | 0, ap, v => [(v % 10, ap + 1)]
  | j + 1, ap, v => (v / 10 ^ (j + 1) % 10, ap) :: dnR j 0 v
def dn (ap v : Int) : DL := if v ≤ 999 then (if v ≤ 99 then (if v ≤ 9 then dnR 0 ap v else dnR 1 ap v) else dnR 2 ap v) else dnR 3 ap v
def drw (nums : Nat → Int) : Nat → DL
  | 0 => []
  | k + 1 => drw nums k ++ dn (if k = 0 then 0 else 2) (nums k)
theorem dnR_len : ∀ (j : Nat) (ap v : Int), (dnR j ap v).length = j + 1
  | 0, _, _ => rfl
  | j + 1, ap, v => by simp [dnR, dnR_len j 0 v]
theorem dn_len (ap v : Int) : 1 ≤ (dn ap v).length ∧ (dn ap v).length ≤ 4 := by
  unfold dn
  repeat' split
  all_goals simp [dnR_len]
theorem drw_len (nums : Nat → Int) : ∀ k, k ≤ (drw nums k).length ∧ (drw nums k).length ≤ 4 * k
  | 0 => by simp [drw]
  | k + 1 => by
    have h1 := drw_len nums k
    have h2 := dn_len (if k = 0 then 0 else 2) (nums k)
    simp only [drw, List.length_append]
    omega
theorem DOK_app : ∀ {a b : DL}, DOK a → DOK b → DOK (a ++ b)
  | [], _, _, hb => hb
  | (_, _) :: _, _, ha, hb => ⟨ha.1, DOK_app ha.2 hb⟩
theorem dnR_ok : ∀ (j : Nat) (ap v : Int), 0 ≤ v → (ap = 0 ∨ ap = 2) → DOK (dnR j ap v)
  | 0, ap, v, h, ha => ⟨⟨by omega, by omega, by omega, by omega⟩, trivial⟩
  | j + 1, ap, v, h, ha => by
    have h1 := Int.emod_nonneg (v / 10 ^ (j + 1)) (by omega : (10 : Int) ≠ 0)
    have h2 := Int.emod_lt_of_pos (v / 10 ^ (j + 1)) (by omega : (0 : Int) < 10)
    exact ⟨⟨h1, by omega, by omega, by omega⟩, dnR_ok j 0 v h (Or.inl rfl)⟩
theorem dn_ok {ap v : Int} (h : 0 ≤ v) (ha : ap = 0 ∨ ap = 2) : DOK (dn ap v) := by
  unfold dn
  repeat' split
  all_goals exact dnR_ok _ _ _ h ha
theorem drw_ok {nums : Nat → Int} : ∀ {k : Nat}, (∀ i, i < k → 0 ≤ nums i) → DOK (drw nums k)
  | 0, _ => trivial
  | k + 1, h => DOK_app (drw_ok (fun i hi => h i (by omega))) (dn_ok (h k (by omega)) (by split <;> omega))
theorem drw_cong {f g : Nat → Int} : ∀ {k : Nat}, (∀ i, i < k → f i = g i) → drw f k = drw g k
  | 0, _ => rfl
  | k + 1, h => by rw [drw, drw, drw_cong (fun i hi => h i (by omega)), h k (by omega)]
/-- a row laid in the reference -/
def MRow (f g h : Nat → Int) : DL → Prop
  | [] => True
  | (d, _) :: t => f 0 = d ∧ MDR f g h 1 t
theorem MDR.cong {f g h f2 g2 h2 : Nat → Int} : ∀ {L : DL} {i : Nat}, 1 ≤ i → (∀ j, j < i + L.length → f2 j = f j ∧ g2 j = g j ∧ h2 j = h j) → MDR f g h i L → MDR f2 g2 h2 i L
  | [], _, _, _, _ => trivial
  | (e, m) :: t, i, hi, hc, hs => by
    have c1 := hc i (by simp)
    have c2 := hc (i - 1) (by simp; omega)
    refine ⟨by rw [c1.1]; exact hs.1, by rw [c1.2.1, c2.2.1]; exact hs.2.1, by rw [c1.2.2]; exact hs.2.2.1, MDR.cong (by omega) (fun j hj => hc j (by simp; omega)) hs.2.2.2⟩
theorem MDR.snoc {f g h : Nat → Int} : ∀ {L : DL} {i : Nat} {e m : Int}, MDR f g h i L → f (i + L.length) = e → (if g (i + L.length - 1) = g (i + L.length) then (0 : Int) else 1) = m / 2 → (if h (i + L.length) = 0 then (0 : Int) else 1) = m % 2 → MDR f g h i (L ++ [(e, m)])
  | [], i, e, m, _, h1, h2, h3 => ⟨h1, h2, h3, trivial⟩
  | (a, b) :: t, i, e, m, hs, h1, h2, h3 => by
    have e1 : i + ((a, b) :: t).length = i + 1 + t.length := by simp; omega
    rw [e1] at h1 h2 h3
    exact ⟨hs.1, hs.2.1, hs.2.2.1, MDR.snoc hs.2.2.2 h1 h2 h3⟩
theorem MRow.snoc {f g h f2 g2 h2 : Nat → Int} {D : DL} {e m : Int} (hr : MRow f g h D) (hc : ∀ j, j < D.length → f2 j = f j ∧ g2 j = g j ∧ h2 j = h j) (h1 : f2 D.length = e) (hq : 0 < D.length → (if g2 (D.length - 1) = g2 D.length then (0 : Int) else 1) = m / 2) (h3 : (if h2 D.length = 0 then (0 : Int) else 1) = m % 2) : MRow f2 g2 h2 (D ++ [(e, m)]) := by
  match D, hr, hc, h1, hq, h3 with
  | [], hr, hc, h1, hq, h3 => exact ⟨h1, trivial⟩
  | (d, k) :: t, hr, hc, h1, hq, h3 =>
    simp only [List.length_cons] at hc h1 hq h3
    refine ⟨by rw [(hc 0 (by omega)).1]; exact hr.1, ?_⟩
    have h5 : MDR f2 g2 h2 1 t := MDR.cong (by omega) (fun j hj => hc j (by omega)) hr.2
    refine MDR.snoc h5 ?_ ?_ ?_
    · rw [Nat.add_comm]; exact h1
    · have := hq (by omega)
      rw [Nat.add_comm 1 t.length]; exact this
    · rw [Nat.add_comm]; exact h3
theorem nz0 : nzI 0 = 0 := by decide +kernel
theorem nz1 : nzI 1 = 1 := by decide +kernel
theorem pow_pos10 (j : Nat) : (0 : Int) < 10 ^ j := Int.pow_pos (by omega)
theorem pow_div10 (j : Nat) : ((10 : Int) ^ (j + 1)).tdiv 10 = 10 ^ j := by
  rw [Int.tdiv_eq_ediv_of_nonneg (Int.le_of_lt (pow_pos10 _)), Int.pow_succ, Int.mul_ediv_cancel _ (by omega)]
theorem div_le_self10 {v : Int} (h : 0 ≤ v) (j : Nat) : 0 ≤ v / 10 ^ j ∧ v / 10 ^ j ≤ v := ⟨Int.ediv_nonneg h (Int.le_of_lt (pow_pos10 j)), Int.ediv_le_self _ h⟩
/-- one more digit -/
theorem lays_digit {k : Nat} {v u : Int} {σ : Mm} {D : DL} {ap la : Int} {n : Nat} {P : Mm → Prop} (hk : k < 4) (hv : σ 229 k = v) (h0 : 0 ≤ v) (hv2 : v ≤ 9999) (hu : 0 < u) (hl : σ 200 53 = (D.length : Int)) (hlt : D.length < 16) (hla : la = if u = 1 then 1 else 0) (hr : MRow (σ 230) (σ 231) (σ 232) D) (hap : ap = 0 ∨ ap = 2) (hq : 0 < D.length → (if σ 231 (D.length - 1) = (k : Int) then (0 : Int) else 1) = ap / 2)
    (go : ∀ τ : Mm, MRow (τ 230) (τ 231) (τ 232) (D ++ [(v / u % 10, ap + la)]) → τ 200 53 = ((D ++ [(v / u % 10, ap + la)]).length : Int) → τ 231 D.length = (k : Int) → Fr [200, 230, 231, 232] σ τ → (∀ s, s ≠ 53 → τ 200 s = σ 200 s) → Ok (L_M_laysDigits_67 n (k : Int) (u.tdiv 10) τ) P) : Ok (L_M_laysDigits_67 (n + 1) (k : Int) u σ) P := by
  have d1 : 0 ≤ v / u ∧ v / u ≤ v := ⟨Int.ediv_nonneg h0 (by omega), Int.ediv_le_self _ h0⟩
  rw [L_M_laysDigits_67]
  simp only [Int.toNat_natCast, hv, hl]
  rw [Int.tdiv_eq_ediv_of_nonneg h0, Int.tmod_eq_emod_of_nonneg d1.1]
  refine Ok.ie (by omega) (Ok.ck (by omega) (Ok.ck (by omega) (Ok.ck ⟨by omega, by omega⟩ (Ok.ck (by omega) (Ok.bM ?_)))))
  simp only [st2_f, Nat.reduceEqDiff, reduceIte, hl, Int.toNat_natCast]
  refine Ok.ck (by omega) (Ok.bM (Ok.bM ?_))
  simp only [st2_f, Nat.reduceEqDiff, reduceIte, hl, Int.toNat_natCast]
  refine Ok.ck (by omega) (Ok.bM ?_)
  simp only [st2_f, Nat.reduceEqDiff, reduceIte, hl, Int.toNat_natCast]
  refine Ok.ck ⟨by omega, by omega⟩ (Ok.bM ?_)
  refine go _ ?_ ?_ ?_ ?_ ?_
  · simp only [st2_f, Nat.reduceEqDiff, reduceIte]
    refine MRow.snoc hr (fun j hj => ?_) ?_ (fun hp => ?_) ?_
    · have : j ≠ D.length := by omega
      simp only [this, if_false, and_self]
    · simp
    · have := hq hp
      have hne : D.length - 1 ≠ D.length := by omega
      simp only [hne, if_false, if_true]
      rw [this, hla]
      split <;> omega
    · rw [hla]
      simp only [if_true]
      by_cases z : u = 1
      · simp only [z, if_true, nz1]; rcases hap with q | q <;> (rw [q]; decide)
      · simp only [z, if_false, nz0]; rcases hap with q | q <;> (rw [q]; decide)
  · simp [st2_f]
  · simp [st2_f]
  · intro j hj
    simp only [List.mem_cons, List.not_mem_nil, or_false, not_or] at hj
    simp [st2_f, hj]
  · intro s hs
    simp [st2_f, hs]
