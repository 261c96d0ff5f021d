-- the whole relation between two calls: what stands beside `Now`
def ClR (f : Nat → Int) (wd one two : Int) (rw : Nat → Int) : Prop :=
  (f 0 = wd ∧ 0 ≤ wd ∧ wd ≤ 2)
  ∨ (f 0 = 3 ∧ wd = 3 ∧ ∃ p : Nat, 1 ≤ p ∧ p ≤ 4 ∧ one = (p : Int) ∧ two = f 5 ∧ 0 ≤ two ∧ two < 2 ^ p ∧ (∀ i, i < p → f (1 + i) = rw i ∧ 0 ≤ rw i ∧ rw i ≤ 9999) ∧ ∀ i, p ≤ i → i < 4 → f (1 + i) = -1)
  ∨ (f 0 = 4 ∧ wd = 4 ∧ f 1 = one ∧ 0 ≤ one ∧ one ≤ 11)
  ∨ (f 0 = 5 ∧ wd = 5 ∧ f 1 = one ∧ f 2 = two ∧ 0 ≤ one ∧ one ≤ 9 ∧ 0 ≤ two ∧ two ≤ 9)
  ∨ (f 0 = 7 ∧ wd = 6 ∧ f 1 = one ∧ f 2 = two ∧ 0 ≤ one ∧ one ≤ 9 ∧ 0 ≤ two ∧ two ≤ 9)
  ∨ (f 0 = 9 ∧ wd = 7 ∧ f 1 = one ∧ 1 ≤ one ∧ one ≤ 60)
def ClsR (σ μ : Mm) (t n : Nat) : Prop := ∀ k, k < n → ClR (fun j => σ (110 + t) (6 * k + j)) (μ 205 (24 * t + k)) (μ 207 (24 * t + k)) (μ 208 (24 * t + k)) (fun i => μ 209 (96 * t + 4 * k + i))
def LawsT (σ μ : Mm) (t : Nat) (G O M : Law) : Prop := (LawOK 0 G ∧ LawOK 1 O ∧ LawOK 2 M) ∧ (LawC σ (94 + t) 0 G ∧ LawC σ (94 + t) 1 O ∧ LawC σ (94 + t) 2 M) ∧ (LawM μ t 0 G ∧ LawM μ t 1 O ∧ LawM μ t 2 M)
def TextR (σ μ : Mm) (t : Nat) : Prop := (∃ n : Nat, n ≤ 24 ∧ σ (94 + t) 5 = (n : Int) ∧ μ 204 t = (n : Int) ∧ ClsR σ μ t n) ∧ ∃ G O M, LawsT σ μ t G O M
/-- tape and FAULT -/
def TapeR (σ μ : Mm) : Prop := ∃ n : Nat, n ≤ 300 ∧ σ 90 1 = (n : Int) ∧ μ 200 3 = (n : Int) ∧ ∀ i, i < n → 0 ≤ σ 91 i ∧ σ 91 i ≤ 255 ∧ (μ 203 i = σ 91 i ∧ σ 91 i < 128 ∨ μ 203 i = σ 91 i - 256 ∧ 128 ≤ σ 91 i)
def FaultR (σ μ : Mm) : Prop := (σ 90 2 = 0 ∧ μ 200 4 = -1 ∧ μ 200 5 = -1) ∨ (σ 90 2 = 1 ∧ σ 90 3 = μ 200 4 ∧ σ 90 4 = μ 200 5)
/-- TEXTS and which one rules -/
def RuleR (σ μ : Mm) : Prop := ∃ T : Nat, T ≤ 4 ∧ σ 0 8 = (T : Int) ∧ μ 201 1 = (T : Int) ∧ (∀ t, t < T → TextR σ μ t) ∧ ((σ 0 9 = -1 ∧ μ 201 2 = -1 ∧ σ 2 6 = -1) ∨ ∃ t : Nat, t < T ∧ σ 0 9 = (t : Int) ∧ μ 201 2 = (t : Int) ∧ σ 2 6 = ((94 + t : Nat) : Int))
/-- SEEN, in cells `d` of the class and the array `a` of the reference, with `c` ROWS -/
def SeenR (n : Int) (f g a : Nat → Int) (c : Nat) : Prop := ∃ s : Nat, s ≤ 6 ∧ n = (s : Int) ∧ a 4 = (s : Int) ∧ ∀ k, k < s → f k = a (82 + 2 * k) ∧ g k = a (83 + 2 * k) ∧ 0 ≤ f k ∧ f k < c ∧ -99999 ≤ g k ∧ g k ≤ 99999
def DebtR (f a : Nat → Int) : Prop := ∀ i, i < 36 → f i = a (94 + i) ∧ 0 ≤ f i ∧ f i ≤ 9999
/-- THE IMAGE -/
def ImgR (σ μ : Mm) (B : Int) : Prop := Snap (σ 134) (μ 202) 140 ∧ SnapOK (σ 134) B ∧ StepsR σ 135 (μ 202) ∧ (∀ j, j < 30 → SnapOK (σ (137 + j)) B) ∧
  ∃ c T : Nat, (c ≤ 12 ∧ T ≤ 4) ∧ (σ 133 6 = (c : Int) ∧ μ 202 0 = (c : Int) ∧ σ 133 7 = (T : Int) ∧ μ 202 1 = (T : Int) ∧ (c : Int) ≤ σ 1 4 ∧ (T : Int) ≤ σ 0 8) ∧ (∀ r, r < c → ∃ p mn nums, RowC σ r p mn nums ∧ RowM (μ 202) r p mn nums)
   ∧ ((σ 133 8 = -1 ∧ μ 202 2 = -1) ∨ ∃ t : Nat, t < T ∧ σ 133 8 = (t : Int) ∧ μ 202 2 = (t : Int)) ∧ SeenR (σ 133 5) (σ 167) (σ 168) (μ 202) c ∧ DebtR (σ 169) (μ 202)
def Ext (σ μ : Mm) (B : Int) : Prop := (TapeR σ μ) ∧ (FaultR σ μ) ∧ (RuleR σ μ) ∧ (∃ c : Nat, σ 1 4 = (c : Int) ∧ SeenR (σ 121 2) (σ 122) (σ 123) (μ 201) c) ∧ (DebtR (σ 130) (μ 201)) ∧ (ImgR σ μ B)
theorem Ext.tape {σ μ : Mm} {B : Int} (h : Ext σ μ B) : TapeR σ μ := h.1
theorem Ext.fault {σ μ : Mm} {B : Int} (h : Ext σ μ B) : FaultR σ μ := h.2.1
theorem Ext.rule {σ μ : Mm} {B : Int} (h : Ext σ μ B) : RuleR σ μ := h.2.2.1
theorem Ext.seen {σ μ : Mm} {B : Int} (h : Ext σ μ B) : ∃ c : Nat, σ 1 4 = (c : Int) ∧ SeenR (σ 121 2) (σ 122) (σ 123) (μ 201) c := h.2.2.2.1
theorem Ext.debt {σ μ : Mm} {B : Int} (h : Ext σ μ B) : DebtR (σ 130) (μ 201) := h.2.2.2.2.1
theorem Ext.img {σ μ : Mm} {B : Int} (h : Ext σ μ B) : ImgR σ μ B := h.2.2.2.2.2
def Rel (σ μ : Mm) (B R : Int) : Prop := ∃ G O M, Now σ μ G O M B R ∧ Ext σ μ B
/-! frames -/
def EC (σ τ : Mm) : Prop := (∀ i, (i = 0 ∨ i = 1 ∨ (10 ≤ i ∧ i < 58) ∨ (90 ≤ i ∧ i < 92) ∨ (94 ≤ i ∧ i < 114) ∨ (121 ≤ i ∧ i < 124) ∨ i = 130 ∨ 133 ≤ i) → τ i = σ i) ∧ τ 2 6 = σ 2 6
def EMf (μ ν : Mm) : Prop := (∀ i, (202 ≤ i ∧ i < 212) → ν i = μ i) ∧ (∀ s, s = 3 ∨ s = 4 ∨ s = 5 → ν 200 s = μ 200 s) ∧ ∀ k, k < 140 → k ≠ 3 → ν 201 k = μ 201 k
theorem LawC.e {σ τ : Mm} {t w : Nat} {L : Law} (h : LawC σ t w L) (h4 : τ (t + 4) = σ (t + 4)) (h8 : τ (t + 8) = σ (t + 8)) (h12 : τ (t + 12) = σ (t + 12)) : LawC τ t w L := by
  unfold LawC at *
  rw [h4, h8, h12]; exact h
theorem LawM.e {μ ν : Mm} {t w : Nat} {L : Law} (h : LawM μ t w L) (hf : ∀ i, 202 ≤ i ∧ i < 212 → ν i = μ i) : LawM ν t w L := by
  unfold LawM at *
  rw [hf 204 (by omega), hf 205 (by omega), hf 206 (by omega), hf 210 (by omega), hf 211 (by omega)]; exact h
theorem TextR.fr {σ τ μ ν : Mm} {t : Nat} (h : TextR σ μ t) (ht : t < 4) (hc : ∀ i, 94 ≤ i ∧ i < 114 → τ i = σ i) (hm : ∀ i, 202 ≤ i ∧ i < 212 → ν i = μ i) : TextR τ ν t := by
  obtain ⟨⟨n, n1, n2, n3, n4⟩, G, O, M, l1, ⟨a1, a2, a3⟩, b1, b2, b3⟩ := h
  refine ⟨⟨n, n1, by rw [hc _ (by omega)]; exact n2, by rw [hm _ (by omega)]; exact n3, fun k hk => ?_⟩, G, O, M, l1, ⟨?_, ?_, ?_⟩, b1.e hm, b2.e hm, b3.e hm⟩
  · rw [hc _ (by omega), hm 205 (by omega), hm 207 (by omega), hm 208 (by omega), hm 209 (by omega)]; exact n4 k hk
  · exact a1.e (hc _ (by omega)) (hc _ (by omega)) (hc _ (by omega))
  · exact a2.e (hc _ (by omega)) (hc _ (by omega)) (hc _ (by omega))
  · exact a3.e (hc _ (by omega)) (hc _ (by omega)) (hc _ (by omega))
theorem SnapOK.cong {f g : Nat → Int} {B : Int} (h : SnapOK f B) (hf : ∀ k, k < 43 → g k = f k) : SnapOK g B := by
  obtain ⟨a, b, c, d⟩ := h
  refine ⟨a.ext (fun k hk => hf k (by omega)), by rw [hf 41 (by omega)]; exact b, fun k hk => by rw [hf _ (by omega)]; exact c k hk, by rw [hf 40 (by omega), hf 42 (by omega)]; exact d⟩
theorem ImgR.fr {σ τ μ ν : Mm} {B C : Int} (h : ImgR σ μ B) (hb : B ≤ C) (hc : EC σ τ) (hm : ∀ i, 202 ≤ i ∧ i < 212 → ν i = μ i) : ImgR τ ν C := by
  obtain ⟨h1, h2, h3, h4, c, T, hcT, ⟨k1, k2, k3, k4, k5, k6⟩, k7, k8, k9, k10⟩ := h
  have e : ∀ i, 133 ≤ i → τ i = σ i := fun i hi => hc.1 i (by omega)
  refine ⟨by rw [e 134 (by omega), hm 202 (by omega)]; exact h1, by rw [e 134 (by omega)]; exact h2.w hb, ?_, ?_, c, T, hcT, ⟨by rw [e 133 (by omega)]; exact k1, by rw [hm 202 (by omega)]; exact k2, by rw [e 133 (by omega)]; exact k3, by rw [hm 202 (by omega)]; exact k4, by rw [hc.1 1 (by omega)]; exact k5, by rw [hc.1 0 (by omega)]; exact k6⟩, ?_, by rw [e 133 (by omega), hm 202 (by omega)]; exact k8, by rw [e 133 (by omega), e 167 (by omega), e 168 (by omega), hm 202 (by omega)]; exact k9, by rw [e 169 (by omega), hm 202 (by omega)]; exact k10⟩
  · obtain ⟨u, n, a1, a2, a3, a4, a5, a6⟩ := h3
    exact ⟨u, n, a1, a2, by rw [e 135 (by omega)]; exact a3, by rw [e 135 (by omega)]; exact a4, by rw [hm 202 (by omega)]; exact a5, fun i hi => by rw [e _ (by omega), hm 202 (by omega)]; exact a6 i hi⟩
  · intro j hj
    rw [e _ (by omega)]; exact (h4 j hj).w hb
  · intro r hr
    obtain ⟨p, mn, nums, r1, r2⟩ := k7 r hr
    exact ⟨p, mn, nums, r1.fr (fun j j1 j2 => hc.1 j (by omega)) (by omega), by rw [hm 202 (by omega)]; exact r2⟩
theorem SeenR.fr {n m : Int} {f g a f2 g2 a2 : Nat → Int} {c : Nat} (h : SeenR n f g a c) (h1 : m = n) (h2 : f2 = f) (h3 : g2 = g) (h4 : ∀ k, k < 140 → k ≠ 3 → a2 k = a k) : SeenR m f2 g2 a2 c := by
  obtain ⟨s, s1, s2, s3, s4⟩ := h
  refine ⟨s, s1, h1.trans s2, by rw [h4 4 (by omega) (by omega)]; exact s3, fun k hk => ?_⟩
  rw [h2, h3, h4 _ (by omega) (by omega), h4 _ (by omega) (by omega)]; exact s4 k hk
theorem DebtR.fr {f a f2 a2 : Nat → Int} (h : DebtR f a) (h1 : f2 = f) (h4 : ∀ k, k < 140 → k ≠ 3 → a2 k = a k) : DebtR f2 a2 := fun i hi => by
  rw [h1, h4 _ (by omega) (by omega)]; exact h i hi
theorem Ext.fr {σ τ μ ν : Mm} {B C : Int} (h : Ext σ μ B) (hb : B ≤ C) (hc : EC σ τ) (hm : EMf μ ν) : Ext τ ν C := by
  obtain ⟨hT, hF, hR, ⟨c, hS1, hS2⟩, hD, hI⟩ := h
  obtain ⟨m1, m2, m3⟩ := hm
  have e := hc.1
  refine ⟨?_, ?_, ?_, ⟨c, by rw [e 1 (by omega)]; exact hS1, hS2.fr (by rw [e 121 (by omega)]) (e 122 (by omega)) (e 123 (by omega)) m3⟩, hD.fr (e 130 (by omega)) m3, hI.fr hb hc m1⟩
  · obtain ⟨n, n1, n2, n3, n4⟩ := hT
    exact ⟨n, n1, by rw [e 90 (by omega)]; exact n2, by rw [m2 3 (by omega)]; exact n3, fun i hi => by rw [e 91 (by omega), m1 203 (by omega)]; exact n4 i hi⟩
  · unfold FaultR
    rw [e 90 (by omega), m2 4 (by omega), m2 5 (by omega)]; exact hF
  · obtain ⟨T, t1, t2, t3, t4, t5⟩ := hR
    refine ⟨T, t1, by rw [e 0 (by omega)]; exact t2, by rw [m3 1 (by omega) (by omega)]; exact t3, fun t ht => (t4 t ht).fr (by omega) (fun i hi => e i (by omega)) m1, ?_⟩
    rw [e 0 (by omega), m3 2 (by omega) (by omega), hc.2]; exact t5
theorem FrC.ec {σ τ : Mm} (h : FrC σ τ) : EC σ τ := ⟨fun i hi => h.1 i (by omega) (by omega) (by omega), h.2⟩
theorem FrM.em {μ ν : Mm} (h : FrM μ ν) : EMf μ ν := ⟨fun i hi => h.1 i (by omega) (by omega) (by omega), fun s hs => h.2.1 s (by omega) (by omega) (by omega) (by omega) (by omega), h.2.2⟩
/-- an operation of both sides -/
def Op (fc fm : Option (Int × Mm)) (B R : Int) : Prop := Ok fc (fun a => Ok fm (fun b => b.1 = a.1 ∧ Rel a.2 b.2 B R))
theorem Rel.w {σ μ : Mm} {B C R S : Int} (h : Rel σ μ B R) (hb : B ≤ C) (hr : R ≤ S) : Rel σ μ C S := by
  obtain ⟨G, O, M, h1, h2⟩ := h
  exact ⟨G, O, M, h1.w hb hr, h2.fr hb ⟨fun _ _ => rfl, rfl⟩ ⟨fun _ _ => rfl, fun _ _ => rfl, fun _ _ _ => rfl⟩⟩
theorem Op.now {fc fm : Option (Int × Mm)} {σ μ : Mm} {G O M : Law} {B R C S : Int} (hE : Ext σ μ B) (hb : B ≤ C) (h : Ok fc (fun a => Ok fm (fun b => b.1 = a.1 ∧ Now a.2 b.2 G O M C S ∧ FrC σ a.2 ∧ FrM μ b.2))) : Op fc fm C S :=
  h.mono (fun _ k => k.mono (fun _ q => ⟨q.1, G, O, M, q.2.1, hE.fr hb q.2.2.1.ec q.2.2.2.em⟩))
/-- what an asking call may change -/
def QC (σ τ : Mm) : Prop := (∀ i, (i < 2 ∨ i = 8 ∨ (10 ≤ i ∧ i < 114) ∨ (121 ≤ i ∧ i < 124) ∨ i = 130 ∨ 133 ≤ i) → τ i = σ i) ∧ τ 2 6 = σ 2 6 ∧ ∀ k, k < 165 → τ 3 k = σ 3 k
def QM (μ ν : Mm) : Prop := (∀ i, (201 ≤ i ∧ i < 223) → ν i = μ i) ∧ ∀ s, s = 3 ∨ s = 4 ∨ s = 5 → ν 200 s = μ 200 s
theorem QC.rf {σ : Mm} : QC σ σ := ⟨fun _ _ => rfl, rfl, fun _ _ => rfl⟩
theorem QM.rf {σ : Mm} : QM σ σ := ⟨fun _ _ => rfl, fun _ _ => rfl⟩
theorem QC.tr {a b c : Mm} (h : QC a b) (k : QC b c) : QC a c := ⟨fun i hi => (k.1 i hi).trans (h.1 i hi), k.2.1.trans h.2.1, fun j hj => (k.2.2 j hj).trans (h.2.2 j hj)⟩
theorem QM.tr {a b c : Mm} (h : QM a b) (k : QM b c) : QM a c := ⟨fun i hi => (k.1 i hi).trans (h.1 i hi), fun j hj => (k.2 j hj).trans (h.2 j hj)⟩
theorem QC.of {S : List Nat} {σ τ : Mm} (h : Fr S σ τ) (hS : ∀ i ∈ S, (2 < i ∧ i < 8 ∧ i ≠ 3) ∨ i = 9 ∨ (114 ≤ i ∧ i < 121) ∨ (124 ≤ i ∧ i < 130) ∨ i = 131 ∨ i = 132) : QC σ τ := ⟨fun i hi => h i (fun q => by have := hS i q; omega), by rw [h 2 (fun q => by have := hS 2 q; omega)], fun k _ => by rw [h 3 (fun q => by have := hS 3 q; omega)]⟩
theorem QM.of {S : List Nat} {σ τ : Mm} (h : Fr S σ τ) (hS : ∀ i ∈ S, 222 < i) : QM σ τ := ⟨fun i hi => h i (fun q => by have := hS i q; omega), fun s _ => by rw [h 200 (fun q => by have := hS 200 q; omega)]⟩
theorem QM.f0 {S : List Nat} {σ τ : Mm} (h : Fr S σ τ) (hS : ∀ i ∈ S, i = 200 ∨ 222 < i) (h2 : ∀ s, s = 3 ∨ s = 4 ∨ s = 5 → τ 200 s = σ 200 s) : QM σ τ := ⟨fun i hi => h i (fun q => by have := hS i q; omega), h2⟩
theorem Now.ask {σ τ μ ν : Mm} {G O M : Law} {B R S : Int} (h : Now σ μ G O M B R) (hc : QC σ τ) (hm : QM μ ν) (h6 : ∀ k, k < 400 → τ 6 k ≤ τ 2 5) (hr : 0 ≤ τ 2 5 ∧ τ 2 5 ≤ S) : Now τ ν G O M B S := by
  obtain ⟨a1, a2, a3, a4, a5, a6, a7, a8, a9⟩ := h
  have e := hc.1
  have m := hm.1
  refine ⟨?_, ?_, h6, hr, a5.cong hc.2.2 (fun x _ => by rw [m 201 (by omega)]), a6.cong (fun k hk => hc.2.2 k (by omega)), ?_, ?_, fun j hj => by rw [e _ (by omega)]; exact a9 j hj⟩
  · obtain ⟨l1, l2, l3, l4⟩ := a1
    refine ⟨l1, l2, l3, ?_⟩
    rw [hc.2.1]
    rcases l4 with l4 | ⟨t, q, q2, q3, q4, q5⟩
    · exact Or.inl l4
    · have ht := isO9 q
      exact Or.inr ⟨t, q, q2, q3.e (e _ (by omega)) (e _ (by omega)) (e _ (by omega)), q4.e (e _ (by omega)) (e _ (by omega)) (e _ (by omega)), q5.e (e _ (by omega)) (e _ (by omega)) (e _ (by omega))⟩
  · unfold LawsM at *
    rw [m 201 (by omega), m 204 (by omega)]
    rcases a2 with a2 | ⟨t, q, q2, q2b, q2c, q3, q4, q5⟩
    · exact Or.inl a2
    · exact Or.inr ⟨t, q, q2, q2b, q2c, q3.e (fun i hi => m i (by omega)), q4.e (fun i hi => m i (by omega)), q5.e (fun i hi => m i (by omega))⟩
  · obtain ⟨r, r1, r2, r3, r4⟩ := a7
    exact ⟨r, r1, by rw [e 1 (by omega)]; exact r2, by rw [m 201 (by omega)]; exact r3, r4.fr r1 (fun j j1 _ => e j (by omega)) (fun k _ => by rw [m 201 (by omega)])⟩
  · obtain ⟨u, n, b1, b2, b3, b4, b5, b6⟩ := a8
    exact ⟨u, n, b1, b2, by rw [e 58 (by omega)]; exact b3, by rw [e 58 (by omega)]; exact b4, by rw [m 201 (by omega)]; exact b5, fun i hi => by rw [e _ (by omega), m 201 (by omega)]; exact b6 i hi⟩
theorem Rel.ask {σ τ μ ν : Mm} {B R S : Int} (h : Rel σ μ B R) (hc : QC σ τ) (hm : QM μ ν) (h6 : ∀ k, k < 400 → τ 6 k ≤ τ 2 5) (hr : 0 ≤ τ 2 5 ∧ τ 2 5 ≤ S) : Rel τ ν B S := by
  obtain ⟨G, O, M, h1, h2⟩ := h
  exact ⟨G, O, M, h1.ask hc hm h6 hr, h2.fr (Int.le_refl _) ⟨fun i hi => hc.1 i (by omega), hc.2.1⟩ ⟨fun i hi => hm.1 i (by omega), hm.2, fun k _ _ => by rw [hm.1 201 (by omega)]⟩⟩
