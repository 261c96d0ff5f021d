theorem doQ_ok {σ : Mm} {G O M : Law} (hL : LawsM σ G O M) (LG : LawOK 0 G) (hE : EnvOK (EM σ)) {l r : Nat} {ap la : Int} (hl : l < 10) (hr : r < 10) (ha : 0 ≤ ap ∧ ap ≤ 1) (hla : 0 ≤ la ∧ la ≤ 1) :
    Ok (F_M_doQuarrel (l : Int) (r : Int) ap la σ) (fun x => x.1 = qv G (EM σ) l r ap la ∧ Fr [223, 224] σ x.2 ∧ ∀ k : Nat, k ≤ 8 → x.2 223 k = nmE (EM σ) l r ap la k) := by
  have hbnd := nmE_bound hE (l := l) (r := r) (ap := ap) (la := la) (by omega) (by omega) ha hla
  unfold F_M_doQuarrel
  have hnoG : G = none → F_M_ordersOf 0 σ = some (-1) := by
    intro e
    rcases hL with ⟨h1, -⟩ | ⟨t, h1, h2, h3, h4, h5, -⟩
    · exact orders_off (w := 0) h1
    · rw [e] at h5
      exact orders_no (w := 0) h1 h2 h4 h5
  have hyes : ∀ cs, G = some cs → ∃ i : Nat, F_M_ordersOf 0 σ = some (i : Int) ∧ MCode (σ 210) (σ 211) i cs ∧ i + cs.length < 1600 := by
    intro cs e
    rcases hL with ⟨h1, h2, -⟩ | ⟨t, h1, h2, h3, h4, h5, -⟩
    · rw [e] at h2; cases h2
    · rw [e] at h5
      exact orders_yes (w := 0) h1 h2 h4 h5
  match G, LG, hnoG, hyes with
  | none, LG, hnoG, hyes =>
    refine Ok.b1 (Ok.eq (hnoG rfl)) (fun v hv => ?_)
    refine Ok.b0M (names_ok hE (ap := ap) (la := la) hl hr) (fun s hs => ?_)
    refine Ok.it hv ?_
    have h8 := hs.2 8 (by omega)
    have e8 : s 223 8 = bitI (EM σ (30 + l)) r := by rw [h8]; unfold nmE; simp
    have b01 := bitI_01 (EM σ (30 + l)) r
    refine Ok.ite (fun z => Ok.ret ⟨?_, hs.1.w (by decide), hs.2⟩) (fun z => Ok.ret ⟨?_, hs.1.w (by decide), hs.2⟩)
    · unfold qv; simp only [Int.toNat_natCast]; omega
    · unfold qv; simp only [Int.toNat_natCast]; omega
  | some cs, LG, hnoG, hyes =>
    obtain ⟨i, hi, hmc, hlen⟩ := hyes cs rfl
    refine Ok.b1 (Ok.eq hi) (fun v hv => ?_)
    refine Ok.b0M (names_ok hE (ap := ap) (la := la) hl hr) (fun s hs => ?_)
    refine Ok.ie (by omega) ?_
    rw [hv]
    have hw := (LG cs rfl).2.2
    have hev := evS_ty (fun k _ => hbnd k.toNat) (ty := []) (st := []) trivial hw
    have e1 : evS (nmE (EM σ) l r ap la) [] cs = [evV (nmE (EM σ) l r ap la) cs] := by
      unfold evV
      match h : evS (nmE (EM σ) l r ap la) [] cs, hev with
      | [v], _ => rfl
    refine Ok.b1M (says_ok (ok := okw 0) (fun k _ => hbnd k.toNat) (cs := cs) (i := i) ?_ hlen hw e1 ?_) (fun a t ht => ?_)
    · rw [hs.1 210 (by decide), hs.1 211 (by decide)]; exact hmc
    · intro k hk
      have := okw_le (by decide) hk
      exact ⟨by omega, by omega, hs.2 k.toNat (by omega)⟩
    · have hf2 : Fr [224] s t := ht.2
      have hn : ∀ k : Nat, k ≤ 8 → t 223 k = nmE (EM σ) l r ap la k := fun k hk => by rw [hf2 223 (by decide)]; exact hs.2 k hk
      have hf : Fr [223, 224] σ t := (hs.1.w (by decide)).tr (hf2.w (by decide))
      have ha : a = evV (nmE (EM σ) l r ap la) cs := ht.1
      refine Ok.ite (fun z => Ok.ret ⟨?_, hf, hn⟩) (fun z => Ok.ret ⟨?_, hf, hn⟩)
      · unfold qv; simp only; rw [if_pos (by rw [← ha]; exact lcmp_eq.mp z)]
      · unfold qv; simp only; rw [if_neg (fun q => z (lcmp_eq.mpr (by rw [ha]; exact q)))]
theorem held_ok {v lo hi : Int} (hv : r32 v) (h : lo ≤ hi) : F_M_held v lo hi = some (max lo (min hi v)) := by
  unfold F_M_held
  simp only [lcmp_ge, lcmp_le, l2i_id hv]
  repeat' split
  all_goals (congr 1; omega)
/-- off of TWO, the names being set -/
theorem off_ok {τ : Mm} {G O M : Law} (hL : LawsM τ G O M) (LO : LawOK 1 O) {E : Nat → Int} (hE : EnvOK E) {l r : Nat} {ap la : Int} (hl : l < 10) (hr : r < 10) (ha : 0 ≤ ap ∧ ap ≤ 1) (hla : 0 ≤ la ∧ la ≤ 1) (hn : ∀ k : Nat, k ≤ 8 → τ 223 k = nmE E l r ap la k) {α : Type} {P : α → Prop} {f : Int → Mm → Option α} (k : ∀ s, Fr [224] τ s → Ok (f (ov O E l r ap la) s) P) :
    Ok (b1 (F_M_ordersOf 1 τ) fun v7 => if v7 = -1 then f 1 τ else b1M (F_M_saysOf v7 τ) fun v10 s10 => b1 (F_M_held v10 (-99) 99) fun v11 => f v11 s10) P := by
  have hbnd := nmE_bound hE (l := l) (r := r) (ap := ap) (la := la) (by omega) (by omega) ha hla
  have hno : O = none → F_M_ordersOf 1 τ = some (-1) := by
    intro e
    rcases hL with ⟨h1, -⟩ | ⟨t, h1, h2, h3, h4, h5, h6, -⟩
    · exact orders_off (w := 1) h1
    · rw [e] at h6
      exact orders_no (w := 1) h1 h2 h4 h6
  have hyes : ∀ cs, O = some cs → ∃ i : Nat, F_M_ordersOf 1 τ = some (i : Int) ∧ MCode (τ 210) (τ 211) i cs ∧ i + cs.length < 1600 := by
    intro cs e
    rcases hL with ⟨h1, h2, h3, -⟩ | ⟨t, h1, h2, h3, h4, h5, h6, -⟩
    · rw [e] at h3; cases h3
    · rw [e] at h6
      exact orders_yes (w := 1) h1 h2 h4 h6
  match O, LO, hno, hyes, k with
  | none, LO, hno, hyes, k =>
    refine Ok.b1 (Ok.eq (hno rfl)) (fun v hv => ?_)
    exact Ok.it hv (k τ Fr.rf)
  | some cs, LO, hno, hyes, k =>
    obtain ⟨i, hi, hmc, hlen⟩ := hyes cs rfl
    refine Ok.b1 (Ok.eq hi) (fun v hv => ?_)
    refine Ok.ie (by omega) ?_
    rw [hv]
    have hw := (LO cs rfl).2.2
    have hev := evS_ty (fun k _ => hbnd k.toNat) (ty := []) (st := []) trivial hw
    have e1 : evS (nmE E l r ap la) [] cs = [evV (nmE E l r ap la) cs] := by
      unfold evV
      match h : evS (nmE E l r ap la) [] cs, hev with
      | [v], _ => rfl
    rw [e1] at hev
    have hty : -100000000 ≤ evV (nmE E l r ap la) cs ∧ evV (nmE E l r ap la) cs ≤ 100000000 := Ty1.n (by simpa using hev.1)
    refine Ok.b1M (says_ok (ok := okw 1) (fun k _ => hbnd k.toNat) (cs := cs) (i := i) hmc hlen hw e1 ?_) (fun a t ht => ?_)
    · intro k9 hk
      have := okw_le (by decide) hk
      exact ⟨by omega, by omega, hn k9.toNat (by omega)⟩
    · have hav : a = evV (nmE E l r ap la) cs := ht.1
      refine Ok.b1 (Ok.eq (held_ok (v := a) (lo := -99) (hi := 99) ⟨by omega, by omega⟩ (by decide))) (fun w hw => ?_)
      have := k t ht.2
      rw [hw, hav]
      exact this
/-! rows of digits: each with how it stands to the one ahead -/
abbrev DL : Type := List (Int × Int)
def DOK : DL → Prop
  | [] => True
  | (d, k) :: t => (0 ≤ d ∧ d ≤ 9 ∧ 0 ≤ k ∧ k ≤ 3) ∧ DOK t
def DigR (f g : Nat → Int) : Nat → DL → Prop
  | _, [] => True
  | i, (d, k) :: t => f i = d ∧ g i = k ∧ DigR f g (i + 1) t
abbrev TW : Type := Int → Int → Int → Int
def t0 (T : TW) (d e m : Int) : Int := if T d e m = 1000 then 0 else T d e m
def q0 (T : TW) (d e m : Int) : Int := if T d e m = 1000 then 0 else 1
def sumL (f : Int → Int → Int → Int) : Int → DL → Int
  | _, [] => 0
  | d, (e, m) :: t => f d e m + sumL f e t
theorem tw_bd {G O : Law} {E : Nat → Int} {l r k : Int} : tw G O E l r k = 1000 ∨ (-99 ≤ tw G O E l r k ∧ tw G O E l r k ≤ 99) := by
  unfold tw
  split
  · right
    unfold ov
    match O with
    | none => simp
    | some cs => simp only; omega
  · exact Or.inl rfl
/-- what the class must hold to judge -/
def JOK (σ : Mm) (G O M : Law) : Prop := LawsC σ G O M ∧ EnvOK (σ 3) ∧ Memo σ G O
theorem JOK.fr {σ τ : Mm} {G O M : Law} (h : JOK σ G O M) (hf : Fr [4, 5, 6, 7] σ τ) (hm : Memo τ G O) : JOK τ G O M :=
  ⟨h.1.fr hf (by rw [hf 2 (by decide)]) (by decide), by rw [hf 3 (by decide)]; exact h.2.1, hm⟩
theorem DigR.fr {f g f2 g2 : Nat → Int} (h1 : f2 = f) (h2 : g2 = g) {i : Nat} {L : DL} (h : DigR f g i L) : DigR f2 g2 i L := by rw [h1, h2]; exact h
theorem two_i {σ : Mm} {G O M : Law} (h : JOK σ G O M) {d e m : Int} (hd : 0 ≤ d ∧ d ≤ 9) (he : 0 ≤ e ∧ e ≤ 9) (hm : 0 ≤ m ∧ m ≤ 3) : Ok (F_J_two d e m σ) (fun x => x.1 = tw G O (σ 3) d e m ∧ Fr [4, 5, 6, 7] σ x.2 ∧ JOK x.2 G O M) := by
  obtain ⟨a, rfl⟩ := Int.eq_ofNat_of_zero_le hd.1
  obtain ⟨b, rfl⟩ := Int.eq_ofNat_of_zero_le he.1
  obtain ⟨c, rfl⟩ := Int.eq_ofNat_of_zero_le hm.1
  exact (two_ok h.1 h.2.1 h.2.2 (by omega) (by omega) (by omega)).mono (fun x hx => ⟨hx.1, hx.2.1, h.fr hx.2.1 hx.2.2⟩)
