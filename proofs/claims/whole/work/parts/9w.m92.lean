-- a law under way: what waits, as one list (1: the left side of an ASK, which the reference alone keeps)
abbrev ari (x : Int) : Prop := 20000 ≤ x ∧ x ≤ 20004
abbrev cmq (x : Int) : Prop := 20005 ≤ x ∧ x ≤ 20010
abbrev bra (x : Int) : Prop := 20017 ≤ x ∧ x ≤ 20021
abbrev frm (x : Int) : Prop := x = 1 ∨ (20005 ≤ x ∧ x ≤ 20010) ∨ 20015 ≤ x
def rkI (x : Int) : Int := if x = 20015 then 7 else if 20000 ≤ x ∧ x ≤ 20002 then 6 else if 20003 ≤ x ∧ x ≤ 20004 then 5 else if 20005 ≤ x ∧ x ≤ 20010 then 4 else if x = 20016 then 3 else if x = 20011 then 2 else if x = 20012 then 1 else 0
def rkM (x : Int) : Int := if x = 20012 then 1 else if x = 20011 then 2 else if 20003 ≤ x ∧ x ≤ 20004 then 3 else 4
def frK (x : Int) : Int := if x = 1 then 4 else if x ≤ 20010 then 5 else if x = 20015 then 7 else if x = 20016 then 3 else if x = 20017 then 6 else if x = 20018 then 8 else if x = 20019 then 9 else if x = 20020 then 10 else 11
def stk : List Int → List Int
  | [] => []
  | x :: g => if x = 1 then stk g else x :: stk g
def frs (b : Int) : List Int → List Int
  | [] => [b]
  | x :: g => if frm x then frK x :: frs b g else frs b g
def wos : List Int → List Int
  | [] => []
  | x :: g => if frm x then wos g else encO x :: wos g
def wfr (b : Int) : List Int → List Int
  | [] => []
  | x :: g => if frm x then wfr b g else ((frs b g).length : Int) :: wfr b g
def CmpR (f : Nat → Int) (b : Int) : List Int → Prop
  | [] => True
  | x :: g => (cmq x → f (frs b (x :: g)).length = encO x) ∧ CmpR f b g
def opn : List Int → Nat
  | [] => 0
  | x :: g => (if 20015 ≤ x then 1 else 0) + opn g
def brk : List Int → Nat
  | [] => 0
  | x :: g => (if 20017 ≤ x then 1 else 0) + brk g
def cpd : List Int → Int
  | [] => 0
  | x :: g => if cmq x then 1 else cpd g
def rkT : List Int → Int
  | [] => 0
  | x :: _ => rkI x
def tyG : List Int → List Bool
  | [] => []
  | x :: g => if (20000 ≤ x ∧ x ≤ 20010) ∨ 20020 ≤ x then false :: tyG g else if x = 20011 ∨ x = 20012 then true :: tyG g else tyG g
def Gk (b : Int) : List Int → Bool → Prop
  | [], a => a = decide (b = 2)
  | x :: g, true => (x = 20016 ∧ Gk b g true) ∨ ((x = 20011 ∨ x = 20012) ∧ rkT g < rkI x ∧ Gk b g true)
  | x :: g, false => ((x = 1 ∨ cmq x) ∧ Gk b g true) ∨ (ari x ∧ rkT g < rkI x ∧ Gk b g false) ∨ ((x = 20015 ∨ bra x) ∧ Gk b g false)
theorem stk_1 {g : List Int} : stk (1 :: g) = stk g := by rw [stk, if_pos rfl]
theorem stk_n {x : Int} {g : List Int} (h : ¬ x = 1) : stk (x :: g) = x :: stk g := by rw [stk, if_neg h]
theorem frs_f {b x : Int} {g : List Int} (h : frm x) : frs b (x :: g) = frK x :: frs b g := by rw [frs, if_pos h]
theorem frs_n {b x : Int} {g : List Int} (h : ¬ frm x) : frs b (x :: g) = frs b g := by rw [frs, if_neg h]
theorem wos_f {x : Int} {g : List Int} (h : frm x) : wos (x :: g) = wos g := by rw [wos, if_pos h]
theorem wos_n {x : Int} {g : List Int} (h : ¬ frm x) : wos (x :: g) = encO x :: wos g := by rw [wos, if_neg h]
theorem wfr_f {b x : Int} {g : List Int} (h : frm x) : wfr b (x :: g) = wfr b g := by rw [wfr, if_pos h]
theorem wfr_n {b x : Int} {g : List Int} (h : ¬ frm x) : wfr b (x :: g) = ((frs b g).length : Int) :: wfr b g := by rw [wfr, if_neg h]
theorem opn_1 {x : Int} {g : List Int} (h : 20015 ≤ x) : opn (x :: g) = 1 + opn g := by rw [opn, if_pos h]
theorem opn_0 {x : Int} {g : List Int} (h : ¬ 20015 ≤ x) : opn (x :: g) = opn g := by rw [opn, if_neg h, Nat.zero_add]
theorem brk_1 {x : Int} {g : List Int} (h : 20017 ≤ x) : brk (x :: g) = 1 + brk g := by rw [brk, if_pos h]
theorem brk_0 {x : Int} {g : List Int} (h : ¬ 20017 ≤ x) : brk (x :: g) = brk g := by rw [brk, if_neg h, Nat.zero_add]
theorem cpd_1 {x : Int} {g : List Int} (h : cmq x) : cpd (x :: g) = 1 := by rw [cpd, if_pos h]
theorem cpd_0 {x : Int} {g : List Int} (h : ¬ cmq x) : cpd (x :: g) = cpd g := by rw [cpd, if_neg h]
theorem tyG_f {x : Int} {g : List Int} (h : (20000 ≤ x ∧ x ≤ 20010) ∨ 20020 ≤ x) : tyG (x :: g) = false :: tyG g := by rw [tyG, if_pos h]
theorem tyG_t {x : Int} {g : List Int} (h : x = 20011 ∨ x = 20012) : tyG (x :: g) = true :: tyG g := by rw [tyG, if_neg (by omega), if_pos h]
theorem tyG_n {x : Int} {g : List Int} (h : ¬ ((20000 ≤ x ∧ x ≤ 20010) ∨ 20020 ≤ x)) (h2 : ¬ (x = 20011 ∨ x = 20012)) : tyG (x :: g) = tyG g := by rw [tyG, if_neg h, if_neg h2]
theorem rkI_a {x : Int} (h : ari x) : (x ≤ 20002 ∧ rkI x = 6 ∧ rkM x = 4) ∨ (20003 ≤ x ∧ rkI x = 5 ∧ rkM x = 3) := by
  rcases (show x = 20000 ∨ x = 20001 ∨ x = 20002 ∨ x = 20003 ∨ x = 20004 by omega) with rfl | rfl | rfl | rfl | rfl
  all_goals decide
theorem rkI_c {x : Int} (h : cmq x) : rkI x = 4 := by
  unfold rkI
  rw [if_neg (show ¬ x = 20015 by omega), if_neg (show ¬ (20000 ≤ x ∧ x ≤ 20002) by omega), if_neg (show ¬ (20003 ≤ x ∧ x ≤ 20004) by omega), if_pos h]
theorem rkI_b {x : Int} (h : bra x) : rkI x = 0 := by
  unfold rkI
  rw [if_neg (show ¬ x = 20015 by omega), if_neg (show ¬ (20000 ≤ x ∧ x ≤ 20002) by omega), if_neg (show ¬ (20003 ≤ x ∧ x ≤ 20004) by omega), if_neg (show ¬ (20005 ≤ x ∧ x ≤ 20010) by omega), if_neg (show ¬ x = 20016 by omega), if_neg (show ¬ x = 20011 by omega), if_neg (show ¬ x = 20012 by omega)]
theorem Gk_t2 {b : Int} : ∀ {g : List Int}, Gk b g true → b = 2
  | [], h => of_decide_eq_true (show decide (b = 2) = true from (show true = decide (b = 2) from h).symm)
  | _ :: _, h => by
    rw [Gk] at h
    rcases h with ⟨_, h⟩ | ⟨_, _, h⟩
    · exact Gk_t2 h
    · exact Gk_t2 h
/-- where an ASK may begin -/
theorem Gk_t {b : Int} : ∀ {g : List Int}, Gk b g true → (stk g = g ∧ brk g = 0 ∧ cpd g = 0) ∧ ((frs b g).length = opn g + 1 ∧ (wos g).length = (tyG g).length) ∧ ((tyG g).length ≤ 2 ∧ (rkT g < 2 → (tyG g).length ≤ 1) ∧ (rkT g < 1 → (tyG g).length = 0)) ∧ (0 ≤ rkT g ∧ rkT g ≤ 3) ∧ (∀ x ∈ g, 20000 ≤ x ∧ x ≤ 20021)
  | [], h => ⟨⟨rfl, rfl, rfl⟩, ⟨rfl, rfl⟩, ⟨by decide, fun _ => by decide, fun _ => rfl⟩, ⟨by decide, by decide⟩, fun x hx => by simp at hx⟩
  | x :: g, h => by
    rw [Gk] at h
    rcases h with ⟨hx, h⟩ | ⟨hx, hr, h⟩
    · obtain ⟨⟨i1, i2, i3⟩, ⟨i4, i5⟩, ⟨i6, i7, i8⟩, ⟨i9, i10⟩, i11⟩ := Gk_t h
      have r : rkT (x :: g) = 3 := by rw [hx]; rfl
      refine ⟨⟨by rw [stk_n (by omega), i1], by rw [brk_0 (by omega), i2], by rw [cpd_0 (by omega), i3]⟩, ⟨by rw [frs_f (by omega), opn_1 (by omega), List.length_cons]; omega, by rw [wos_f (by omega), tyG_n (by omega) (by omega)]; exact i5⟩, ⟨by rw [tyG_n (by omega) (by omega)]; exact i6, fun q => by omega, fun q => by omega⟩, by omega, ?_⟩
      intro y hy
      rcases List.mem_cons.mp hy with q | q
      · omega
      · exact i11 y q
    · obtain ⟨⟨i1, i2, i3⟩, ⟨i4, i5⟩, ⟨i6, i7, i8⟩, ⟨i9, i10⟩, i11⟩ := Gk_t h
      have r : (x = 20011 ∧ rkI x = 2) ∨ (x = 20012 ∧ rkI x = 1) := by
        rcases hx with rfl | rfl
        · exact Or.inl ⟨rfl, rfl⟩
        · exact Or.inr ⟨rfl, rfl⟩
      have r2 : rkT (x :: g) = rkI x := rfl
      have hl : (tyG (x :: g)).length = (tyG g).length + 1 := by rw [tyG_t hx]; rfl
      refine ⟨⟨by rw [stk_n (by omega), i1], by rw [brk_0 (by omega), i2], by rw [cpd_0 (by omega), i3]⟩, ⟨by rw [frs_n (by omega), opn_0 (by omega)]; exact i4, by rw [wos_n (by omega), hl, List.length_cons]; omega⟩, ⟨?_, fun q => ?_, fun q => ?_⟩, by omega, ?_⟩
      · rcases r with ⟨_, r⟩ | ⟨_, r⟩
        · have := i7 (by omega); omega
        · have := i8 (by omega); omega
      · rcases r with ⟨_, r⟩ | ⟨_, r⟩
        · omega
        · have := i8 (by omega); omega
      · omega
      · intro y hy
        rcases List.mem_cons.mp hy with q | q
        · omega
        · exact i11 y q
/-- where a ONE may begin -/
theorem Gk_f {b : Int} : ∀ {g : List Int}, Gk b g false → ((frs b g).length ≤ opn g + 2 ∧ (wos g).length ≤ (tyG g).length) ∧ ((tyG g).length ≤ 3 * opn g + 5 ∧ (rkT g < 6 → (tyG g).length ≤ 3 * opn g + 4) ∧ (rkT g < 5 → (tyG g).length ≤ 3 * opn g + 3)) ∧ (∀ x ∈ stk g, 20000 ≤ x ∧ x ≤ 20021)
  | [], h => ⟨⟨by simp [frs, opn], by simp [wos]⟩, ⟨by simp [tyG], fun _ => by simp [tyG], fun _ => by simp [tyG]⟩, fun x hx => by simp [stk] at hx⟩
  | x :: g, h => by
    rw [Gk] at h
    rcases h with ⟨hx, h⟩ | ⟨hx, hr, h⟩ | ⟨hx, h⟩
    · obtain ⟨⟨i1, i2, i3⟩, ⟨i4, i5⟩, ⟨i6, i7, i8⟩, ⟨i9, i10⟩, i11⟩ := Gk_t h
      have e1 : (tyG (x :: g)).length ≤ 3 := by
        by_cases c : x = 1
        · rw [tyG_n (by omega) (by omega)]; omega
        · rw [tyG_f (by omega), List.length_cons]; omega
      have e2 : (tyG g).length ≤ (tyG (x :: g)).length := by
        by_cases c : x = 1
        · rw [tyG_n (by omega) (by omega)]; omega
        · rw [tyG_f (by omega), List.length_cons]; omega
      refine ⟨⟨by rw [frs_f (by omega), opn_0 (by omega), List.length_cons]; omega, by rw [wos_f (by omega)]; omega⟩, ⟨by omega, fun _ => by omega, fun _ => by omega⟩, ?_⟩
      intro y hy
      by_cases c : x = 1
      · rw [c, stk_1, i1] at hy; exact i11 y hy
      · rw [stk_n c, i1] at hy
        rcases List.mem_cons.mp hy with q | q
        · omega
        · exact i11 y q
    · obtain ⟨⟨i1, i2⟩, ⟨i3, i4, i5⟩, i6⟩ := Gk_f h
      have r := rkI_a hx
      have r2 : rkT (x :: g) = rkI x := rfl
      have hl : (tyG (x :: g)).length = (tyG g).length + 1 := by rw [tyG_f (by omega)]; rfl
      refine ⟨⟨by rw [frs_n (by omega), opn_0 (by omega)]; exact i1, by rw [wos_n (by omega), hl, List.length_cons]; omega⟩, ?_, ?_⟩
      · rw [hl, opn_0 (by omega)]
        refine ⟨?_, fun q => ?_, fun q => ?_⟩
        · have := i4 (by omega); omega
        · have := i5 (by omega); omega
        · omega
      · intro y hy
        rw [stk_n (by omega)] at hy
        rcases List.mem_cons.mp hy with q | q
        · omega
        · exact i6 y q
    · obtain ⟨⟨i1, i2⟩, ⟨i3, i4, i5⟩, i6⟩ := Gk_f h
      have e1 : (tyG (x :: g)).length ≤ (tyG g).length + 1 ∧ (tyG g).length ≤ (tyG (x :: g)).length := by
        by_cases c : 20020 ≤ x
        · rw [tyG_f (by omega), List.length_cons]; omega
        · rw [tyG_n (by omega) (by omega)]; omega
      refine ⟨⟨by rw [frs_f (by omega), opn_1 (by omega), List.length_cons]; omega, by rw [wos_f (by omega)]; omega⟩, ?_, ?_⟩
      · rw [opn_1 (by omega)]
        exact ⟨by omega, fun _ => by omega, fun _ => by omega⟩
      · intro y hy
        rw [stk_n (by omega)] at hy
        rcases List.mem_cons.mp hy with q | q
        · omega
        · exact i6 y q
