-- one call: the relation goes on, with room for 512 of them
def Rc (i : Nat) (σ μ : Mm) : Prop := Rel σ μ (1000 * (i : Int)) (41000 * (i : Int))
def Oc (i : Nat) (fc fm : Option (Int × Mm)) : Prop := ∃ (v : Int) (s u : Mm), fc = some (v, s) ∧ fm = some (v, u) ∧ Rc (i + 1) s u
theorem Op.up {fc fm : Option (Int × Mm)} {i : Nat} {B R : Int} (h : Op fc fm B R) (hb : B ≤ 1000 * ((i + 1 : Nat) : Int)) (hr : R ≤ 41000 * ((i + 1 : Nat) : Int)) : Oc i fc fm := by
  obtain ⟨⟨v, s⟩, E1, ⟨v2, u⟩, E2, e, R⟩ := h
  have e : v2 = v := e
  rw [e] at E2
  exact ⟨v, s, u, E1, E2, R.w hb hr⟩
theorem q_row {σ μ : Mm} {i : Nat} (h : Rc i σ μ) (hi : i < 512) (x y z w m : Int) : Oc i (F_A_row x y z w m σ) (F_M_row x y z w m μ) := (row_rel h x y z w m).up (by omega) (by omega)
theorem q_by {σ μ : Mm} {i : Nat} (h : Rc i σ μ) (hi : i < 512) (x : Int) : Oc i (F_A_by x σ) (F_M_by x μ) := (by_rel h x).up (by omega) (by omega)
theorem q_end {σ μ : Mm} {i : Nat} (h : Rc i σ μ) (hi : i < 512) (x : Int) : Oc i (F_A_end x σ) (F_M_end x μ) := (end_rel h x).up (by omega) (by omega)
theorem q_debt {σ μ : Mm} {i : Nat} (h : Rc i σ μ) (hi : i < 512) (x y z : Int) : Oc i (F_A_debt x y z σ) (F_M_debt x y z μ) := (debt_rel h x y z).up (by omega) (by omega)
theorem q_seen {σ μ : Mm} {i : Nat} (h : Rc i σ μ) (hi : i < 512) (x y : Int) : Oc i (F_A_seen x y σ) (F_M_seen x y μ) := (seen_rel h x y).up (by omega) (by omega)
theorem q_feed {σ μ : Mm} {i : Nat} (h : Rc i σ μ) (hi : i < 512) (x y z w m : Int) : Oc i (F_A_feed x y z w m σ) (F_M_feed x y z w m μ) := (feed_rel h x y z w m).up (by omega) (by omega)
theorem q_image {σ μ : Mm} {i : Nat} (h : Rc i σ μ) (hi : i < 512) : Oc i (F_A_image  σ) (F_M_image  μ) := (image_rel h ).up (by omega) (by omega)
theorem q_back {σ μ : Mm} {i : Nat} (h : Rc i σ μ) (hi : i < 512) : Oc i (F_A_back  σ) (F_M_back  μ) := (back_rel h ).up (by omega) (by omega)
theorem q_text {σ μ : Mm} {i : Nat} (h : Rc i σ μ) (hi : i < 512) : Oc i (F_A_text  σ) (F_M_text  μ) := (text_rel h ).up (by omega) (by omega)
theorem q_ofRow {σ μ : Mm} {i : Nat} (h : Rc i σ μ) (hi : i < 512) (x y : Int) : Oc i (F_A_ofRow x y σ) (F_M_ofRow x y μ) := (ofRow_rel h (by omega) (by omega) x y).up (by omega) (by omega)
theorem q_beside {σ μ : Mm} {i : Nat} (h : Rc i σ μ) (hi : i < 512) (x y : Int) : Oc i (F_A_beside x y σ) (F_M_beside x y μ) := (beside_rel h (by omega) (by omega) x y).up (by omega) (by omega)
theorem q_order {σ μ : Mm} {i : Nat} (h : Rc i σ μ) (hi : i < 512) (x : Int) : Oc i (F_A_order x σ) (F_M_order x μ) := (order_rel h (by omega) (by omega) x).up (by omega) (by omega)
theorem q_grouping {σ μ : Mm} {i : Nat} (h : Rc i σ μ) (hi : i < 512) (x : Int) : Oc i (F_A_grouping x σ) (F_M_grouping x μ) := (grouping_rel h (by omega) (by omega) x).up (by omega) (by omega)
theorem q_worth {σ μ : Mm} {i : Nat} (h : Rc i σ μ) (hi : i < 512) (x : Int) : Oc i (F_A_worth x σ) (F_M_worth x μ) := (worth_rel h (by omega) (by omega) x).up (by omega) (by omega)
theorem q_ring {σ μ : Mm} {i : Nat} (h : Rc i σ μ) (hi : i < 512) (x : Int) : Oc i (F_A_ring x σ) (F_M_ring x μ) := (ring_rel h (by omega) (by omega) x).up (by omega) (by omega)
theorem q_nearest {σ μ : Mm} {i : Nat} (h : Rc i σ μ) (hi : i < 512) (x : Int) : Oc i (F_A_nearest x σ) (F_M_nearest x μ) := (nearest_rel h (by omega) (by omega) x).up (by omega) (by omega)
theorem q_split {σ μ : Mm} {i : Nat} (h : Rc i σ μ) (hi : i < 512) (x y : Int) : Oc i (F_A_split x y σ) (F_M_split x y μ) := (split_rel h (by omega) (by omega) x y).up (by omega) (by omega)
theorem q_changed {σ μ : Mm} {i : Nat} (h : Rc i σ μ) (hi : i < 512) (x y : Int) : Oc i (F_A_changed x y σ) (F_M_changed x y μ) := (changed_rel h (by omega) (by omega) x y).up (by omega) (by omega)
theorem q_ordered {σ μ : Mm} {i : Nat} (h : Rc i σ μ) (hi : i < 512) (x y : Int) : Oc i (F_A_ordered x y σ) (F_M_ordered x y μ) := (ordered_rel h (by omega) (by omega) x y).up (by omega) (by omega)
theorem q_carried {σ μ : Mm} {i : Nat} (h : Rc i σ μ) (hi : i < 512) (x y z : Int) : Oc i (F_A_carried x y z σ) (F_M_carried x y z μ) := (carried_rel h (by omega) (by omega) x y z).up (by omega) (by omega)
theorem q_game {σ μ : Mm} {i : Nat} (h : Rc i σ μ) (hi : i < 512) (x y : Int) : Oc i (F_A_game x y σ) (F_M_game x y μ) := (game_rel h (by omega) (by omega) x y).up (by omega) (by omega)
theorem q_foretold {σ μ : Mm} {i : Nat} (h : Rc i σ μ) (hi : i < 512) (x y : Int) : Oc i (F_A_foretold x y σ) (F_M_foretold x y μ) := (foretold_rel h (by omega) (by omega) x y).up (by omega) (by omega)
theorem q_firstOff {σ μ : Mm} {i : Nat} (h : Rc i σ μ) (hi : i < 512) (x y : Int) : Oc i (F_A_firstOff x y σ) (F_M_firstOff x y μ) := (firstOff_rel h (by omega) (by omega) x y).up (by omega) (by omega)
theorem q_fits {σ μ : Mm} {i : Nat} (h : Rc i σ μ) (hi : i < 512) (x y z : Int) : Oc i (F_A_fits x y z σ) (F_M_fits x y z μ) := (fits_rel h (by omega) (by omega) x y z).up (by omega) (by omega)
theorem q_tells {σ μ : Mm} {i : Nat} (h : Rc i σ μ) (hi : i < 512) (x : Int) : Oc i (F_A_tells x σ) (F_M_tells x μ) := (tells_rel h (by omega) (by omega) x).up (by omega) (by omega)
theorem q_ledger {σ μ : Mm} {i : Nat} (h : Rc i σ μ) (hi : i < 512) (x y : Int) : Oc i (F_A_ledger x y σ) (F_M_ledger x y μ) := (ledger_rel h (by omega) (by omega) x y).up (by omega) (by omega)
theorem q_played {σ μ : Mm} {i : Nat} (h : Rc i σ μ) (hi : i < 512) (x : Int) : Oc i (F_A_played x σ) (F_M_played x μ) := (played_rel h (by omega) (by omega) (by omega) x).up (by omega) (by omega)
theorem q_reckon {σ μ : Mm} {i : Nat} (h : Rc i σ μ) (hi : i < 512) (x : Int) : Oc i (F_A_reckon x σ) (F_M_reckon x μ) := by
  obtain ⟨G, O, M, hN, hE⟩ := h
  exact (Op.now (R := 0) hE (by omega) (reckon_rel hN (by omega) (by omega) x)).up (by omega) (by omega)
theorem q_day {σ μ : Mm} {i : Nat} (h : Rc i σ μ) (hi : i < 512) (x : Int) (hx : r32 x) : Oc i (F_A_day x σ) (F_M_day x μ) := by
  obtain ⟨G, O, M, hN, hE⟩ := h
  exact (Op.now (R := 0) hE (by omega) (day_rel hN (by omega) (by omega) (by omega) hx)).up (by omega) (by omega)
theorem q_soothe {σ μ : Mm} {i : Nat} (h : Rc i σ μ) (hi : i < 512) (x y : Int) : Oc i (F_A_soothe x y σ) (F_M_soothe x y μ) := by
  obtain ⟨G, O, M, hN, hE⟩ := h
  exact (Op.now (R := 0) hE (by omega) (soothe_rel hN x y)).up (by omega) (by omega)
theorem q_turn {σ μ : Mm} {i : Nat} (h : Rc i σ μ) (hi : i < 512) (x y : Int) : Oc i (F_A_turn x y σ) (F_M_turn x y μ) := by
  obtain ⟨G, O, M, hN, hE⟩ := h
  exact (Op.now (R := 0) hE (by omega) (turn_rel hN x y)).up (by omega) (by omega)
theorem q_undo {σ μ : Mm} {i : Nat} (h : Rc i σ μ) (hi : i < 512) : Oc i (F_A_undo  σ) (F_M_undo  μ) := by
  obtain ⟨G, O, M, hN, hE⟩ := h
  exact (Op.now (R := 0) hE (by omega) (undo_rel hN )).up (by omega) (by omega)
theorem q_year {σ μ : Mm} {i : Nat} (h : Rc i σ μ) (hi : i < 512) (x y : Int) : Oc i (F_A_year x y σ) (F_M_year x y μ) := by
  obtain ⟨G, O, M, hN, hE⟩ := h
  exact (Op.now (R := 0) hE (by omega) (year_rel hN (by omega) (by omega) (by omega) x y)).up (by omega) (by omega)
theorem q_of {σ μ : Mm} {i : Nat} (h : Rc i σ μ) (x y : Int) : (∃ v, F_A_of x y σ = some v ∧ F_M_of x y μ = some v) ∧ Rc (i + 1) σ μ := ⟨of_rel h x y, h.w (by omega) (by omega)⟩
theorem q_about {σ μ : Mm} {i : Nat} (h : Rc i σ μ) (x : Int) : (∃ v, F_A_about x σ = some v ∧ F_M_about x μ = some v) ∧ Rc (i + 1) σ μ := ⟨about_rel h x, h.w (by omega) (by omega)⟩
theorem q_book {σ μ : Mm} {i : Nat} (h : Rc i σ μ) (x y : Int) : (∃ v, F_A_book x y σ = some v ∧ F_M_book x y μ = some v) ∧ Rc (i + 1) σ μ := ⟨book_rel h x y, h.w (by omega) (by omega)⟩
theorem q_fault {σ μ : Mm} {i : Nat} (h : Rc i σ μ) (x : Int) : (∃ v, F_A_fault x σ = some v ∧ F_M_fault x μ = some v) ∧ Rc (i + 1) σ μ := ⟨fault_rel h x, h.w (by omega) (by omega)⟩
