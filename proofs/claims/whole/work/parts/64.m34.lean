-- `draw` on both sides
theorem draw_rel {σ μ : Mm} {G O M : Law} {B R : Int} (h : Now σ μ G O M B R) {x : Int} (hx : 1 ≤ x ∧ x ≤ 12) : ∃ (v : Int) (s u : Mm), F_H_draw x σ = some (v, s) ∧ F_M_draw x μ = some (v, u) ∧ (0 ≤ v ∧ v < x) ∧ Now s u G O M B R ∧ FrC σ s ∧ FrM μ u := by
  have hok := h.ok
  have hy := hok.2.2.2.2
  have e42 : μ 201 182 = σ 3 42 := (h.snap.1 42 (by omega)).symm
  have v1 : ∀ (w : Int) j, st2 σ 3 42 w 3 j = if j = 42 then w else σ 3 j := fun w j => by simp only [st2_f, reduceIte]
  have t1 : ((σ 3 42 * 257) + 151).tmod 30241 = ((σ 3 42 * 257) + 151) % 30241 := Int.tmod_eq_emod_of_nonneg (by omega)
  have t2 : (σ 3 42).tmod x = σ 3 42 % x := Int.tmod_eq_emod_of_nonneg hy.1
  have b1 := Int.emod_nonneg (σ 3 42) (show x ≠ 0 by omega)
  have b2 := Int.emod_lt_of_pos (σ 3 42) (show 0 < x by omega)
  have b3 := Int.emod_nonneg ((σ 3 42 * 257) + 151) (show (30241 : Int) ≠ 0 by decide)
  have b4 := Int.emod_lt_of_pos ((σ 3 42 * 257) + 151) (show (0 : Int) < 30241 by decide)
  have hs := set_now h (k := 42) (v := ((σ 3 42 * 257) + 151) % 30241) (by omega) ⟨⟨fun j hj => ?_, fun j hj => ?_, fun j hj => ?_, fun j hj => ?_, ?_⟩, ?_, fun j hj => ?_, ?_⟩
  · refine ⟨σ 3 42 % x, _, _, ?_, ?_, ⟨b1, b2⟩, hs.1, hs.2.1, hs.2.2⟩
    · unfold F_H_draw
      simp only [bindM_eq]
      rw [if_pos hx.1, if_pos (show ¬ x = 0 by omega), t2, if_pos (show r32 (σ 3 42 % x) from ⟨by omega, by omega⟩), t1, if_pos (show r32 ((σ 3 42 * 257) + 151) from ⟨by omega, by omega⟩)]
    · unfold F_M_draw
      simp only [bindM_eq]
      rw [if_pos (show ¬ x = 0 by omega), e42, t2, t1, if_pos (show r32 ((σ 3 42 * 257) + 151) from ⟨by omega, by omega⟩), if_pos (show r32 (σ 3 42 % x) from ⟨by omega, by omega⟩)]
  · rw [v1, if_neg (by omega)]; exact hok.1.1 j hj
  · rw [v1, if_neg (by omega)]; exact hok.1.2.1 j hj
  · rw [v1, if_neg (by omega)]; exact hok.1.2.2.1 j hj
  · rw [v1, if_neg (by omega)]; exact hok.1.2.2.2.1 j hj
  · rw [v1, if_neg (by omega)]; exact hok.1.2.2.2.2
  · rw [v1, if_neg (by omega)]; exact hok.2.1
  · rw [v1, if_neg (by omega)]; exact hok.2.2.1 j hj
  · rw [v1, if_neg (by omega), v1, if_pos rfl]; exact ⟨hok.2.2.2.1, by omega, by omega⟩
