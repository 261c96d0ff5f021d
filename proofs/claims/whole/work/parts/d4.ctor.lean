theorem ft0 : ∀ j, j < Nf 0 → defaultValue (tyX0 j) = vp_V [.null, .null, .null, .null] j := by decide +kernel
theorem mi0 : MIc yX0_init cX0_init 2 1 := ⟨(lw_k1 10 rfl rfl), (lw_k2 89 rfl rfl), (lw_k2 90 rfl rfl), rfl, (by decide +kernel)⟩
theorem ft1 : ∀ j, j < Nf 1 → defaultValue (tyX1 j) = vp_V [.null, .null, .int 0, .null, .null, .null, .null, .null, .null, .int 0] j := by decide +kernel
theorem mi1 : MIc yX1_init cX1_init 2 1 := ⟨(lw_k1 9 rfl rfl), (lw_k2 49 rfl rfl), (lw_k2 50 rfl rfl), rfl, (by decide +kernel)⟩
theorem ft2 : ∀ j, j < Nf 2 → defaultValue (tyX2 j) = vp_V [.null, .null, .null, .null, .int 0] j := by decide +kernel
theorem mi2 : MIc yX2_init cX2_init 2 0 := ⟨(lw_k1 2 rfl rfl), (lw_k1 33 rfl rfl), (lw_k1 34 rfl rfl), rfl, (by decide +kernel)⟩
theorem ft3 : ∀ j, j < Nf 3 → defaultValue (tyX3 j) = vp_V [.null, .null, .null, .null, .null, .int 0, .int 0, .int 0, .int 0] j := by decide +kernel
theorem mi3 : MIc yX3_init cX3_init 1 0 := ⟨(lw_k1 11 rfl rfl), (lw_k2 110 rfl rfl), (lw_k2 111 rfl rfl), rfl, (by decide +kernel)⟩
theorem ft4 : ∀ j, j < Nf 4 → defaultValue (tyX4 j) = vp_V [.null, .null, .null, .null, .null, .int 0, .null] j := by decide +kernel
theorem mi4 : MIc yX4_init cX4_init 1 0 := ⟨(lw_k1 3 rfl rfl), (lw_k1 39 rfl rfl), (lw_k1 40 rfl rfl), rfl, (by decide +kernel)⟩
theorem ft5 : ∀ j, j < Nf 5 → defaultValue (tyX5 j) = vp_V [.null, .int 0, .int 0, .int 0, .int 0, .int 0, .int 0, .int 0, .int 0, .null, .int 0, .int 0, .int 0, .int 0, .int 0, .null] j := by decide +kernel
theorem mi5 : MIc yX5_init cX5_init 1 0 := ⟨(lw_k1 6 rfl rfl), (lw_k1 164 rfl rfl), (lw_k1 165 rfl rfl), rfl, (by decide +kernel)⟩
theorem ft6 : ∀ j, j < Nf 6 → defaultValue (tyX6 j) = vp_V [.null, .null, .null, .int 0, .int 0, .int 0, .int 0] j := by decide +kernel
theorem mi6 : MIc yX6_init cX6_init 1 0 := ⟨(lw_k1 4 rfl rfl), (lw_k1 71 rfl rfl), (lw_k1 72 rfl rfl), rfl, (by decide +kernel)⟩
theorem ft7 : ∀ j, j < Nf 7 → defaultValue (tyX7 j) = vp_V [.null, .null, .null, .null, .null, .null, .null, .null] j := by decide +kernel
theorem mi7 : MIc yX7_init cX7_init 2 1 := ⟨(lw_k1 8 rfl rfl), (lw_k2 17 rfl rfl), (lw_k2 18 rfl rfl), rfl, (by decide +kernel)⟩
theorem ft8 : ∀ j, j < Nf 8 → defaultValue (tyX8 j) = vp_V [.null, .int 0, .int 0] j := by decide +kernel
theorem mi8 : MIc yX8_init cX8_init 1 0 := ⟨(lw_k1 5 rfl rfl), (lw_k1 145 rfl rfl), (lw_k1 146 rfl rfl), rfl, (by decide +kernel)⟩
theorem ft9 : ∀ j, j < Nf 9 → defaultValue (tyX9 j) = vp_V [.null, .null, .null, .null, .int 0, .int 0] j := by decide +kernel
theorem mi9 : MIc yX9_init cX9_init 1 0 := ⟨(lw_k1 7 rfl rfl), (lw_k1 224 rfl rfl), (lw_k1 225 rfl rfl), rfl, (by decide +kernel)⟩
theorem ft10 : ∀ j, j < Nf 10 → defaultValue (tyX10 j) = vp_V [.null, .null, .null, .null, .null, .null, .null, .null, .int 0, .int 0] j := by decide +kernel
theorem mi10 : MIc yX10_init cX10_init 2 0 := ⟨(lw_k1 1 rfl rfl), (lw_k1 25 rfl rfl), (lw_k1 26 rfl rfl), rfl, (by decide +kernel)⟩
theorem ft11 : ∀ j, j < Nf 11 → defaultValue (tyX11 j) = vp_V [.null, .null, .null, .int 0, .int 0, .int 0, .null, .null, .null, .null, .null, .null, .null, .null, .int 0, .int 0, .int 0, .int 0, .int 0, .int 0, .int 0, .int 0, .int 0, .null, .null, .int 0, .null, .null, .int 0, .int 0, .int 0, .null, .null, .null, .null, .null, .int 0, .null, .null, .null, .null, .null, .null, .null, .null, .int 0, .int 0, .null, .int 0, .int 0, .null, .null, .null, .int 0, .null, .null, .null, .null, .null, .null, .null, .null, .int 0, .null, .null] j := by decide +kernel
theorem mi11 : MIc yX11_init cX11_init 2 0 := ⟨(lw_k1 13 rfl rfl), (lw_k5 138 rfl rfl), (lw_k5 139 rfl rfl), rfl, (by decide +kernel)⟩
