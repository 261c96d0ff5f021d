theorem ft0 : ∀ j, j < Nf 0 → defaultValue (tyX0 j) = vp_V [.null, .null, .null, .null] j := by decide +kernel
theorem mi0 : MIc yX0_init cX0_init 2 1 := ⟨(lw_gm 118 (by decide +kernel) rfl), (lw_gm 437 (by decide +kernel) rfl), (lw_gm 438 (by decide +kernel) rfl), rfl, (by decide +kernel)⟩
theorem ft1 : ∀ j, j < Nf 1 → defaultValue (tyX1 j) = vp_V [.null, .null, .int 0, .null, .null, .null, .null, .null, .null, .int 0] j := by decide +kernel
theorem mi1 : MIc yX1_init cX1_init 2 1 := ⟨(lw_gm 117 (by decide +kernel) rfl), (lw_gm 397 (by decide +kernel) rfl), (lw_gm 398 (by decide +kernel) rfl), rfl, (by decide +kernel)⟩
theorem ft2 : ∀ j, j < Nf 2 → defaultValue (tyX2 j) = vp_V [.null, .null, .null, .null, .int 0] j := by decide +kernel
theorem mi2 : MIc yX2_init cX2_init 2 0 := ⟨(lw_gm 110 (by decide +kernel) rfl), (lw_gm 141 (by decide +kernel) rfl), (lw_gm 142 (by decide +kernel) rfl), rfl, (by decide +kernel)⟩
theorem ft3 : ∀ j, j < Nf 3 → defaultValue (tyX3 j) = vp_V [.null, .null, .null, .null, .null, .int 0, .int 0, .int 0, .int 0] j := by decide +kernel
theorem mi3 : MIc yX3_init cX3_init 1 0 := ⟨(lw_gm 119 (by decide +kernel) rfl), (lw_gm 458 (by decide +kernel) rfl), (lw_gm 459 (by decide +kernel) rfl), rfl, (by decide +kernel)⟩
theorem ft4 : ∀ j, j < Nf 4 → defaultValue (tyX4 j) = vp_V [.null, .null, .null, .null, .null, .int 0, .null] j := by decide +kernel
theorem mi4 : MIc yX4_init cX4_init 1 0 := ⟨(lw_gm 111 (by decide +kernel) rfl), (lw_gm 147 (by decide +kernel) rfl), (lw_gm 148 (by decide +kernel) rfl), rfl, (by decide +kernel)⟩
theorem ft5 : ∀ j, j < Nf 5 → defaultValue (tyX5 j) = vp_V [.null, .int 0, .int 0, .int 0, .int 0, .int 0, .int 0, .int 0, .int 0, .null, .int 0, .int 0, .int 0, .int 0, .int 0, .null] j := by decide +kernel
theorem mi5 : MIc yX5_init cX5_init 1 0 := ⟨(lw_gm 114 (by decide +kernel) rfl), (lw_gm 272 (by decide +kernel) rfl), (lw_gm 273 (by decide +kernel) rfl), rfl, (by decide +kernel)⟩
theorem ft6 : ∀ j, j < Nf 6 → defaultValue (tyX6 j) = vp_V [.null, .null, .null, .int 0, .int 0, .int 0, .int 0] j := by decide +kernel
theorem mi6 : MIc yX6_init cX6_init 1 0 := ⟨(lw_gm 112 (by decide +kernel) rfl), (lw_gm 179 (by decide +kernel) rfl), (lw_gm 180 (by decide +kernel) rfl), rfl, (by decide +kernel)⟩
theorem ft7 : ∀ j, j < Nf 7 → defaultValue (tyX7 j) = vp_V [.null, .null, .null, .null, .null, .null, .null, .null] j := by decide +kernel
theorem mi7 : MIc yX7_init cX7_init 2 1 := ⟨(lw_gm 116 (by decide +kernel) rfl), (lw_gm 365 (by decide +kernel) rfl), (lw_gm 366 (by decide +kernel) rfl), rfl, (by decide +kernel)⟩
theorem ft8 : ∀ j, j < Nf 8 → defaultValue (tyX8 j) = vp_V [.null, .int 0, .int 0] j := by decide +kernel
theorem mi8 : MIc yX8_init cX8_init 1 0 := ⟨(lw_gm 113 (by decide +kernel) rfl), (lw_gm 253 (by decide +kernel) rfl), (lw_gm 254 (by decide +kernel) rfl), rfl, (by decide +kernel)⟩
theorem ft9 : ∀ j, j < Nf 9 → defaultValue (tyX9 j) = vp_V [.null, .null, .null, .null, .int 0, .int 0] j := by decide +kernel
theorem mi9 : MIc yX9_init cX9_init 1 0 := ⟨(lw_gm 115 (by decide +kernel) rfl), (lw_gm 332 (by decide +kernel) rfl), (lw_gm 333 (by decide +kernel) rfl), rfl, (by decide +kernel)⟩
theorem ft10 : ∀ j, j < Nf 10 → defaultValue (tyX10 j) = vp_V [.null, .null, .null, .null, .null, .null, .null, .null, .int 0, .int 0] j := by decide +kernel
theorem mi10 : MIc yX10_init cX10_init 2 0 := ⟨(lw_gm 109 (by decide +kernel) rfl), (lw_gm 133 (by decide +kernel) rfl), (lw_gm 134 (by decide +kernel) rfl), rfl, (by decide +kernel)⟩
theorem ft11 : ∀ j, j < Nf 11 → defaultValue (tyX11 j) = vp_V [.null, .null, .null, .int 0, .int 0, .int 0, .null, .null, .null, .null, .null, .null, .null, .null, .int 0, .int 0, .int 0, .int 0, .int 0, .int 0, .int 0, .int 0, .int 0, .null, .null, .int 0, .null, .null, .int 0, .int 0, .int 0, .null, .null, .null, .null, .null, .int 0, .null, .null, .null, .null, .null, .null, .null, .null, .int 0, .int 0, .null, .int 0, .int 0, .null, .null, .null, .int 0, .null, .null, .null, .null, .null, .null, .null, .null, .int 0, .null, .null] j := by decide +kernel
theorem mi11 : MIc yX11_init cX11_init 2 0 := ⟨(lw_gm 121 (by decide +kernel) rfl), (lw_gm 1207 (by decide +kernel) rfl), (lw_gm 1208 (by decide +kernel) rfl), rfl, (by decide +kernel)⟩
