/-! more of the same -/
theorem dv_8 : ∀ j, j < 2 → defaultValue (tyX8 j) = vp_V [.int 0, .null] j := fun j hj => by rcases (show j = 0 ∨ j = 1 by omega) with rfl | rfl <;> rfl
theorem fg_RX11_163 : FG RX11 163 [11] 16 := ⟨"OneBeatsBothModel", "leastTurned", "I", m_819, (List.forall_mem_cons.mpr ⟨⟨RX11, TX11, 19, rfl, by decide, rfl, rfl, ux_11, Or.inl rfl⟩, (fun _ h => absurd h List.not_mem_nil)⟩)⟩
theorem fg_RX11_166 : FG RX11 166 [11] 17 := ⟨"OneBeatsBothModel", "leastPrice", "I", m_820, (List.forall_mem_cons.mpr ⟨⟨RX11, TX11, 19, rfl, by decide, rfl, rfl, ux_11, Or.inl rfl⟩, (fun _ h => absurd h List.not_mem_nil)⟩)⟩
theorem fp_RX11_163 : FP RX11 163 [11] 16 .int false := ⟨"OneBeatsBothModel", "leastTurned", "I", m_819, by decide +kernel, (List.forall_mem_cons.mpr ⟨⟨RX11, TX11, 19, tyX11, rfl, by decide, rfl, rfl, ux_11, Or.inl rfl, rfl, tyX11_ok, nmX11, (fun h => by cases h)⟩, (fun _ h => absurd h List.not_mem_nil)⟩)⟩
theorem fp_RX11_166 : FP RX11 166 [11] 17 .int false := ⟨"OneBeatsBothModel", "leastPrice", "I", m_820, by decide +kernel, (List.forall_mem_cons.mpr ⟨⟨RX11, TX11, 19, tyX11, rfl, by decide, rfl, rfl, ux_11, Or.inl rfl, rfl, tyX11_ok, nmX11, (fun h => by cases h)⟩, (fun _ h => absurd h List.not_mem_nil)⟩)⟩
theorem w_RX10_161 : CS RX10 161 yX10_leastToTurn cX10_leastToTurn 8 4 (some .int) := ⟨m_497, m_45, m_495, m_496, by decide +kernel⟩
theorem w_RX10_226 : CI RX10 226 yX8_init cX8_init 3 2 := ⟨m_628, m_57, m_626, m_627, rfl, by decide +kernel⟩
theorem w_RX10_291 : CV RX10 291 RX2 yX2_costOfTurn cX2_costOfTurn 4 1 (some .int) := ⟨m_501, m_47, m_498, m_499, m_500, by decide +kernel⟩
theorem w_RX10_59 : CS RX10 59 yX10_brokenPlace cX10_brokenPlace 5 1 (some .int) := ⟨m_172, m_45, m_170, m_171, by decide +kernel⟩
theorem w_RX10_74 : CV RX10 74 RX10 yX10_draftFollows cX10_draftFollows 4 3 (some .boolean) := ⟨m_195, m_45, m_192, m_194, m_5, by decide +kernel⟩
theorem w_RX11_169 : CV RX11 169 RX11 yX11_tries cX11_tries 9 3 none := ⟨m_1037, m_48, m_1034, m_1036, m_34, by decide +kernel⟩
theorem w_RX11_172 : CV RX11 172 RX11 yX11_putsRight cX11_putsRight 1 0 none := ⟨m_1033, m_48, m_1030, m_1032, m_33, by decide +kernel⟩
theorem w_RX11_183 : CS RX11 183 yX11_common cX11_common 4 2 (some .long) := ⟨m_1079, m_48, m_1077, m_1078, by decide +kernel⟩
theorem w_RX11_197 : CV RX11 197 RX11 yX11_weightNow cX11_weightNow 5 0 (some .long) := ⟨m_1076, m_48, m_1073, m_1075, m_39, by decide +kernel⟩
