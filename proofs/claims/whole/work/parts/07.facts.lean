/-! what calls and fields need of the words (by program) -/
theorem ux_0 : ∀ w ∈ u_ws RX0 TX0 1, w ∈ WT := fun w h => wt_in ((by decide +kernel : ∀ w ∈ u_ws RX0 TX0 1, w ∈ lw_tbl) w h) ((by decide +kernel : ∀ w ∈ u_ws RX0 TX0 1, goodWord w = true) w h)
theorem ux_1 : ∀ w ∈ u_ws RX1 TX1 1, w ∈ WT := fun w h => wt_in ((by decide +kernel : ∀ w ∈ u_ws RX1 TX1 1, w ∈ lw_tbl) w h) ((by decide +kernel : ∀ w ∈ u_ws RX1 TX1 1, goodWord w = true) w h)
theorem ux_2 : ∀ w ∈ u_ws RX2 TX2 4, w ∈ WT := fun w h => wt_in ((by decide +kernel : ∀ w ∈ u_ws RX2 TX2 4, w ∈ lw_tbl) w h) ((by decide +kernel : ∀ w ∈ u_ws RX2 TX2 4, goodWord w = true) w h)
theorem ux_3 : ∀ w ∈ u_ws RX3 TX3 1, w ∈ WT := fun w h => wt_in ((by decide +kernel : ∀ w ∈ u_ws RX3 TX3 1, w ∈ lw_tbl) w h) ((by decide +kernel : ∀ w ∈ u_ws RX3 TX3 1, goodWord w = true) w h)
theorem ux_4 : ∀ w ∈ u_ws RX4 TX4 1, w ∈ WT := fun w h => wt_in ((by decide +kernel : ∀ w ∈ u_ws RX4 TX4 1, w ∈ lw_tbl) w h) ((by decide +kernel : ∀ w ∈ u_ws RX4 TX4 1, goodWord w = true) w h)
theorem ux_5 : ∀ w ∈ u_ws RX5 TX5 1, w ∈ WT := fun w h => wt_in ((by decide +kernel : ∀ w ∈ u_ws RX5 TX5 1, w ∈ lw_tbl) w h) ((by decide +kernel : ∀ w ∈ u_ws RX5 TX5 1, goodWord w = true) w h)
theorem ux_6 : ∀ w ∈ u_ws RX6 TX6 1, w ∈ WT := fun w h => wt_in ((by decide +kernel : ∀ w ∈ u_ws RX6 TX6 1, w ∈ lw_tbl) w h) ((by decide +kernel : ∀ w ∈ u_ws RX6 TX6 1, goodWord w = true) w h)
theorem ux_7 : ∀ w ∈ u_ws RX7 TX7 1, w ∈ WT := fun w h => wt_in ((by decide +kernel : ∀ w ∈ u_ws RX7 TX7 1, w ∈ lw_tbl) w h) ((by decide +kernel : ∀ w ∈ u_ws RX7 TX7 1, goodWord w = true) w h)
theorem ux_8 : ∀ w ∈ u_ws RX8 TX8 2, w ∈ WT := fun w h => wt_in ((by decide +kernel : ∀ w ∈ u_ws RX8 TX8 2, w ∈ lw_tbl) w h) ((by decide +kernel : ∀ w ∈ u_ws RX8 TX8 2, goodWord w = true) w h)
theorem ux_9 : ∀ w ∈ u_ws RX9 TX9 1, w ∈ WT := fun w h => wt_in ((by decide +kernel : ∀ w ∈ u_ws RX9 TX9 1, w ∈ lw_tbl) w h) ((by decide +kernel : ∀ w ∈ u_ws RX9 TX9 1, goodWord w = true) w h)
theorem ux_10 : ∀ w ∈ u_ws RX10 TX10 8, w ∈ WT := fun w h => wt_in ((by decide +kernel : ∀ w ∈ u_ws RX10 TX10 8, w ∈ lw_tbl) w h) ((by decide +kernel : ∀ w ∈ u_ws RX10 TX10 8, goodWord w = true) w h)
theorem ux_11 : ∀ w ∈ u_ws RX11 TX11 19, w ∈ WT := fun w h => wt_in ((by decide +kernel : ∀ w ∈ u_ws RX11 TX11 19, w ∈ lw_tbl) w h) ((by decide +kernel : ∀ w ∈ u_ws RX11 TX11 19, goodWord w = true) w h)
theorem dv_0 : ∀ j, j < 1 → defaultValue (tyX0 j) = vp_V [.int 0] j := fun j hj => by rcases (show j = 0 by omega) with rfl <;> rfl
theorem dv_1 : ∀ j, j < 1 → defaultValue (tyX1 j) = vp_V [.int 0] j := fun j hj => by rcases (show j = 0 by omega) with rfl <;> rfl
theorem dv_2 : ∀ j, j < 4 → defaultValue (tyX2 j) = vp_V [.null, .null, .int 0, .int 0] j := fun j hj => by rcases (show j = 0 ∨ j = 1 ∨ j = 2 ∨ j = 3 by omega) with rfl | rfl | rfl | rfl <;> rfl
theorem dv_3 : ∀ j, j < 1 → defaultValue (tyX3 j) = vp_V [.int 0] j := fun j hj => by rcases (show j = 0 by omega) with rfl <;> rfl
theorem dv_4 : ∀ j, j < 1 → defaultValue (tyX4 j) = vp_V [.int 0] j := fun j hj => by rcases (show j = 0 by omega) with rfl <;> rfl
theorem dv_5 : ∀ j, j < 1 → defaultValue (tyX5 j) = vp_V [.int 0] j := fun j hj => by rcases (show j = 0 by omega) with rfl <;> rfl
theorem dv_6 : ∀ j, j < 1 → defaultValue (tyX6 j) = vp_V [.int 0] j := fun j hj => by rcases (show j = 0 by omega) with rfl <;> rfl
theorem dv_7 : ∀ j, j < 1 → defaultValue (tyX7 j) = vp_V [.int 0] j := fun j hj => by rcases (show j = 0 by omega) with rfl <;> rfl
theorem dv_9 : ∀ j, j < 1 → defaultValue (tyX9 j) = vp_V [.int 0] j := fun j hj => by rcases (show j = 0 by omega) with rfl <;> rfl
theorem fg_RX10_12 : FG RX10 12 [10] 0 := ⟨"OneBeatsBoth", "plain", "LOneBeatsBoth$Player;", m_118, (List.forall_mem_cons.mpr ⟨⟨RX10, TX10, 8, rfl, by decide, rfl, rfl, ux_10, Or.inl rfl⟩, (fun _ h => absurd h List.not_mem_nil)⟩)⟩
theorem fg_RX10_23 : FG RX10 23 [10] 1 := ⟨"OneBeatsBoth", "now", "LOneBeatsBoth$League;", m_119, (List.forall_mem_cons.mpr ⟨⟨RX10, TX10, 8, rfl, by decide, rfl, rfl, ux_10, Or.inl rfl⟩, (fun _ h => absurd h List.not_mem_nil)⟩)⟩
theorem fg_RX10_27 : FG RX10 27 [10] 2 := ⟨"OneBeatsBoth", "draft", "LOneBeatsBoth$League;", m_120, (List.forall_mem_cons.mpr ⟨⟨RX10, TX10, 8, rfl, by decide, rfl, rfl, ux_10, Or.inl rfl⟩, (fun _ h => absurd h List.not_mem_nil)⟩)⟩
theorem fg_RX10_30 : FG RX10 30 [10] 3 := ⟨"OneBeatsBoth", "pictured", "LOneBeatsBoth$League;", m_121, (List.forall_mem_cons.mpr ⟨⟨RX10, TX10, 8, rfl, by decide, rfl, rfl, ux_10, Or.inl rfl⟩, (fun _ h => absurd h List.not_mem_nil)⟩)⟩
theorem fg_RX10_33 : FG RX10 33 [10] 4 := ⟨"OneBeatsBoth", "hasImage", "Z", m_122, (List.forall_mem_cons.mpr ⟨⟨RX10, TX10, 8, rfl, by decide, rfl, rfl, ux_10, Or.inl rfl⟩, (fun _ h => absurd h List.not_mem_nil)⟩)⟩
theorem fg_RX10_37 : FG RX10 37 [10] 5 := ⟨"OneBeatsBoth", "peopleOnShelves", "[LOneBeatsBoth$Player;", m_123, (List.forall_mem_cons.mpr ⟨⟨RX10, TX10, 8, rfl, by decide, rfl, rfl, ux_10, Or.inl rfl⟩, (fun _ h => absurd h List.not_mem_nil)⟩)⟩
theorem fg_RX10_43 : FG RX10 43 [10] 6 := ⟨"OneBeatsBoth", "rowsOnShelves", "[LOneBeatsBoth$Row;", m_124, (List.forall_mem_cons.mpr ⟨⟨RX10, TX10, 8, rfl, by decide, rfl, rfl, ux_10, Or.inl rfl⟩, (fun _ h => absurd h List.not_mem_nil)⟩)⟩
theorem fg_RX10_47 : FG RX10 47 [10] 7 := ⟨"OneBeatsBoth", "told", "[I", m_125, (List.forall_mem_cons.mpr ⟨⟨RX10, TX10, 8, rfl, by decide, rfl, rfl, ux_10, Or.inl rfl⟩, (fun _ h => absurd h List.not_mem_nil)⟩)⟩
theorem fg_RX10_85 : FG RX10 85 [2] 0 := ⟨"OneBeatsBoth$League", "people", "[LOneBeatsBoth$Player;", m_99, (List.forall_mem_cons.mpr ⟨⟨RX2, TX2, 4, rfl, by decide, rfl, rfl, ux_2, Or.inl rfl⟩, (fun _ h => absurd h List.not_mem_nil)⟩)⟩
theorem fg_RX10_91 : FG RX10 91 sP 0 := ⟨"OneBeatsBoth$Player", "figure", "I", m_80, (List.forall_mem_cons.mpr ⟨⟨RX0, TX0, 1, rfl, by decide, rfl, rfl, ux_0, Or.inl rfl⟩, (List.forall_mem_cons.mpr ⟨⟨RX1, TX1, 1, rfl, by decide, rfl, rfl, ux_1, Or.inl rfl⟩, (List.forall_mem_cons.mpr ⟨⟨RX3, TX3, 1, rfl, by decide, rfl, rfl, ux_3, Or.inl rfl⟩, (List.forall_mem_cons.mpr ⟨⟨RX4, TX4, 1, rfl, by decide, rfl, rfl, ux_4, Or.inl rfl⟩, (List.forall_mem_cons.mpr ⟨⟨RX5, TX5, 1, rfl, by decide, rfl, rfl, ux_5, Or.inl rfl⟩, (List.forall_mem_cons.mpr ⟨⟨RX6, TX6, 1, rfl, by decide, rfl, rfl, ux_6, Or.inl rfl⟩, (List.forall_mem_cons.mpr ⟨⟨RX7, TX7, 1, rfl, by decide, rfl, rfl, ux_7, Or.inl rfl⟩, (List.forall_mem_cons.mpr ⟨⟨RX9, TX9, 1, rfl, by decide, rfl, rfl, ux_9, Or.inl rfl⟩, (fun _ h => absurd h List.not_mem_nil)⟩)⟩)⟩)⟩)⟩)⟩)⟩)⟩)⟩
theorem fg_RX10_98 : FG RX10 98 [2] 1 := ⟨"OneBeatsBoth$League", "beaten", "[I", m_101, (List.forall_mem_cons.mpr ⟨⟨RX2, TX2, 4, rfl, by decide, rfl, rfl, ux_2, Or.inl rfl⟩, (fun _ h => absurd h List.not_mem_nil)⟩)⟩
theorem fg_RX10_111 : FG RX10 111 [2] 2 := ⟨"OneBeatsBoth$League", "size", "I", m_103, (List.forall_mem_cons.mpr ⟨⟨RX2, TX2, 4, rfl, by decide, rfl, rfl, ux_2, Or.inl rfl⟩, (fun _ h => absurd h List.not_mem_nil)⟩)⟩
theorem fg_RX10_130 : FG RX10 130 [2] 3 := ⟨"OneBeatsBoth$League", "law", "I", m_105, (List.forall_mem_cons.mpr ⟨⟨RX2, TX2, 4, rfl, by decide, rfl, rfl, ux_2, Or.inl rfl⟩, (fun _ h => absurd h List.not_mem_nil)⟩)⟩
theorem fg_RX10_250 : FG RX10 250 [8] 0 := ⟨"OneBeatsBoth$Row", "sort", "I", m_631, (List.forall_mem_cons.mpr ⟨⟨RX8, TX8, 2, rfl, by decide, rfl, rfl, ux_8, Or.inl rfl⟩, (fun _ h => absurd h List.not_mem_nil)⟩)⟩
theorem fg_RX10_253 : FG RX10 253 [8] 1 := ⟨"OneBeatsBoth$Row", "cells", "[I", m_633, (List.forall_mem_cons.mpr ⟨⟨RX8, TX8, 2, rfl, by decide, rfl, rfl, ux_8, Or.inl rfl⟩, (fun _ h => absurd h List.not_mem_nil)⟩)⟩
theorem fg_RX11_9 : FG RX11 9 [11] 0 := ⟨"OneBeatsBothModel", "s", "[I", m_803, (List.forall_mem_cons.mpr ⟨⟨RX11, TX11, 19, rfl, by decide, rfl, rfl, ux_11, Or.inl rfl⟩, (fun _ h => absurd h List.not_mem_nil)⟩)⟩
theorem fg_RX11_13 : FG RX11 13 [11] 1 := ⟨"OneBeatsBothModel", "image", "[I", m_804, (List.forall_mem_cons.mpr ⟨⟨RX11, TX11, 19, rfl, by decide, rfl, rfl, ux_11, Or.inl rfl⟩, (fun _ h => absurd h List.not_mem_nil)⟩)⟩
theorem fg_RX11_16 : FG RX11 16 [11] 2 := ⟨"OneBeatsBothModel", "read", "[I", m_805, (List.forall_mem_cons.mpr ⟨⟨RX11, TX11, 19, rfl, by decide, rfl, rfl, ux_11, Or.inl rfl⟩, (fun _ h => absurd h List.not_mem_nil)⟩)⟩
theorem fg_RX11_19 : FG RX11 19 [11] 3 := ⟨"OneBeatsBothModel", "mind", "[I", m_806, (List.forall_mem_cons.mpr ⟨⟨RX11, TX11, 19, rfl, by decide, rfl, rfl, ux_11, Or.inl rfl⟩, (fun _ h => absurd h List.not_mem_nil)⟩)⟩
theorem fg_RX11_22 : FG RX11 22 [11] 4 := ⟨"OneBeatsBothModel", "kept", "[I", m_807, (List.forall_mem_cons.mpr ⟨⟨RX11, TX11, 19, rfl, by decide, rfl, rfl, ux_11, Or.inl rfl⟩, (fun _ h => absurd h List.not_mem_nil)⟩)⟩
theorem fg_RX11_25 : FG RX11 25 [11] 5 := ⟨"OneBeatsBothModel", "sort", "[I", m_808, (List.forall_mem_cons.mpr ⟨⟨RX11, TX11, 19, rfl, by decide, rfl, rfl, ux_11, Or.inl rfl⟩, (fun _ h => absurd h List.not_mem_nil)⟩)⟩
theorem fg_RX11_28 : FG RX11 28 [11] 6 := ⟨"OneBeatsBothModel", "size", "[I", m_809, (List.forall_mem_cons.mpr ⟨⟨RX11, TX11, 19, rfl, by decide, rfl, rfl, ux_11, Or.inl rfl⟩, (fun _ h => absurd h List.not_mem_nil)⟩)⟩
theorem fg_RX11_31 : FG RX11 31 [11] 7 := ⟨"OneBeatsBothModel", "element", "[I", m_810, (List.forall_mem_cons.mpr ⟨⟨RX11, TX11, 19, rfl, by decide, rfl, rfl, ux_11, Or.inl rfl⟩, (fun _ h => absurd h List.not_mem_nil)⟩)⟩
theorem fg_RX11_34 : FG RX11 34 [11] 8 := ⟨"OneBeatsBothModel", "keptKind", "[I", m_811, (List.forall_mem_cons.mpr ⟨⟨RX11, TX11, 19, rfl, by decide, rfl, rfl, ux_11, Or.inl rfl⟩, (fun _ h => absurd h List.not_mem_nil)⟩)⟩
theorem fg_RX11_37 : FG RX11 37 [11] 9 := ⟨"OneBeatsBothModel", "keptFigure", "[I", m_812, (List.forall_mem_cons.mpr ⟨⟨RX11, TX11, 19, rfl, by decide, rfl, rfl, ux_11, Or.inl rfl⟩, (fun _ h => absurd h List.not_mem_nil)⟩)⟩
theorem fg_RX11_40 : FG RX11 40 [11] 15 := ⟨"OneBeatsBothModel", "numbers", "[I", m_818, (List.forall_mem_cons.mpr ⟨⟨RX11, TX11, 19, rfl, by decide, rfl, rfl, ux_11, Or.inl rfl⟩, (fun _ h => absurd h List.not_mem_nil)⟩)⟩
theorem fg_RX11_43 : FG RX11 43 [11] 11 := ⟨"OneBeatsBothModel", "thrown", "I", m_814, (List.forall_mem_cons.mpr ⟨⟨RX11, TX11, 19, rfl, by decide, rfl, rfl, ux_11, Or.inl rfl⟩, (fun _ h => absurd h List.not_mem_nil)⟩)⟩
theorem fg_RX11_94 : FG RX11 94 [11] 12 := ⟨"OneBeatsBothModel", "pos", "I", m_815, (List.forall_mem_cons.mpr ⟨⟨RX11, TX11, 19, rfl, by decide, rfl, rfl, ux_11, Or.inl rfl⟩, (fun _ h => absurd h List.not_mem_nil)⟩)⟩
theorem fg_RX11_97 : FG RX11 97 [11] 14 := ⟨"OneBeatsBothModel", "end", "I", m_817, (List.forall_mem_cons.mpr ⟨⟨RX11, TX11, 19, rfl, by decide, rfl, rfl, ux_11, Or.inl rfl⟩, (fun _ h => absurd h List.not_mem_nil)⟩)⟩
theorem fg_RX11_100 : FG RX11 100 [11] 13 := ⟨"OneBeatsBothModel", "base", "I", m_816, (List.forall_mem_cons.mpr ⟨⟨RX11, TX11, 19, rfl, by decide, rfl, rfl, ux_11, Or.inl rfl⟩, (fun _ h => absurd h List.not_mem_nil)⟩)⟩
theorem fg_RX11_226 : FG RX11 226 [11] 18 := ⟨"OneBeatsBothModel", "seed", "I", m_821, (List.forall_mem_cons.mpr ⟨⟨RX11, TX11, 19, rfl, by decide, rfl, rfl, ux_11, Or.inl rfl⟩, (fun _ h => absurd h List.not_mem_nil)⟩)⟩
theorem fg_RX11_240 : FG RX11 240 [11] 10 := ⟨"OneBeatsBothModel", "hasImage", "Z", m_813, (List.forall_mem_cons.mpr ⟨⟨RX11, TX11, 19, rfl, by decide, rfl, rfl, ux_11, Or.inl rfl⟩, (fun _ h => absurd h List.not_mem_nil)⟩)⟩
theorem fg_RX2_11 : FG RX2 11 [2] 0 := ⟨"OneBeatsBoth$League", "people", "[LOneBeatsBoth$Player;", m_98, (List.forall_mem_cons.mpr ⟨⟨RX2, TX2, 4, rfl, by decide, rfl, rfl, ux_2, Or.inl rfl⟩, (fun _ h => absurd h List.not_mem_nil)⟩)⟩
theorem fg_RX2_17 : FG RX2 17 [2] 1 := ⟨"OneBeatsBoth$League", "beaten", "[I", m_100, (List.forall_mem_cons.mpr ⟨⟨RX2, TX2, 4, rfl, by decide, rfl, rfl, ux_2, Or.inl rfl⟩, (fun _ h => absurd h List.not_mem_nil)⟩)⟩
theorem fg_RX2_21 : FG RX2 21 [2] 2 := ⟨"OneBeatsBoth$League", "size", "I", m_102, (List.forall_mem_cons.mpr ⟨⟨RX2, TX2, 4, rfl, by decide, rfl, rfl, ux_2, Or.inl rfl⟩, (fun _ h => absurd h List.not_mem_nil)⟩)⟩
theorem fg_RX2_25 : FG RX2 25 [2] 3 := ⟨"OneBeatsBoth$League", "law", "I", m_104, (List.forall_mem_cons.mpr ⟨⟨RX2, TX2, 4, rfl, by decide, rfl, rfl, ux_2, Or.inl rfl⟩, (fun _ h => absurd h List.not_mem_nil)⟩)⟩
theorem fg_RX3_7 : FG RX3 7 sP 0 := ⟨"OneBeatsBoth$Novice", "figure", "I", m_81, (List.forall_mem_cons.mpr ⟨⟨RX0, TX0, 1, rfl, by decide, rfl, rfl, ux_0, Or.inr m_82⟩, (List.forall_mem_cons.mpr ⟨⟨RX1, TX1, 1, rfl, by decide, rfl, rfl, ux_1, Or.inr m_82⟩, (List.forall_mem_cons.mpr ⟨⟨RX3, TX3, 1, rfl, by decide, rfl, rfl, ux_3, Or.inr m_82⟩, (List.forall_mem_cons.mpr ⟨⟨RX4, TX4, 1, rfl, by decide, rfl, rfl, ux_4, Or.inr m_82⟩, (List.forall_mem_cons.mpr ⟨⟨RX5, TX5, 1, rfl, by decide, rfl, rfl, ux_5, Or.inr m_82⟩, (List.forall_mem_cons.mpr ⟨⟨RX6, TX6, 1, rfl, by decide, rfl, rfl, ux_6, Or.inr m_82⟩, (List.forall_mem_cons.mpr ⟨⟨RX7, TX7, 1, rfl, by decide, rfl, rfl, ux_7, Or.inr m_82⟩, (List.forall_mem_cons.mpr ⟨⟨RX9, TX9, 1, rfl, by decide, rfl, rfl, ux_9, Or.inr m_82⟩, (fun _ h => absurd h List.not_mem_nil)⟩)⟩)⟩)⟩)⟩)⟩)⟩)⟩)⟩
theorem fg_RX4_11 : FG RX4 11 sP 0 := ⟨"OneBeatsBoth$Nuisance", "figure", "I", m_83, (List.forall_mem_cons.mpr ⟨⟨RX0, TX0, 1, rfl, by decide, rfl, rfl, ux_0, Or.inr m_84⟩, (List.forall_mem_cons.mpr ⟨⟨RX1, TX1, 1, rfl, by decide, rfl, rfl, ux_1, Or.inr m_84⟩, (List.forall_mem_cons.mpr ⟨⟨RX3, TX3, 1, rfl, by decide, rfl, rfl, ux_3, Or.inr m_84⟩, (List.forall_mem_cons.mpr ⟨⟨RX4, TX4, 1, rfl, by decide, rfl, rfl, ux_4, Or.inr m_84⟩, (List.forall_mem_cons.mpr ⟨⟨RX5, TX5, 1, rfl, by decide, rfl, rfl, ux_5, Or.inr m_84⟩, (List.forall_mem_cons.mpr ⟨⟨RX6, TX6, 1, rfl, by decide, rfl, rfl, ux_6, Or.inr m_84⟩, (List.forall_mem_cons.mpr ⟨⟨RX7, TX7, 1, rfl, by decide, rfl, rfl, ux_7, Or.inr m_84⟩, (List.forall_mem_cons.mpr ⟨⟨RX9, TX9, 1, rfl, by decide, rfl, rfl, ux_9, Or.inr m_84⟩, (fun _ h => absurd h List.not_mem_nil)⟩)⟩)⟩)⟩)⟩)⟩)⟩)⟩)⟩
theorem fg_RX6_7 : FG RX6 7 sP 0 := ⟨"OneBeatsBoth$Player", "figure", "I", m_79, (List.forall_mem_cons.mpr ⟨⟨RX0, TX0, 1, rfl, by decide, rfl, rfl, ux_0, Or.inl rfl⟩, (List.forall_mem_cons.mpr ⟨⟨RX1, TX1, 1, rfl, by decide, rfl, rfl, ux_1, Or.inl rfl⟩, (List.forall_mem_cons.mpr ⟨⟨RX3, TX3, 1, rfl, by decide, rfl, rfl, ux_3, Or.inl rfl⟩, (List.forall_mem_cons.mpr ⟨⟨RX4, TX4, 1, rfl, by decide, rfl, rfl, ux_4, Or.inl rfl⟩, (List.forall_mem_cons.mpr ⟨⟨RX5, TX5, 1, rfl, by decide, rfl, rfl, ux_5, Or.inl rfl⟩, (List.forall_mem_cons.mpr ⟨⟨RX6, TX6, 1, rfl, by decide, rfl, rfl, ux_6, Or.inl rfl⟩, (List.forall_mem_cons.mpr ⟨⟨RX7, TX7, 1, rfl, by decide, rfl, rfl, ux_7, Or.inl rfl⟩, (List.forall_mem_cons.mpr ⟨⟨RX9, TX9, 1, rfl, by decide, rfl, rfl, ux_9, Or.inl rfl⟩, (fun _ h => absurd h List.not_mem_nil)⟩)⟩)⟩)⟩)⟩)⟩)⟩)⟩)⟩
theorem fg_RX8_7 : FG RX8 7 [8] 0 := ⟨"OneBeatsBoth$Row", "sort", "I", m_630, (List.forall_mem_cons.mpr ⟨⟨RX8, TX8, 2, rfl, by decide, rfl, rfl, ux_8, Or.inl rfl⟩, (fun _ h => absurd h List.not_mem_nil)⟩)⟩
theorem fg_RX8_13 : FG RX8 13 [8] 1 := ⟨"OneBeatsBoth$Row", "cells", "[I", m_632, (List.forall_mem_cons.mpr ⟨⟨RX8, TX8, 2, rfl, by decide, rfl, rfl, ux_8, Or.inl rfl⟩, (fun _ h => absurd h List.not_mem_nil)⟩)⟩
theorem fp_RX10_12 : FP RX10 12 [10] 0 (.object "OneBeatsBoth$Player") true := ⟨"OneBeatsBoth", "plain", "LOneBeatsBoth$Player;", m_118, by decide +kernel, (List.forall_mem_cons.mpr ⟨⟨RX10, TX10, 8, tyX10, rfl, by decide, rfl, rfl, ux_10, Or.inl rfl, rfl, tyX10_ok, nmX10, (fun _ => rfl)⟩, (fun _ h => absurd h List.not_mem_nil)⟩)⟩
theorem fp_RX10_23 : FP RX10 23 [10] 1 (.object "OneBeatsBoth$League") true := ⟨"OneBeatsBoth", "now", "LOneBeatsBoth$League;", m_119, by decide +kernel, (List.forall_mem_cons.mpr ⟨⟨RX10, TX10, 8, tyX10, rfl, by decide, rfl, rfl, ux_10, Or.inl rfl, rfl, tyX10_ok, nmX10, (fun _ => rfl)⟩, (fun _ h => absurd h List.not_mem_nil)⟩)⟩
theorem fp_RX10_27 : FP RX10 27 [10] 2 (.object "OneBeatsBoth$League") true := ⟨"OneBeatsBoth", "draft", "LOneBeatsBoth$League;", m_120, by decide +kernel, (List.forall_mem_cons.mpr ⟨⟨RX10, TX10, 8, tyX10, rfl, by decide, rfl, rfl, ux_10, Or.inl rfl, rfl, tyX10_ok, nmX10, (fun _ => rfl)⟩, (fun _ h => absurd h List.not_mem_nil)⟩)⟩
theorem fp_RX10_30 : FP RX10 30 [10] 3 (.object "OneBeatsBoth$League") true := ⟨"OneBeatsBoth", "pictured", "LOneBeatsBoth$League;", m_121, by decide +kernel, (List.forall_mem_cons.mpr ⟨⟨RX10, TX10, 8, tyX10, rfl, by decide, rfl, rfl, ux_10, Or.inl rfl, rfl, tyX10_ok, nmX10, (fun _ => rfl)⟩, (fun _ h => absurd h List.not_mem_nil)⟩)⟩
theorem fp_RX10_33 : FP RX10 33 [10] 4 .boolean false := ⟨"OneBeatsBoth", "hasImage", "Z", m_122, by decide +kernel, (List.forall_mem_cons.mpr ⟨⟨RX10, TX10, 8, tyX10, rfl, by decide, rfl, rfl, ux_10, Or.inl rfl, rfl, tyX10_ok, nmX10, (fun h => by cases h)⟩, (fun _ h => absurd h List.not_mem_nil)⟩)⟩
theorem fp_RX10_37 : FP RX10 37 [10] 5 (.array (.object "OneBeatsBoth$Player")) true := ⟨"OneBeatsBoth", "peopleOnShelves", "[LOneBeatsBoth$Player;", m_123, by decide +kernel, (List.forall_mem_cons.mpr ⟨⟨RX10, TX10, 8, tyX10, rfl, by decide, rfl, rfl, ux_10, Or.inl rfl, rfl, tyX10_ok, nmX10, (fun _ => rfl)⟩, (fun _ h => absurd h List.not_mem_nil)⟩)⟩
theorem fp_RX10_43 : FP RX10 43 [10] 6 (.array (.object "OneBeatsBoth$Row")) true := ⟨"OneBeatsBoth", "rowsOnShelves", "[LOneBeatsBoth$Row;", m_124, by decide +kernel, (List.forall_mem_cons.mpr ⟨⟨RX10, TX10, 8, tyX10, rfl, by decide, rfl, rfl, ux_10, Or.inl rfl, rfl, tyX10_ok, nmX10, (fun _ => rfl)⟩, (fun _ h => absurd h List.not_mem_nil)⟩)⟩
theorem fp_RX10_47 : FP RX10 47 [10] 7 (.array .int) true := ⟨"OneBeatsBoth", "told", "[I", m_125, by decide +kernel, (List.forall_mem_cons.mpr ⟨⟨RX10, TX10, 8, tyX10, rfl, by decide, rfl, rfl, ux_10, Or.inl rfl, rfl, tyX10_ok, nmX10, (fun _ => rfl)⟩, (fun _ h => absurd h List.not_mem_nil)⟩)⟩
theorem fp_RX10_111 : FP RX10 111 [2] 2 .int false := ⟨"OneBeatsBoth$League", "size", "I", m_103, by decide +kernel, (List.forall_mem_cons.mpr ⟨⟨RX2, TX2, 4, tyX2, rfl, by decide, rfl, rfl, ux_2, Or.inl rfl, rfl, tyX2_ok, nmX2, (fun h => by cases h)⟩, (fun _ h => absurd h List.not_mem_nil)⟩)⟩
theorem fp_RX10_130 : FP RX10 130 [2] 3 .int false := ⟨"OneBeatsBoth$League", "law", "I", m_105, by decide +kernel, (List.forall_mem_cons.mpr ⟨⟨RX2, TX2, 4, tyX2, rfl, by decide, rfl, rfl, ux_2, Or.inl rfl, rfl, tyX2_ok, nmX2, (fun h => by cases h)⟩, (fun _ h => absurd h List.not_mem_nil)⟩)⟩
theorem fp_RX11_9 : FP RX11 9 [11] 0 (.array .int) true := ⟨"OneBeatsBothModel", "s", "[I", m_803, by decide +kernel, (List.forall_mem_cons.mpr ⟨⟨RX11, TX11, 19, tyX11, rfl, by decide, rfl, rfl, ux_11, Or.inl rfl, rfl, tyX11_ok, nmX11, (fun _ => rfl)⟩, (fun _ h => absurd h List.not_mem_nil)⟩)⟩
theorem fp_RX11_13 : FP RX11 13 [11] 1 (.array .int) true := ⟨"OneBeatsBothModel", "image", "[I", m_804, by decide +kernel, (List.forall_mem_cons.mpr ⟨⟨RX11, TX11, 19, tyX11, rfl, by decide, rfl, rfl, ux_11, Or.inl rfl, rfl, tyX11_ok, nmX11, (fun _ => rfl)⟩, (fun _ h => absurd h List.not_mem_nil)⟩)⟩
theorem fp_RX11_16 : FP RX11 16 [11] 2 (.array .int) true := ⟨"OneBeatsBothModel", "read", "[I", m_805, by decide +kernel, (List.forall_mem_cons.mpr ⟨⟨RX11, TX11, 19, tyX11, rfl, by decide, rfl, rfl, ux_11, Or.inl rfl, rfl, tyX11_ok, nmX11, (fun _ => rfl)⟩, (fun _ h => absurd h List.not_mem_nil)⟩)⟩
theorem fp_RX11_19 : FP RX11 19 [11] 3 (.array .int) true := ⟨"OneBeatsBothModel", "mind", "[I", m_806, by decide +kernel, (List.forall_mem_cons.mpr ⟨⟨RX11, TX11, 19, tyX11, rfl, by decide, rfl, rfl, ux_11, Or.inl rfl, rfl, tyX11_ok, nmX11, (fun _ => rfl)⟩, (fun _ h => absurd h List.not_mem_nil)⟩)⟩
theorem fp_RX11_22 : FP RX11 22 [11] 4 (.array .int) true := ⟨"OneBeatsBothModel", "kept", "[I", m_807, by decide +kernel, (List.forall_mem_cons.mpr ⟨⟨RX11, TX11, 19, tyX11, rfl, by decide, rfl, rfl, ux_11, Or.inl rfl, rfl, tyX11_ok, nmX11, (fun _ => rfl)⟩, (fun _ h => absurd h List.not_mem_nil)⟩)⟩
theorem fp_RX11_25 : FP RX11 25 [11] 5 (.array .int) true := ⟨"OneBeatsBothModel", "sort", "[I", m_808, by decide +kernel, (List.forall_mem_cons.mpr ⟨⟨RX11, TX11, 19, tyX11, rfl, by decide, rfl, rfl, ux_11, Or.inl rfl, rfl, tyX11_ok, nmX11, (fun _ => rfl)⟩, (fun _ h => absurd h List.not_mem_nil)⟩)⟩
theorem fp_RX11_28 : FP RX11 28 [11] 6 (.array .int) true := ⟨"OneBeatsBothModel", "size", "[I", m_809, by decide +kernel, (List.forall_mem_cons.mpr ⟨⟨RX11, TX11, 19, tyX11, rfl, by decide, rfl, rfl, ux_11, Or.inl rfl, rfl, tyX11_ok, nmX11, (fun _ => rfl)⟩, (fun _ h => absurd h List.not_mem_nil)⟩)⟩
theorem fp_RX11_31 : FP RX11 31 [11] 7 (.array .int) true := ⟨"OneBeatsBothModel", "element", "[I", m_810, by decide +kernel, (List.forall_mem_cons.mpr ⟨⟨RX11, TX11, 19, tyX11, rfl, by decide, rfl, rfl, ux_11, Or.inl rfl, rfl, tyX11_ok, nmX11, (fun _ => rfl)⟩, (fun _ h => absurd h List.not_mem_nil)⟩)⟩
theorem fp_RX11_34 : FP RX11 34 [11] 8 (.array .int) true := ⟨"OneBeatsBothModel", "keptKind", "[I", m_811, by decide +kernel, (List.forall_mem_cons.mpr ⟨⟨RX11, TX11, 19, tyX11, rfl, by decide, rfl, rfl, ux_11, Or.inl rfl, rfl, tyX11_ok, nmX11, (fun _ => rfl)⟩, (fun _ h => absurd h List.not_mem_nil)⟩)⟩
theorem fp_RX11_37 : FP RX11 37 [11] 9 (.array .int) true := ⟨"OneBeatsBothModel", "keptFigure", "[I", m_812, by decide +kernel, (List.forall_mem_cons.mpr ⟨⟨RX11, TX11, 19, tyX11, rfl, by decide, rfl, rfl, ux_11, Or.inl rfl, rfl, tyX11_ok, nmX11, (fun _ => rfl)⟩, (fun _ h => absurd h List.not_mem_nil)⟩)⟩
theorem fp_RX11_40 : FP RX11 40 [11] 15 (.array .int) true := ⟨"OneBeatsBothModel", "numbers", "[I", m_818, by decide +kernel, (List.forall_mem_cons.mpr ⟨⟨RX11, TX11, 19, tyX11, rfl, by decide, rfl, rfl, ux_11, Or.inl rfl, rfl, tyX11_ok, nmX11, (fun _ => rfl)⟩, (fun _ h => absurd h List.not_mem_nil)⟩)⟩
theorem fp_RX11_43 : FP RX11 43 [11] 11 .int false := ⟨"OneBeatsBothModel", "thrown", "I", m_814, by decide +kernel, (List.forall_mem_cons.mpr ⟨⟨RX11, TX11, 19, tyX11, rfl, by decide, rfl, rfl, ux_11, Or.inl rfl, rfl, tyX11_ok, nmX11, (fun h => by cases h)⟩, (fun _ h => absurd h List.not_mem_nil)⟩)⟩
theorem fp_RX11_94 : FP RX11 94 [11] 12 .int false := ⟨"OneBeatsBothModel", "pos", "I", m_815, by decide +kernel, (List.forall_mem_cons.mpr ⟨⟨RX11, TX11, 19, tyX11, rfl, by decide, rfl, rfl, ux_11, Or.inl rfl, rfl, tyX11_ok, nmX11, (fun h => by cases h)⟩, (fun _ h => absurd h List.not_mem_nil)⟩)⟩
theorem fp_RX11_97 : FP RX11 97 [11] 14 .int false := ⟨"OneBeatsBothModel", "end", "I", m_817, by decide +kernel, (List.forall_mem_cons.mpr ⟨⟨RX11, TX11, 19, tyX11, rfl, by decide, rfl, rfl, ux_11, Or.inl rfl, rfl, tyX11_ok, nmX11, (fun h => by cases h)⟩, (fun _ h => absurd h List.not_mem_nil)⟩)⟩
theorem fp_RX11_100 : FP RX11 100 [11] 13 .int false := ⟨"OneBeatsBothModel", "base", "I", m_816, by decide +kernel, (List.forall_mem_cons.mpr ⟨⟨RX11, TX11, 19, tyX11, rfl, by decide, rfl, rfl, ux_11, Or.inl rfl, rfl, tyX11_ok, nmX11, (fun h => by cases h)⟩, (fun _ h => absurd h List.not_mem_nil)⟩)⟩
theorem fp_RX11_226 : FP RX11 226 [11] 18 .int false := ⟨"OneBeatsBothModel", "seed", "I", m_821, by decide +kernel, (List.forall_mem_cons.mpr ⟨⟨RX11, TX11, 19, tyX11, rfl, by decide, rfl, rfl, ux_11, Or.inl rfl, rfl, tyX11_ok, nmX11, (fun h => by cases h)⟩, (fun _ h => absurd h List.not_mem_nil)⟩)⟩
theorem fp_RX11_240 : FP RX11 240 [11] 10 .boolean false := ⟨"OneBeatsBothModel", "hasImage", "Z", m_813, by decide +kernel, (List.forall_mem_cons.mpr ⟨⟨RX11, TX11, 19, tyX11, rfl, by decide, rfl, rfl, ux_11, Or.inl rfl, rfl, tyX11_ok, nmX11, (fun h => by cases h)⟩, (fun _ h => absurd h List.not_mem_nil)⟩)⟩
theorem fp_RX2_11 : FP RX2 11 [2] 0 (.array (.object "OneBeatsBoth$Player")) true := ⟨"OneBeatsBoth$League", "people", "[LOneBeatsBoth$Player;", m_98, by decide +kernel, (List.forall_mem_cons.mpr ⟨⟨RX2, TX2, 4, tyX2, rfl, by decide, rfl, rfl, ux_2, Or.inl rfl, rfl, tyX2_ok, nmX2, (fun _ => rfl)⟩, (fun _ h => absurd h List.not_mem_nil)⟩)⟩
theorem fp_RX2_17 : FP RX2 17 [2] 1 (.array .int) true := ⟨"OneBeatsBoth$League", "beaten", "[I", m_100, by decide +kernel, (List.forall_mem_cons.mpr ⟨⟨RX2, TX2, 4, tyX2, rfl, by decide, rfl, rfl, ux_2, Or.inl rfl, rfl, tyX2_ok, nmX2, (fun _ => rfl)⟩, (fun _ h => absurd h List.not_mem_nil)⟩)⟩
theorem fp_RX2_21 : FP RX2 21 [2] 2 .int false := ⟨"OneBeatsBoth$League", "size", "I", m_102, by decide +kernel, (List.forall_mem_cons.mpr ⟨⟨RX2, TX2, 4, tyX2, rfl, by decide, rfl, rfl, ux_2, Or.inl rfl, rfl, tyX2_ok, nmX2, (fun h => by cases h)⟩, (fun _ h => absurd h List.not_mem_nil)⟩)⟩
theorem fp_RX2_25 : FP RX2 25 [2] 3 .int false := ⟨"OneBeatsBoth$League", "law", "I", m_104, by decide +kernel, (List.forall_mem_cons.mpr ⟨⟨RX2, TX2, 4, tyX2, rfl, by decide, rfl, rfl, ux_2, Or.inl rfl, rfl, tyX2_ok, nmX2, (fun h => by cases h)⟩, (fun _ h => absurd h List.not_mem_nil)⟩)⟩
theorem fp_RX6_7 : FP RX6 7 sP 0 .int true := ⟨"OneBeatsBoth$Player", "figure", "I", m_79, by decide +kernel, (List.forall_mem_cons.mpr ⟨⟨RX0, TX0, 1, tyX0, rfl, by decide, rfl, rfl, ux_0, Or.inl rfl, rfl, tyX0_ok, nmX0, (fun _ => rfl)⟩, (List.forall_mem_cons.mpr ⟨⟨RX1, TX1, 1, tyX1, rfl, by decide, rfl, rfl, ux_1, Or.inl rfl, rfl, tyX1_ok, nmX1, (fun _ => rfl)⟩, (List.forall_mem_cons.mpr ⟨⟨RX3, TX3, 1, tyX3, rfl, by decide, rfl, rfl, ux_3, Or.inl rfl, rfl, tyX3_ok, nmX3, (fun _ => rfl)⟩, (List.forall_mem_cons.mpr ⟨⟨RX4, TX4, 1, tyX4, rfl, by decide, rfl, rfl, ux_4, Or.inl rfl, rfl, tyX4_ok, nmX4, (fun _ => rfl)⟩, (List.forall_mem_cons.mpr ⟨⟨RX5, TX5, 1, tyX5, rfl, by decide, rfl, rfl, ux_5, Or.inl rfl, rfl, tyX5_ok, nmX5, (fun _ => rfl)⟩, (List.forall_mem_cons.mpr ⟨⟨RX6, TX6, 1, tyX6, rfl, by decide, rfl, rfl, ux_6, Or.inl rfl, rfl, tyX6_ok, nmX6, (fun _ => rfl)⟩, (List.forall_mem_cons.mpr ⟨⟨RX7, TX7, 1, tyX7, rfl, by decide, rfl, rfl, ux_7, Or.inl rfl, rfl, tyX7_ok, nmX7, (fun _ => rfl)⟩, (List.forall_mem_cons.mpr ⟨⟨RX9, TX9, 1, tyX9, rfl, by decide, rfl, rfl, ux_9, Or.inl rfl, rfl, tyX9_ok, nmX9, (fun _ => rfl)⟩, (fun _ h => absurd h List.not_mem_nil)⟩)⟩)⟩)⟩)⟩)⟩)⟩)⟩)⟩
theorem fp_RX8_7 : FP RX8 7 [8] 0 .int true := ⟨"OneBeatsBoth$Row", "sort", "I", m_630, by decide +kernel, (List.forall_mem_cons.mpr ⟨⟨RX8, TX8, 2, tyX8, rfl, by decide, rfl, rfl, ux_8, Or.inl rfl, rfl, tyX8_ok, nmX8, (fun _ => rfl)⟩, (fun _ h => absurd h List.not_mem_nil)⟩)⟩
theorem fp_RX8_13 : FP RX8 13 [8] 1 (.array .int) true := ⟨"OneBeatsBoth$Row", "cells", "[I", m_632, by decide +kernel, (List.forall_mem_cons.mpr ⟨⟨RX8, TX8, 2, tyX8, rfl, by decide, rfl, rfl, ux_8, Or.inl rfl, rfl, tyX8_ok, nmX8, (fun _ => rfl)⟩, (fun _ h => absurd h List.not_mem_nil)⟩)⟩
theorem cc_RX10_256 : CC RX10 256 := ⟨m_652, m_654, m_653, m_63⟩
theorem ra_ok : ∀ b, RA b := fun b => by
  cases b
  · exact (List.forall_mem_cons.mpr ⟨⟨_, rfl, Or.inl n_1192⟩, (List.forall_mem_cons.mpr ⟨⟨_, rfl, Or.inl n_1188⟩, (List.forall_mem_cons.mpr ⟨⟨_, rfl, Or.inl n_1190⟩, (List.forall_mem_cons.mpr ⟨⟨_, rfl, Or.inl n_1186⟩, (List.forall_mem_cons.mpr ⟨⟨_, rfl, Or.inl n_1187⟩, (List.forall_mem_cons.mpr ⟨⟨_, rfl, Or.inr rfl⟩, (List.forall_mem_cons.mpr ⟨⟨_, rfl, Or.inl n_1191⟩, (List.forall_mem_cons.mpr ⟨⟨_, rfl, Or.inl n_1189⟩, (fun _ h => absurd h List.not_mem_nil)⟩)⟩)⟩)⟩)⟩)⟩)⟩)⟩)
  · exact (List.forall_mem_cons.mpr ⟨⟨_, rfl, Or.inr rfl⟩, (fun _ h => absurd h List.not_mem_nil)⟩)
theorem w_RX0_1 : CI RX0 1 yX6_init cX6_init 2 1 := ⟨m_77, m_46, m_255, m_76, rfl, by decide +kernel⟩
theorem w_RX0_11 : CX RX0 11 yX6_cost cX6_cost 1 0 (some .int) := ⟨m_401, m_46, m_376, m_370, m_372, m_257, by decide +kernel⟩
theorem w_RX0_7 : CX RX0 7 yX6_skill cX6_skill 1 0 (some .int) := ⟨m_337, m_46, m_319, m_313, m_315, m_257, by decide +kernel⟩
theorem w_RX10_101 : CV RX10 101 RX2 yX2_counting cX2_counting 3 0 (some .int) := ⟨m_341, m_47, m_338, m_339, m_340, by decide +kernel⟩
theorem w_RX10_107 : CV RX10 107 RX10 yX10_personOn cX10_personOn 2 1 (some (.object "OneBeatsBoth$Player")) := ⟨m_169, m_45, m_166, m_168, m_4, by decide +kernel⟩
theorem w_RX10_113 : CV RX10 113 RX2 yX2_seat cX2_seat 3 1 none := ⟨m_261, m_47, m_258, m_259, m_260, by decide +kernel⟩
theorem w_RX10_116 : CV RX10 116 RX2 yX2_hasBoth cX2_hasBoth 3 2 (some .boolean) := ⟨m_265, m_47, m_262, m_263, m_264, by decide +kernel⟩
theorem w_RX10_120 : CV RX10 120 RX2 yX2_hasBeaten cX2_hasBeaten 3 2 (some .boolean) := ⟨m_413, m_47, m_410, m_411, m_412, by decide +kernel⟩
theorem w_RX10_123 : CV RX10 123 RX2 yX2_win cX2_win 3 2 none := ⟨m_273, m_47, m_270, m_271, m_272, by decide +kernel⟩
theorem w_RX10_127 : CS RX10 127 yX10_isLaw cX10_isLaw 1 1 (some .boolean) := ⟨m_276, m_45, m_274, m_275, by decide +kernel⟩
theorem w_RX10_133 : CV RX10 133 RX2 yX2_isLawful cX2_isLawful 1 0 (some .boolean) := ⟨m_425, m_47, m_422, m_423, m_424, by decide +kernel⟩
theorem w_RX10_137 : CV RX10 137 RX2 yX2_mastersAmong cX2_mastersAmong 4 3 (some .int) := ⟨m_434, m_47, m_443, m_432, m_433, by decide +kernel⟩
theorem w_RX10_141 : CV RX10 141 RX2 yX2_orphanPairs cX2_orphanPairs 5 0 (some .int) := ⟨m_451, m_47, m_448, m_449, m_450, by decide +kernel⟩
theorem w_RX10_144 : CV RX10 144 RX2 yX2_firstOrphanPair cX2_firstOrphanPair 4 0 (some .int) := ⟨m_438, m_47, m_452, m_436, m_437, by decide +kernel⟩
theorem w_RX10_147 : CV RX10 147 RX2 yX2_matches cX2_matches 1 0 (some .int) := ⟨m_460, m_47, m_457, m_458, m_459, by decide +kernel⟩
theorem w_RX10_150 : CV RX10 150 RX10 yX10_lawfulTurns cX10_lawfulTurns 3 0 (some .int) := ⟨m_464, m_45, m_461, m_463, m_7, by decide +kernel⟩
theorem w_RX10_153 : CV RX10 153 RX2 yX2_isRing cX2_isRing 5 3 (some .boolean) := ⟨m_484, m_47, m_481, m_482, m_483, by decide +kernel⟩
theorem w_RX10_156 : CS RX10 156 yJ6_bitCount_0f7a4 cJ6_bitCount_0f7a4 1 1 (some .int) := ⟨m_344, m_56, m_490, m_343, by decide +kernel⟩
theorem w_RX10_165 : CS RX10 165 yX10_isPerson cX10_isPerson 2 2 (some .boolean) := ⟨m_198, m_45, m_196, m_197, by decide +kernel⟩
theorem w_RX10_168 : CS RX10 168 yX10_newPerson cX10_newPerson 2 2 (some (.object "OneBeatsBoth$Player")) := ⟨m_201, m_45, m_199, m_200, by decide +kernel⟩
theorem w_RX10_172 : CV RX10 172 RX2 yX2_newcomerBeats cX2_newcomerBeats 4 2 none := ⟨m_514, m_47, m_511, m_512, m_513, by decide +kernel⟩
theorem w_RX10_175 : CV RX10 175 RX2 yX2_unseat cX2_unseat 4 1 none := ⟨m_280, m_47, m_277, m_278, m_279, by decide +kernel⟩
theorem w_RX10_182 : CV RX10 182 RX2 yX2_play cX2_play 3 1 none := ⟨m_529, m_47, m_526, m_527, m_528, by decide +kernel⟩
theorem w_RX10_185 : CV RX10 185 RX2 yX2_weight cX2_weight 6 0 (some .long) := ⟨m_534, m_47, m_531, m_532, m_533, by decide +kernel⟩
theorem w_RX10_189 : CS RX10 189 yX10_commonDivisor cX10_commonDivisor 11 2 (some .long) := ⟨m_538, m_45, m_536, m_537, by decide +kernel⟩
theorem w_RX10_193 : CV RX10 193 RX10 yX10_clearTold cX10_clearTold 2 0 none := ⟨m_546, m_45, m_543, m_545, m_8, by decide +kernel⟩
theorem w_RX10_196 : CV RX10 196 RX10 yX10_lawfulWaysAsTold cX10_lawfulWaysAsTold 3 0 (some .int) := ⟨m_550, m_45, m_547, m_549, m_9, by decide +kernel⟩
theorem w_RX10_199 : CS RX10 199 yX10_isRing cX10_isRing 1 1 (some .boolean) := ⟨m_561, m_45, m_559, m_560, by decide +kernel⟩
theorem w_RX10_20 : CI RX10 20 yX2_init cX2_init 3 1 := ⟨m_94, m_47, m_92, m_93, rfl, by decide +kernel⟩
theorem w_RX10_201 : CS RX10 201 yX10_isHalfOfDifferences cX10_isHalfOfDifferences 3 2 (some .boolean) := ⟨m_564, m_45, m_562, m_563, by decide +kernel⟩
theorem w_RX10_204 : CS RX10 204 yX10_isLawfulRing cX10_isLawfulRing 7 3 (some .boolean) := ⟨m_567, m_45, m_565, m_566, by decide +kernel⟩
theorem w_RX10_207 : CS RX10 207 yX10_setWithUpperHalf cX10_setWithUpperHalf 5 2 (some .int) := ⟨m_574, m_45, m_572, m_573, by decide +kernel⟩
theorem w_RX10_211 : CS RX10 211 yX10_isShelf cX10_isShelf 1 1 (some .boolean) := ⟨m_157, m_45, m_155, m_156, by decide +kernel⟩
theorem w_RX10_214 : CV RX10 214 RX2 yX2_playSeason cX2_playSeason 6 1 (some .int) := ⟨m_586, m_47, m_583, m_584, m_585, by decide +kernel⟩
theorem w_RX10_217 : CV RX10 217 RX10 yX10_rowOn cX10_rowOn 2 1 (some (.object "OneBeatsBoth$Row")) := ⟨m_154, m_45, m_151, m_153, m_1, by decide +kernel⟩
theorem w_RX10_220 : CV RX10 220 RX2 yX2_wrongOfThree cX2_wrongOfThree 4 3 (some .int) := ⟨m_599, m_47, m_596, m_597, m_598, by decide +kernel⟩
theorem w_RX10_223 : CV RX10 223 RX2 yX2_allCosts cX2_allCosts 3 0 (some .int) := ⟨m_616, m_47, m_613, m_614, m_615, by decide +kernel⟩
theorem w_RX10_229 : CV RX10 229 RX8 yX8_hasPlaces cX8_hasPlaces 3 2 (some .boolean) := ⟨m_184, m_57, m_643, m_182, m_183, by decide +kernel⟩
theorem w_RX10_232 : CV RX10 232 RX8 yX8_change cX8_change 3 2 none := ⟨m_647, m_57, m_644, m_645, m_646, by decide +kernel⟩
theorem w_RX10_247 : CV RX10 247 RX10 yX10_isBare cX10_isBare 2 1 (some .boolean) := ⟨m_165, m_45, m_162, m_164, m_3, by decide +kernel⟩
theorem w_RX10_269 : CI RX10 269 yX4_init cX4_init 2 1 := ⟨m_206, m_49, m_204, m_205, rfl, by decide +kernel⟩
theorem w_RX10_272 : CI RX10 272 yX5_init cX5_init 2 1 := ⟨m_214, m_50, m_212, m_213, rfl, by decide +kernel⟩
theorem w_RX10_275 : CI RX10 275 yX1_init cX1_init 2 1 := ⟨m_222, m_51, m_220, m_221, rfl, by decide +kernel⟩
theorem w_RX10_278 : CI RX10 278 yX9_init cX9_init 2 1 := ⟨m_230, m_52, m_228, m_229, rfl, by decide +kernel⟩
theorem w_RX10_281 : CI RX10 281 yX3_init cX3_init 2 1 := ⟨m_238, m_53, m_236, m_237, rfl, by decide +kernel⟩
theorem w_RX10_284 : CI RX10 284 yX7_init cX7_init 2 1 := ⟨m_246, m_54, m_244, m_245, rfl, by decide +kernel⟩
theorem w_RX10_287 : CI RX10 287 yX0_init cX0_init 2 1 := ⟨m_254, m_55, m_252, m_253, rfl, by decide +kernel⟩
theorem w_RX10_288 : CV RX10 288 RX2 yX2_turn cX2_turn 2 1 none := ⟨m_468, m_47, m_465, m_466, m_467, by decide +kernel⟩
theorem w_RX10_294 : CV RX10 294 RX2 yX2_isAsTold cX2_isAsTold 3 1 (some .boolean) := ⟨m_554, m_47, m_551, m_552, m_553, by decide +kernel⟩
theorem w_RX10_51 : CV RX10 51 RX10 yX10_bytesOn cX10_bytesOn 3 1 (some (.object "OneBeatsBoth$Row")) := ⟨m_150, m_45, m_147, m_149, m_0, by decide +kernel⟩
theorem w_RX10_55 : CV RX10 55 RX10 yX10_whyNotOn cX10_whyNotOn 2 1 (some .int) := ⟨m_161, m_45, m_158, m_160, m_2, by decide +kernel⟩
theorem w_RX10_63 : CV RX10 63 RX2 yX2_become cX2_become 3 1 none := ⟨m_191, m_47, m_188, m_189, m_190, by decide +kernel⟩
theorem w_RX10_67 : CV RX10 67 RX8 yX8_size cX8_size 1 0 (some .int) := ⟨m_176, m_57, m_173, m_174, m_175, by decide +kernel⟩
theorem w_RX10_71 : CV RX10 71 RX8 yX8_at cX8_at 2 1 (some .int) := ⟨m_180, m_57, m_177, m_178, m_179, by decide +kernel⟩
theorem w_RX10_78 : CS RX10 78 yX10_digitsBehind cX10_digitsBehind 1 1 (some .int) := ⟨m_187, m_45, m_185, m_186, by decide +kernel⟩
theorem w_RX10_81 : CV RX10 81 RX2 yX2_has cX2_has 2 1 (some .boolean) := ⟨m_269, m_47, m_285, m_267, m_268, by decide +kernel⟩
theorem w_RX10_9 : CI RX10 9 yX6_init cX6_init 2 1 := ⟨m_77, m_46, m_75, m_76, rfl, by decide +kernel⟩
theorem w_RX11_103 : CV RX11 103 RX11 yX11_here cX11_here 1 0 (some .int) := ⟨m_887, m_48, m_884, m_886, m_13, by decide +kernel⟩
theorem w_RX11_111 : CV RX11 111 RX11 yX11_readsDigits cX11_readsDigits 3 1 (some .boolean) := ⟨m_891, m_48, m_888, m_890, m_14, by decide +kernel⟩
theorem w_RX11_114 : CV RX11 114 RX11 yX11_joins cX11_joins 5 2 none := ⟨m_908, m_48, m_905, m_907, m_17, by decide +kernel⟩
theorem w_RX11_117 : CV RX11 117 RX11 yX11_adds cX11_adds 3 2 (some .boolean) := ⟨m_904, m_48, m_901, m_903, m_16, by decide +kernel⟩
theorem w_RX11_121 : CV RX11 121 RX11 yX11_areTwo cX11_areTwo 3 2 (some .boolean) := ⟨m_920, m_48, m_917, m_919, m_20, by decide +kernel⟩
theorem w_RX11_124 : CS RX11 124 yX11_isLaw cX11_isLaw 1 1 (some .boolean) := ⟨m_931, m_48, m_929, m_930, by decide +kernel⟩
theorem w_RX11_127 : CV RX11 127 RX11 yX11_leaves cX11_leaves 4 1 none := ⟨m_936, m_48, m_933, m_935, m_23, by decide +kernel⟩
theorem w_RX11_131 : CS RX11 131 yX11_isShelf cX11_isShelf 1 1 (some .boolean) := ⟨m_875, m_48, m_873, m_874, by decide +kernel⟩
theorem w_RX11_134 : CV RX11 134 RX11 yX11_wrongRow cX11_wrongRow 3 2 (some .int) := ⟨m_872, m_48, m_869, m_871, m_11, by decide +kernel⟩
theorem w_RX11_137 : CV RX11 137 RX11 yX11_readsStatement cX11_readsStatement 3 0 (some .boolean) := ⟨m_883, m_48, m_880, m_882, m_12, by decide +kernel⟩
theorem w_RX11_141 : CV RX11 141 RX11 yX11_comesTold cX11_comesTold 3 1 (some .boolean) := ⟨m_900, m_48, m_897, m_899, m_15, by decide +kernel⟩
theorem w_RX11_144 : CV RX11 144 RX11 yX11_skill cX11_skill 2 1 (some .int) := ⟨m_952, m_48, m_949, m_951, m_26, by decide +kernel⟩
theorem w_RX11_147 : CS RX11 147 yX11_priceBy cX11_priceBy 2 2 (some .int) := ⟨m_965, m_48, m_963, m_964, by decide +kernel⟩
theorem w_RX11_150 : CV RX11 150 RX11 yX11_wrongKept cX11_wrongKept 2 1 (some .int) := ⟨m_973, m_48, m_970, m_972, m_28, by decide +kernel⟩
theorem w_RX11_153 : CV RX11 153 RX11 yX11_isLawful cX11_isLawful 3 0 (some .boolean) := ⟨m_989, m_48, m_986, m_988, m_29, by decide +kernel⟩
theorem w_RX11_156 : CV RX11 156 RX11 yX11_turns cX11_turns 3 2 none := ⟨m_1013, m_48, m_1010, m_1012, m_32, by decide +kernel⟩
theorem w_RX11_159 : CV RX11 159 RX11 yX11_turnedTo cX11_turnedTo 5 1 (some .int) := ⟨m_1009, m_48, m_1006, m_1008, m_31, by decide +kernel⟩
theorem w_RX11_177 : CV RX11 177 RX11 yX11_begins cX11_begins 1 0 none := ⟨m_1050, m_48, m_1047, m_1049, m_35, by decide +kernel⟩
theorem w_RX11_180 : CV RX11 180 RX11 yX11_ends cX11_ends 1 0 none := ⟨m_1054, m_48, m_1051, m_1053, m_36, by decide +kernel⟩
theorem w_RX11_191 : CV RX11 191 RX11 yX11_matches cX11_matches 1 0 (some .int) := ⟨m_1068, m_48, m_1065, m_1067, m_37, by decide +kernel⟩
theorem w_RX11_194 : CV RX11 194 RX11 yX11_plays cX11_plays 5 1 none := ⟨m_1072, m_48, m_1069, m_1071, m_38, by decide +kernel⟩
theorem w_RX11_207 : CS RX11 207 yX11_areBeaten cX11_areBeaten 4 3 (some .boolean) := ⟨m_1102, m_48, m_1100, m_1101, by decide +kernel⟩
theorem w_RX11_211 : CS RX11 211 yX11_isRound cX11_isRound 1 1 (some .boolean) := ⟨m_1091, m_48, m_1089, m_1090, by decide +kernel⟩
theorem w_RX11_214 : CS RX11 214 yX11_isSet cX11_isSet 3 2 (some .boolean) := ⟨m_1096, m_48, m_1094, m_1095, by decide +kernel⟩
theorem w_RX11_217 : CS RX11 217 yX11_isRoundWell cX11_isRoundWell 4 3 (some .boolean) := ⟨m_1099, m_48, m_1097, m_1098, by decide +kernel⟩
theorem w_RX11_220 : CV RX11 220 RX11 yX11_told cX11_told 3 2 (some .int) := ⟨m_1114, m_48, m_1111, m_1113, m_40, by decide +kernel⟩
theorem w_RX11_223 : CV RX11 223 RX11 yX11_isAsPlayed cX11_isAsPlayed 3 1 (some .boolean) := ⟨m_1118, m_48, m_1115, m_1117, m_41, by decide +kernel⟩
theorem w_RX11_234 : CV RX11 234 RX11 yX11_drawn cX11_drawn 2 1 (some .int) := ⟨m_1127, m_48, m_1124, m_1126, m_42, by decide +kernel⟩
theorem w_RX11_237 : CV RX11 237 RX11 yX11_wrongThree cX11_wrongThree 6 2 (some .int) := ⟨m_1138, m_48, m_1135, m_1137, m_43, by decide +kernel⟩
theorem w_RX11_49 : CS RX11 49 yX11_isIn cX11_isIn 6 3 (some .boolean) := ⟨m_879, m_48, m_877, m_878, by decide +kernel⟩
theorem w_RX11_55 : CV RX11 55 RX11 yX11_isOne cX11_isOne 2 1 (some .boolean) := ⟨m_924, m_48, m_921, m_923, m_21, by decide +kernel⟩
theorem w_RX11_59 : CS RX11 59 yX11_lays cX11_lays 3 2 none := ⟨m_896, m_48, m_894, m_895, by decide +kernel⟩
theorem w_RX11_63 : CV RX11 63 RX11 yX11_beaten cX11_beaten 2 1 (some .int) := ⟨m_916, m_48, m_913, m_915, m_19, by decide +kernel⟩
theorem w_RX11_67 : CS RX11 67 yX11_bits cX11_bits 3 1 (some .int) := ⟨m_962, m_48, m_960, m_961, by decide +kernel⟩
theorem w_RX11_70 : CV RX11 70 RX11 yX11_figure cX11_figure 2 1 (some .int) := ⟨m_948, m_48, m_945, m_947, m_25, by decide +kernel⟩
theorem w_RX11_73 : CV RX11 73 RX11 yX11_kind cX11_kind 2 1 (some .int) := ⟨m_944, m_48, m_941, m_943, m_24, by decide +kernel⟩
theorem w_RX11_76 : CS RX11 76 yX11_skillBy cX11_skillBy 2 2 (some .int) := ⟨m_955, m_48, m_953, m_954, by decide +kernel⟩
theorem w_RX11_80 : CV RX11 80 RX11 yX11_puts cX11_puts 4 3 none := ⟨m_912, m_48, m_909, m_911, m_18, by decide +kernel⟩
theorem w_RX11_84 : CV RX11 84 RX11 yX11_beats cX11_beats 3 2 none := ⟨m_928, m_48, m_925, m_927, m_22, by decide +kernel⟩
theorem w_RX11_88 : CV RX11 88 RX11 yX11_counts cX11_counts 4 1 (some .boolean) := ⟨m_959, m_48, m_956, m_958, m_27, by decide +kernel⟩
theorem w_RX11_91 : CV RX11 91 RX11 yX11_mastersOf cX11_mastersOf 4 1 (some .int) := ⟨m_993, m_48, m_990, m_992, m_30, by decide +kernel⟩
theorem w_RX1_1 : CI RX1 1 yX6_init cX6_init 2 1 := ⟨m_77, m_46, m_223, m_76, rfl, by decide +kernel⟩
theorem w_RX1_11 : CX RX1 11 yX6_cost cX6_cost 1 0 (some .int) := ⟨m_401, m_46, m_380, m_370, m_372, m_225, by decide +kernel⟩
theorem w_RX1_7 : CX RX1 7 yX6_skill cX6_skill 1 0 (some .int) := ⟨m_337, m_46, m_323, m_313, m_315, m_225, by decide +kernel⟩
theorem w_RX2_28 : CV RX2 28 RX2 yX2_has cX2_has 2 1 (some .boolean) := ⟨m_269, m_47, m_266, m_267, m_268, by decide +kernel⟩
theorem w_RX2_38 : CV RX2 38 RX2 yX2_hasBeaten cX2_hasBeaten 3 2 (some .boolean) := ⟨m_413, m_47, m_485, m_411, m_412, by decide +kernel⟩
theorem w_RX2_46 : CV RX2 46 RX2 yX2_matches cX2_matches 1 0 (some .int) := ⟨m_460, m_47, m_530, m_458, m_459, by decide +kernel⟩
theorem w_RX2_53 : CS RX2 53 yX2_drawBelow cX2_drawBelow 2 2 (some .int) := ⟨m_590, m_47, m_588, m_589, by decide +kernel⟩
theorem w_RX2_57 : CV RX2 57 RX2 yX2_win cX2_win 3 2 none := ⟨m_273, m_47, m_515, m_271, m_272, by decide +kernel⟩
theorem w_RX2_62 : CS RX2 62 yJ6_bitCount_0f7a4 cJ6_bitCount_0f7a4 1 1 (some .int) := ⟨m_344, m_56, m_342, m_343, by decide +kernel⟩
theorem w_RX2_71 : CV RX2 71 RX2 yX2_eachHasMaster cX2_eachHasMaster 3 0 (some .boolean) := ⟨m_429, m_47, m_426, m_428, m_6, by decide +kernel⟩
theorem w_RX2_75 : CV RX2 75 RX2 yX2_firstOrphanPair cX2_firstOrphanPair 4 0 (some .int) := ⟨m_438, m_47, m_435, m_436, m_437, by decide +kernel⟩
theorem w_RX2_78 : CV RX2 78 RX2 yX2_counting cX2_counting 3 0 (some .int) := ⟨m_341, m_47, m_430, m_339, m_340, by decide +kernel⟩
theorem w_RX2_81 : CV RX2 81 RX2 yX2_mastersAmong cX2_mastersAmong 4 3 (some .int) := ⟨m_434, m_47, m_431, m_432, m_433, by decide +kernel⟩
theorem w_RX2_85 : CV RX2 85 RX2 yX2_hasBoth cX2_hasBoth 3 2 (some .boolean) := ⟨m_265, m_47, m_600, m_263, m_264, by decide +kernel⟩
theorem w_RX3_1 : CI RX3 1 yX5_init cX5_init 2 1 := ⟨m_214, m_50, m_239, m_213, rfl, by decide +kernel⟩
theorem w_RX3_13 : CX RX3 13 yX5_cost cX5_cost 1 0 (some .int) := ⟨m_386, m_50, m_384, m_385, m_1182, m_241, by decide +kernel⟩
theorem w_RX4_1 : CI RX4 1 yX6_init cX6_init 2 1 := ⟨m_77, m_46, m_207, m_76, rfl, by decide +kernel⟩
theorem w_RX4_17 : CX RX4 17 yX6_cost cX6_cost 1 0 (some .int) := ⟨m_401, m_46, m_391, m_370, m_372, m_209, by decide +kernel⟩
theorem w_RX4_7 : CX RX4 7 yX6_skill cX6_skill 1 0 (some .int) := ⟨m_337, m_46, m_330, m_313, m_315, m_209, by decide +kernel⟩
theorem w_RX5_1 : CI RX5 1 yX6_init cX6_init 2 1 := ⟨m_77, m_46, m_215, m_76, rfl, by decide +kernel⟩
theorem w_RX5_7 : CX RX5 7 yX6_cost cX6_cost 1 0 (some .int) := ⟨m_401, m_46, m_387, m_370, m_372, m_217, by decide +kernel⟩
theorem w_RX7_1 : CI RX7 1 yX1_init cX1_init 2 1 := ⟨m_222, m_51, m_247, m_221, rfl, by decide +kernel⟩
theorem w_RX7_7 : CX RX7 7 yX1_cost cX1_cost 1 0 (some .int) := ⟨m_379, m_51, m_396, m_378, m_1183, m_249, by decide +kernel⟩
theorem w_RX8_17 : CV RX8 17 RX8 yX8_hasPlaces cX8_hasPlaces 3 2 (some .boolean) := ⟨m_184, m_57, m_181, m_182, m_183, by decide +kernel⟩
theorem w_RX9_1 : CI RX9 1 yX4_init cX4_init 2 1 := ⟨m_206, m_49, m_231, m_205, rfl, by decide +kernel⟩
theorem w_RX9_11 : CX RX9 11 yX4_countsWith cX4_countsWith 2 1 (some .boolean) := ⟨m_359, m_49, m_367, m_358, m_1181, m_233, by decide +kernel⟩
theorem w_RX9_15 : CX RX9 15 yX4_cost cX4_cost 1 0 (some .int) := ⟨m_390, m_49, m_400, m_389, m_1184, m_233, by decide +kernel⟩
theorem w_RX9_7 : CX RX9 7 yX4_skill cX4_skill 1 0 (some .int) := ⟨m_329, m_49, m_336, m_328, m_1180, m_233, by decide +kernel⟩
theorem wv_RX10_88_0 : CU RX10 88 RX0 "OneBeatsBoth$Player" ⟨"OneBeatsBoth$Player", "kind", "()I"⟩ yX0_kind cX0_kind 1 0 (some .int) := ⟨m_292, m_55, m_286, m_291, m_290, m_289, m_287, ⟨_, _, _, m_311⟩, by decide +kernel⟩
theorem wv_RX10_88_1 : CU RX10 88 RX1 "OneBeatsBoth$Player" ⟨"OneBeatsBoth$Player", "kind", "()I"⟩ yX1_kind cX1_kind 1 0 (some .int) := ⟨m_295, m_51, m_286, m_294, m_293, m_289, m_287, ⟨_, _, _, m_311⟩, by decide +kernel⟩
theorem wv_RX10_88_3 : CU RX10 88 RX3 "OneBeatsBoth$Player" ⟨"OneBeatsBoth$Player", "kind", "()I"⟩ yX3_kind cX3_kind 1 0 (some .int) := ⟨m_298, m_53, m_286, m_297, m_296, m_289, m_287, ⟨_, _, _, m_311⟩, by decide +kernel⟩
theorem wv_RX10_88_4 : CU RX10 88 RX4 "OneBeatsBoth$Player" ⟨"OneBeatsBoth$Player", "kind", "()I"⟩ yX4_kind cX4_kind 1 0 (some .int) := ⟨m_301, m_49, m_286, m_300, m_299, m_289, m_287, ⟨_, _, _, m_311⟩, by decide +kernel⟩
theorem wv_RX10_88_5 : CU RX10 88 RX5 "OneBeatsBoth$Player" ⟨"OneBeatsBoth$Player", "kind", "()I"⟩ yX5_kind cX5_kind 1 0 (some .int) := ⟨m_304, m_50, m_286, m_303, m_302, m_289, m_287, ⟨_, _, _, m_311⟩, by decide +kernel⟩
theorem wv_RX10_88_6 : CV RX10 88 RX6 yX6_kind cX6_kind 1 0 (some .int) := ⟨m_311, m_46, m_286, m_287, m_288, by decide +kernel⟩
theorem wv_RX10_88_7 : CU RX10 88 RX7 "OneBeatsBoth$Player" ⟨"OneBeatsBoth$Player", "kind", "()I"⟩ yX7_kind cX7_kind 1 0 (some .int) := ⟨m_307, m_54, m_286, m_306, m_305, m_289, m_287, ⟨_, _, _, m_311⟩, by decide +kernel⟩
theorem wv_RX10_88_9 : CU RX10 88 RX9 "OneBeatsBoth$Player" ⟨"OneBeatsBoth$Player", "kind", "()I"⟩ yX9_kind cX9_kind 1 0 (some .int) := ⟨m_310, m_52, m_286, m_309, m_308, m_289, m_287, ⟨_, _, _, m_311⟩, by decide +kernel⟩
theorem wv_RX10_95_0 : CU RX10 95 RX0 "OneBeatsBoth$Player" ⟨"OneBeatsBoth$Player", "skill", "()I"⟩ yX0_skill cX0_skill 1 0 (some .int) := ⟨m_318, m_55, m_312, m_317, m_316, m_315, m_313, ⟨_, _, _, m_337⟩, by decide +kernel⟩
theorem wv_RX10_95_1 : CU RX10 95 RX1 "OneBeatsBoth$Player" ⟨"OneBeatsBoth$Player", "skill", "()I"⟩ yX1_skill cX1_skill 1 0 (some .int) := ⟨m_322, m_51, m_312, m_321, m_320, m_315, m_313, ⟨_, _, _, m_337⟩, by decide +kernel⟩
theorem wv_RX10_95_3 : CU RX10 95 RX3 "OneBeatsBoth$Player" ⟨"OneBeatsBoth$Player", "skill", "()I"⟩ yX3_skill cX3_skill 1 0 (some .int) := ⟨m_326, m_53, m_312, m_325, m_324, m_315, m_313, ⟨_, _, _, m_337⟩, by decide +kernel⟩
theorem wv_RX10_95_4 : CU RX10 95 RX4 "OneBeatsBoth$Player" ⟨"OneBeatsBoth$Player", "skill", "()I"⟩ yX4_skill cX4_skill 1 0 (some .int) := ⟨m_329, m_49, m_312, m_328, m_327, m_315, m_313, ⟨_, _, _, m_337⟩, by decide +kernel⟩
theorem wv_RX10_95_5 : CU RX10 95 RX5 "OneBeatsBoth$Player" ⟨"OneBeatsBoth$Player", "skill", "()I"⟩ yX6_skill cX6_skill 1 0 (some .int) := ⟨m_337, m_46, m_312, m_313, m_331, m_315, m_313, ⟨_, _, _, m_337⟩, by decide +kernel⟩
theorem wv_RX10_95_6 : CV RX10 95 RX6 yX6_skill cX6_skill 1 0 (some .int) := ⟨m_337, m_46, m_312, m_313, m_314, by decide +kernel⟩
theorem wv_RX10_95_7 : CU RX10 95 RX7 "OneBeatsBoth$Player" ⟨"OneBeatsBoth$Player", "skill", "()I"⟩ yX1_skill cX1_skill 1 0 (some .int) := ⟨m_322, m_51, m_312, m_321, m_332, m_315, m_313, ⟨_, _, _, m_337⟩, by decide +kernel⟩
theorem wv_RX10_95_9 : CU RX10 95 RX9 "OneBeatsBoth$Player" ⟨"OneBeatsBoth$Player", "skill", "()I"⟩ yX9_skill cX9_skill 1 0 (some .int) := ⟨m_335, m_52, m_312, m_334, m_333, m_315, m_313, ⟨_, _, _, m_337⟩, by decide +kernel⟩
theorem wv_RX10_104_0 : CU RX10 104 RX0 "OneBeatsBoth$Player" ⟨"OneBeatsBoth$Player", "cost", "()I"⟩ yX0_cost cX0_cost 1 0 (some .int) := ⟨m_375, m_55, m_369, m_374, m_373, m_372, m_370, ⟨_, _, _, m_401⟩, by decide +kernel⟩
theorem wv_RX10_104_1 : CU RX10 104 RX1 "OneBeatsBoth$Player" ⟨"OneBeatsBoth$Player", "cost", "()I"⟩ yX1_cost cX1_cost 1 0 (some .int) := ⟨m_379, m_51, m_369, m_378, m_377, m_372, m_370, ⟨_, _, _, m_401⟩, by decide +kernel⟩
theorem wv_RX10_104_3 : CU RX10 104 RX3 "OneBeatsBoth$Player" ⟨"OneBeatsBoth$Player", "cost", "()I"⟩ yX3_cost cX3_cost 1 0 (some .int) := ⟨m_383, m_53, m_369, m_382, m_381, m_372, m_370, ⟨_, _, _, m_401⟩, by decide +kernel⟩
theorem wv_RX10_104_4 : CU RX10 104 RX4 "OneBeatsBoth$Player" ⟨"OneBeatsBoth$Player", "cost", "()I"⟩ yX4_cost cX4_cost 1 0 (some .int) := ⟨m_390, m_49, m_369, m_389, m_388, m_372, m_370, ⟨_, _, _, m_401⟩, by decide +kernel⟩
theorem wv_RX10_104_5 : CU RX10 104 RX5 "OneBeatsBoth$Player" ⟨"OneBeatsBoth$Player", "cost", "()I"⟩ yX5_cost cX5_cost 1 0 (some .int) := ⟨m_386, m_50, m_369, m_385, m_392, m_372, m_370, ⟨_, _, _, m_401⟩, by decide +kernel⟩
theorem wv_RX10_104_6 : CV RX10 104 RX6 yX6_cost cX6_cost 1 0 (some .int) := ⟨m_401, m_46, m_369, m_370, m_371, by decide +kernel⟩
theorem wv_RX10_104_7 : CU RX10 104 RX7 "OneBeatsBoth$Player" ⟨"OneBeatsBoth$Player", "cost", "()I"⟩ yX7_cost cX7_cost 1 0 (some .int) := ⟨m_395, m_54, m_369, m_394, m_393, m_372, m_370, ⟨_, _, _, m_401⟩, by decide +kernel⟩
theorem wv_RX10_104_9 : CU RX10 104 RX9 "OneBeatsBoth$Player" ⟨"OneBeatsBoth$Player", "cost", "()I"⟩ yX9_cost cX9_cost 1 0 (some .int) := ⟨m_399, m_52, m_369, m_398, m_397, m_372, m_370, ⟨_, _, _, m_401⟩, by decide +kernel⟩
theorem wv_RX2_42_0 : CU RX2 42 RX0 "OneBeatsBoth$Player" ⟨"OneBeatsBoth$Player", "cost", "()I"⟩ yX0_cost cX0_cost 1 0 (some .int) := ⟨m_375, m_55, m_502, m_374, m_373, m_372, m_370, ⟨_, _, _, m_401⟩, by decide +kernel⟩
theorem wv_RX2_42_1 : CU RX2 42 RX1 "OneBeatsBoth$Player" ⟨"OneBeatsBoth$Player", "cost", "()I"⟩ yX1_cost cX1_cost 1 0 (some .int) := ⟨m_379, m_51, m_502, m_378, m_377, m_372, m_370, ⟨_, _, _, m_401⟩, by decide +kernel⟩
theorem wv_RX2_42_3 : CU RX2 42 RX3 "OneBeatsBoth$Player" ⟨"OneBeatsBoth$Player", "cost", "()I"⟩ yX3_cost cX3_cost 1 0 (some .int) := ⟨m_383, m_53, m_502, m_382, m_381, m_372, m_370, ⟨_, _, _, m_401⟩, by decide +kernel⟩
theorem wv_RX2_42_4 : CU RX2 42 RX4 "OneBeatsBoth$Player" ⟨"OneBeatsBoth$Player", "cost", "()I"⟩ yX4_cost cX4_cost 1 0 (some .int) := ⟨m_390, m_49, m_502, m_389, m_388, m_372, m_370, ⟨_, _, _, m_401⟩, by decide +kernel⟩
theorem wv_RX2_42_5 : CU RX2 42 RX5 "OneBeatsBoth$Player" ⟨"OneBeatsBoth$Player", "cost", "()I"⟩ yX5_cost cX5_cost 1 0 (some .int) := ⟨m_386, m_50, m_502, m_385, m_392, m_372, m_370, ⟨_, _, _, m_401⟩, by decide +kernel⟩
theorem wv_RX2_42_6 : CV RX2 42 RX6 yX6_cost cX6_cost 1 0 (some .int) := ⟨m_401, m_46, m_502, m_370, m_371, by decide +kernel⟩
theorem wv_RX2_42_7 : CU RX2 42 RX7 "OneBeatsBoth$Player" ⟨"OneBeatsBoth$Player", "cost", "()I"⟩ yX7_cost cX7_cost 1 0 (some .int) := ⟨m_395, m_54, m_502, m_394, m_393, m_372, m_370, ⟨_, _, _, m_401⟩, by decide +kernel⟩
theorem wv_RX2_42_9 : CU RX2 42 RX9 "OneBeatsBoth$Player" ⟨"OneBeatsBoth$Player", "cost", "()I"⟩ yX9_cost cX9_cost 1 0 (some .int) := ⟨m_399, m_52, m_502, m_398, m_397, m_372, m_370, ⟨_, _, _, m_401⟩, by decide +kernel⟩
theorem wv_RX2_50_0 : CU RX2 50 RX0 "OneBeatsBoth$Player" ⟨"OneBeatsBoth$Player", "skill", "()I"⟩ yX0_skill cX0_skill 1 0 (some .int) := ⟨m_318, m_55, m_535, m_317, m_316, m_315, m_313, ⟨_, _, _, m_337⟩, by decide +kernel⟩
theorem wv_RX2_50_1 : CU RX2 50 RX1 "OneBeatsBoth$Player" ⟨"OneBeatsBoth$Player", "skill", "()I"⟩ yX1_skill cX1_skill 1 0 (some .int) := ⟨m_322, m_51, m_535, m_321, m_320, m_315, m_313, ⟨_, _, _, m_337⟩, by decide +kernel⟩
theorem wv_RX2_50_3 : CU RX2 50 RX3 "OneBeatsBoth$Player" ⟨"OneBeatsBoth$Player", "skill", "()I"⟩ yX3_skill cX3_skill 1 0 (some .int) := ⟨m_326, m_53, m_535, m_325, m_324, m_315, m_313, ⟨_, _, _, m_337⟩, by decide +kernel⟩
theorem wv_RX2_50_4 : CU RX2 50 RX4 "OneBeatsBoth$Player" ⟨"OneBeatsBoth$Player", "skill", "()I"⟩ yX4_skill cX4_skill 1 0 (some .int) := ⟨m_329, m_49, m_535, m_328, m_327, m_315, m_313, ⟨_, _, _, m_337⟩, by decide +kernel⟩
theorem wv_RX2_50_5 : CU RX2 50 RX5 "OneBeatsBoth$Player" ⟨"OneBeatsBoth$Player", "skill", "()I"⟩ yX6_skill cX6_skill 1 0 (some .int) := ⟨m_337, m_46, m_535, m_313, m_331, m_315, m_313, ⟨_, _, _, m_337⟩, by decide +kernel⟩
theorem wv_RX2_50_6 : CV RX2 50 RX6 yX6_skill cX6_skill 1 0 (some .int) := ⟨m_337, m_46, m_535, m_313, m_314, by decide +kernel⟩
theorem wv_RX2_50_7 : CU RX2 50 RX7 "OneBeatsBoth$Player" ⟨"OneBeatsBoth$Player", "skill", "()I"⟩ yX1_skill cX1_skill 1 0 (some .int) := ⟨m_322, m_51, m_535, m_321, m_332, m_315, m_313, ⟨_, _, _, m_337⟩, by decide +kernel⟩
theorem wv_RX2_50_9 : CU RX2 50 RX9 "OneBeatsBoth$Player" ⟨"OneBeatsBoth$Player", "skill", "()I"⟩ yX9_skill cX9_skill 1 0 (some .int) := ⟨m_335, m_52, m_535, m_334, m_333, m_315, m_313, ⟨_, _, _, m_337⟩, by decide +kernel⟩
theorem wv_RX2_68_0 : CU RX2 68 RX0 "OneBeatsBoth$Player" ⟨"OneBeatsBoth$Player", "countsWith", "(I)Z"⟩ yX6_countsWith cX6_countsWith 2 1 (some .boolean) := ⟨m_368, m_46, m_348, m_349, m_352, m_351, m_349, ⟨_, _, _, m_368⟩, by decide +kernel⟩
theorem wv_RX2_68_1 : CU RX2 68 RX1 "OneBeatsBoth$Player" ⟨"OneBeatsBoth$Player", "countsWith", "(I)Z"⟩ yX6_countsWith cX6_countsWith 2 1 (some .boolean) := ⟨m_368, m_46, m_348, m_349, m_353, m_351, m_349, ⟨_, _, _, m_368⟩, by decide +kernel⟩
theorem wv_RX2_68_3 : CU RX2 68 RX3 "OneBeatsBoth$Player" ⟨"OneBeatsBoth$Player", "countsWith", "(I)Z"⟩ yX3_countsWith cX3_countsWith 2 1 (some .boolean) := ⟨m_356, m_53, m_348, m_355, m_354, m_351, m_349, ⟨_, _, _, m_368⟩, by decide +kernel⟩
theorem wv_RX2_68_4 : CU RX2 68 RX4 "OneBeatsBoth$Player" ⟨"OneBeatsBoth$Player", "countsWith", "(I)Z"⟩ yX4_countsWith cX4_countsWith 2 1 (some .boolean) := ⟨m_359, m_49, m_348, m_358, m_357, m_351, m_349, ⟨_, _, _, m_368⟩, by decide +kernel⟩
theorem wv_RX2_68_5 : CU RX2 68 RX5 "OneBeatsBoth$Player" ⟨"OneBeatsBoth$Player", "countsWith", "(I)Z"⟩ yX6_countsWith cX6_countsWith 2 1 (some .boolean) := ⟨m_368, m_46, m_348, m_349, m_360, m_351, m_349, ⟨_, _, _, m_368⟩, by decide +kernel⟩
theorem wv_RX2_68_6 : CV RX2 68 RX6 yX6_countsWith cX6_countsWith 2 1 (some .boolean) := ⟨m_368, m_46, m_348, m_349, m_350, by decide +kernel⟩
theorem wv_RX2_68_7 : CU RX2 68 RX7 "OneBeatsBoth$Player" ⟨"OneBeatsBoth$Player", "countsWith", "(I)Z"⟩ yX7_countsWith cX7_countsWith 2 1 (some .boolean) := ⟨m_363, m_54, m_348, m_362, m_361, m_351, m_349, ⟨_, _, _, m_368⟩, by decide +kernel⟩
theorem wv_RX2_68_9 : CU RX2 68 RX9 "OneBeatsBoth$Player" ⟨"OneBeatsBoth$Player", "countsWith", "(I)Z"⟩ yX9_countsWith cX9_countsWith 2 1 (some .boolean) := ⟨m_366, m_52, m_348, m_365, m_364, m_351, m_349, ⟨_, _, _, m_368⟩, by decide +kernel⟩
