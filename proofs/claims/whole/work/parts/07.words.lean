/-! WORDS of the tables, and what calls and fields need of them (by program) -/
theorem m_0 : Cond.selects "OneBeatsBoth" yX10_bytesOn yX10_bytesOn ∈ WT := wt_in (List.mem_of_getElem? (i := 0) (by decide +kernel)) (by decide +kernel)
theorem m_1 : Cond.selects "OneBeatsBoth" yX10_rowOn yX10_rowOn ∈ WT := wt_in (List.mem_of_getElem? (i := 1) (by decide +kernel)) (by decide +kernel)
theorem m_2 : Cond.selects "OneBeatsBoth" yX10_whyNotOn yX10_whyNotOn ∈ WT := wt_in (List.mem_of_getElem? (i := 2) (by decide +kernel)) (by decide +kernel)
theorem m_3 : Cond.selects "OneBeatsBoth" yX10_isBare yX10_isBare ∈ WT := wt_in (List.mem_of_getElem? (i := 3) (by decide +kernel)) (by decide +kernel)
theorem m_4 : Cond.selects "OneBeatsBoth" yX10_personOn yX10_personOn ∈ WT := wt_in (List.mem_of_getElem? (i := 4) (by decide +kernel)) (by decide +kernel)
theorem m_6 : Cond.selects "OneBeatsBoth$League" yX2_eachHasMaster yX2_eachHasMaster ∈ WT := wt_in (List.mem_of_getElem? (i := 6) (by decide +kernel)) (by decide +kernel)
theorem m_7 : Cond.selects "OneBeatsBoth" yX10_lawfulTurns yX10_lawfulTurns ∈ WT := wt_in (List.mem_of_getElem? (i := 7) (by decide +kernel)) (by decide +kernel)
theorem m_8 : Cond.selects "OneBeatsBoth" yX10_clearTold yX10_clearTold ∈ WT := wt_in (List.mem_of_getElem? (i := 8) (by decide +kernel)) (by decide +kernel)
theorem m_9 : Cond.selects "OneBeatsBoth" yX10_lawfulWaysAsTold yX10_lawfulWaysAsTold ∈ WT := wt_in (List.mem_of_getElem? (i := 9) (by decide +kernel)) (by decide +kernel)
theorem m_11 : Cond.selects "OneBeatsBothModel" yX11_wrongRow yX11_wrongRow ∈ WT := wt_in (List.mem_of_getElem? (i := 11) (by decide +kernel)) (by decide +kernel)
theorem m_12 : Cond.selects "OneBeatsBothModel" yX11_readsStatement yX11_readsStatement ∈ WT := wt_in (List.mem_of_getElem? (i := 12) (by decide +kernel)) (by decide +kernel)
theorem m_13 : Cond.selects "OneBeatsBothModel" yX11_here yX11_here ∈ WT := wt_in (List.mem_of_getElem? (i := 13) (by decide +kernel)) (by decide +kernel)
theorem m_14 : Cond.selects "OneBeatsBothModel" yX11_readsDigits yX11_readsDigits ∈ WT := wt_in (List.mem_of_getElem? (i := 14) (by decide +kernel)) (by decide +kernel)
theorem m_15 : Cond.selects "OneBeatsBothModel" yX11_comesTold yX11_comesTold ∈ WT := wt_in (List.mem_of_getElem? (i := 15) (by decide +kernel)) (by decide +kernel)
theorem m_16 : Cond.selects "OneBeatsBothModel" yX11_adds yX11_adds ∈ WT := wt_in (List.mem_of_getElem? (i := 16) (by decide +kernel)) (by decide +kernel)
theorem m_17 : Cond.selects "OneBeatsBothModel" yX11_joins yX11_joins ∈ WT := wt_in (List.mem_of_getElem? (i := 17) (by decide +kernel)) (by decide +kernel)
theorem m_18 : Cond.selects "OneBeatsBothModel" yX11_puts yX11_puts ∈ WT := wt_in (List.mem_of_getElem? (i := 18) (by decide +kernel)) (by decide +kernel)
theorem m_19 : Cond.selects "OneBeatsBothModel" yX11_beaten yX11_beaten ∈ WT := wt_in (List.mem_of_getElem? (i := 19) (by decide +kernel)) (by decide +kernel)
theorem m_20 : Cond.selects "OneBeatsBothModel" yX11_areTwo yX11_areTwo ∈ WT := wt_in (List.mem_of_getElem? (i := 20) (by decide +kernel)) (by decide +kernel)
theorem m_21 : Cond.selects "OneBeatsBothModel" yX11_isOne yX11_isOne ∈ WT := wt_in (List.mem_of_getElem? (i := 21) (by decide +kernel)) (by decide +kernel)
theorem m_22 : Cond.selects "OneBeatsBothModel" yX11_beats yX11_beats ∈ WT := wt_in (List.mem_of_getElem? (i := 22) (by decide +kernel)) (by decide +kernel)
theorem m_23 : Cond.selects "OneBeatsBothModel" yX11_leaves yX11_leaves ∈ WT := wt_in (List.mem_of_getElem? (i := 23) (by decide +kernel)) (by decide +kernel)
theorem m_24 : Cond.selects "OneBeatsBothModel" yX11_kind yX11_kind ∈ WT := wt_in (List.mem_of_getElem? (i := 24) (by decide +kernel)) (by decide +kernel)
theorem m_25 : Cond.selects "OneBeatsBothModel" yX11_figure yX11_figure ∈ WT := wt_in (List.mem_of_getElem? (i := 25) (by decide +kernel)) (by decide +kernel)
theorem m_26 : Cond.selects "OneBeatsBothModel" yX11_skill yX11_skill ∈ WT := wt_in (List.mem_of_getElem? (i := 26) (by decide +kernel)) (by decide +kernel)
theorem m_27 : Cond.selects "OneBeatsBothModel" yX11_counts yX11_counts ∈ WT := wt_in (List.mem_of_getElem? (i := 27) (by decide +kernel)) (by decide +kernel)
theorem m_28 : Cond.selects "OneBeatsBothModel" yX11_wrongKept yX11_wrongKept ∈ WT := wt_in (List.mem_of_getElem? (i := 28) (by decide +kernel)) (by decide +kernel)
theorem m_29 : Cond.selects "OneBeatsBothModel" yX11_isLawful yX11_isLawful ∈ WT := wt_in (List.mem_of_getElem? (i := 29) (by decide +kernel)) (by decide +kernel)
theorem m_30 : Cond.selects "OneBeatsBothModel" yX11_mastersOf yX11_mastersOf ∈ WT := wt_in (List.mem_of_getElem? (i := 30) (by decide +kernel)) (by decide +kernel)
theorem m_31 : Cond.selects "OneBeatsBothModel" yX11_turnedTo yX11_turnedTo ∈ WT := wt_in (List.mem_of_getElem? (i := 31) (by decide +kernel)) (by decide +kernel)
theorem m_32 : Cond.selects "OneBeatsBothModel" yX11_turns yX11_turns ∈ WT := wt_in (List.mem_of_getElem? (i := 32) (by decide +kernel)) (by decide +kernel)
theorem m_35 : Cond.selects "OneBeatsBothModel" yX11_begins yX11_begins ∈ WT := wt_in (List.mem_of_getElem? (i := 35) (by decide +kernel)) (by decide +kernel)
theorem m_36 : Cond.selects "OneBeatsBothModel" yX11_ends yX11_ends ∈ WT := wt_in (List.mem_of_getElem? (i := 36) (by decide +kernel)) (by decide +kernel)
theorem m_37 : Cond.selects "OneBeatsBothModel" yX11_matches yX11_matches ∈ WT := wt_in (List.mem_of_getElem? (i := 37) (by decide +kernel)) (by decide +kernel)
theorem m_38 : Cond.selects "OneBeatsBothModel" yX11_plays yX11_plays ∈ WT := wt_in (List.mem_of_getElem? (i := 38) (by decide +kernel)) (by decide +kernel)
theorem m_40 : Cond.selects "OneBeatsBothModel" yX11_told yX11_told ∈ WT := wt_in (List.mem_of_getElem? (i := 40) (by decide +kernel)) (by decide +kernel)
theorem m_41 : Cond.selects "OneBeatsBothModel" yX11_isAsPlayed yX11_isAsPlayed ∈ WT := wt_in (List.mem_of_getElem? (i := 41) (by decide +kernel)) (by decide +kernel)
theorem m_42 : Cond.selects "OneBeatsBothModel" yX11_drawn yX11_drawn ∈ WT := wt_in (List.mem_of_getElem? (i := 42) (by decide +kernel)) (by decide +kernel)
theorem m_43 : Cond.selects "OneBeatsBothModel" yX11_wrongThree yX11_wrongThree ∈ WT := wt_in (List.mem_of_getElem? (i := 43) (by decide +kernel)) (by decide +kernel)
theorem m_45 : Cond.initialized "OneBeatsBoth" ∈ WT := wt_in (List.mem_of_getElem? (i := 45) (by decide +kernel)) (by decide +kernel)
theorem m_46 : Cond.initialized "OneBeatsBoth$Player" ∈ WT := wt_in (List.mem_of_getElem? (i := 46) (by decide +kernel)) (by decide +kernel)
theorem m_47 : Cond.initialized "OneBeatsBoth$League" ∈ WT := wt_in (List.mem_of_getElem? (i := 47) (by decide +kernel)) (by decide +kernel)
theorem m_48 : Cond.initialized "OneBeatsBothModel" ∈ WT := wt_in (List.mem_of_getElem? (i := 48) (by decide +kernel)) (by decide +kernel)
theorem m_49 : Cond.initialized "java/lang/System" ∈ WT := wt_in (List.mem_of_getElem? (i := 49) (by decide +kernel)) (by decide +kernel)
theorem m_50 : Cond.initialized "OneBeatsBoth$Nuisance" ∈ WT := wt_in (List.mem_of_getElem? (i := 50) (by decide +kernel)) (by decide +kernel)
theorem m_51 : Cond.initialized "OneBeatsBoth$Paid" ∈ WT := wt_in (List.mem_of_getElem? (i := 51) (by decide +kernel)) (by decide +kernel)
theorem m_52 : Cond.initialized "OneBeatsBoth$Guest" ∈ WT := wt_in (List.mem_of_getElem? (i := 52) (by decide +kernel)) (by decide +kernel)
theorem m_53 : Cond.initialized "OneBeatsBoth$Twin" ∈ WT := wt_in (List.mem_of_getElem? (i := 53) (by decide +kernel)) (by decide +kernel)
theorem m_54 : Cond.initialized "OneBeatsBoth$Novice" ∈ WT := wt_in (List.mem_of_getElem? (i := 54) (by decide +kernel)) (by decide +kernel)
theorem m_55 : Cond.initialized "OneBeatsBoth$Priest" ∈ WT := wt_in (List.mem_of_getElem? (i := 55) (by decide +kernel)) (by decide +kernel)
theorem m_56 : Cond.initialized "OneBeatsBoth$Champion" ∈ WT := wt_in (List.mem_of_getElem? (i := 56) (by decide +kernel)) (by decide +kernel)
theorem m_57 : Cond.initialized "java/lang/Integer" ∈ WT := wt_in (List.mem_of_getElem? (i := 57) (by decide +kernel)) (by decide +kernel)
theorem m_58 : Cond.initialized "OneBeatsBoth$Row" ∈ WT := wt_in (List.mem_of_getElem? (i := 58) (by decide +kernel)) (by decide +kernel)
theorem m_70 : Cond.methodLink "OneBeatsBoth" 1 objectInit ∈ WT := wt_in (List.mem_of_getElem? (i := 70) (by decide +kernel)) (by decide +kernel)
theorem m_71 : Cond.instanceMethod objectInit ∈ WT := wt_in (List.mem_of_getElem? (i := 71) (by decide +kernel)) (by decide +kernel)
theorem m_72 : Cond.code objectInit ⟨#[0xb1]⟩ 1 none ∈ WT := wt_in (List.mem_of_getElem? (i := 72) (by decide +kernel)) (by decide +kernel)
theorem m_73 : Cond.classLink "OneBeatsBoth" 7 "OneBeatsBoth$Player" ∈ WT := wt_in (List.mem_of_getElem? (i := 73) (by decide +kernel)) (by decide +kernel)
theorem m_74 : Cond.instantiable "OneBeatsBoth$Player" 1 ∈ WT := wt_in (List.mem_of_getElem? (i := 74) (by decide +kernel)) (by decide +kernel)
theorem m_75 : Cond.methodLink "OneBeatsBoth" 9 yX6_init ∈ WT := wt_in (List.mem_of_getElem? (i := 75) (by decide +kernel)) (by decide +kernel)
theorem m_76 : Cond.instanceMethod yX6_init ∈ WT := wt_in (List.mem_of_getElem? (i := 76) (by decide +kernel)) (by decide +kernel)
theorem m_77 : Cond.code yX6_init cX6_init 2 none ∈ WT := wt_in (List.mem_of_getElem? (i := 77) (by decide +kernel)) (by decide +kernel)
theorem m_78 : Cond.methodLink "OneBeatsBoth$Player" 1 objectInit ∈ WT := wt_in (List.mem_of_getElem? (i := 78) (by decide +kernel)) (by decide +kernel)
theorem m_79 : Cond.fieldLink "OneBeatsBoth$Player" 7 "OneBeatsBoth$Player" "figure" "I" ∈ WT := wt_in (List.mem_of_getElem? (i := 79) (by decide +kernel)) (by decide +kernel)
theorem m_80 : Cond.fieldLink "OneBeatsBoth" 91 "OneBeatsBoth$Player" "figure" "I" ∈ WT := wt_in (List.mem_of_getElem? (i := 80) (by decide +kernel)) (by decide +kernel)
theorem m_81 : Cond.fieldLink "OneBeatsBoth$Novice" 7 "OneBeatsBoth$Novice" "figure" "I" ∈ WT := wt_in (List.mem_of_getElem? (i := 81) (by decide +kernel)) (by decide +kernel)
theorem m_82 : Cond.sameField "OneBeatsBoth$Novice" "OneBeatsBoth$Player" "figure" "I" ∈ WT := wt_in (List.mem_of_getElem? (i := 82) (by decide +kernel)) (by decide +kernel)
theorem m_83 : Cond.fieldLink "OneBeatsBoth$Nuisance" 11 "OneBeatsBoth$Nuisance" "figure" "I" ∈ WT := wt_in (List.mem_of_getElem? (i := 83) (by decide +kernel)) (by decide +kernel)
theorem m_84 : Cond.sameField "OneBeatsBoth$Nuisance" "OneBeatsBoth$Player" "figure" "I" ∈ WT := wt_in (List.mem_of_getElem? (i := 84) (by decide +kernel)) (by decide +kernel)
theorem m_90 : Cond.classLink "OneBeatsBoth" 18 "OneBeatsBoth$League" ∈ WT := wt_in (List.mem_of_getElem? (i := 90) (by decide +kernel)) (by decide +kernel)
theorem m_91 : Cond.instantiable "OneBeatsBoth$League" 4 ∈ WT := wt_in (List.mem_of_getElem? (i := 91) (by decide +kernel)) (by decide +kernel)
theorem m_92 : Cond.methodLink "OneBeatsBoth" 20 yX2_init ∈ WT := wt_in (List.mem_of_getElem? (i := 92) (by decide +kernel)) (by decide +kernel)
theorem m_93 : Cond.instanceMethod yX2_init ∈ WT := wt_in (List.mem_of_getElem? (i := 93) (by decide +kernel)) (by decide +kernel)
theorem m_94 : Cond.code yX2_init cX2_init 3 none ∈ WT := wt_in (List.mem_of_getElem? (i := 94) (by decide +kernel)) (by decide +kernel)
theorem m_95 : Cond.methodLink "OneBeatsBoth$League" 3 objectInit ∈ WT := wt_in (List.mem_of_getElem? (i := 95) (by decide +kernel)) (by decide +kernel)
theorem m_96 : Cond.classLink "OneBeatsBoth$League" 9 "OneBeatsBoth$Player" ∈ WT := wt_in (List.mem_of_getElem? (i := 96) (by decide +kernel)) (by decide +kernel)
theorem m_98 : Cond.fieldLink "OneBeatsBoth$League" 11 "OneBeatsBoth$League" "people" "[LOneBeatsBoth$Player;" ∈ WT := wt_in (List.mem_of_getElem? (i := 98) (by decide +kernel)) (by decide +kernel)
theorem m_99 : Cond.fieldLink "OneBeatsBoth" 85 "OneBeatsBoth$League" "people" "[LOneBeatsBoth$Player;" ∈ WT := wt_in (List.mem_of_getElem? (i := 99) (by decide +kernel)) (by decide +kernel)
theorem m_100 : Cond.fieldLink "OneBeatsBoth$League" 17 "OneBeatsBoth$League" "beaten" "[I" ∈ WT := wt_in (List.mem_of_getElem? (i := 100) (by decide +kernel)) (by decide +kernel)
theorem m_101 : Cond.fieldLink "OneBeatsBoth" 98 "OneBeatsBoth$League" "beaten" "[I" ∈ WT := wt_in (List.mem_of_getElem? (i := 101) (by decide +kernel)) (by decide +kernel)
theorem m_102 : Cond.fieldLink "OneBeatsBoth$League" 21 "OneBeatsBoth$League" "size" "I" ∈ WT := wt_in (List.mem_of_getElem? (i := 102) (by decide +kernel)) (by decide +kernel)
theorem m_103 : Cond.fieldLink "OneBeatsBoth" 111 "OneBeatsBoth$League" "size" "I" ∈ WT := wt_in (List.mem_of_getElem? (i := 103) (by decide +kernel)) (by decide +kernel)
theorem m_104 : Cond.fieldLink "OneBeatsBoth$League" 25 "OneBeatsBoth$League" "law" "I" ∈ WT := wt_in (List.mem_of_getElem? (i := 104) (by decide +kernel)) (by decide +kernel)
theorem m_105 : Cond.fieldLink "OneBeatsBoth" 130 "OneBeatsBoth$League" "law" "I" ∈ WT := wt_in (List.mem_of_getElem? (i := 105) (by decide +kernel)) (by decide +kernel)
theorem m_115 : Cond.arrayClass .int ∈ WT := wt_in (List.mem_of_getElem? (i := 115) (by decide +kernel)) (by decide +kernel)
theorem m_116 : Cond.classLink "OneBeatsBoth" 41 "OneBeatsBoth$Row" ∈ WT := wt_in (List.mem_of_getElem? (i := 116) (by decide +kernel)) (by decide +kernel)
theorem m_118 : Cond.fieldLink "OneBeatsBoth" 12 "OneBeatsBoth" "plain" "LOneBeatsBoth$Player;" ∈ WT := wt_in (List.mem_of_getElem? (i := 118) (by decide +kernel)) (by decide +kernel)
theorem m_119 : Cond.fieldLink "OneBeatsBoth" 23 "OneBeatsBoth" "now" "LOneBeatsBoth$League;" ∈ WT := wt_in (List.mem_of_getElem? (i := 119) (by decide +kernel)) (by decide +kernel)
theorem m_120 : Cond.fieldLink "OneBeatsBoth" 27 "OneBeatsBoth" "draft" "LOneBeatsBoth$League;" ∈ WT := wt_in (List.mem_of_getElem? (i := 120) (by decide +kernel)) (by decide +kernel)
theorem m_121 : Cond.fieldLink "OneBeatsBoth" 30 "OneBeatsBoth" "pictured" "LOneBeatsBoth$League;" ∈ WT := wt_in (List.mem_of_getElem? (i := 121) (by decide +kernel)) (by decide +kernel)
theorem m_122 : Cond.fieldLink "OneBeatsBoth" 33 "OneBeatsBoth" "hasImage" "Z" ∈ WT := wt_in (List.mem_of_getElem? (i := 122) (by decide +kernel)) (by decide +kernel)
theorem m_123 : Cond.fieldLink "OneBeatsBoth" 37 "OneBeatsBoth" "peopleOnShelves" "[LOneBeatsBoth$Player;" ∈ WT := wt_in (List.mem_of_getElem? (i := 123) (by decide +kernel)) (by decide +kernel)
theorem m_124 : Cond.fieldLink "OneBeatsBoth" 43 "OneBeatsBoth" "rowsOnShelves" "[LOneBeatsBoth$Row;" ∈ WT := wt_in (List.mem_of_getElem? (i := 124) (by decide +kernel)) (by decide +kernel)
theorem m_125 : Cond.fieldLink "OneBeatsBoth" 47 "OneBeatsBoth" "told" "[I" ∈ WT := wt_in (List.mem_of_getElem? (i := 125) (by decide +kernel)) (by decide +kernel)
theorem m_147 : Cond.methodLink "OneBeatsBoth" 51 yX10_bytesOn ∈ WT := wt_in (List.mem_of_getElem? (i := 147) (by decide +kernel)) (by decide +kernel)
theorem m_149 : Cond.instanceMethod yX10_bytesOn ∈ WT := wt_in (List.mem_of_getElem? (i := 149) (by decide +kernel)) (by decide +kernel)
theorem m_150 : Cond.code yX10_bytesOn cX10_bytesOn 3 (some (.object "OneBeatsBoth$Row")) ∈ WT := wt_in (List.mem_of_getElem? (i := 150) (by decide +kernel)) (by decide +kernel)
theorem m_151 : Cond.methodLink "OneBeatsBoth" 217 yX10_rowOn ∈ WT := wt_in (List.mem_of_getElem? (i := 151) (by decide +kernel)) (by decide +kernel)
theorem m_153 : Cond.instanceMethod yX10_rowOn ∈ WT := wt_in (List.mem_of_getElem? (i := 153) (by decide +kernel)) (by decide +kernel)
theorem m_154 : Cond.code yX10_rowOn cX10_rowOn 2 (some (.object "OneBeatsBoth$Row")) ∈ WT := wt_in (List.mem_of_getElem? (i := 154) (by decide +kernel)) (by decide +kernel)
theorem m_155 : Cond.methodLink "OneBeatsBoth" 211 yX10_isShelf ∈ WT := wt_in (List.mem_of_getElem? (i := 155) (by decide +kernel)) (by decide +kernel)
theorem m_156 : Cond.static yX10_isShelf ∈ WT := wt_in (List.mem_of_getElem? (i := 156) (by decide +kernel)) (by decide +kernel)
theorem m_157 : Cond.code yX10_isShelf cX10_isShelf 1 (some .boolean) ∈ WT := wt_in (List.mem_of_getElem? (i := 157) (by decide +kernel)) (by decide +kernel)
theorem m_158 : Cond.methodLink "OneBeatsBoth" 55 yX10_whyNotOn ∈ WT := wt_in (List.mem_of_getElem? (i := 158) (by decide +kernel)) (by decide +kernel)
theorem m_160 : Cond.instanceMethod yX10_whyNotOn ∈ WT := wt_in (List.mem_of_getElem? (i := 160) (by decide +kernel)) (by decide +kernel)
theorem m_161 : Cond.code yX10_whyNotOn cX10_whyNotOn 2 (some .int) ∈ WT := wt_in (List.mem_of_getElem? (i := 161) (by decide +kernel)) (by decide +kernel)
theorem m_162 : Cond.methodLink "OneBeatsBoth" 247 yX10_isBare ∈ WT := wt_in (List.mem_of_getElem? (i := 162) (by decide +kernel)) (by decide +kernel)
theorem m_164 : Cond.instanceMethod yX10_isBare ∈ WT := wt_in (List.mem_of_getElem? (i := 164) (by decide +kernel)) (by decide +kernel)
theorem m_165 : Cond.code yX10_isBare cX10_isBare 2 (some .boolean) ∈ WT := wt_in (List.mem_of_getElem? (i := 165) (by decide +kernel)) (by decide +kernel)
theorem m_166 : Cond.methodLink "OneBeatsBoth" 107 yX10_personOn ∈ WT := wt_in (List.mem_of_getElem? (i := 166) (by decide +kernel)) (by decide +kernel)
theorem m_168 : Cond.instanceMethod yX10_personOn ∈ WT := wt_in (List.mem_of_getElem? (i := 168) (by decide +kernel)) (by decide +kernel)
theorem m_169 : Cond.code yX10_personOn cX10_personOn 2 (some (.object "OneBeatsBoth$Player")) ∈ WT := wt_in (List.mem_of_getElem? (i := 169) (by decide +kernel)) (by decide +kernel)
theorem m_173 : Cond.methodLink "OneBeatsBoth" 67 yX8_size ∈ WT := wt_in (List.mem_of_getElem? (i := 173) (by decide +kernel)) (by decide +kernel)
theorem m_174 : Cond.instanceMethod yX8_size ∈ WT := wt_in (List.mem_of_getElem? (i := 174) (by decide +kernel)) (by decide +kernel)
theorem m_175 : Cond.selects "OneBeatsBoth$Row" yX8_size yX8_size ∈ WT := wt_in (List.mem_of_getElem? (i := 175) (by decide +kernel)) (by decide +kernel)
theorem m_176 : Cond.code yX8_size cX8_size 1 (some .int) ∈ WT := wt_in (List.mem_of_getElem? (i := 176) (by decide +kernel)) (by decide +kernel)
theorem m_177 : Cond.methodLink "OneBeatsBoth" 71 yX8_at ∈ WT := wt_in (List.mem_of_getElem? (i := 177) (by decide +kernel)) (by decide +kernel)
theorem m_178 : Cond.instanceMethod yX8_at ∈ WT := wt_in (List.mem_of_getElem? (i := 178) (by decide +kernel)) (by decide +kernel)
theorem m_179 : Cond.selects "OneBeatsBoth$Row" yX8_at yX8_at ∈ WT := wt_in (List.mem_of_getElem? (i := 179) (by decide +kernel)) (by decide +kernel)
theorem m_180 : Cond.code yX8_at cX8_at 2 (some .int) ∈ WT := wt_in (List.mem_of_getElem? (i := 180) (by decide +kernel)) (by decide +kernel)
theorem m_181 : Cond.methodLink "OneBeatsBoth$Row" 17 yX8_hasPlaces ∈ WT := wt_in (List.mem_of_getElem? (i := 181) (by decide +kernel)) (by decide +kernel)
theorem m_182 : Cond.instanceMethod yX8_hasPlaces ∈ WT := wt_in (List.mem_of_getElem? (i := 182) (by decide +kernel)) (by decide +kernel)
theorem m_183 : Cond.selects "OneBeatsBoth$Row" yX8_hasPlaces yX8_hasPlaces ∈ WT := wt_in (List.mem_of_getElem? (i := 183) (by decide +kernel)) (by decide +kernel)
theorem m_184 : Cond.code yX8_hasPlaces cX8_hasPlaces 3 (some .boolean) ∈ WT := wt_in (List.mem_of_getElem? (i := 184) (by decide +kernel)) (by decide +kernel)
theorem m_185 : Cond.methodLink "OneBeatsBoth" 78 yX10_digitsBehind ∈ WT := wt_in (List.mem_of_getElem? (i := 185) (by decide +kernel)) (by decide +kernel)
theorem m_186 : Cond.static yX10_digitsBehind ∈ WT := wt_in (List.mem_of_getElem? (i := 186) (by decide +kernel)) (by decide +kernel)
theorem m_187 : Cond.code yX10_digitsBehind cX10_digitsBehind 1 (some .int) ∈ WT := wt_in (List.mem_of_getElem? (i := 187) (by decide +kernel)) (by decide +kernel)
theorem m_188 : Cond.methodLink "OneBeatsBoth" 63 yX2_become ∈ WT := wt_in (List.mem_of_getElem? (i := 188) (by decide +kernel)) (by decide +kernel)
theorem m_189 : Cond.instanceMethod yX2_become ∈ WT := wt_in (List.mem_of_getElem? (i := 189) (by decide +kernel)) (by decide +kernel)
theorem m_190 : Cond.selects "OneBeatsBoth$League" yX2_become yX2_become ∈ WT := wt_in (List.mem_of_getElem? (i := 190) (by decide +kernel)) (by decide +kernel)
theorem m_191 : Cond.code yX2_become cX2_become 2 none ∈ WT := wt_in (List.mem_of_getElem? (i := 191) (by decide +kernel)) (by decide +kernel)
theorem m_192 : Cond.methodLink "OneBeatsBoth$League" 28 arraycopyName ∈ WT := wt_in (List.mem_of_getElem? (i := 192) (by decide +kernel)) (by decide +kernel)
theorem m_193 : Cond.static arraycopyName ∈ WT := wt_in (List.mem_of_getElem? (i := 193) (by decide +kernel)) (by decide +kernel)
theorem m_194 : Cond.native arraycopyName ∈ WT := wt_in (List.mem_of_getElem? (i := 194) (by decide +kernel)) (by decide +kernel)
theorem m_199 : Cond.methodLink "OneBeatsBoth" 165 yX10_isPerson ∈ WT := wt_in (List.mem_of_getElem? (i := 199) (by decide +kernel)) (by decide +kernel)
theorem m_200 : Cond.static yX10_isPerson ∈ WT := wt_in (List.mem_of_getElem? (i := 200) (by decide +kernel)) (by decide +kernel)
theorem m_201 : Cond.code yX10_isPerson cX10_isPerson 2 (some .boolean) ∈ WT := wt_in (List.mem_of_getElem? (i := 201) (by decide +kernel)) (by decide +kernel)
theorem m_202 : Cond.methodLink "OneBeatsBoth" 168 yX10_newPerson ∈ WT := wt_in (List.mem_of_getElem? (i := 202) (by decide +kernel)) (by decide +kernel)
theorem m_203 : Cond.static yX10_newPerson ∈ WT := wt_in (List.mem_of_getElem? (i := 203) (by decide +kernel)) (by decide +kernel)
theorem m_204 : Cond.code yX10_newPerson cX10_newPerson 2 (some (.object "OneBeatsBoth$Player")) ∈ WT := wt_in (List.mem_of_getElem? (i := 204) (by decide +kernel)) (by decide +kernel)
theorem m_205 : Cond.classLink "OneBeatsBoth" 267 "OneBeatsBoth$Nuisance" ∈ WT := wt_in (List.mem_of_getElem? (i := 205) (by decide +kernel)) (by decide +kernel)
theorem m_206 : Cond.instantiable "OneBeatsBoth$Nuisance" 1 ∈ WT := wt_in (List.mem_of_getElem? (i := 206) (by decide +kernel)) (by decide +kernel)
theorem m_207 : Cond.methodLink "OneBeatsBoth" 269 yX4_init ∈ WT := wt_in (List.mem_of_getElem? (i := 207) (by decide +kernel)) (by decide +kernel)
theorem m_208 : Cond.instanceMethod yX4_init ∈ WT := wt_in (List.mem_of_getElem? (i := 208) (by decide +kernel)) (by decide +kernel)
theorem m_209 : Cond.code yX4_init cX4_init 2 none ∈ WT := wt_in (List.mem_of_getElem? (i := 209) (by decide +kernel)) (by decide +kernel)
theorem m_210 : Cond.methodLink "OneBeatsBoth$Nuisance" 1 yX6_init ∈ WT := wt_in (List.mem_of_getElem? (i := 210) (by decide +kernel)) (by decide +kernel)
theorem m_212 : Cond.superclass "OneBeatsBoth$Nuisance" "OneBeatsBoth$Player" ∈ WT := wt_in (List.mem_of_getElem? (i := 212) (by decide +kernel)) (by decide +kernel)
theorem m_213 : Cond.classLink "OneBeatsBoth" 270 "OneBeatsBoth$Paid" ∈ WT := wt_in (List.mem_of_getElem? (i := 213) (by decide +kernel)) (by decide +kernel)
theorem m_214 : Cond.instantiable "OneBeatsBoth$Paid" 1 ∈ WT := wt_in (List.mem_of_getElem? (i := 214) (by decide +kernel)) (by decide +kernel)
theorem m_215 : Cond.methodLink "OneBeatsBoth" 272 yX5_init ∈ WT := wt_in (List.mem_of_getElem? (i := 215) (by decide +kernel)) (by decide +kernel)
theorem m_216 : Cond.instanceMethod yX5_init ∈ WT := wt_in (List.mem_of_getElem? (i := 216) (by decide +kernel)) (by decide +kernel)
theorem m_217 : Cond.code yX5_init cX5_init 2 none ∈ WT := wt_in (List.mem_of_getElem? (i := 217) (by decide +kernel)) (by decide +kernel)
theorem m_218 : Cond.methodLink "OneBeatsBoth$Paid" 1 yX6_init ∈ WT := wt_in (List.mem_of_getElem? (i := 218) (by decide +kernel)) (by decide +kernel)
theorem m_220 : Cond.superclass "OneBeatsBoth$Paid" "OneBeatsBoth$Player" ∈ WT := wt_in (List.mem_of_getElem? (i := 220) (by decide +kernel)) (by decide +kernel)
theorem m_221 : Cond.classLink "OneBeatsBoth" 273 "OneBeatsBoth$Guest" ∈ WT := wt_in (List.mem_of_getElem? (i := 221) (by decide +kernel)) (by decide +kernel)
theorem m_222 : Cond.instantiable "OneBeatsBoth$Guest" 1 ∈ WT := wt_in (List.mem_of_getElem? (i := 222) (by decide +kernel)) (by decide +kernel)
theorem m_223 : Cond.methodLink "OneBeatsBoth" 275 yX1_init ∈ WT := wt_in (List.mem_of_getElem? (i := 223) (by decide +kernel)) (by decide +kernel)
theorem m_224 : Cond.instanceMethod yX1_init ∈ WT := wt_in (List.mem_of_getElem? (i := 224) (by decide +kernel)) (by decide +kernel)
theorem m_225 : Cond.code yX1_init cX1_init 2 none ∈ WT := wt_in (List.mem_of_getElem? (i := 225) (by decide +kernel)) (by decide +kernel)
theorem m_226 : Cond.methodLink "OneBeatsBoth$Guest" 1 yX6_init ∈ WT := wt_in (List.mem_of_getElem? (i := 226) (by decide +kernel)) (by decide +kernel)
theorem m_228 : Cond.superclass "OneBeatsBoth$Guest" "OneBeatsBoth$Player" ∈ WT := wt_in (List.mem_of_getElem? (i := 228) (by decide +kernel)) (by decide +kernel)
theorem m_229 : Cond.classLink "OneBeatsBoth" 276 "OneBeatsBoth$Twin" ∈ WT := wt_in (List.mem_of_getElem? (i := 229) (by decide +kernel)) (by decide +kernel)
theorem m_230 : Cond.instantiable "OneBeatsBoth$Twin" 1 ∈ WT := wt_in (List.mem_of_getElem? (i := 230) (by decide +kernel)) (by decide +kernel)
theorem m_231 : Cond.methodLink "OneBeatsBoth" 278 yX9_init ∈ WT := wt_in (List.mem_of_getElem? (i := 231) (by decide +kernel)) (by decide +kernel)
theorem m_232 : Cond.instanceMethod yX9_init ∈ WT := wt_in (List.mem_of_getElem? (i := 232) (by decide +kernel)) (by decide +kernel)
theorem m_233 : Cond.code yX9_init cX9_init 2 none ∈ WT := wt_in (List.mem_of_getElem? (i := 233) (by decide +kernel)) (by decide +kernel)
theorem m_234 : Cond.methodLink "OneBeatsBoth$Twin" 1 yX4_init ∈ WT := wt_in (List.mem_of_getElem? (i := 234) (by decide +kernel)) (by decide +kernel)
theorem m_236 : Cond.superclass "OneBeatsBoth$Twin" "OneBeatsBoth$Nuisance" ∈ WT := wt_in (List.mem_of_getElem? (i := 236) (by decide +kernel)) (by decide +kernel)
theorem m_237 : Cond.classLink "OneBeatsBoth" 279 "OneBeatsBoth$Novice" ∈ WT := wt_in (List.mem_of_getElem? (i := 237) (by decide +kernel)) (by decide +kernel)
theorem m_238 : Cond.instantiable "OneBeatsBoth$Novice" 1 ∈ WT := wt_in (List.mem_of_getElem? (i := 238) (by decide +kernel)) (by decide +kernel)
theorem m_239 : Cond.methodLink "OneBeatsBoth" 281 yX3_init ∈ WT := wt_in (List.mem_of_getElem? (i := 239) (by decide +kernel)) (by decide +kernel)
theorem m_240 : Cond.instanceMethod yX3_init ∈ WT := wt_in (List.mem_of_getElem? (i := 240) (by decide +kernel)) (by decide +kernel)
theorem m_241 : Cond.code yX3_init cX3_init 2 none ∈ WT := wt_in (List.mem_of_getElem? (i := 241) (by decide +kernel)) (by decide +kernel)
theorem m_242 : Cond.methodLink "OneBeatsBoth$Novice" 1 yX5_init ∈ WT := wt_in (List.mem_of_getElem? (i := 242) (by decide +kernel)) (by decide +kernel)
theorem m_244 : Cond.superclass "OneBeatsBoth$Novice" "OneBeatsBoth$Paid" ∈ WT := wt_in (List.mem_of_getElem? (i := 244) (by decide +kernel)) (by decide +kernel)
theorem m_245 : Cond.classLink "OneBeatsBoth" 282 "OneBeatsBoth$Priest" ∈ WT := wt_in (List.mem_of_getElem? (i := 245) (by decide +kernel)) (by decide +kernel)
theorem m_246 : Cond.instantiable "OneBeatsBoth$Priest" 1 ∈ WT := wt_in (List.mem_of_getElem? (i := 246) (by decide +kernel)) (by decide +kernel)
theorem m_247 : Cond.methodLink "OneBeatsBoth" 284 yX7_init ∈ WT := wt_in (List.mem_of_getElem? (i := 247) (by decide +kernel)) (by decide +kernel)
theorem m_248 : Cond.instanceMethod yX7_init ∈ WT := wt_in (List.mem_of_getElem? (i := 248) (by decide +kernel)) (by decide +kernel)
theorem m_249 : Cond.code yX7_init cX7_init 2 none ∈ WT := wt_in (List.mem_of_getElem? (i := 249) (by decide +kernel)) (by decide +kernel)
theorem m_250 : Cond.methodLink "OneBeatsBoth$Priest" 1 yX1_init ∈ WT := wt_in (List.mem_of_getElem? (i := 250) (by decide +kernel)) (by decide +kernel)
theorem m_252 : Cond.superclass "OneBeatsBoth$Priest" "OneBeatsBoth$Guest" ∈ WT := wt_in (List.mem_of_getElem? (i := 252) (by decide +kernel)) (by decide +kernel)
theorem m_253 : Cond.classLink "OneBeatsBoth" 285 "OneBeatsBoth$Champion" ∈ WT := wt_in (List.mem_of_getElem? (i := 253) (by decide +kernel)) (by decide +kernel)
theorem m_254 : Cond.instantiable "OneBeatsBoth$Champion" 1 ∈ WT := wt_in (List.mem_of_getElem? (i := 254) (by decide +kernel)) (by decide +kernel)
theorem m_255 : Cond.methodLink "OneBeatsBoth" 287 yX0_init ∈ WT := wt_in (List.mem_of_getElem? (i := 255) (by decide +kernel)) (by decide +kernel)
theorem m_256 : Cond.instanceMethod yX0_init ∈ WT := wt_in (List.mem_of_getElem? (i := 256) (by decide +kernel)) (by decide +kernel)
theorem m_257 : Cond.code yX0_init cX0_init 2 none ∈ WT := wt_in (List.mem_of_getElem? (i := 257) (by decide +kernel)) (by decide +kernel)
theorem m_258 : Cond.methodLink "OneBeatsBoth$Champion" 1 yX6_init ∈ WT := wt_in (List.mem_of_getElem? (i := 258) (by decide +kernel)) (by decide +kernel)
theorem m_260 : Cond.superclass "OneBeatsBoth$Champion" "OneBeatsBoth$Player" ∈ WT := wt_in (List.mem_of_getElem? (i := 260) (by decide +kernel)) (by decide +kernel)
theorem m_261 : Cond.methodLink "OneBeatsBoth" 113 yX2_seat ∈ WT := wt_in (List.mem_of_getElem? (i := 261) (by decide +kernel)) (by decide +kernel)
theorem m_262 : Cond.instanceMethod yX2_seat ∈ WT := wt_in (List.mem_of_getElem? (i := 262) (by decide +kernel)) (by decide +kernel)
theorem m_263 : Cond.selects "OneBeatsBoth$League" yX2_seat yX2_seat ∈ WT := wt_in (List.mem_of_getElem? (i := 263) (by decide +kernel)) (by decide +kernel)
theorem m_264 : Cond.code yX2_seat cX2_seat 3 none ∈ WT := wt_in (List.mem_of_getElem? (i := 264) (by decide +kernel)) (by decide +kernel)
theorem m_265 : Cond.methodLink "OneBeatsBoth" 116 yX2_hasBoth ∈ WT := wt_in (List.mem_of_getElem? (i := 265) (by decide +kernel)) (by decide +kernel)
theorem m_266 : Cond.instanceMethod yX2_hasBoth ∈ WT := wt_in (List.mem_of_getElem? (i := 266) (by decide +kernel)) (by decide +kernel)
theorem m_267 : Cond.selects "OneBeatsBoth$League" yX2_hasBoth yX2_hasBoth ∈ WT := wt_in (List.mem_of_getElem? (i := 267) (by decide +kernel)) (by decide +kernel)
theorem m_268 : Cond.code yX2_hasBoth cX2_hasBoth 3 (some .boolean) ∈ WT := wt_in (List.mem_of_getElem? (i := 268) (by decide +kernel)) (by decide +kernel)
theorem m_269 : Cond.methodLink "OneBeatsBoth$League" 34 yX2_has ∈ WT := wt_in (List.mem_of_getElem? (i := 269) (by decide +kernel)) (by decide +kernel)
theorem m_270 : Cond.instanceMethod yX2_has ∈ WT := wt_in (List.mem_of_getElem? (i := 270) (by decide +kernel)) (by decide +kernel)
theorem m_271 : Cond.selects "OneBeatsBoth$League" yX2_has yX2_has ∈ WT := wt_in (List.mem_of_getElem? (i := 271) (by decide +kernel)) (by decide +kernel)
theorem m_272 : Cond.code yX2_has cX2_has 2 (some .boolean) ∈ WT := wt_in (List.mem_of_getElem? (i := 272) (by decide +kernel)) (by decide +kernel)
theorem m_273 : Cond.methodLink "OneBeatsBoth" 123 yX2_win ∈ WT := wt_in (List.mem_of_getElem? (i := 273) (by decide +kernel)) (by decide +kernel)
theorem m_274 : Cond.instanceMethod yX2_win ∈ WT := wt_in (List.mem_of_getElem? (i := 274) (by decide +kernel)) (by decide +kernel)
theorem m_275 : Cond.selects "OneBeatsBoth$League" yX2_win yX2_win ∈ WT := wt_in (List.mem_of_getElem? (i := 275) (by decide +kernel)) (by decide +kernel)
theorem m_276 : Cond.code yX2_win cX2_win 3 none ∈ WT := wt_in (List.mem_of_getElem? (i := 276) (by decide +kernel)) (by decide +kernel)
theorem m_277 : Cond.methodLink "OneBeatsBoth" 127 yX10_isLaw ∈ WT := wt_in (List.mem_of_getElem? (i := 277) (by decide +kernel)) (by decide +kernel)
theorem m_278 : Cond.static yX10_isLaw ∈ WT := wt_in (List.mem_of_getElem? (i := 278) (by decide +kernel)) (by decide +kernel)
theorem m_279 : Cond.code yX10_isLaw cX10_isLaw 1 (some .boolean) ∈ WT := wt_in (List.mem_of_getElem? (i := 279) (by decide +kernel)) (by decide +kernel)
theorem m_280 : Cond.methodLink "OneBeatsBoth" 175 yX2_unseat ∈ WT := wt_in (List.mem_of_getElem? (i := 280) (by decide +kernel)) (by decide +kernel)
theorem m_281 : Cond.instanceMethod yX2_unseat ∈ WT := wt_in (List.mem_of_getElem? (i := 281) (by decide +kernel)) (by decide +kernel)
theorem m_282 : Cond.selects "OneBeatsBoth$League" yX2_unseat yX2_unseat ∈ WT := wt_in (List.mem_of_getElem? (i := 282) (by decide +kernel)) (by decide +kernel)
theorem m_283 : Cond.code yX2_unseat cX2_unseat 4 none ∈ WT := wt_in (List.mem_of_getElem? (i := 283) (by decide +kernel)) (by decide +kernel)
theorem m_288 : Cond.methodLink "OneBeatsBoth" 81 yX2_has ∈ WT := wt_in (List.mem_of_getElem? (i := 288) (by decide +kernel)) (by decide +kernel)
theorem m_289 : Cond.methodLink "OneBeatsBoth" 88 yX6_kind ∈ WT := wt_in (List.mem_of_getElem? (i := 289) (by decide +kernel)) (by decide +kernel)
theorem m_290 : Cond.instanceMethod yX6_kind ∈ WT := wt_in (List.mem_of_getElem? (i := 290) (by decide +kernel)) (by decide +kernel)
theorem m_291 : Cond.selects "OneBeatsBoth$Player" yX6_kind yX6_kind ∈ WT := wt_in (List.mem_of_getElem? (i := 291) (by decide +kernel)) (by decide +kernel)
theorem m_292 : Cond.sameMethod "OneBeatsBoth$Player" "OneBeatsBoth$Player" "kind" "()I" ∈ WT := wt_in (List.mem_of_getElem? (i := 292) (by decide +kernel)) (by decide +kernel)
theorem m_293 : Cond.selects "OneBeatsBoth$Champion" yX6_kind yX0_kind ∈ WT := wt_in (List.mem_of_getElem? (i := 293) (by decide +kernel)) (by decide +kernel)
theorem m_294 : Cond.instanceMethod yX0_kind ∈ WT := wt_in (List.mem_of_getElem? (i := 294) (by decide +kernel)) (by decide +kernel)
theorem m_295 : Cond.code yX0_kind cX0_kind 1 (some .int) ∈ WT := wt_in (List.mem_of_getElem? (i := 295) (by decide +kernel)) (by decide +kernel)
theorem m_296 : Cond.selects "OneBeatsBoth$Guest" yX6_kind yX1_kind ∈ WT := wt_in (List.mem_of_getElem? (i := 296) (by decide +kernel)) (by decide +kernel)
theorem m_297 : Cond.instanceMethod yX1_kind ∈ WT := wt_in (List.mem_of_getElem? (i := 297) (by decide +kernel)) (by decide +kernel)
theorem m_298 : Cond.code yX1_kind cX1_kind 1 (some .int) ∈ WT := wt_in (List.mem_of_getElem? (i := 298) (by decide +kernel)) (by decide +kernel)
theorem m_299 : Cond.selects "OneBeatsBoth$Novice" yX6_kind yX3_kind ∈ WT := wt_in (List.mem_of_getElem? (i := 299) (by decide +kernel)) (by decide +kernel)
theorem m_300 : Cond.instanceMethod yX3_kind ∈ WT := wt_in (List.mem_of_getElem? (i := 300) (by decide +kernel)) (by decide +kernel)
theorem m_301 : Cond.code yX3_kind cX3_kind 1 (some .int) ∈ WT := wt_in (List.mem_of_getElem? (i := 301) (by decide +kernel)) (by decide +kernel)
theorem m_302 : Cond.selects "OneBeatsBoth$Nuisance" yX6_kind yX4_kind ∈ WT := wt_in (List.mem_of_getElem? (i := 302) (by decide +kernel)) (by decide +kernel)
theorem m_303 : Cond.instanceMethod yX4_kind ∈ WT := wt_in (List.mem_of_getElem? (i := 303) (by decide +kernel)) (by decide +kernel)
theorem m_304 : Cond.code yX4_kind cX4_kind 1 (some .int) ∈ WT := wt_in (List.mem_of_getElem? (i := 304) (by decide +kernel)) (by decide +kernel)
theorem m_305 : Cond.selects "OneBeatsBoth$Paid" yX6_kind yX5_kind ∈ WT := wt_in (List.mem_of_getElem? (i := 305) (by decide +kernel)) (by decide +kernel)
theorem m_306 : Cond.instanceMethod yX5_kind ∈ WT := wt_in (List.mem_of_getElem? (i := 306) (by decide +kernel)) (by decide +kernel)
theorem m_307 : Cond.code yX5_kind cX5_kind 1 (some .int) ∈ WT := wt_in (List.mem_of_getElem? (i := 307) (by decide +kernel)) (by decide +kernel)
theorem m_308 : Cond.selects "OneBeatsBoth$Priest" yX6_kind yX7_kind ∈ WT := wt_in (List.mem_of_getElem? (i := 308) (by decide +kernel)) (by decide +kernel)
theorem m_309 : Cond.instanceMethod yX7_kind ∈ WT := wt_in (List.mem_of_getElem? (i := 309) (by decide +kernel)) (by decide +kernel)
theorem m_310 : Cond.code yX7_kind cX7_kind 1 (some .int) ∈ WT := wt_in (List.mem_of_getElem? (i := 310) (by decide +kernel)) (by decide +kernel)
theorem m_311 : Cond.selects "OneBeatsBoth$Twin" yX6_kind yX9_kind ∈ WT := wt_in (List.mem_of_getElem? (i := 311) (by decide +kernel)) (by decide +kernel)
theorem m_312 : Cond.instanceMethod yX9_kind ∈ WT := wt_in (List.mem_of_getElem? (i := 312) (by decide +kernel)) (by decide +kernel)
theorem m_313 : Cond.code yX9_kind cX9_kind 1 (some .int) ∈ WT := wt_in (List.mem_of_getElem? (i := 313) (by decide +kernel)) (by decide +kernel)
theorem m_314 : Cond.code yX6_kind cX6_kind 1 (some .int) ∈ WT := wt_in (List.mem_of_getElem? (i := 314) (by decide +kernel)) (by decide +kernel)
theorem m_315 : Cond.methodLink "OneBeatsBoth" 95 yX6_skill ∈ WT := wt_in (List.mem_of_getElem? (i := 315) (by decide +kernel)) (by decide +kernel)
theorem m_316 : Cond.instanceMethod yX6_skill ∈ WT := wt_in (List.mem_of_getElem? (i := 316) (by decide +kernel)) (by decide +kernel)
theorem m_317 : Cond.selects "OneBeatsBoth$Player" yX6_skill yX6_skill ∈ WT := wt_in (List.mem_of_getElem? (i := 317) (by decide +kernel)) (by decide +kernel)
theorem m_318 : Cond.sameMethod "OneBeatsBoth$Player" "OneBeatsBoth$Player" "skill" "()I" ∈ WT := wt_in (List.mem_of_getElem? (i := 318) (by decide +kernel)) (by decide +kernel)
theorem m_319 : Cond.selects "OneBeatsBoth$Champion" yX6_skill yX0_skill ∈ WT := wt_in (List.mem_of_getElem? (i := 319) (by decide +kernel)) (by decide +kernel)
theorem m_320 : Cond.instanceMethod yX0_skill ∈ WT := wt_in (List.mem_of_getElem? (i := 320) (by decide +kernel)) (by decide +kernel)
theorem m_321 : Cond.code yX0_skill cX0_skill 1 (some .int) ∈ WT := wt_in (List.mem_of_getElem? (i := 321) (by decide +kernel)) (by decide +kernel)
theorem m_322 : Cond.methodLink "OneBeatsBoth$Champion" 7 yX6_skill ∈ WT := wt_in (List.mem_of_getElem? (i := 322) (by decide +kernel)) (by decide +kernel)
theorem m_323 : Cond.selects "OneBeatsBoth$Guest" yX6_skill yX1_skill ∈ WT := wt_in (List.mem_of_getElem? (i := 323) (by decide +kernel)) (by decide +kernel)
theorem m_324 : Cond.instanceMethod yX1_skill ∈ WT := wt_in (List.mem_of_getElem? (i := 324) (by decide +kernel)) (by decide +kernel)
theorem m_325 : Cond.code yX1_skill cX1_skill 1 (some .int) ∈ WT := wt_in (List.mem_of_getElem? (i := 325) (by decide +kernel)) (by decide +kernel)
theorem m_326 : Cond.methodLink "OneBeatsBoth$Guest" 7 yX6_skill ∈ WT := wt_in (List.mem_of_getElem? (i := 326) (by decide +kernel)) (by decide +kernel)
theorem m_327 : Cond.selects "OneBeatsBoth$Novice" yX6_skill yX3_skill ∈ WT := wt_in (List.mem_of_getElem? (i := 327) (by decide +kernel)) (by decide +kernel)
theorem m_328 : Cond.instanceMethod yX3_skill ∈ WT := wt_in (List.mem_of_getElem? (i := 328) (by decide +kernel)) (by decide +kernel)
theorem m_329 : Cond.code yX3_skill cX3_skill 1 (some .int) ∈ WT := wt_in (List.mem_of_getElem? (i := 329) (by decide +kernel)) (by decide +kernel)
theorem m_330 : Cond.selects "OneBeatsBoth$Nuisance" yX6_skill yX4_skill ∈ WT := wt_in (List.mem_of_getElem? (i := 330) (by decide +kernel)) (by decide +kernel)
theorem m_331 : Cond.instanceMethod yX4_skill ∈ WT := wt_in (List.mem_of_getElem? (i := 331) (by decide +kernel)) (by decide +kernel)
theorem m_332 : Cond.code yX4_skill cX4_skill 1 (some .int) ∈ WT := wt_in (List.mem_of_getElem? (i := 332) (by decide +kernel)) (by decide +kernel)
theorem m_333 : Cond.methodLink "OneBeatsBoth$Nuisance" 7 yX6_skill ∈ WT := wt_in (List.mem_of_getElem? (i := 333) (by decide +kernel)) (by decide +kernel)
theorem m_334 : Cond.selects "OneBeatsBoth$Paid" yX6_skill yX6_skill ∈ WT := wt_in (List.mem_of_getElem? (i := 334) (by decide +kernel)) (by decide +kernel)
theorem m_335 : Cond.selects "OneBeatsBoth$Priest" yX6_skill yX1_skill ∈ WT := wt_in (List.mem_of_getElem? (i := 335) (by decide +kernel)) (by decide +kernel)
theorem m_336 : Cond.selects "OneBeatsBoth$Twin" yX6_skill yX9_skill ∈ WT := wt_in (List.mem_of_getElem? (i := 336) (by decide +kernel)) (by decide +kernel)
theorem m_337 : Cond.instanceMethod yX9_skill ∈ WT := wt_in (List.mem_of_getElem? (i := 337) (by decide +kernel)) (by decide +kernel)
theorem m_338 : Cond.code yX9_skill cX9_skill 1 (some .int) ∈ WT := wt_in (List.mem_of_getElem? (i := 338) (by decide +kernel)) (by decide +kernel)
theorem m_339 : Cond.methodLink "OneBeatsBoth$Twin" 7 yX4_skill ∈ WT := wt_in (List.mem_of_getElem? (i := 339) (by decide +kernel)) (by decide +kernel)
theorem m_340 : Cond.code yX6_skill cX6_skill 1 (some .int) ∈ WT := wt_in (List.mem_of_getElem? (i := 340) (by decide +kernel)) (by decide +kernel)
theorem m_341 : Cond.methodLink "OneBeatsBoth" 101 yX2_counting ∈ WT := wt_in (List.mem_of_getElem? (i := 341) (by decide +kernel)) (by decide +kernel)
theorem m_342 : Cond.instanceMethod yX2_counting ∈ WT := wt_in (List.mem_of_getElem? (i := 342) (by decide +kernel)) (by decide +kernel)
theorem m_343 : Cond.selects "OneBeatsBoth$League" yX2_counting yX2_counting ∈ WT := wt_in (List.mem_of_getElem? (i := 343) (by decide +kernel)) (by decide +kernel)
theorem m_344 : Cond.code yX2_counting cX2_counting 3 (some .int) ∈ WT := wt_in (List.mem_of_getElem? (i := 344) (by decide +kernel)) (by decide +kernel)
theorem m_345 : Cond.methodLink "OneBeatsBoth$League" 68 yJ6_bitCount_0f7a4 ∈ WT := wt_in (List.mem_of_getElem? (i := 345) (by decide +kernel)) (by decide +kernel)
theorem m_346 : Cond.static yJ6_bitCount_0f7a4 ∈ WT := wt_in (List.mem_of_getElem? (i := 346) (by decide +kernel)) (by decide +kernel)
theorem m_347 : Cond.code yJ6_bitCount_0f7a4 cJ6_bitCount_0f7a4 1 (some .int) ∈ WT := wt_in (List.mem_of_getElem? (i := 347) (by decide +kernel)) (by decide +kernel)
theorem m_348 : Cond.constant "java/lang/Integer" 265 1431655765 ∈ WT := wt_in (List.mem_of_getElem? (i := 348) (by decide +kernel)) (by decide +kernel)
theorem m_349 : Cond.constant "java/lang/Integer" 266 858993459 ∈ WT := wt_in (List.mem_of_getElem? (i := 349) (by decide +kernel)) (by decide +kernel)
theorem m_350 : Cond.constant "java/lang/Integer" 267 252645135 ∈ WT := wt_in (List.mem_of_getElem? (i := 350) (by decide +kernel)) (by decide +kernel)
theorem m_351 : Cond.methodLink "OneBeatsBoth$League" 74 yX6_countsWith ∈ WT := wt_in (List.mem_of_getElem? (i := 351) (by decide +kernel)) (by decide +kernel)
theorem m_352 : Cond.instanceMethod yX6_countsWith ∈ WT := wt_in (List.mem_of_getElem? (i := 352) (by decide +kernel)) (by decide +kernel)
theorem m_353 : Cond.selects "OneBeatsBoth$Player" yX6_countsWith yX6_countsWith ∈ WT := wt_in (List.mem_of_getElem? (i := 353) (by decide +kernel)) (by decide +kernel)
theorem m_354 : Cond.sameMethod "OneBeatsBoth$Player" "OneBeatsBoth$Player" "countsWith" "(I)Z" ∈ WT := wt_in (List.mem_of_getElem? (i := 354) (by decide +kernel)) (by decide +kernel)
theorem m_355 : Cond.selects "OneBeatsBoth$Champion" yX6_countsWith yX6_countsWith ∈ WT := wt_in (List.mem_of_getElem? (i := 355) (by decide +kernel)) (by decide +kernel)
theorem m_356 : Cond.selects "OneBeatsBoth$Guest" yX6_countsWith yX6_countsWith ∈ WT := wt_in (List.mem_of_getElem? (i := 356) (by decide +kernel)) (by decide +kernel)
theorem m_357 : Cond.selects "OneBeatsBoth$Novice" yX6_countsWith yX3_countsWith ∈ WT := wt_in (List.mem_of_getElem? (i := 357) (by decide +kernel)) (by decide +kernel)
theorem m_358 : Cond.instanceMethod yX3_countsWith ∈ WT := wt_in (List.mem_of_getElem? (i := 358) (by decide +kernel)) (by decide +kernel)
theorem m_359 : Cond.code yX3_countsWith cX3_countsWith 2 (some .boolean) ∈ WT := wt_in (List.mem_of_getElem? (i := 359) (by decide +kernel)) (by decide +kernel)
theorem m_360 : Cond.selects "OneBeatsBoth$Nuisance" yX6_countsWith yX4_countsWith ∈ WT := wt_in (List.mem_of_getElem? (i := 360) (by decide +kernel)) (by decide +kernel)
theorem m_361 : Cond.instanceMethod yX4_countsWith ∈ WT := wt_in (List.mem_of_getElem? (i := 361) (by decide +kernel)) (by decide +kernel)
theorem m_362 : Cond.code yX4_countsWith cX4_countsWith 2 (some .boolean) ∈ WT := wt_in (List.mem_of_getElem? (i := 362) (by decide +kernel)) (by decide +kernel)
theorem m_363 : Cond.selects "OneBeatsBoth$Paid" yX6_countsWith yX6_countsWith ∈ WT := wt_in (List.mem_of_getElem? (i := 363) (by decide +kernel)) (by decide +kernel)
theorem m_364 : Cond.selects "OneBeatsBoth$Priest" yX6_countsWith yX7_countsWith ∈ WT := wt_in (List.mem_of_getElem? (i := 364) (by decide +kernel)) (by decide +kernel)
theorem m_365 : Cond.instanceMethod yX7_countsWith ∈ WT := wt_in (List.mem_of_getElem? (i := 365) (by decide +kernel)) (by decide +kernel)
theorem m_366 : Cond.code yX7_countsWith cX7_countsWith 2 (some .boolean) ∈ WT := wt_in (List.mem_of_getElem? (i := 366) (by decide +kernel)) (by decide +kernel)
theorem m_367 : Cond.selects "OneBeatsBoth$Twin" yX6_countsWith yX9_countsWith ∈ WT := wt_in (List.mem_of_getElem? (i := 367) (by decide +kernel)) (by decide +kernel)
theorem m_368 : Cond.instanceMethod yX9_countsWith ∈ WT := wt_in (List.mem_of_getElem? (i := 368) (by decide +kernel)) (by decide +kernel)
theorem m_369 : Cond.code yX9_countsWith cX9_countsWith 2 (some .boolean) ∈ WT := wt_in (List.mem_of_getElem? (i := 369) (by decide +kernel)) (by decide +kernel)
theorem m_370 : Cond.methodLink "OneBeatsBoth$Twin" 11 yX4_countsWith ∈ WT := wt_in (List.mem_of_getElem? (i := 370) (by decide +kernel)) (by decide +kernel)
theorem m_371 : Cond.code yX6_countsWith cX6_countsWith 2 (some .boolean) ∈ WT := wt_in (List.mem_of_getElem? (i := 371) (by decide +kernel)) (by decide +kernel)
theorem m_372 : Cond.methodLink "OneBeatsBoth" 104 yX6_cost ∈ WT := wt_in (List.mem_of_getElem? (i := 372) (by decide +kernel)) (by decide +kernel)
theorem m_373 : Cond.instanceMethod yX6_cost ∈ WT := wt_in (List.mem_of_getElem? (i := 373) (by decide +kernel)) (by decide +kernel)
theorem m_374 : Cond.selects "OneBeatsBoth$Player" yX6_cost yX6_cost ∈ WT := wt_in (List.mem_of_getElem? (i := 374) (by decide +kernel)) (by decide +kernel)
theorem m_375 : Cond.sameMethod "OneBeatsBoth$Player" "OneBeatsBoth$Player" "cost" "()I" ∈ WT := wt_in (List.mem_of_getElem? (i := 375) (by decide +kernel)) (by decide +kernel)
theorem m_376 : Cond.selects "OneBeatsBoth$Champion" yX6_cost yX0_cost ∈ WT := wt_in (List.mem_of_getElem? (i := 376) (by decide +kernel)) (by decide +kernel)
theorem m_377 : Cond.instanceMethod yX0_cost ∈ WT := wt_in (List.mem_of_getElem? (i := 377) (by decide +kernel)) (by decide +kernel)
theorem m_378 : Cond.code yX0_cost cX0_cost 1 (some .int) ∈ WT := wt_in (List.mem_of_getElem? (i := 378) (by decide +kernel)) (by decide +kernel)
theorem m_379 : Cond.methodLink "OneBeatsBoth$Champion" 11 yX6_cost ∈ WT := wt_in (List.mem_of_getElem? (i := 379) (by decide +kernel)) (by decide +kernel)
theorem m_380 : Cond.selects "OneBeatsBoth$Guest" yX6_cost yX1_cost ∈ WT := wt_in (List.mem_of_getElem? (i := 380) (by decide +kernel)) (by decide +kernel)
theorem m_381 : Cond.instanceMethod yX1_cost ∈ WT := wt_in (List.mem_of_getElem? (i := 381) (by decide +kernel)) (by decide +kernel)
theorem m_382 : Cond.code yX1_cost cX1_cost 1 (some .int) ∈ WT := wt_in (List.mem_of_getElem? (i := 382) (by decide +kernel)) (by decide +kernel)
theorem m_383 : Cond.methodLink "OneBeatsBoth$Guest" 11 yX6_cost ∈ WT := wt_in (List.mem_of_getElem? (i := 383) (by decide +kernel)) (by decide +kernel)
theorem m_384 : Cond.selects "OneBeatsBoth$Novice" yX6_cost yX3_cost ∈ WT := wt_in (List.mem_of_getElem? (i := 384) (by decide +kernel)) (by decide +kernel)
theorem m_385 : Cond.instanceMethod yX3_cost ∈ WT := wt_in (List.mem_of_getElem? (i := 385) (by decide +kernel)) (by decide +kernel)
theorem m_386 : Cond.code yX3_cost cX3_cost 1 (some .int) ∈ WT := wt_in (List.mem_of_getElem? (i := 386) (by decide +kernel)) (by decide +kernel)
theorem m_387 : Cond.methodLink "OneBeatsBoth$Novice" 13 yX5_cost ∈ WT := wt_in (List.mem_of_getElem? (i := 387) (by decide +kernel)) (by decide +kernel)
theorem m_388 : Cond.instanceMethod yX5_cost ∈ WT := wt_in (List.mem_of_getElem? (i := 388) (by decide +kernel)) (by decide +kernel)
theorem m_389 : Cond.code yX5_cost cX5_cost 1 (some .int) ∈ WT := wt_in (List.mem_of_getElem? (i := 389) (by decide +kernel)) (by decide +kernel)
theorem m_390 : Cond.methodLink "OneBeatsBoth$Paid" 7 yX6_cost ∈ WT := wt_in (List.mem_of_getElem? (i := 390) (by decide +kernel)) (by decide +kernel)
theorem m_391 : Cond.selects "OneBeatsBoth$Nuisance" yX6_cost yX4_cost ∈ WT := wt_in (List.mem_of_getElem? (i := 391) (by decide +kernel)) (by decide +kernel)
theorem m_392 : Cond.instanceMethod yX4_cost ∈ WT := wt_in (List.mem_of_getElem? (i := 392) (by decide +kernel)) (by decide +kernel)
theorem m_393 : Cond.code yX4_cost cX4_cost 1 (some .int) ∈ WT := wt_in (List.mem_of_getElem? (i := 393) (by decide +kernel)) (by decide +kernel)
theorem m_394 : Cond.methodLink "OneBeatsBoth$Nuisance" 17 yX6_cost ∈ WT := wt_in (List.mem_of_getElem? (i := 394) (by decide +kernel)) (by decide +kernel)
theorem m_395 : Cond.selects "OneBeatsBoth$Paid" yX6_cost yX5_cost ∈ WT := wt_in (List.mem_of_getElem? (i := 395) (by decide +kernel)) (by decide +kernel)
theorem m_396 : Cond.selects "OneBeatsBoth$Priest" yX6_cost yX7_cost ∈ WT := wt_in (List.mem_of_getElem? (i := 396) (by decide +kernel)) (by decide +kernel)
theorem m_397 : Cond.instanceMethod yX7_cost ∈ WT := wt_in (List.mem_of_getElem? (i := 397) (by decide +kernel)) (by decide +kernel)
theorem m_398 : Cond.code yX7_cost cX7_cost 1 (some .int) ∈ WT := wt_in (List.mem_of_getElem? (i := 398) (by decide +kernel)) (by decide +kernel)
theorem m_399 : Cond.methodLink "OneBeatsBoth$Priest" 7 yX1_cost ∈ WT := wt_in (List.mem_of_getElem? (i := 399) (by decide +kernel)) (by decide +kernel)
theorem m_400 : Cond.selects "OneBeatsBoth$Twin" yX6_cost yX9_cost ∈ WT := wt_in (List.mem_of_getElem? (i := 400) (by decide +kernel)) (by decide +kernel)
theorem m_401 : Cond.instanceMethod yX9_cost ∈ WT := wt_in (List.mem_of_getElem? (i := 401) (by decide +kernel)) (by decide +kernel)
theorem m_402 : Cond.code yX9_cost cX9_cost 1 (some .int) ∈ WT := wt_in (List.mem_of_getElem? (i := 402) (by decide +kernel)) (by decide +kernel)
theorem m_403 : Cond.methodLink "OneBeatsBoth$Twin" 15 yX4_cost ∈ WT := wt_in (List.mem_of_getElem? (i := 403) (by decide +kernel)) (by decide +kernel)
theorem m_404 : Cond.code yX6_cost cX6_cost 1 (some .int) ∈ WT := wt_in (List.mem_of_getElem? (i := 404) (by decide +kernel)) (by decide +kernel)
theorem m_413 : Cond.methodLink "OneBeatsBoth" 120 yX2_hasBeaten ∈ WT := wt_in (List.mem_of_getElem? (i := 413) (by decide +kernel)) (by decide +kernel)
theorem m_414 : Cond.instanceMethod yX2_hasBeaten ∈ WT := wt_in (List.mem_of_getElem? (i := 414) (by decide +kernel)) (by decide +kernel)
theorem m_415 : Cond.selects "OneBeatsBoth$League" yX2_hasBeaten yX2_hasBeaten ∈ WT := wt_in (List.mem_of_getElem? (i := 415) (by decide +kernel)) (by decide +kernel)
theorem m_416 : Cond.code yX2_hasBeaten cX2_hasBeaten 3 (some .boolean) ∈ WT := wt_in (List.mem_of_getElem? (i := 416) (by decide +kernel)) (by decide +kernel)
theorem m_425 : Cond.methodLink "OneBeatsBoth" 133 yX2_isLawful ∈ WT := wt_in (List.mem_of_getElem? (i := 425) (by decide +kernel)) (by decide +kernel)
theorem m_426 : Cond.instanceMethod yX2_isLawful ∈ WT := wt_in (List.mem_of_getElem? (i := 426) (by decide +kernel)) (by decide +kernel)
theorem m_427 : Cond.selects "OneBeatsBoth$League" yX2_isLawful yX2_isLawful ∈ WT := wt_in (List.mem_of_getElem? (i := 427) (by decide +kernel)) (by decide +kernel)
theorem m_428 : Cond.code yX2_isLawful cX2_isLawful 1 (some .boolean) ∈ WT := wt_in (List.mem_of_getElem? (i := 428) (by decide +kernel)) (by decide +kernel)
theorem m_429 : Cond.methodLink "OneBeatsBoth$League" 77 yX2_eachHasMaster ∈ WT := wt_in (List.mem_of_getElem? (i := 429) (by decide +kernel)) (by decide +kernel)
theorem m_431 : Cond.instanceMethod yX2_eachHasMaster ∈ WT := wt_in (List.mem_of_getElem? (i := 431) (by decide +kernel)) (by decide +kernel)
theorem m_432 : Cond.code yX2_eachHasMaster cX2_eachHasMaster 3 (some .boolean) ∈ WT := wt_in (List.mem_of_getElem? (i := 432) (by decide +kernel)) (by decide +kernel)
theorem m_433 : Cond.methodLink "OneBeatsBoth$League" 84 yX2_counting ∈ WT := wt_in (List.mem_of_getElem? (i := 433) (by decide +kernel)) (by decide +kernel)
theorem m_434 : Cond.methodLink "OneBeatsBoth$League" 87 yX2_mastersAmong ∈ WT := wt_in (List.mem_of_getElem? (i := 434) (by decide +kernel)) (by decide +kernel)
theorem m_435 : Cond.instanceMethod yX2_mastersAmong ∈ WT := wt_in (List.mem_of_getElem? (i := 435) (by decide +kernel)) (by decide +kernel)
theorem m_436 : Cond.selects "OneBeatsBoth$League" yX2_mastersAmong yX2_mastersAmong ∈ WT := wt_in (List.mem_of_getElem? (i := 436) (by decide +kernel)) (by decide +kernel)
theorem m_437 : Cond.code yX2_mastersAmong cX2_mastersAmong 4 (some .int) ∈ WT := wt_in (List.mem_of_getElem? (i := 437) (by decide +kernel)) (by decide +kernel)
theorem m_438 : Cond.methodLink "OneBeatsBoth$League" 81 yX2_firstOrphanPair ∈ WT := wt_in (List.mem_of_getElem? (i := 438) (by decide +kernel)) (by decide +kernel)
theorem m_439 : Cond.instanceMethod yX2_firstOrphanPair ∈ WT := wt_in (List.mem_of_getElem? (i := 439) (by decide +kernel)) (by decide +kernel)
theorem m_440 : Cond.selects "OneBeatsBoth$League" yX2_firstOrphanPair yX2_firstOrphanPair ∈ WT := wt_in (List.mem_of_getElem? (i := 440) (by decide +kernel)) (by decide +kernel)
theorem m_441 : Cond.code yX2_firstOrphanPair cX2_firstOrphanPair 4 (some .int) ∈ WT := wt_in (List.mem_of_getElem? (i := 441) (by decide +kernel)) (by decide +kernel)
theorem m_446 : Cond.methodLink "OneBeatsBoth" 137 yX2_mastersAmong ∈ WT := wt_in (List.mem_of_getElem? (i := 446) (by decide +kernel)) (by decide +kernel)
theorem m_451 : Cond.methodLink "OneBeatsBoth" 141 yX2_orphanPairs ∈ WT := wt_in (List.mem_of_getElem? (i := 451) (by decide +kernel)) (by decide +kernel)
theorem m_452 : Cond.instanceMethod yX2_orphanPairs ∈ WT := wt_in (List.mem_of_getElem? (i := 452) (by decide +kernel)) (by decide +kernel)
theorem m_453 : Cond.selects "OneBeatsBoth$League" yX2_orphanPairs yX2_orphanPairs ∈ WT := wt_in (List.mem_of_getElem? (i := 453) (by decide +kernel)) (by decide +kernel)
theorem m_454 : Cond.code yX2_orphanPairs cX2_orphanPairs 5 (some .int) ∈ WT := wt_in (List.mem_of_getElem? (i := 454) (by decide +kernel)) (by decide +kernel)
theorem m_455 : Cond.methodLink "OneBeatsBoth" 144 yX2_firstOrphanPair ∈ WT := wt_in (List.mem_of_getElem? (i := 455) (by decide +kernel)) (by decide +kernel)
theorem m_460 : Cond.methodLink "OneBeatsBoth" 147 yX2_matches ∈ WT := wt_in (List.mem_of_getElem? (i := 460) (by decide +kernel)) (by decide +kernel)
theorem m_461 : Cond.instanceMethod yX2_matches ∈ WT := wt_in (List.mem_of_getElem? (i := 461) (by decide +kernel)) (by decide +kernel)
theorem m_462 : Cond.selects "OneBeatsBoth$League" yX2_matches yX2_matches ∈ WT := wt_in (List.mem_of_getElem? (i := 462) (by decide +kernel)) (by decide +kernel)
theorem m_463 : Cond.code yX2_matches cX2_matches 1 (some .int) ∈ WT := wt_in (List.mem_of_getElem? (i := 463) (by decide +kernel)) (by decide +kernel)
theorem m_464 : Cond.methodLink "OneBeatsBoth" 150 yX10_lawfulTurns ∈ WT := wt_in (List.mem_of_getElem? (i := 464) (by decide +kernel)) (by decide +kernel)
theorem m_466 : Cond.instanceMethod yX10_lawfulTurns ∈ WT := wt_in (List.mem_of_getElem? (i := 466) (by decide +kernel)) (by decide +kernel)
theorem m_467 : Cond.code yX10_lawfulTurns cX10_lawfulTurns 3 (some .int) ∈ WT := wt_in (List.mem_of_getElem? (i := 467) (by decide +kernel)) (by decide +kernel)
theorem m_468 : Cond.methodLink "OneBeatsBoth" 288 yX2_turn ∈ WT := wt_in (List.mem_of_getElem? (i := 468) (by decide +kernel)) (by decide +kernel)
theorem m_469 : Cond.instanceMethod yX2_turn ∈ WT := wt_in (List.mem_of_getElem? (i := 469) (by decide +kernel)) (by decide +kernel)
theorem m_470 : Cond.selects "OneBeatsBoth$League" yX2_turn yX2_turn ∈ WT := wt_in (List.mem_of_getElem? (i := 470) (by decide +kernel)) (by decide +kernel)
theorem m_471 : Cond.code yX2_turn cX2_turn 2 none ∈ WT := wt_in (List.mem_of_getElem? (i := 471) (by decide +kernel)) (by decide +kernel)
theorem m_484 : Cond.methodLink "OneBeatsBoth" 153 yX2_isRing ∈ WT := wt_in (List.mem_of_getElem? (i := 484) (by decide +kernel)) (by decide +kernel)
theorem m_485 : Cond.instanceMethod yX2_isRing ∈ WT := wt_in (List.mem_of_getElem? (i := 485) (by decide +kernel)) (by decide +kernel)
theorem m_486 : Cond.selects "OneBeatsBoth$League" yX2_isRing yX2_isRing ∈ WT := wt_in (List.mem_of_getElem? (i := 486) (by decide +kernel)) (by decide +kernel)
theorem m_487 : Cond.code yX2_isRing cX2_isRing 5 (some .boolean) ∈ WT := wt_in (List.mem_of_getElem? (i := 487) (by decide +kernel)) (by decide +kernel)
theorem m_488 : Cond.methodLink "OneBeatsBoth$League" 44 yX2_hasBeaten ∈ WT := wt_in (List.mem_of_getElem? (i := 488) (by decide +kernel)) (by decide +kernel)
theorem m_493 : Cond.methodLink "OneBeatsBoth" 156 yJ6_bitCount_0f7a4 ∈ WT := wt_in (List.mem_of_getElem? (i := 493) (by decide +kernel)) (by decide +kernel)
theorem m_505 : Cond.methodLink "OneBeatsBoth$League" 48 yX6_cost ∈ WT := wt_in (List.mem_of_getElem? (i := 505) (by decide +kernel)) (by decide +kernel)
theorem m_514 : Cond.methodLink "OneBeatsBoth" 172 yX2_newcomerBeats ∈ WT := wt_in (List.mem_of_getElem? (i := 514) (by decide +kernel)) (by decide +kernel)
theorem m_515 : Cond.instanceMethod yX2_newcomerBeats ∈ WT := wt_in (List.mem_of_getElem? (i := 515) (by decide +kernel)) (by decide +kernel)
theorem m_516 : Cond.selects "OneBeatsBoth$League" yX2_newcomerBeats yX2_newcomerBeats ∈ WT := wt_in (List.mem_of_getElem? (i := 516) (by decide +kernel)) (by decide +kernel)
theorem m_517 : Cond.code yX2_newcomerBeats cX2_newcomerBeats 4 none ∈ WT := wt_in (List.mem_of_getElem? (i := 517) (by decide +kernel)) (by decide +kernel)
theorem m_518 : Cond.methodLink "OneBeatsBoth$League" 63 yX2_win ∈ WT := wt_in (List.mem_of_getElem? (i := 518) (by decide +kernel)) (by decide +kernel)
theorem m_527 : Cond.constantLong "OneBeatsBoth" 178 (-1000000001) ∈ WT := wt_in (List.mem_of_getElem? (i := 527) (by decide +kernel)) (by decide +kernel)
theorem m_528 : Cond.constantLong "OneBeatsBoth" 180 (-1000000003) ∈ WT := wt_in (List.mem_of_getElem? (i := 528) (by decide +kernel)) (by decide +kernel)
theorem m_529 : Cond.methodLink "OneBeatsBoth" 182 yX2_play ∈ WT := wt_in (List.mem_of_getElem? (i := 529) (by decide +kernel)) (by decide +kernel)
theorem m_530 : Cond.instanceMethod yX2_play ∈ WT := wt_in (List.mem_of_getElem? (i := 530) (by decide +kernel)) (by decide +kernel)
theorem m_531 : Cond.selects "OneBeatsBoth$League" yX2_play yX2_play ∈ WT := wt_in (List.mem_of_getElem? (i := 531) (by decide +kernel)) (by decide +kernel)
theorem m_532 : Cond.code yX2_play cX2_play 3 none ∈ WT := wt_in (List.mem_of_getElem? (i := 532) (by decide +kernel)) (by decide +kernel)
theorem m_533 : Cond.methodLink "OneBeatsBoth$League" 52 yX2_matches ∈ WT := wt_in (List.mem_of_getElem? (i := 533) (by decide +kernel)) (by decide +kernel)
theorem m_534 : Cond.methodLink "OneBeatsBoth" 185 yX2_weight ∈ WT := wt_in (List.mem_of_getElem? (i := 534) (by decide +kernel)) (by decide +kernel)
theorem m_535 : Cond.instanceMethod yX2_weight ∈ WT := wt_in (List.mem_of_getElem? (i := 535) (by decide +kernel)) (by decide +kernel)
theorem m_536 : Cond.selects "OneBeatsBoth$League" yX2_weight yX2_weight ∈ WT := wt_in (List.mem_of_getElem? (i := 536) (by decide +kernel)) (by decide +kernel)
theorem m_537 : Cond.code yX2_weight cX2_weight 6 (some .long) ∈ WT := wt_in (List.mem_of_getElem? (i := 537) (by decide +kernel)) (by decide +kernel)
theorem m_538 : Cond.methodLink "OneBeatsBoth$League" 56 yX6_skill ∈ WT := wt_in (List.mem_of_getElem? (i := 538) (by decide +kernel)) (by decide +kernel)
theorem m_539 : Cond.methodLink "OneBeatsBoth" 189 yX10_commonDivisor ∈ WT := wt_in (List.mem_of_getElem? (i := 539) (by decide +kernel)) (by decide +kernel)
theorem m_540 : Cond.static yX10_commonDivisor ∈ WT := wt_in (List.mem_of_getElem? (i := 540) (by decide +kernel)) (by decide +kernel)
theorem m_541 : Cond.code yX10_commonDivisor cX10_commonDivisor 11 (some .long) ∈ WT := wt_in (List.mem_of_getElem? (i := 541) (by decide +kernel)) (by decide +kernel)
theorem m_546 : Cond.methodLink "OneBeatsBoth" 193 yX10_clearTold ∈ WT := wt_in (List.mem_of_getElem? (i := 546) (by decide +kernel)) (by decide +kernel)
theorem m_548 : Cond.instanceMethod yX10_clearTold ∈ WT := wt_in (List.mem_of_getElem? (i := 548) (by decide +kernel)) (by decide +kernel)
theorem m_549 : Cond.code yX10_clearTold cX10_clearTold 2 none ∈ WT := wt_in (List.mem_of_getElem? (i := 549) (by decide +kernel)) (by decide +kernel)
theorem m_550 : Cond.methodLink "OneBeatsBoth" 196 yX10_lawfulWaysAsTold ∈ WT := wt_in (List.mem_of_getElem? (i := 550) (by decide +kernel)) (by decide +kernel)
theorem m_552 : Cond.instanceMethod yX10_lawfulWaysAsTold ∈ WT := wt_in (List.mem_of_getElem? (i := 552) (by decide +kernel)) (by decide +kernel)
theorem m_553 : Cond.code yX10_lawfulWaysAsTold cX10_lawfulWaysAsTold 3 (some .int) ∈ WT := wt_in (List.mem_of_getElem? (i := 553) (by decide +kernel)) (by decide +kernel)
theorem m_554 : Cond.methodLink "OneBeatsBoth" 294 yX2_isAsTold ∈ WT := wt_in (List.mem_of_getElem? (i := 554) (by decide +kernel)) (by decide +kernel)
theorem m_555 : Cond.instanceMethod yX2_isAsTold ∈ WT := wt_in (List.mem_of_getElem? (i := 555) (by decide +kernel)) (by decide +kernel)
theorem m_556 : Cond.selects "OneBeatsBoth$League" yX2_isAsTold yX2_isAsTold ∈ WT := wt_in (List.mem_of_getElem? (i := 556) (by decide +kernel)) (by decide +kernel)
theorem m_557 : Cond.code yX2_isAsTold cX2_isAsTold 3 (some .boolean) ∈ WT := wt_in (List.mem_of_getElem? (i := 557) (by decide +kernel)) (by decide +kernel)
theorem m_562 : Cond.methodLink "OneBeatsBoth" 199 yX10_isRing ∈ WT := wt_in (List.mem_of_getElem? (i := 562) (by decide +kernel)) (by decide +kernel)
theorem m_563 : Cond.static yX10_isRing ∈ WT := wt_in (List.mem_of_getElem? (i := 563) (by decide +kernel)) (by decide +kernel)
theorem m_564 : Cond.code yX10_isRing cX10_isRing 1 (some .boolean) ∈ WT := wt_in (List.mem_of_getElem? (i := 564) (by decide +kernel)) (by decide +kernel)
theorem m_565 : Cond.methodLink "OneBeatsBoth" 201 yX10_isHalfOfDifferences ∈ WT := wt_in (List.mem_of_getElem? (i := 565) (by decide +kernel)) (by decide +kernel)
theorem m_566 : Cond.static yX10_isHalfOfDifferences ∈ WT := wt_in (List.mem_of_getElem? (i := 566) (by decide +kernel)) (by decide +kernel)
theorem m_567 : Cond.code yX10_isHalfOfDifferences cX10_isHalfOfDifferences 3 (some .boolean) ∈ WT := wt_in (List.mem_of_getElem? (i := 567) (by decide +kernel)) (by decide +kernel)
theorem m_568 : Cond.methodLink "OneBeatsBoth" 204 yX10_isLawfulRing ∈ WT := wt_in (List.mem_of_getElem? (i := 568) (by decide +kernel)) (by decide +kernel)
theorem m_569 : Cond.static yX10_isLawfulRing ∈ WT := wt_in (List.mem_of_getElem? (i := 569) (by decide +kernel)) (by decide +kernel)
theorem m_570 : Cond.code yX10_isLawfulRing cX10_isLawfulRing 7 (some .boolean) ∈ WT := wt_in (List.mem_of_getElem? (i := 570) (by decide +kernel)) (by decide +kernel)
theorem m_575 : Cond.methodLink "OneBeatsBoth" 207 yX10_setWithUpperHalf ∈ WT := wt_in (List.mem_of_getElem? (i := 575) (by decide +kernel)) (by decide +kernel)
theorem m_576 : Cond.static yX10_setWithUpperHalf ∈ WT := wt_in (List.mem_of_getElem? (i := 576) (by decide +kernel)) (by decide +kernel)
theorem m_577 : Cond.code yX10_setWithUpperHalf cX10_setWithUpperHalf 5 (some .int) ∈ WT := wt_in (List.mem_of_getElem? (i := 577) (by decide +kernel)) (by decide +kernel)
theorem m_586 : Cond.methodLink "OneBeatsBoth" 214 yX2_playSeason ∈ WT := wt_in (List.mem_of_getElem? (i := 586) (by decide +kernel)) (by decide +kernel)
theorem m_587 : Cond.instanceMethod yX2_playSeason ∈ WT := wt_in (List.mem_of_getElem? (i := 587) (by decide +kernel)) (by decide +kernel)
theorem m_588 : Cond.selects "OneBeatsBoth$League" yX2_playSeason yX2_playSeason ∈ WT := wt_in (List.mem_of_getElem? (i := 588) (by decide +kernel)) (by decide +kernel)
theorem m_589 : Cond.code yX2_playSeason cX2_playSeason 6 (some .int) ∈ WT := wt_in (List.mem_of_getElem? (i := 589) (by decide +kernel)) (by decide +kernel)
theorem m_590 : Cond.constant "OneBeatsBoth$League" 55 1103515245 ∈ WT := wt_in (List.mem_of_getElem? (i := 590) (by decide +kernel)) (by decide +kernel)
theorem m_591 : Cond.methodLink "OneBeatsBoth$League" 59 yX2_drawBelow ∈ WT := wt_in (List.mem_of_getElem? (i := 591) (by decide +kernel)) (by decide +kernel)
theorem m_592 : Cond.static yX2_drawBelow ∈ WT := wt_in (List.mem_of_getElem? (i := 592) (by decide +kernel)) (by decide +kernel)
theorem m_593 : Cond.code yX2_drawBelow cX2_drawBelow 2 (some .int) ∈ WT := wt_in (List.mem_of_getElem? (i := 593) (by decide +kernel)) (by decide +kernel)
theorem m_594 : Cond.constant "OneBeatsBoth$League" 67 2147483647 ∈ WT := wt_in (List.mem_of_getElem? (i := 594) (by decide +kernel)) (by decide +kernel)
theorem m_599 : Cond.methodLink "OneBeatsBoth" 220 yX2_wrongOfThree ∈ WT := wt_in (List.mem_of_getElem? (i := 599) (by decide +kernel)) (by decide +kernel)
theorem m_600 : Cond.instanceMethod yX2_wrongOfThree ∈ WT := wt_in (List.mem_of_getElem? (i := 600) (by decide +kernel)) (by decide +kernel)
theorem m_601 : Cond.selects "OneBeatsBoth$League" yX2_wrongOfThree yX2_wrongOfThree ∈ WT := wt_in (List.mem_of_getElem? (i := 601) (by decide +kernel)) (by decide +kernel)
theorem m_602 : Cond.code yX2_wrongOfThree cX2_wrongOfThree 4 (some .int) ∈ WT := wt_in (List.mem_of_getElem? (i := 602) (by decide +kernel)) (by decide +kernel)
theorem m_603 : Cond.methodLink "OneBeatsBoth$League" 91 yX2_hasBoth ∈ WT := wt_in (List.mem_of_getElem? (i := 603) (by decide +kernel)) (by decide +kernel)
theorem m_616 : Cond.methodLink "OneBeatsBoth" 223 yX2_allCosts ∈ WT := wt_in (List.mem_of_getElem? (i := 616) (by decide +kernel)) (by decide +kernel)
theorem m_617 : Cond.instanceMethod yX2_allCosts ∈ WT := wt_in (List.mem_of_getElem? (i := 617) (by decide +kernel)) (by decide +kernel)
theorem m_618 : Cond.selects "OneBeatsBoth$League" yX2_allCosts yX2_allCosts ∈ WT := wt_in (List.mem_of_getElem? (i := 618) (by decide +kernel)) (by decide +kernel)
theorem m_619 : Cond.code yX2_allCosts cX2_allCosts 3 (some .int) ∈ WT := wt_in (List.mem_of_getElem? (i := 619) (by decide +kernel)) (by decide +kernel)
theorem m_632 : Cond.methodLink "OneBeatsBoth$Row" 1 objectInit ∈ WT := wt_in (List.mem_of_getElem? (i := 632) (by decide +kernel)) (by decide +kernel)
theorem m_633 : Cond.fieldLink "OneBeatsBoth$Row" 7 "OneBeatsBoth$Row" "sort" "I" ∈ WT := wt_in (List.mem_of_getElem? (i := 633) (by decide +kernel)) (by decide +kernel)
theorem m_634 : Cond.fieldLink "OneBeatsBoth" 250 "OneBeatsBoth$Row" "sort" "I" ∈ WT := wt_in (List.mem_of_getElem? (i := 634) (by decide +kernel)) (by decide +kernel)
theorem m_635 : Cond.fieldLink "OneBeatsBoth$Row" 13 "OneBeatsBoth$Row" "cells" "[I" ∈ WT := wt_in (List.mem_of_getElem? (i := 635) (by decide +kernel)) (by decide +kernel)
theorem m_636 : Cond.fieldLink "OneBeatsBoth" 253 "OneBeatsBoth$Row" "cells" "[I" ∈ WT := wt_in (List.mem_of_getElem? (i := 636) (by decide +kernel)) (by decide +kernel)
theorem m_646 : Cond.methodLink "OneBeatsBoth" 229 yX8_hasPlaces ∈ WT := wt_in (List.mem_of_getElem? (i := 646) (by decide +kernel)) (by decide +kernel)
theorem m_647 : Cond.methodLink "OneBeatsBoth" 232 yX8_change ∈ WT := wt_in (List.mem_of_getElem? (i := 647) (by decide +kernel)) (by decide +kernel)
theorem m_648 : Cond.instanceMethod yX8_change ∈ WT := wt_in (List.mem_of_getElem? (i := 648) (by decide +kernel)) (by decide +kernel)
theorem m_649 : Cond.selects "OneBeatsBoth$Row" yX8_change yX8_change ∈ WT := wt_in (List.mem_of_getElem? (i := 649) (by decide +kernel)) (by decide +kernel)
theorem m_650 : Cond.code yX8_change cX8_change 3 none ∈ WT := wt_in (List.mem_of_getElem? (i := 650) (by decide +kernel)) (by decide +kernel)
theorem m_655 : Cond.methodLink "OneBeatsBoth" 256 arraycopyName ∈ WT := wt_in (List.mem_of_getElem? (i := 655) (by decide +kernel)) (by decide +kernel)
theorem m_803 : Cond.methodLink "OneBeatsBothModel" 1 objectInit ∈ WT := wt_in (List.mem_of_getElem? (i := 803) (by decide +kernel)) (by decide +kernel)
theorem m_804 : Cond.fieldLink "OneBeatsBothModel" 9 "OneBeatsBothModel" "s" "[I" ∈ WT := wt_in (List.mem_of_getElem? (i := 804) (by decide +kernel)) (by decide +kernel)
theorem m_805 : Cond.fieldLink "OneBeatsBothModel" 13 "OneBeatsBothModel" "image" "[I" ∈ WT := wt_in (List.mem_of_getElem? (i := 805) (by decide +kernel)) (by decide +kernel)
theorem m_806 : Cond.fieldLink "OneBeatsBothModel" 16 "OneBeatsBothModel" "read" "[I" ∈ WT := wt_in (List.mem_of_getElem? (i := 806) (by decide +kernel)) (by decide +kernel)
theorem m_807 : Cond.fieldLink "OneBeatsBothModel" 19 "OneBeatsBothModel" "mind" "[I" ∈ WT := wt_in (List.mem_of_getElem? (i := 807) (by decide +kernel)) (by decide +kernel)
theorem m_808 : Cond.fieldLink "OneBeatsBothModel" 22 "OneBeatsBothModel" "kept" "[I" ∈ WT := wt_in (List.mem_of_getElem? (i := 808) (by decide +kernel)) (by decide +kernel)
theorem m_809 : Cond.fieldLink "OneBeatsBothModel" 25 "OneBeatsBothModel" "sort" "[I" ∈ WT := wt_in (List.mem_of_getElem? (i := 809) (by decide +kernel)) (by decide +kernel)
theorem m_810 : Cond.fieldLink "OneBeatsBothModel" 28 "OneBeatsBothModel" "size" "[I" ∈ WT := wt_in (List.mem_of_getElem? (i := 810) (by decide +kernel)) (by decide +kernel)
theorem m_811 : Cond.fieldLink "OneBeatsBothModel" 31 "OneBeatsBothModel" "element" "[I" ∈ WT := wt_in (List.mem_of_getElem? (i := 811) (by decide +kernel)) (by decide +kernel)
theorem m_812 : Cond.fieldLink "OneBeatsBothModel" 34 "OneBeatsBothModel" "keptKind" "[I" ∈ WT := wt_in (List.mem_of_getElem? (i := 812) (by decide +kernel)) (by decide +kernel)
theorem m_813 : Cond.fieldLink "OneBeatsBothModel" 37 "OneBeatsBothModel" "keptFigure" "[I" ∈ WT := wt_in (List.mem_of_getElem? (i := 813) (by decide +kernel)) (by decide +kernel)
theorem m_814 : Cond.fieldLink "OneBeatsBothModel" 240 "OneBeatsBothModel" "hasImage" "Z" ∈ WT := wt_in (List.mem_of_getElem? (i := 814) (by decide +kernel)) (by decide +kernel)
theorem m_815 : Cond.fieldLink "OneBeatsBothModel" 43 "OneBeatsBothModel" "thrown" "I" ∈ WT := wt_in (List.mem_of_getElem? (i := 815) (by decide +kernel)) (by decide +kernel)
theorem m_816 : Cond.fieldLink "OneBeatsBothModel" 94 "OneBeatsBothModel" "pos" "I" ∈ WT := wt_in (List.mem_of_getElem? (i := 816) (by decide +kernel)) (by decide +kernel)
theorem m_817 : Cond.fieldLink "OneBeatsBothModel" 100 "OneBeatsBothModel" "base" "I" ∈ WT := wt_in (List.mem_of_getElem? (i := 817) (by decide +kernel)) (by decide +kernel)
theorem m_818 : Cond.fieldLink "OneBeatsBothModel" 97 "OneBeatsBothModel" "end" "I" ∈ WT := wt_in (List.mem_of_getElem? (i := 818) (by decide +kernel)) (by decide +kernel)
theorem m_819 : Cond.fieldLink "OneBeatsBothModel" 40 "OneBeatsBothModel" "numbers" "[I" ∈ WT := wt_in (List.mem_of_getElem? (i := 819) (by decide +kernel)) (by decide +kernel)
theorem m_822 : Cond.fieldLink "OneBeatsBothModel" 226 "OneBeatsBothModel" "seed" "I" ∈ WT := wt_in (List.mem_of_getElem? (i := 822) (by decide +kernel)) (by decide +kernel)
theorem m_870 : Cond.methodLink "OneBeatsBothModel" 134 yX11_wrongRow ∈ WT := wt_in (List.mem_of_getElem? (i := 870) (by decide +kernel)) (by decide +kernel)
theorem m_872 : Cond.instanceMethod yX11_wrongRow ∈ WT := wt_in (List.mem_of_getElem? (i := 872) (by decide +kernel)) (by decide +kernel)
theorem m_873 : Cond.code yX11_wrongRow cX11_wrongRow 3 (some .int) ∈ WT := wt_in (List.mem_of_getElem? (i := 873) (by decide +kernel)) (by decide +kernel)
theorem m_874 : Cond.methodLink "OneBeatsBothModel" 131 yX11_isShelf ∈ WT := wt_in (List.mem_of_getElem? (i := 874) (by decide +kernel)) (by decide +kernel)
theorem m_875 : Cond.static yX11_isShelf ∈ WT := wt_in (List.mem_of_getElem? (i := 875) (by decide +kernel)) (by decide +kernel)
theorem m_876 : Cond.code yX11_isShelf cX11_isShelf 1 (some .boolean) ∈ WT := wt_in (List.mem_of_getElem? (i := 876) (by decide +kernel)) (by decide +kernel)
theorem m_877 : Cond.constantLong "OneBeatsBothModel" 47 7 ∈ WT := wt_in (List.mem_of_getElem? (i := 877) (by decide +kernel)) (by decide +kernel)
theorem m_878 : Cond.methodLink "OneBeatsBothModel" 49 yX11_isIn ∈ WT := wt_in (List.mem_of_getElem? (i := 878) (by decide +kernel)) (by decide +kernel)
theorem m_879 : Cond.static yX11_isIn ∈ WT := wt_in (List.mem_of_getElem? (i := 879) (by decide +kernel)) (by decide +kernel)
theorem m_880 : Cond.code yX11_isIn cX11_isIn 6 (some .boolean) ∈ WT := wt_in (List.mem_of_getElem? (i := 880) (by decide +kernel)) (by decide +kernel)
theorem m_881 : Cond.methodLink "OneBeatsBothModel" 137 yX11_readsStatement ∈ WT := wt_in (List.mem_of_getElem? (i := 881) (by decide +kernel)) (by decide +kernel)
theorem m_883 : Cond.instanceMethod yX11_readsStatement ∈ WT := wt_in (List.mem_of_getElem? (i := 883) (by decide +kernel)) (by decide +kernel)
theorem m_884 : Cond.code yX11_readsStatement cX11_readsStatement 3 (some .boolean) ∈ WT := wt_in (List.mem_of_getElem? (i := 884) (by decide +kernel)) (by decide +kernel)
theorem m_885 : Cond.methodLink "OneBeatsBothModel" 103 yX11_here ∈ WT := wt_in (List.mem_of_getElem? (i := 885) (by decide +kernel)) (by decide +kernel)
theorem m_887 : Cond.instanceMethod yX11_here ∈ WT := wt_in (List.mem_of_getElem? (i := 887) (by decide +kernel)) (by decide +kernel)
theorem m_888 : Cond.code yX11_here cX11_here 1 (some .int) ∈ WT := wt_in (List.mem_of_getElem? (i := 888) (by decide +kernel)) (by decide +kernel)
theorem m_889 : Cond.methodLink "OneBeatsBothModel" 111 yX11_readsDigits ∈ WT := wt_in (List.mem_of_getElem? (i := 889) (by decide +kernel)) (by decide +kernel)
theorem m_891 : Cond.instanceMethod yX11_readsDigits ∈ WT := wt_in (List.mem_of_getElem? (i := 891) (by decide +kernel)) (by decide +kernel)
theorem m_892 : Cond.code yX11_readsDigits cX11_readsDigits 3 (some .boolean) ∈ WT := wt_in (List.mem_of_getElem? (i := 892) (by decide +kernel)) (by decide +kernel)
theorem m_893 : Cond.constantLong "OneBeatsBothModel" 107 48 ∈ WT := wt_in (List.mem_of_getElem? (i := 893) (by decide +kernel)) (by decide +kernel)
theorem m_894 : Cond.constantLong "OneBeatsBothModel" 109 57 ∈ WT := wt_in (List.mem_of_getElem? (i := 894) (by decide +kernel)) (by decide +kernel)
theorem m_895 : Cond.methodLink "OneBeatsBothModel" 59 yX11_lays ∈ WT := wt_in (List.mem_of_getElem? (i := 895) (by decide +kernel)) (by decide +kernel)
theorem m_896 : Cond.static yX11_lays ∈ WT := wt_in (List.mem_of_getElem? (i := 896) (by decide +kernel)) (by decide +kernel)
theorem m_897 : Cond.code yX11_lays cX11_lays 3 none ∈ WT := wt_in (List.mem_of_getElem? (i := 897) (by decide +kernel)) (by decide +kernel)
theorem m_898 : Cond.methodLink "OneBeatsBothModel" 141 yX11_comesTold ∈ WT := wt_in (List.mem_of_getElem? (i := 898) (by decide +kernel)) (by decide +kernel)
theorem m_900 : Cond.instanceMethod yX11_comesTold ∈ WT := wt_in (List.mem_of_getElem? (i := 900) (by decide +kernel)) (by decide +kernel)
theorem m_901 : Cond.code yX11_comesTold cX11_comesTold 3 (some .boolean) ∈ WT := wt_in (List.mem_of_getElem? (i := 901) (by decide +kernel)) (by decide +kernel)
theorem m_902 : Cond.methodLink "OneBeatsBothModel" 117 yX11_adds ∈ WT := wt_in (List.mem_of_getElem? (i := 902) (by decide +kernel)) (by decide +kernel)
theorem m_904 : Cond.instanceMethod yX11_adds ∈ WT := wt_in (List.mem_of_getElem? (i := 904) (by decide +kernel)) (by decide +kernel)
theorem m_905 : Cond.code yX11_adds cX11_adds 3 (some .boolean) ∈ WT := wt_in (List.mem_of_getElem? (i := 905) (by decide +kernel)) (by decide +kernel)
theorem m_906 : Cond.methodLink "OneBeatsBothModel" 114 yX11_joins ∈ WT := wt_in (List.mem_of_getElem? (i := 906) (by decide +kernel)) (by decide +kernel)
theorem m_908 : Cond.instanceMethod yX11_joins ∈ WT := wt_in (List.mem_of_getElem? (i := 908) (by decide +kernel)) (by decide +kernel)
theorem m_909 : Cond.code yX11_joins cX11_joins 5 none ∈ WT := wt_in (List.mem_of_getElem? (i := 909) (by decide +kernel)) (by decide +kernel)
theorem m_910 : Cond.methodLink "OneBeatsBothModel" 80 yX11_puts ∈ WT := wt_in (List.mem_of_getElem? (i := 910) (by decide +kernel)) (by decide +kernel)
theorem m_912 : Cond.instanceMethod yX11_puts ∈ WT := wt_in (List.mem_of_getElem? (i := 912) (by decide +kernel)) (by decide +kernel)
theorem m_913 : Cond.code yX11_puts cX11_puts 4 none ∈ WT := wt_in (List.mem_of_getElem? (i := 913) (by decide +kernel)) (by decide +kernel)
theorem m_914 : Cond.methodLink "OneBeatsBothModel" 63 yX11_beaten ∈ WT := wt_in (List.mem_of_getElem? (i := 914) (by decide +kernel)) (by decide +kernel)
theorem m_916 : Cond.instanceMethod yX11_beaten ∈ WT := wt_in (List.mem_of_getElem? (i := 916) (by decide +kernel)) (by decide +kernel)
theorem m_917 : Cond.code yX11_beaten cX11_beaten 2 (some .int) ∈ WT := wt_in (List.mem_of_getElem? (i := 917) (by decide +kernel)) (by decide +kernel)
theorem m_918 : Cond.methodLink "OneBeatsBothModel" 121 yX11_areTwo ∈ WT := wt_in (List.mem_of_getElem? (i := 918) (by decide +kernel)) (by decide +kernel)
theorem m_920 : Cond.instanceMethod yX11_areTwo ∈ WT := wt_in (List.mem_of_getElem? (i := 920) (by decide +kernel)) (by decide +kernel)
theorem m_921 : Cond.code yX11_areTwo cX11_areTwo 3 (some .boolean) ∈ WT := wt_in (List.mem_of_getElem? (i := 921) (by decide +kernel)) (by decide +kernel)
theorem m_922 : Cond.methodLink "OneBeatsBothModel" 55 yX11_isOne ∈ WT := wt_in (List.mem_of_getElem? (i := 922) (by decide +kernel)) (by decide +kernel)
theorem m_924 : Cond.instanceMethod yX11_isOne ∈ WT := wt_in (List.mem_of_getElem? (i := 924) (by decide +kernel)) (by decide +kernel)
theorem m_925 : Cond.code yX11_isOne cX11_isOne 2 (some .boolean) ∈ WT := wt_in (List.mem_of_getElem? (i := 925) (by decide +kernel)) (by decide +kernel)
theorem m_926 : Cond.methodLink "OneBeatsBothModel" 84 yX11_beats ∈ WT := wt_in (List.mem_of_getElem? (i := 926) (by decide +kernel)) (by decide +kernel)
theorem m_928 : Cond.instanceMethod yX11_beats ∈ WT := wt_in (List.mem_of_getElem? (i := 928) (by decide +kernel)) (by decide +kernel)
theorem m_929 : Cond.code yX11_beats cX11_beats 3 none ∈ WT := wt_in (List.mem_of_getElem? (i := 929) (by decide +kernel)) (by decide +kernel)
theorem m_930 : Cond.methodLink "OneBeatsBothModel" 124 yX11_isLaw ∈ WT := wt_in (List.mem_of_getElem? (i := 930) (by decide +kernel)) (by decide +kernel)
theorem m_931 : Cond.static yX11_isLaw ∈ WT := wt_in (List.mem_of_getElem? (i := 931) (by decide +kernel)) (by decide +kernel)
theorem m_932 : Cond.code yX11_isLaw cX11_isLaw 1 (some .boolean) ∈ WT := wt_in (List.mem_of_getElem? (i := 932) (by decide +kernel)) (by decide +kernel)
theorem m_933 : Cond.constantLong "OneBeatsBothModel" 53 2 ∈ WT := wt_in (List.mem_of_getElem? (i := 933) (by decide +kernel)) (by decide +kernel)
theorem m_934 : Cond.methodLink "OneBeatsBothModel" 127 yX11_leaves ∈ WT := wt_in (List.mem_of_getElem? (i := 934) (by decide +kernel)) (by decide +kernel)
theorem m_936 : Cond.instanceMethod yX11_leaves ∈ WT := wt_in (List.mem_of_getElem? (i := 936) (by decide +kernel)) (by decide +kernel)
theorem m_937 : Cond.code yX11_leaves cX11_leaves 4 none ∈ WT := wt_in (List.mem_of_getElem? (i := 937) (by decide +kernel)) (by decide +kernel)
theorem m_942 : Cond.methodLink "OneBeatsBothModel" 73 yX11_kind ∈ WT := wt_in (List.mem_of_getElem? (i := 942) (by decide +kernel)) (by decide +kernel)
theorem m_944 : Cond.instanceMethod yX11_kind ∈ WT := wt_in (List.mem_of_getElem? (i := 944) (by decide +kernel)) (by decide +kernel)
theorem m_945 : Cond.code yX11_kind cX11_kind 2 (some .int) ∈ WT := wt_in (List.mem_of_getElem? (i := 945) (by decide +kernel)) (by decide +kernel)
theorem m_946 : Cond.methodLink "OneBeatsBothModel" 70 yX11_figure ∈ WT := wt_in (List.mem_of_getElem? (i := 946) (by decide +kernel)) (by decide +kernel)
theorem m_948 : Cond.instanceMethod yX11_figure ∈ WT := wt_in (List.mem_of_getElem? (i := 948) (by decide +kernel)) (by decide +kernel)
theorem m_949 : Cond.code yX11_figure cX11_figure 2 (some .int) ∈ WT := wt_in (List.mem_of_getElem? (i := 949) (by decide +kernel)) (by decide +kernel)
theorem m_950 : Cond.methodLink "OneBeatsBothModel" 144 yX11_skill ∈ WT := wt_in (List.mem_of_getElem? (i := 950) (by decide +kernel)) (by decide +kernel)
theorem m_952 : Cond.instanceMethod yX11_skill ∈ WT := wt_in (List.mem_of_getElem? (i := 952) (by decide +kernel)) (by decide +kernel)
theorem m_953 : Cond.code yX11_skill cX11_skill 2 (some .int) ∈ WT := wt_in (List.mem_of_getElem? (i := 953) (by decide +kernel)) (by decide +kernel)
theorem m_954 : Cond.methodLink "OneBeatsBothModel" 76 yX11_skillBy ∈ WT := wt_in (List.mem_of_getElem? (i := 954) (by decide +kernel)) (by decide +kernel)
theorem m_955 : Cond.static yX11_skillBy ∈ WT := wt_in (List.mem_of_getElem? (i := 955) (by decide +kernel)) (by decide +kernel)
theorem m_956 : Cond.code yX11_skillBy cX11_skillBy 2 (some .int) ∈ WT := wt_in (List.mem_of_getElem? (i := 956) (by decide +kernel)) (by decide +kernel)
theorem m_957 : Cond.methodLink "OneBeatsBothModel" 88 yX11_counts ∈ WT := wt_in (List.mem_of_getElem? (i := 957) (by decide +kernel)) (by decide +kernel)
theorem m_959 : Cond.instanceMethod yX11_counts ∈ WT := wt_in (List.mem_of_getElem? (i := 959) (by decide +kernel)) (by decide +kernel)
theorem m_960 : Cond.code yX11_counts cX11_counts 4 (some .boolean) ∈ WT := wt_in (List.mem_of_getElem? (i := 960) (by decide +kernel)) (by decide +kernel)
theorem m_961 : Cond.methodLink "OneBeatsBothModel" 67 yX11_bits ∈ WT := wt_in (List.mem_of_getElem? (i := 961) (by decide +kernel)) (by decide +kernel)
theorem m_962 : Cond.static yX11_bits ∈ WT := wt_in (List.mem_of_getElem? (i := 962) (by decide +kernel)) (by decide +kernel)
theorem m_963 : Cond.code yX11_bits cX11_bits 3 (some .int) ∈ WT := wt_in (List.mem_of_getElem? (i := 963) (by decide +kernel)) (by decide +kernel)
theorem m_964 : Cond.methodLink "OneBeatsBothModel" 147 yX11_priceBy ∈ WT := wt_in (List.mem_of_getElem? (i := 964) (by decide +kernel)) (by decide +kernel)
theorem m_965 : Cond.static yX11_priceBy ∈ WT := wt_in (List.mem_of_getElem? (i := 965) (by decide +kernel)) (by decide +kernel)
theorem m_966 : Cond.code yX11_priceBy cX11_priceBy 2 (some .int) ∈ WT := wt_in (List.mem_of_getElem? (i := 966) (by decide +kernel)) (by decide +kernel)
theorem m_971 : Cond.methodLink "OneBeatsBothModel" 150 yX11_wrongKept ∈ WT := wt_in (List.mem_of_getElem? (i := 971) (by decide +kernel)) (by decide +kernel)
theorem m_973 : Cond.instanceMethod yX11_wrongKept ∈ WT := wt_in (List.mem_of_getElem? (i := 973) (by decide +kernel)) (by decide +kernel)
theorem m_974 : Cond.code yX11_wrongKept cX11_wrongKept 2 (some .int) ∈ WT := wt_in (List.mem_of_getElem? (i := 974) (by decide +kernel)) (by decide +kernel)
theorem m_987 : Cond.methodLink "OneBeatsBothModel" 153 yX11_isLawful ∈ WT := wt_in (List.mem_of_getElem? (i := 987) (by decide +kernel)) (by decide +kernel)
theorem m_989 : Cond.instanceMethod yX11_isLawful ∈ WT := wt_in (List.mem_of_getElem? (i := 989) (by decide +kernel)) (by decide +kernel)
theorem m_990 : Cond.code yX11_isLawful cX11_isLawful 3 (some .boolean) ∈ WT := wt_in (List.mem_of_getElem? (i := 990) (by decide +kernel)) (by decide +kernel)
theorem m_991 : Cond.methodLink "OneBeatsBothModel" 91 yX11_mastersOf ∈ WT := wt_in (List.mem_of_getElem? (i := 991) (by decide +kernel)) (by decide +kernel)
theorem m_993 : Cond.instanceMethod yX11_mastersOf ∈ WT := wt_in (List.mem_of_getElem? (i := 993) (by decide +kernel)) (by decide +kernel)
theorem m_994 : Cond.code yX11_mastersOf cX11_mastersOf 4 (some .int) ∈ WT := wt_in (List.mem_of_getElem? (i := 994) (by decide +kernel)) (by decide +kernel)
theorem m_1007 : Cond.methodLink "OneBeatsBothModel" 159 yX11_turnedTo ∈ WT := wt_in (List.mem_of_getElem? (i := 1007) (by decide +kernel)) (by decide +kernel)
theorem m_1009 : Cond.instanceMethod yX11_turnedTo ∈ WT := wt_in (List.mem_of_getElem? (i := 1009) (by decide +kernel)) (by decide +kernel)
theorem m_1010 : Cond.code yX11_turnedTo cX11_turnedTo 5 (some .int) ∈ WT := wt_in (List.mem_of_getElem? (i := 1010) (by decide +kernel)) (by decide +kernel)
theorem m_1011 : Cond.methodLink "OneBeatsBothModel" 156 yX11_turns ∈ WT := wt_in (List.mem_of_getElem? (i := 1011) (by decide +kernel)) (by decide +kernel)
theorem m_1013 : Cond.instanceMethod yX11_turns ∈ WT := wt_in (List.mem_of_getElem? (i := 1013) (by decide +kernel)) (by decide +kernel)
theorem m_1014 : Cond.code yX11_turns cX11_turns 3 none ∈ WT := wt_in (List.mem_of_getElem? (i := 1014) (by decide +kernel)) (by decide +kernel)
theorem m_1047 : Cond.constantLong "OneBeatsBothModel" 175 9 ∈ WT := wt_in (List.mem_of_getElem? (i := 1047) (by decide +kernel)) (by decide +kernel)
theorem m_1048 : Cond.methodLink "OneBeatsBothModel" 177 yX11_begins ∈ WT := wt_in (List.mem_of_getElem? (i := 1048) (by decide +kernel)) (by decide +kernel)
theorem m_1050 : Cond.instanceMethod yX11_begins ∈ WT := wt_in (List.mem_of_getElem? (i := 1050) (by decide +kernel)) (by decide +kernel)
theorem m_1051 : Cond.code yX11_begins cX11_begins 1 none ∈ WT := wt_in (List.mem_of_getElem? (i := 1051) (by decide +kernel)) (by decide +kernel)
theorem m_1052 : Cond.methodLink "OneBeatsBothModel" 180 yX11_ends ∈ WT := wt_in (List.mem_of_getElem? (i := 1052) (by decide +kernel)) (by decide +kernel)
theorem m_1054 : Cond.instanceMethod yX11_ends ∈ WT := wt_in (List.mem_of_getElem? (i := 1054) (by decide +kernel)) (by decide +kernel)
theorem m_1055 : Cond.code yX11_ends cX11_ends 1 none ∈ WT := wt_in (List.mem_of_getElem? (i := 1055) (by decide +kernel)) (by decide +kernel)
theorem m_1066 : Cond.methodLink "OneBeatsBothModel" 191 yX11_matches ∈ WT := wt_in (List.mem_of_getElem? (i := 1066) (by decide +kernel)) (by decide +kernel)
theorem m_1068 : Cond.instanceMethod yX11_matches ∈ WT := wt_in (List.mem_of_getElem? (i := 1068) (by decide +kernel)) (by decide +kernel)
theorem m_1069 : Cond.code yX11_matches cX11_matches 1 (some .int) ∈ WT := wt_in (List.mem_of_getElem? (i := 1069) (by decide +kernel)) (by decide +kernel)
theorem m_1070 : Cond.methodLink "OneBeatsBothModel" 194 yX11_plays ∈ WT := wt_in (List.mem_of_getElem? (i := 1070) (by decide +kernel)) (by decide +kernel)
theorem m_1072 : Cond.instanceMethod yX11_plays ∈ WT := wt_in (List.mem_of_getElem? (i := 1072) (by decide +kernel)) (by decide +kernel)
theorem m_1073 : Cond.code yX11_plays cX11_plays 5 none ∈ WT := wt_in (List.mem_of_getElem? (i := 1073) (by decide +kernel)) (by decide +kernel)
theorem m_1085 : Cond.constantLong "OneBeatsBothModel" 201 5 ∈ WT := wt_in (List.mem_of_getElem? (i := 1085) (by decide +kernel)) (by decide +kernel)
theorem m_1090 : Cond.methodLink "OneBeatsBothModel" 211 yX11_isRound ∈ WT := wt_in (List.mem_of_getElem? (i := 1090) (by decide +kernel)) (by decide +kernel)
theorem m_1091 : Cond.static yX11_isRound ∈ WT := wt_in (List.mem_of_getElem? (i := 1091) (by decide +kernel)) (by decide +kernel)
theorem m_1092 : Cond.code yX11_isRound cX11_isRound 1 (some .boolean) ∈ WT := wt_in (List.mem_of_getElem? (i := 1092) (by decide +kernel)) (by decide +kernel)
theorem m_1093 : Cond.constantLong "OneBeatsBothModel" 203 3 ∈ WT := wt_in (List.mem_of_getElem? (i := 1093) (by decide +kernel)) (by decide +kernel)
theorem m_1094 : Cond.constantLong "OneBeatsBothModel" 205 19 ∈ WT := wt_in (List.mem_of_getElem? (i := 1094) (by decide +kernel)) (by decide +kernel)
theorem m_1095 : Cond.methodLink "OneBeatsBothModel" 214 yX11_isSet ∈ WT := wt_in (List.mem_of_getElem? (i := 1095) (by decide +kernel)) (by decide +kernel)
theorem m_1096 : Cond.static yX11_isSet ∈ WT := wt_in (List.mem_of_getElem? (i := 1096) (by decide +kernel)) (by decide +kernel)
theorem m_1097 : Cond.code yX11_isSet cX11_isSet 3 (some .boolean) ∈ WT := wt_in (List.mem_of_getElem? (i := 1097) (by decide +kernel)) (by decide +kernel)
theorem m_1098 : Cond.methodLink "OneBeatsBothModel" 217 yX11_isRoundWell ∈ WT := wt_in (List.mem_of_getElem? (i := 1098) (by decide +kernel)) (by decide +kernel)
theorem m_1099 : Cond.static yX11_isRoundWell ∈ WT := wt_in (List.mem_of_getElem? (i := 1099) (by decide +kernel)) (by decide +kernel)
theorem m_1100 : Cond.code yX11_isRoundWell cX11_isRoundWell 4 (some .boolean) ∈ WT := wt_in (List.mem_of_getElem? (i := 1100) (by decide +kernel)) (by decide +kernel)
theorem m_1101 : Cond.methodLink "OneBeatsBothModel" 207 yX11_areBeaten ∈ WT := wt_in (List.mem_of_getElem? (i := 1101) (by decide +kernel)) (by decide +kernel)
theorem m_1102 : Cond.static yX11_areBeaten ∈ WT := wt_in (List.mem_of_getElem? (i := 1102) (by decide +kernel)) (by decide +kernel)
theorem m_1103 : Cond.code yX11_areBeaten cX11_areBeaten 4 (some .boolean) ∈ WT := wt_in (List.mem_of_getElem? (i := 1103) (by decide +kernel)) (by decide +kernel)
theorem m_1112 : Cond.methodLink "OneBeatsBothModel" 220 yX11_told ∈ WT := wt_in (List.mem_of_getElem? (i := 1112) (by decide +kernel)) (by decide +kernel)
theorem m_1114 : Cond.instanceMethod yX11_told ∈ WT := wt_in (List.mem_of_getElem? (i := 1114) (by decide +kernel)) (by decide +kernel)
theorem m_1115 : Cond.code yX11_told cX11_told 3 (some .int) ∈ WT := wt_in (List.mem_of_getElem? (i := 1115) (by decide +kernel)) (by decide +kernel)
theorem m_1116 : Cond.methodLink "OneBeatsBothModel" 223 yX11_isAsPlayed ∈ WT := wt_in (List.mem_of_getElem? (i := 1116) (by decide +kernel)) (by decide +kernel)
theorem m_1118 : Cond.instanceMethod yX11_isAsPlayed ∈ WT := wt_in (List.mem_of_getElem? (i := 1118) (by decide +kernel)) (by decide +kernel)
theorem m_1119 : Cond.code yX11_isAsPlayed cX11_isAsPlayed 3 (some .boolean) ∈ WT := wt_in (List.mem_of_getElem? (i := 1119) (by decide +kernel)) (by decide +kernel)
theorem m_1124 : Cond.constantLong "OneBeatsBothModel" 232 30 ∈ WT := wt_in (List.mem_of_getElem? (i := 1124) (by decide +kernel)) (by decide +kernel)
theorem m_1125 : Cond.methodLink "OneBeatsBothModel" 234 yX11_drawn ∈ WT := wt_in (List.mem_of_getElem? (i := 1125) (by decide +kernel)) (by decide +kernel)
theorem m_1127 : Cond.instanceMethod yX11_drawn ∈ WT := wt_in (List.mem_of_getElem? (i := 1127) (by decide +kernel)) (by decide +kernel)
theorem m_1128 : Cond.code yX11_drawn cX11_drawn 2 (some .int) ∈ WT := wt_in (List.mem_of_getElem? (i := 1128) (by decide +kernel)) (by decide +kernel)
theorem m_1129 : Cond.constant "OneBeatsBothModel" 229 1103515245 ∈ WT := wt_in (List.mem_of_getElem? (i := 1129) (by decide +kernel)) (by decide +kernel)
theorem m_1130 : Cond.constant "OneBeatsBothModel" 230 2147483647 ∈ WT := wt_in (List.mem_of_getElem? (i := 1130) (by decide +kernel)) (by decide +kernel)
theorem m_1131 : Cond.constant "OneBeatsBothModel" 231 65536 ∈ WT := wt_in (List.mem_of_getElem? (i := 1131) (by decide +kernel)) (by decide +kernel)
theorem m_1136 : Cond.methodLink "OneBeatsBothModel" 237 yX11_wrongThree ∈ WT := wt_in (List.mem_of_getElem? (i := 1136) (by decide +kernel)) (by decide +kernel)
theorem m_1138 : Cond.instanceMethod yX11_wrongThree ∈ WT := wt_in (List.mem_of_getElem? (i := 1138) (by decide +kernel)) (by decide +kernel)
theorem m_1139 : Cond.code yX11_wrongThree cX11_wrongThree 6 (some .int) ∈ WT := wt_in (List.mem_of_getElem? (i := 1139) (by decide +kernel)) (by decide +kernel)
theorem m_1181 : Cond.sameMethod "OneBeatsBoth$Nuisance" "OneBeatsBoth$Nuisance" "skill" "()I" ∈ WT := wt_in (List.mem_of_getElem? (i := 1181) (by decide +kernel)) (by decide +kernel)
theorem m_1182 : Cond.sameMethod "OneBeatsBoth$Nuisance" "OneBeatsBoth$Nuisance" "countsWith" "(I)Z" ∈ WT := wt_in (List.mem_of_getElem? (i := 1182) (by decide +kernel)) (by decide +kernel)
theorem m_1183 : Cond.sameMethod "OneBeatsBoth$Paid" "OneBeatsBoth$Paid" "cost" "()I" ∈ WT := wt_in (List.mem_of_getElem? (i := 1183) (by decide +kernel)) (by decide +kernel)
theorem m_1184 : Cond.sameMethod "OneBeatsBoth$Guest" "OneBeatsBoth$Guest" "cost" "()I" ∈ WT := wt_in (List.mem_of_getElem? (i := 1184) (by decide +kernel)) (by decide +kernel)
theorem m_1185 : Cond.sameMethod "OneBeatsBoth$Nuisance" "OneBeatsBoth$Nuisance" "cost" "()I" ∈ WT := wt_in (List.mem_of_getElem? (i := 1185) (by decide +kernel)) (by decide +kernel)
theorem n_97 : Cond.arrayOver (.object "OneBeatsBoth$Player") ∈ NWs := by unfold NWs; decide +kernel
theorem n_117 : Cond.arrayOver (.object "OneBeatsBoth$Row") ∈ NWs := by unfold NWs; decide +kernel
theorem n_472 : Cond.fieldLinkNest "OneBeatsBoth$League" 38 "OneBeatsBoth" "LESSER" "[I" "OneBeatsBoth" ∈ NWs := by unfold NWs; decide +kernel
theorem n_474 : Cond.fieldLinkNest "OneBeatsBoth$League" 41 "OneBeatsBoth" "GREATER" "[I" "OneBeatsBoth" ∈ NWs := by unfold NWs; decide +kernel
theorem n_1187 : Cond.castable "OneBeatsBoth$Nuisance" "OneBeatsBoth$Player" ∈ NWs := by unfold NWs; decide +kernel
theorem n_1188 : Cond.castable "OneBeatsBoth$Paid" "OneBeatsBoth$Player" ∈ NWs := by unfold NWs; decide +kernel
theorem n_1189 : Cond.castable "OneBeatsBoth$Guest" "OneBeatsBoth$Player" ∈ NWs := by unfold NWs; decide +kernel
theorem n_1190 : Cond.castable "OneBeatsBoth$Twin" "OneBeatsBoth$Player" ∈ NWs := by unfold NWs; decide +kernel
theorem n_1191 : Cond.castable "OneBeatsBoth$Novice" "OneBeatsBoth$Player" ∈ NWs := by unfold NWs; decide +kernel
theorem n_1192 : Cond.castable "OneBeatsBoth$Priest" "OneBeatsBoth$Player" ∈ NWs := by unfold NWs; decide +kernel
theorem n_1193 : Cond.castable "OneBeatsBoth$Champion" "OneBeatsBoth$Player" ∈ NWs := by unfold NWs; decide +kernel
theorem ux_0 : ∀ w ∈ u_ws RX0 TX0 1, w ∈ WT := fun w h => wt_in ((by decide +kernel : ∀ w ∈ u_ws RX0 TX0 1, w ∈ lw_tbl) w h) ((by decide +kernel : ∀ w ∈ u_ws RX0 TX0 1, goodWord w = true) w h)
theorem ux_1 : ∀ w ∈ u_ws RX1 TX1 1, w ∈ WT := fun w h => wt_in ((by decide +kernel : ∀ w ∈ u_ws RX1 TX1 1, w ∈ lw_tbl) w h) ((by decide +kernel : ∀ w ∈ u_ws RX1 TX1 1, goodWord w = true) w h)
theorem ux_2 : ∀ w ∈ u_ws RX2 TX2 4, w ∈ WT := fun w h => wt_in ((by decide +kernel : ∀ w ∈ u_ws RX2 TX2 4, w ∈ lw_tbl) w h) ((by decide +kernel : ∀ w ∈ u_ws RX2 TX2 4, goodWord w = true) w h)
theorem ux_3 : ∀ w ∈ u_ws RX3 TX3 1, w ∈ WT := fun w h => wt_in ((by decide +kernel : ∀ w ∈ u_ws RX3 TX3 1, w ∈ lw_tbl) w h) ((by decide +kernel : ∀ w ∈ u_ws RX3 TX3 1, goodWord w = true) w h)
theorem ux_4 : ∀ w ∈ u_ws RX4 TX4 1, w ∈ WT := fun w h => wt_in ((by decide +kernel : ∀ w ∈ u_ws RX4 TX4 1, w ∈ lw_tbl) w h) ((by decide +kernel : ∀ w ∈ u_ws RX4 TX4 1, goodWord w = true) w h)
theorem ux_5 : ∀ w ∈ u_ws RX5 TX5 1, w ∈ WT := fun w h => wt_in ((by decide +kernel : ∀ w ∈ u_ws RX5 TX5 1, w ∈ lw_tbl) w h) ((by decide +kernel : ∀ w ∈ u_ws RX5 TX5 1, goodWord w = true) w h)
theorem ux_6 : ∀ w ∈ u_ws RX6 TX6 1, w ∈ WT := fun w h => wt_in ((by decide +kernel : ∀ w ∈ u_ws RX6 TX6 1, w ∈ lw_tbl) w h) ((by decide +kernel : ∀ w ∈ u_ws RX6 TX6 1, goodWord w = true) w h)
theorem ux_7 : ∀ w ∈ u_ws RX7 TX7 1, w ∈ WT := fun w h => wt_in ((by decide +kernel : ∀ w ∈ u_ws RX7 TX7 1, w ∈ lw_tbl) w h) ((by decide +kernel : ∀ w ∈ u_ws RX7 TX7 1, goodWord w = true) w h)
theorem ux_8 : ∀ w ∈ u_ws RX8 TX8 2, w ∈ WT := fun w h => wt_in ((by decide +kernel : ∀ w ∈ u_ws RX8 TX8 2, w ∈ lw_tbl) w h) ((by decide +kernel : ∀ w ∈ u_ws RX8 TX8 2, goodWord w = true) w h)
theorem ux_9 : ∀ w ∈ u_ws RX9 TX9 1, w ∈ WT := fun w h => wt_in ((by decide +kernel : ∀ w ∈ u_ws RX9 TX9 1, w ∈ lw_tbl) w h) ((by decide +kernel : ∀ w ∈ u_ws RX9 TX9 1, goodWord w = true) w h)
theorem ux_10 : ∀ w ∈ u_ws RX10 TX10 8, w ∈ WT := fun w h => wt_in ((by decide +kernel : ∀ w ∈ u_ws RX10 TX10 8, w ∈ lw_tbl) w h) ((by decide +kernel : ∀ w ∈ u_ws RX10 TX10 8, goodWord w = true) w h)
theorem ux_11 : ∀ w ∈ u_ws RX11 TX11 19, w ∈ WT := fun w h => wt_in ((by decide +kernel : ∀ w ∈ u_ws RX11 TX11 19, w ∈ lw_tbl) w h) ((by decide +kernel : ∀ w ∈ u_ws RX11 TX11 19, goodWord w = true) w h)
theorem dv_0 : ∀ j, j < 1 → defaultValue (tyX0 j) = vp_V [.int 0] j := fun j hj => by rcases (show j = 0 by omega) with rfl <;> rfl
theorem dv_1 : ∀ j, j < 1 → defaultValue (tyX1 j) = vp_V [.int 0] j := fun j hj => by rcases (show j = 0 by omega) with rfl <;> rfl
theorem dv_2 : ∀ j, j < 4 → defaultValue (tyX2 j) = vp_V [.null, .null, .int 0, .int 0] j := fun j hj => by rcases (show j = 0 ∨ j = 1 ∨ j = 2 ∨ j = 3 by omega) with rfl | rfl | rfl | rfl <;> rfl
theorem dv_3 : ∀ j, j < 1 → defaultValue (tyX3 j) = vp_V [.int 0] j := fun j hj => by rcases (show j = 0 by omega) with rfl <;> rfl
theorem dv_4 : ∀ j, j < 1 → defaultValue (tyX4 j) = vp_V [.int 0] j := fun j hj => by rcases (show j = 0 by omega) with rfl <;> rfl
theorem dv_5 : ∀ j, j < 1 → defaultValue (tyX5 j) = vp_V [.int 0] j := fun j hj => by rcases (show j = 0 by omega) with rfl <;> rfl
theorem dv_6 : ∀ j, j < 1 → defaultValue (tyX6 j) = vp_V [.int 0] j := fun j hj => by rcases (show j = 0 by omega) with rfl <;> rfl
theorem dv_7 : ∀ j, j < 1 → defaultValue (tyX7 j) = vp_V [.int 0] j := fun j hj => by rcases (show j = 0 by omega) with rfl <;> rfl
theorem dv_9 : ∀ j, j < 1 → defaultValue (tyX9 j) = vp_V [.int 0] j := fun j hj => by rcases (show j = 0 by omega) with rfl <;> rfl
theorem fg_RX10_12 : FG RX10 12 [10] 0 := ⟨"OneBeatsBoth", "plain", "LOneBeatsBoth$Player;", m_118, (List.forall_mem_cons.mpr ⟨⟨RX10, TX10, 8, rfl, by decide, rfl, rfl, ux_10, Or.inl rfl⟩, (fun _ h => absurd h List.not_mem_nil)⟩)⟩
theorem fg_RX10_23 : FG RX10 23 [10] 1 := ⟨"OneBeatsBoth", "now", "LOneBeatsBoth$League;", m_119, (List.forall_mem_cons.mpr ⟨⟨RX10, TX10, 8, rfl, by decide, rfl, rfl, ux_10, Or.inl rfl⟩, (fun _ h => absurd h List.not_mem_nil)⟩)⟩
theorem fg_RX10_27 : FG RX10 27 [10] 2 := ⟨"OneBeatsBoth", "draft", "LOneBeatsBoth$League;", m_120, (List.forall_mem_cons.mpr ⟨⟨RX10, TX10, 8, rfl, by decide, rfl, rfl, ux_10, Or.inl rfl⟩, (fun _ h => absurd h List.not_mem_nil)⟩)⟩
theorem fg_RX10_30 : FG RX10 30 [10] 3 := ⟨"OneBeatsBoth", "pictured", "LOneBeatsBoth$League;", m_121, (List.forall_mem_cons.mpr ⟨⟨RX10, TX10, 8, rfl, by decide, rfl, rfl, ux_10, Or.inl rfl⟩, (fun _ h => absurd h List.not_mem_nil)⟩)⟩
theorem fg_RX10_33 : FG RX10 33 [10] 4 := ⟨"OneBeatsBoth", "hasImage", "Z", m_122, (List.forall_mem_cons.mpr ⟨⟨RX10, TX10, 8, rfl, by decide, rfl, rfl, ux_10, Or.inl rfl⟩, (fun _ h => absurd h List.not_mem_nil)⟩)⟩
theorem fg_RX10_37 : FG RX10 37 [10] 5 := ⟨"OneBeatsBoth", "peopleOnShelves", "[LOneBeatsBoth$Player;", m_123, (List.forall_mem_cons.mpr ⟨⟨RX10, TX10, 8, rfl, by decide, rfl, rfl, ux_10, Or.inl rfl⟩, (fun _ h => absurd h List.not_mem_nil)⟩)⟩
theorem fg_RX10_43 : FG RX10 43 [10] 6 := ⟨"OneBeatsBoth", "rowsOnShelves", "[LOneBeatsBoth$Row;", m_124, (List.forall_mem_cons.mpr ⟨⟨RX10, TX10, 8, rfl, by decide, rfl, rfl, ux_10, Or.inl rfl⟩, (fun _ h => absurd h List.not_mem_nil)⟩)⟩
theorem fg_RX10_47 : FG RX10 47 [10] 7 := ⟨"OneBeatsBoth", "told", "[I", m_125, (List.forall_mem_cons.mpr ⟨⟨RX10, TX10, 8, rfl, by decide, rfl, rfl, ux_10, Or.inl rfl⟩, (fun _ h => absurd h List.not_mem_nil)⟩)⟩
theorem fg_RX10_85 : FG RX10 85 [2] 0 := ⟨"OneBeatsBoth$League", "people", "[LOneBeatsBoth$Player;", m_99, (List.forall_mem_cons.mpr ⟨⟨RX2, TX2, 4, rfl, by decide, rfl, rfl, ux_2, Or.inl rfl⟩, (fun _ h => absurd h List.not_mem_nil)⟩)⟩
theorem fg_RX10_91 : FG RX10 91 sP 0 := ⟨"OneBeatsBoth$Player", "figure", "I", m_80, (List.forall_mem_cons.mpr ⟨⟨RX0, TX0, 1, rfl, by decide, rfl, rfl, ux_0, Or.inl rfl⟩, (List.forall_mem_cons.mpr ⟨⟨RX1, TX1, 1, rfl, by decide, rfl, rfl, ux_1, Or.inl rfl⟩, (List.forall_mem_cons.mpr ⟨⟨RX3, TX3, 1, rfl, by decide, rfl, rfl, ux_3, Or.inl rfl⟩, (List.forall_mem_cons.mpr ⟨⟨RX4, TX4, 1, rfl, by decide, rfl, rfl, ux_4, Or.inl rfl⟩, (List.forall_mem_cons.mpr ⟨⟨RX5, TX5, 1, rfl, by decide, rfl, rfl, ux_5, Or.inl rfl⟩, (List.forall_mem_cons.mpr ⟨⟨RX6, TX6, 1, rfl, by decide, rfl, rfl, ux_6, Or.inl rfl⟩, (List.forall_mem_cons.mpr ⟨⟨RX7, TX7, 1, rfl, by decide, rfl, rfl, ux_7, Or.inl rfl⟩, (List.forall_mem_cons.mpr ⟨⟨RX9, TX9, 1, rfl, by decide, rfl, rfl, ux_9, Or.inl rfl⟩, (fun _ h => absurd h List.not_mem_nil)⟩)⟩)⟩)⟩)⟩)⟩)⟩)⟩)⟩
theorem fg_RX10_98 : FG RX10 98 [2] 1 := ⟨"OneBeatsBoth$League", "beaten", "[I", m_101, (List.forall_mem_cons.mpr ⟨⟨RX2, TX2, 4, rfl, by decide, rfl, rfl, ux_2, Or.inl rfl⟩, (fun _ h => absurd h List.not_mem_nil)⟩)⟩
theorem fg_RX10_111 : FG RX10 111 [2] 2 := ⟨"OneBeatsBoth$League", "size", "I", m_103, (List.forall_mem_cons.mpr ⟨⟨RX2, TX2, 4, rfl, by decide, rfl, rfl, ux_2, Or.inl rfl⟩, (fun _ h => absurd h List.not_mem_nil)⟩)⟩
theorem fg_RX10_130 : FG RX10 130 [2] 3 := ⟨"OneBeatsBoth$League", "law", "I", m_105, (List.forall_mem_cons.mpr ⟨⟨RX2, TX2, 4, rfl, by decide, rfl, rfl, ux_2, Or.inl rfl⟩, (fun _ h => absurd h List.not_mem_nil)⟩)⟩
theorem fg_RX10_250 : FG RX10 250 [8] 0 := ⟨"OneBeatsBoth$Row", "sort", "I", m_634, (List.forall_mem_cons.mpr ⟨⟨RX8, TX8, 2, rfl, by decide, rfl, rfl, ux_8, Or.inl rfl⟩, (fun _ h => absurd h List.not_mem_nil)⟩)⟩
theorem fg_RX10_253 : FG RX10 253 [8] 1 := ⟨"OneBeatsBoth$Row", "cells", "[I", m_636, (List.forall_mem_cons.mpr ⟨⟨RX8, TX8, 2, rfl, by decide, rfl, rfl, ux_8, Or.inl rfl⟩, (fun _ h => absurd h List.not_mem_nil)⟩)⟩
theorem fg_RX11_9 : FG RX11 9 [11] 0 := ⟨"OneBeatsBothModel", "s", "[I", m_804, (List.forall_mem_cons.mpr ⟨⟨RX11, TX11, 19, rfl, by decide, rfl, rfl, ux_11, Or.inl rfl⟩, (fun _ h => absurd h List.not_mem_nil)⟩)⟩
theorem fg_RX11_13 : FG RX11 13 [11] 1 := ⟨"OneBeatsBothModel", "image", "[I", m_805, (List.forall_mem_cons.mpr ⟨⟨RX11, TX11, 19, rfl, by decide, rfl, rfl, ux_11, Or.inl rfl⟩, (fun _ h => absurd h List.not_mem_nil)⟩)⟩
theorem fg_RX11_16 : FG RX11 16 [11] 2 := ⟨"OneBeatsBothModel", "read", "[I", m_806, (List.forall_mem_cons.mpr ⟨⟨RX11, TX11, 19, rfl, by decide, rfl, rfl, ux_11, Or.inl rfl⟩, (fun _ h => absurd h List.not_mem_nil)⟩)⟩
theorem fg_RX11_19 : FG RX11 19 [11] 3 := ⟨"OneBeatsBothModel", "mind", "[I", m_807, (List.forall_mem_cons.mpr ⟨⟨RX11, TX11, 19, rfl, by decide, rfl, rfl, ux_11, Or.inl rfl⟩, (fun _ h => absurd h List.not_mem_nil)⟩)⟩
theorem fg_RX11_22 : FG RX11 22 [11] 4 := ⟨"OneBeatsBothModel", "kept", "[I", m_808, (List.forall_mem_cons.mpr ⟨⟨RX11, TX11, 19, rfl, by decide, rfl, rfl, ux_11, Or.inl rfl⟩, (fun _ h => absurd h List.not_mem_nil)⟩)⟩
theorem fg_RX11_25 : FG RX11 25 [11] 5 := ⟨"OneBeatsBothModel", "sort", "[I", m_809, (List.forall_mem_cons.mpr ⟨⟨RX11, TX11, 19, rfl, by decide, rfl, rfl, ux_11, Or.inl rfl⟩, (fun _ h => absurd h List.not_mem_nil)⟩)⟩
theorem fg_RX11_28 : FG RX11 28 [11] 6 := ⟨"OneBeatsBothModel", "size", "[I", m_810, (List.forall_mem_cons.mpr ⟨⟨RX11, TX11, 19, rfl, by decide, rfl, rfl, ux_11, Or.inl rfl⟩, (fun _ h => absurd h List.not_mem_nil)⟩)⟩
theorem fg_RX11_31 : FG RX11 31 [11] 7 := ⟨"OneBeatsBothModel", "element", "[I", m_811, (List.forall_mem_cons.mpr ⟨⟨RX11, TX11, 19, rfl, by decide, rfl, rfl, ux_11, Or.inl rfl⟩, (fun _ h => absurd h List.not_mem_nil)⟩)⟩
theorem fg_RX11_34 : FG RX11 34 [11] 8 := ⟨"OneBeatsBothModel", "keptKind", "[I", m_812, (List.forall_mem_cons.mpr ⟨⟨RX11, TX11, 19, rfl, by decide, rfl, rfl, ux_11, Or.inl rfl⟩, (fun _ h => absurd h List.not_mem_nil)⟩)⟩
theorem fg_RX11_37 : FG RX11 37 [11] 9 := ⟨"OneBeatsBothModel", "keptFigure", "[I", m_813, (List.forall_mem_cons.mpr ⟨⟨RX11, TX11, 19, rfl, by decide, rfl, rfl, ux_11, Or.inl rfl⟩, (fun _ h => absurd h List.not_mem_nil)⟩)⟩
theorem fg_RX11_40 : FG RX11 40 [11] 15 := ⟨"OneBeatsBothModel", "numbers", "[I", m_819, (List.forall_mem_cons.mpr ⟨⟨RX11, TX11, 19, rfl, by decide, rfl, rfl, ux_11, Or.inl rfl⟩, (fun _ h => absurd h List.not_mem_nil)⟩)⟩
theorem fg_RX11_43 : FG RX11 43 [11] 11 := ⟨"OneBeatsBothModel", "thrown", "I", m_815, (List.forall_mem_cons.mpr ⟨⟨RX11, TX11, 19, rfl, by decide, rfl, rfl, ux_11, Or.inl rfl⟩, (fun _ h => absurd h List.not_mem_nil)⟩)⟩
theorem fg_RX11_94 : FG RX11 94 [11] 12 := ⟨"OneBeatsBothModel", "pos", "I", m_816, (List.forall_mem_cons.mpr ⟨⟨RX11, TX11, 19, rfl, by decide, rfl, rfl, ux_11, Or.inl rfl⟩, (fun _ h => absurd h List.not_mem_nil)⟩)⟩
theorem fg_RX11_97 : FG RX11 97 [11] 14 := ⟨"OneBeatsBothModel", "end", "I", m_818, (List.forall_mem_cons.mpr ⟨⟨RX11, TX11, 19, rfl, by decide, rfl, rfl, ux_11, Or.inl rfl⟩, (fun _ h => absurd h List.not_mem_nil)⟩)⟩
theorem fg_RX11_100 : FG RX11 100 [11] 13 := ⟨"OneBeatsBothModel", "base", "I", m_817, (List.forall_mem_cons.mpr ⟨⟨RX11, TX11, 19, rfl, by decide, rfl, rfl, ux_11, Or.inl rfl⟩, (fun _ h => absurd h List.not_mem_nil)⟩)⟩
theorem fg_RX11_226 : FG RX11 226 [11] 18 := ⟨"OneBeatsBothModel", "seed", "I", m_822, (List.forall_mem_cons.mpr ⟨⟨RX11, TX11, 19, rfl, by decide, rfl, rfl, ux_11, Or.inl rfl⟩, (fun _ h => absurd h List.not_mem_nil)⟩)⟩
theorem fg_RX11_240 : FG RX11 240 [11] 10 := ⟨"OneBeatsBothModel", "hasImage", "Z", m_814, (List.forall_mem_cons.mpr ⟨⟨RX11, TX11, 19, rfl, by decide, rfl, rfl, ux_11, Or.inl rfl⟩, (fun _ h => absurd h List.not_mem_nil)⟩)⟩
theorem fg_RX2_11 : FG RX2 11 [2] 0 := ⟨"OneBeatsBoth$League", "people", "[LOneBeatsBoth$Player;", m_98, (List.forall_mem_cons.mpr ⟨⟨RX2, TX2, 4, rfl, by decide, rfl, rfl, ux_2, Or.inl rfl⟩, (fun _ h => absurd h List.not_mem_nil)⟩)⟩
theorem fg_RX2_17 : FG RX2 17 [2] 1 := ⟨"OneBeatsBoth$League", "beaten", "[I", m_100, (List.forall_mem_cons.mpr ⟨⟨RX2, TX2, 4, rfl, by decide, rfl, rfl, ux_2, Or.inl rfl⟩, (fun _ h => absurd h List.not_mem_nil)⟩)⟩
theorem fg_RX2_21 : FG RX2 21 [2] 2 := ⟨"OneBeatsBoth$League", "size", "I", m_102, (List.forall_mem_cons.mpr ⟨⟨RX2, TX2, 4, rfl, by decide, rfl, rfl, ux_2, Or.inl rfl⟩, (fun _ h => absurd h List.not_mem_nil)⟩)⟩
theorem fg_RX2_25 : FG RX2 25 [2] 3 := ⟨"OneBeatsBoth$League", "law", "I", m_104, (List.forall_mem_cons.mpr ⟨⟨RX2, TX2, 4, rfl, by decide, rfl, rfl, ux_2, Or.inl rfl⟩, (fun _ h => absurd h List.not_mem_nil)⟩)⟩
theorem fg_RX3_7 : FG RX3 7 sP 0 := ⟨"OneBeatsBoth$Novice", "figure", "I", m_81, (List.forall_mem_cons.mpr ⟨⟨RX0, TX0, 1, rfl, by decide, rfl, rfl, ux_0, Or.inr m_82⟩, (List.forall_mem_cons.mpr ⟨⟨RX1, TX1, 1, rfl, by decide, rfl, rfl, ux_1, Or.inr m_82⟩, (List.forall_mem_cons.mpr ⟨⟨RX3, TX3, 1, rfl, by decide, rfl, rfl, ux_3, Or.inr m_82⟩, (List.forall_mem_cons.mpr ⟨⟨RX4, TX4, 1, rfl, by decide, rfl, rfl, ux_4, Or.inr m_82⟩, (List.forall_mem_cons.mpr ⟨⟨RX5, TX5, 1, rfl, by decide, rfl, rfl, ux_5, Or.inr m_82⟩, (List.forall_mem_cons.mpr ⟨⟨RX6, TX6, 1, rfl, by decide, rfl, rfl, ux_6, Or.inr m_82⟩, (List.forall_mem_cons.mpr ⟨⟨RX7, TX7, 1, rfl, by decide, rfl, rfl, ux_7, Or.inr m_82⟩, (List.forall_mem_cons.mpr ⟨⟨RX9, TX9, 1, rfl, by decide, rfl, rfl, ux_9, Or.inr m_82⟩, (fun _ h => absurd h List.not_mem_nil)⟩)⟩)⟩)⟩)⟩)⟩)⟩)⟩)⟩
theorem fg_RX4_11 : FG RX4 11 sP 0 := ⟨"OneBeatsBoth$Nuisance", "figure", "I", m_83, (List.forall_mem_cons.mpr ⟨⟨RX0, TX0, 1, rfl, by decide, rfl, rfl, ux_0, Or.inr m_84⟩, (List.forall_mem_cons.mpr ⟨⟨RX1, TX1, 1, rfl, by decide, rfl, rfl, ux_1, Or.inr m_84⟩, (List.forall_mem_cons.mpr ⟨⟨RX3, TX3, 1, rfl, by decide, rfl, rfl, ux_3, Or.inr m_84⟩, (List.forall_mem_cons.mpr ⟨⟨RX4, TX4, 1, rfl, by decide, rfl, rfl, ux_4, Or.inr m_84⟩, (List.forall_mem_cons.mpr ⟨⟨RX5, TX5, 1, rfl, by decide, rfl, rfl, ux_5, Or.inr m_84⟩, (List.forall_mem_cons.mpr ⟨⟨RX6, TX6, 1, rfl, by decide, rfl, rfl, ux_6, Or.inr m_84⟩, (List.forall_mem_cons.mpr ⟨⟨RX7, TX7, 1, rfl, by decide, rfl, rfl, ux_7, Or.inr m_84⟩, (List.forall_mem_cons.mpr ⟨⟨RX9, TX9, 1, rfl, by decide, rfl, rfl, ux_9, Or.inr m_84⟩, (fun _ h => absurd h List.not_mem_nil)⟩)⟩)⟩)⟩)⟩)⟩)⟩)⟩)⟩
theorem fg_RX6_7 : FG RX6 7 sP 0 := ⟨"OneBeatsBoth$Player", "figure", "I", m_79, (List.forall_mem_cons.mpr ⟨⟨RX0, TX0, 1, rfl, by decide, rfl, rfl, ux_0, Or.inl rfl⟩, (List.forall_mem_cons.mpr ⟨⟨RX1, TX1, 1, rfl, by decide, rfl, rfl, ux_1, Or.inl rfl⟩, (List.forall_mem_cons.mpr ⟨⟨RX3, TX3, 1, rfl, by decide, rfl, rfl, ux_3, Or.inl rfl⟩, (List.forall_mem_cons.mpr ⟨⟨RX4, TX4, 1, rfl, by decide, rfl, rfl, ux_4, Or.inl rfl⟩, (List.forall_mem_cons.mpr ⟨⟨RX5, TX5, 1, rfl, by decide, rfl, rfl, ux_5, Or.inl rfl⟩, (List.forall_mem_cons.mpr ⟨⟨RX6, TX6, 1, rfl, by decide, rfl, rfl, ux_6, Or.inl rfl⟩, (List.forall_mem_cons.mpr ⟨⟨RX7, TX7, 1, rfl, by decide, rfl, rfl, ux_7, Or.inl rfl⟩, (List.forall_mem_cons.mpr ⟨⟨RX9, TX9, 1, rfl, by decide, rfl, rfl, ux_9, Or.inl rfl⟩, (fun _ h => absurd h List.not_mem_nil)⟩)⟩)⟩)⟩)⟩)⟩)⟩)⟩)⟩
theorem fg_RX8_7 : FG RX8 7 [8] 0 := ⟨"OneBeatsBoth$Row", "sort", "I", m_633, (List.forall_mem_cons.mpr ⟨⟨RX8, TX8, 2, rfl, by decide, rfl, rfl, ux_8, Or.inl rfl⟩, (fun _ h => absurd h List.not_mem_nil)⟩)⟩
theorem fg_RX8_13 : FG RX8 13 [8] 1 := ⟨"OneBeatsBoth$Row", "cells", "[I", m_635, (List.forall_mem_cons.mpr ⟨⟨RX8, TX8, 2, rfl, by decide, rfl, rfl, ux_8, Or.inl rfl⟩, (fun _ h => absurd h List.not_mem_nil)⟩)⟩
theorem fp_RX10_12 : FP RX10 12 [10] 0 (.object "OneBeatsBoth$Player") true := ⟨"OneBeatsBoth", "plain", "LOneBeatsBoth$Player;", m_118, by decide +kernel, (List.forall_mem_cons.mpr ⟨⟨RX10, TX10, 8, tyX10, rfl, by decide, rfl, rfl, ux_10, Or.inl rfl, rfl, tyX10_ok, nmX10, (fun _ => rfl)⟩, (fun _ h => absurd h List.not_mem_nil)⟩)⟩
theorem fp_RX10_23 : FP RX10 23 [10] 1 (.object "OneBeatsBoth$League") true := ⟨"OneBeatsBoth", "now", "LOneBeatsBoth$League;", m_119, by decide +kernel, (List.forall_mem_cons.mpr ⟨⟨RX10, TX10, 8, tyX10, rfl, by decide, rfl, rfl, ux_10, Or.inl rfl, rfl, tyX10_ok, nmX10, (fun _ => rfl)⟩, (fun _ h => absurd h List.not_mem_nil)⟩)⟩
theorem fp_RX10_27 : FP RX10 27 [10] 2 (.object "OneBeatsBoth$League") true := ⟨"OneBeatsBoth", "draft", "LOneBeatsBoth$League;", m_120, by decide +kernel, (List.forall_mem_cons.mpr ⟨⟨RX10, TX10, 8, tyX10, rfl, by decide, rfl, rfl, ux_10, Or.inl rfl, rfl, tyX10_ok, nmX10, (fun _ => rfl)⟩, (fun _ h => absurd h List.not_mem_nil)⟩)⟩
theorem fp_RX10_30 : FP RX10 30 [10] 3 (.object "OneBeatsBoth$League") true := ⟨"OneBeatsBoth", "pictured", "LOneBeatsBoth$League;", m_121, by decide +kernel, (List.forall_mem_cons.mpr ⟨⟨RX10, TX10, 8, tyX10, rfl, by decide, rfl, rfl, ux_10, Or.inl rfl, rfl, tyX10_ok, nmX10, (fun _ => rfl)⟩, (fun _ h => absurd h List.not_mem_nil)⟩)⟩
theorem fp_RX10_33 : FP RX10 33 [10] 4 .boolean false := ⟨"OneBeatsBoth", "hasImage", "Z", m_122, by decide +kernel, (List.forall_mem_cons.mpr ⟨⟨RX10, TX10, 8, tyX10, rfl, by decide, rfl, rfl, ux_10, Or.inl rfl, rfl, tyX10_ok, nmX10, (fun h => by cases h)⟩, (fun _ h => absurd h List.not_mem_nil)⟩)⟩
theorem fp_RX10_37 : FP RX10 37 [10] 5 (.array (.object "OneBeatsBoth$Player")) true := ⟨"OneBeatsBoth", "peopleOnShelves", "[LOneBeatsBoth$Player;", m_123, by decide +kernel, (List.forall_mem_cons.mpr ⟨⟨RX10, TX10, 8, tyX10, rfl, by decide, rfl, rfl, ux_10, Or.inl rfl, rfl, tyX10_ok, nmX10, (fun _ => rfl)⟩, (fun _ h => absurd h List.not_mem_nil)⟩)⟩
theorem fp_RX10_43 : FP RX10 43 [10] 6 (.array (.object "OneBeatsBoth$Row")) true := ⟨"OneBeatsBoth", "rowsOnShelves", "[LOneBeatsBoth$Row;", m_124, by decide +kernel, (List.forall_mem_cons.mpr ⟨⟨RX10, TX10, 8, tyX10, rfl, by decide, rfl, rfl, ux_10, Or.inl rfl, rfl, tyX10_ok, nmX10, (fun _ => rfl)⟩, (fun _ h => absurd h List.not_mem_nil)⟩)⟩
theorem fp_RX10_47 : FP RX10 47 [10] 7 (.array .int) true := ⟨"OneBeatsBoth", "told", "[I", m_125, by decide +kernel, (List.forall_mem_cons.mpr ⟨⟨RX10, TX10, 8, tyX10, rfl, by decide, rfl, rfl, ux_10, Or.inl rfl, rfl, tyX10_ok, nmX10, (fun _ => rfl)⟩, (fun _ h => absurd h List.not_mem_nil)⟩)⟩
theorem fp_RX10_111 : FP RX10 111 [2] 2 .int false := ⟨"OneBeatsBoth$League", "size", "I", m_103, by decide +kernel, (List.forall_mem_cons.mpr ⟨⟨RX2, TX2, 4, tyX2, rfl, by decide, rfl, rfl, ux_2, Or.inl rfl, rfl, tyX2_ok, nmX2, (fun h => by cases h)⟩, (fun _ h => absurd h List.not_mem_nil)⟩)⟩
theorem fp_RX10_130 : FP RX10 130 [2] 3 .int false := ⟨"OneBeatsBoth$League", "law", "I", m_105, by decide +kernel, (List.forall_mem_cons.mpr ⟨⟨RX2, TX2, 4, tyX2, rfl, by decide, rfl, rfl, ux_2, Or.inl rfl, rfl, tyX2_ok, nmX2, (fun h => by cases h)⟩, (fun _ h => absurd h List.not_mem_nil)⟩)⟩
theorem fp_RX11_9 : FP RX11 9 [11] 0 (.array .int) true := ⟨"OneBeatsBothModel", "s", "[I", m_804, by decide +kernel, (List.forall_mem_cons.mpr ⟨⟨RX11, TX11, 19, tyX11, rfl, by decide, rfl, rfl, ux_11, Or.inl rfl, rfl, tyX11_ok, nmX11, (fun _ => rfl)⟩, (fun _ h => absurd h List.not_mem_nil)⟩)⟩
theorem fp_RX11_13 : FP RX11 13 [11] 1 (.array .int) true := ⟨"OneBeatsBothModel", "image", "[I", m_805, by decide +kernel, (List.forall_mem_cons.mpr ⟨⟨RX11, TX11, 19, tyX11, rfl, by decide, rfl, rfl, ux_11, Or.inl rfl, rfl, tyX11_ok, nmX11, (fun _ => rfl)⟩, (fun _ h => absurd h List.not_mem_nil)⟩)⟩
theorem fp_RX11_16 : FP RX11 16 [11] 2 (.array .int) true := ⟨"OneBeatsBothModel", "read", "[I", m_806, by decide +kernel, (List.forall_mem_cons.mpr ⟨⟨RX11, TX11, 19, tyX11, rfl, by decide, rfl, rfl, ux_11, Or.inl rfl, rfl, tyX11_ok, nmX11, (fun _ => rfl)⟩, (fun _ h => absurd h List.not_mem_nil)⟩)⟩
theorem fp_RX11_19 : FP RX11 19 [11] 3 (.array .int) true := ⟨"OneBeatsBothModel", "mind", "[I", m_807, by decide +kernel, (List.forall_mem_cons.mpr ⟨⟨RX11, TX11, 19, tyX11, rfl, by decide, rfl, rfl, ux_11, Or.inl rfl, rfl, tyX11_ok, nmX11, (fun _ => rfl)⟩, (fun _ h => absurd h List.not_mem_nil)⟩)⟩
theorem fp_RX11_22 : FP RX11 22 [11] 4 (.array .int) true := ⟨"OneBeatsBothModel", "kept", "[I", m_808, by decide +kernel, (List.forall_mem_cons.mpr ⟨⟨RX11, TX11, 19, tyX11, rfl, by decide, rfl, rfl, ux_11, Or.inl rfl, rfl, tyX11_ok, nmX11, (fun _ => rfl)⟩, (fun _ h => absurd h List.not_mem_nil)⟩)⟩
theorem fp_RX11_25 : FP RX11 25 [11] 5 (.array .int) true := ⟨"OneBeatsBothModel", "sort", "[I", m_809, by decide +kernel, (List.forall_mem_cons.mpr ⟨⟨RX11, TX11, 19, tyX11, rfl, by decide, rfl, rfl, ux_11, Or.inl rfl, rfl, tyX11_ok, nmX11, (fun _ => rfl)⟩, (fun _ h => absurd h List.not_mem_nil)⟩)⟩
theorem fp_RX11_28 : FP RX11 28 [11] 6 (.array .int) true := ⟨"OneBeatsBothModel", "size", "[I", m_810, by decide +kernel, (List.forall_mem_cons.mpr ⟨⟨RX11, TX11, 19, tyX11, rfl, by decide, rfl, rfl, ux_11, Or.inl rfl, rfl, tyX11_ok, nmX11, (fun _ => rfl)⟩, (fun _ h => absurd h List.not_mem_nil)⟩)⟩
theorem fp_RX11_31 : FP RX11 31 [11] 7 (.array .int) true := ⟨"OneBeatsBothModel", "element", "[I", m_811, by decide +kernel, (List.forall_mem_cons.mpr ⟨⟨RX11, TX11, 19, tyX11, rfl, by decide, rfl, rfl, ux_11, Or.inl rfl, rfl, tyX11_ok, nmX11, (fun _ => rfl)⟩, (fun _ h => absurd h List.not_mem_nil)⟩)⟩
theorem fp_RX11_34 : FP RX11 34 [11] 8 (.array .int) true := ⟨"OneBeatsBothModel", "keptKind", "[I", m_812, by decide +kernel, (List.forall_mem_cons.mpr ⟨⟨RX11, TX11, 19, tyX11, rfl, by decide, rfl, rfl, ux_11, Or.inl rfl, rfl, tyX11_ok, nmX11, (fun _ => rfl)⟩, (fun _ h => absurd h List.not_mem_nil)⟩)⟩
theorem fp_RX11_37 : FP RX11 37 [11] 9 (.array .int) true := ⟨"OneBeatsBothModel", "keptFigure", "[I", m_813, by decide +kernel, (List.forall_mem_cons.mpr ⟨⟨RX11, TX11, 19, tyX11, rfl, by decide, rfl, rfl, ux_11, Or.inl rfl, rfl, tyX11_ok, nmX11, (fun _ => rfl)⟩, (fun _ h => absurd h List.not_mem_nil)⟩)⟩
theorem fp_RX11_40 : FP RX11 40 [11] 15 (.array .int) true := ⟨"OneBeatsBothModel", "numbers", "[I", m_819, by decide +kernel, (List.forall_mem_cons.mpr ⟨⟨RX11, TX11, 19, tyX11, rfl, by decide, rfl, rfl, ux_11, Or.inl rfl, rfl, tyX11_ok, nmX11, (fun _ => rfl)⟩, (fun _ h => absurd h List.not_mem_nil)⟩)⟩
theorem fp_RX11_43 : FP RX11 43 [11] 11 .int false := ⟨"OneBeatsBothModel", "thrown", "I", m_815, by decide +kernel, (List.forall_mem_cons.mpr ⟨⟨RX11, TX11, 19, tyX11, rfl, by decide, rfl, rfl, ux_11, Or.inl rfl, rfl, tyX11_ok, nmX11, (fun h => by cases h)⟩, (fun _ h => absurd h List.not_mem_nil)⟩)⟩
theorem fp_RX11_94 : FP RX11 94 [11] 12 .int false := ⟨"OneBeatsBothModel", "pos", "I", m_816, by decide +kernel, (List.forall_mem_cons.mpr ⟨⟨RX11, TX11, 19, tyX11, rfl, by decide, rfl, rfl, ux_11, Or.inl rfl, rfl, tyX11_ok, nmX11, (fun h => by cases h)⟩, (fun _ h => absurd h List.not_mem_nil)⟩)⟩
theorem fp_RX11_97 : FP RX11 97 [11] 14 .int false := ⟨"OneBeatsBothModel", "end", "I", m_818, by decide +kernel, (List.forall_mem_cons.mpr ⟨⟨RX11, TX11, 19, tyX11, rfl, by decide, rfl, rfl, ux_11, Or.inl rfl, rfl, tyX11_ok, nmX11, (fun h => by cases h)⟩, (fun _ h => absurd h List.not_mem_nil)⟩)⟩
theorem fp_RX11_100 : FP RX11 100 [11] 13 .int false := ⟨"OneBeatsBothModel", "base", "I", m_817, by decide +kernel, (List.forall_mem_cons.mpr ⟨⟨RX11, TX11, 19, tyX11, rfl, by decide, rfl, rfl, ux_11, Or.inl rfl, rfl, tyX11_ok, nmX11, (fun h => by cases h)⟩, (fun _ h => absurd h List.not_mem_nil)⟩)⟩
theorem fp_RX11_226 : FP RX11 226 [11] 18 .int false := ⟨"OneBeatsBothModel", "seed", "I", m_822, by decide +kernel, (List.forall_mem_cons.mpr ⟨⟨RX11, TX11, 19, tyX11, rfl, by decide, rfl, rfl, ux_11, Or.inl rfl, rfl, tyX11_ok, nmX11, (fun h => by cases h)⟩, (fun _ h => absurd h List.not_mem_nil)⟩)⟩
theorem fp_RX11_240 : FP RX11 240 [11] 10 .boolean false := ⟨"OneBeatsBothModel", "hasImage", "Z", m_814, by decide +kernel, (List.forall_mem_cons.mpr ⟨⟨RX11, TX11, 19, tyX11, rfl, by decide, rfl, rfl, ux_11, Or.inl rfl, rfl, tyX11_ok, nmX11, (fun h => by cases h)⟩, (fun _ h => absurd h List.not_mem_nil)⟩)⟩
theorem fp_RX2_11 : FP RX2 11 [2] 0 (.array (.object "OneBeatsBoth$Player")) true := ⟨"OneBeatsBoth$League", "people", "[LOneBeatsBoth$Player;", m_98, by decide +kernel, (List.forall_mem_cons.mpr ⟨⟨RX2, TX2, 4, tyX2, rfl, by decide, rfl, rfl, ux_2, Or.inl rfl, rfl, tyX2_ok, nmX2, (fun _ => rfl)⟩, (fun _ h => absurd h List.not_mem_nil)⟩)⟩
theorem fp_RX2_17 : FP RX2 17 [2] 1 (.array .int) true := ⟨"OneBeatsBoth$League", "beaten", "[I", m_100, by decide +kernel, (List.forall_mem_cons.mpr ⟨⟨RX2, TX2, 4, tyX2, rfl, by decide, rfl, rfl, ux_2, Or.inl rfl, rfl, tyX2_ok, nmX2, (fun _ => rfl)⟩, (fun _ h => absurd h List.not_mem_nil)⟩)⟩
theorem fp_RX2_21 : FP RX2 21 [2] 2 .int false := ⟨"OneBeatsBoth$League", "size", "I", m_102, by decide +kernel, (List.forall_mem_cons.mpr ⟨⟨RX2, TX2, 4, tyX2, rfl, by decide, rfl, rfl, ux_2, Or.inl rfl, rfl, tyX2_ok, nmX2, (fun h => by cases h)⟩, (fun _ h => absurd h List.not_mem_nil)⟩)⟩
theorem fp_RX2_25 : FP RX2 25 [2] 3 .int false := ⟨"OneBeatsBoth$League", "law", "I", m_104, by decide +kernel, (List.forall_mem_cons.mpr ⟨⟨RX2, TX2, 4, tyX2, rfl, by decide, rfl, rfl, ux_2, Or.inl rfl, rfl, tyX2_ok, nmX2, (fun h => by cases h)⟩, (fun _ h => absurd h List.not_mem_nil)⟩)⟩
theorem fp_RX6_7 : FP RX6 7 sP 0 .int true := ⟨"OneBeatsBoth$Player", "figure", "I", m_79, by decide +kernel, (List.forall_mem_cons.mpr ⟨⟨RX0, TX0, 1, tyX0, rfl, by decide, rfl, rfl, ux_0, Or.inl rfl, rfl, tyX0_ok, nmX0, (fun _ => rfl)⟩, (List.forall_mem_cons.mpr ⟨⟨RX1, TX1, 1, tyX1, rfl, by decide, rfl, rfl, ux_1, Or.inl rfl, rfl, tyX1_ok, nmX1, (fun _ => rfl)⟩, (List.forall_mem_cons.mpr ⟨⟨RX3, TX3, 1, tyX3, rfl, by decide, rfl, rfl, ux_3, Or.inl rfl, rfl, tyX3_ok, nmX3, (fun _ => rfl)⟩, (List.forall_mem_cons.mpr ⟨⟨RX4, TX4, 1, tyX4, rfl, by decide, rfl, rfl, ux_4, Or.inl rfl, rfl, tyX4_ok, nmX4, (fun _ => rfl)⟩, (List.forall_mem_cons.mpr ⟨⟨RX5, TX5, 1, tyX5, rfl, by decide, rfl, rfl, ux_5, Or.inl rfl, rfl, tyX5_ok, nmX5, (fun _ => rfl)⟩, (List.forall_mem_cons.mpr ⟨⟨RX6, TX6, 1, tyX6, rfl, by decide, rfl, rfl, ux_6, Or.inl rfl, rfl, tyX6_ok, nmX6, (fun _ => rfl)⟩, (List.forall_mem_cons.mpr ⟨⟨RX7, TX7, 1, tyX7, rfl, by decide, rfl, rfl, ux_7, Or.inl rfl, rfl, tyX7_ok, nmX7, (fun _ => rfl)⟩, (List.forall_mem_cons.mpr ⟨⟨RX9, TX9, 1, tyX9, rfl, by decide, rfl, rfl, ux_9, Or.inl rfl, rfl, tyX9_ok, nmX9, (fun _ => rfl)⟩, (fun _ h => absurd h List.not_mem_nil)⟩)⟩)⟩)⟩)⟩)⟩)⟩)⟩)⟩
theorem fp_RX8_7 : FP RX8 7 [8] 0 .int true := ⟨"OneBeatsBoth$Row", "sort", "I", m_633, by decide +kernel, (List.forall_mem_cons.mpr ⟨⟨RX8, TX8, 2, tyX8, rfl, by decide, rfl, rfl, ux_8, Or.inl rfl, rfl, tyX8_ok, nmX8, (fun _ => rfl)⟩, (fun _ h => absurd h List.not_mem_nil)⟩)⟩
theorem fp_RX8_13 : FP RX8 13 [8] 1 (.array .int) true := ⟨"OneBeatsBoth$Row", "cells", "[I", m_635, by decide +kernel, (List.forall_mem_cons.mpr ⟨⟨RX8, TX8, 2, tyX8, rfl, by decide, rfl, rfl, ux_8, Or.inl rfl, rfl, tyX8_ok, nmX8, (fun _ => rfl)⟩, (fun _ h => absurd h List.not_mem_nil)⟩)⟩
theorem cc_RX10_256 : CC RX10 256 := ⟨m_655, m_194, m_193, m_49⟩
theorem cc_RX2_28 : CC RX2 28 := ⟨m_192, m_194, m_193, m_49⟩
theorem ra_ok : ∀ b, RA b := fun b => by
  cases b
  · exact (List.forall_mem_cons.mpr ⟨⟨_, rfl, Or.inl n_1193⟩, (List.forall_mem_cons.mpr ⟨⟨_, rfl, Or.inl n_1189⟩, (List.forall_mem_cons.mpr ⟨⟨_, rfl, Or.inl n_1191⟩, (List.forall_mem_cons.mpr ⟨⟨_, rfl, Or.inl n_1187⟩, (List.forall_mem_cons.mpr ⟨⟨_, rfl, Or.inl n_1188⟩, (List.forall_mem_cons.mpr ⟨⟨_, rfl, Or.inr rfl⟩, (List.forall_mem_cons.mpr ⟨⟨_, rfl, Or.inl n_1192⟩, (List.forall_mem_cons.mpr ⟨⟨_, rfl, Or.inl n_1190⟩, (fun _ h => absurd h List.not_mem_nil)⟩)⟩)⟩)⟩)⟩)⟩)⟩)⟩)
  · exact (List.forall_mem_cons.mpr ⟨⟨_, rfl, Or.inr rfl⟩, (fun _ h => absurd h List.not_mem_nil)⟩)
theorem w_RX0_1 : CI RX0 1 yX6_init cX6_init 2 1 := ⟨m_77, m_46, m_258, m_76, rfl, by decide +kernel⟩
theorem w_RX0_11 : CX RX0 11 yX6_cost cX6_cost 1 0 (some .int) := ⟨m_404, m_46, m_379, m_373, m_375, m_260, by decide +kernel⟩
theorem w_RX0_7 : CX RX0 7 yX6_skill cX6_skill 1 0 (some .int) := ⟨m_340, m_46, m_322, m_316, m_318, m_260, by decide +kernel⟩
theorem w_RX10_101 : CV RX10 101 RX2 yX2_counting cX2_counting 3 0 (some .int) := ⟨m_344, m_47, m_341, m_342, m_343, by decide +kernel⟩
theorem w_RX10_107 : CV RX10 107 RX10 yX10_personOn cX10_personOn 2 1 (some (.object "OneBeatsBoth$Player")) := ⟨m_169, m_45, m_166, m_168, m_4, by decide +kernel⟩
theorem w_RX10_113 : CV RX10 113 RX2 yX2_seat cX2_seat 3 1 none := ⟨m_264, m_47, m_261, m_262, m_263, by decide +kernel⟩
theorem w_RX10_116 : CV RX10 116 RX2 yX2_hasBoth cX2_hasBoth 3 2 (some .boolean) := ⟨m_268, m_47, m_265, m_266, m_267, by decide +kernel⟩
theorem w_RX10_120 : CV RX10 120 RX2 yX2_hasBeaten cX2_hasBeaten 3 2 (some .boolean) := ⟨m_416, m_47, m_413, m_414, m_415, by decide +kernel⟩
theorem w_RX10_123 : CV RX10 123 RX2 yX2_win cX2_win 3 2 none := ⟨m_276, m_47, m_273, m_274, m_275, by decide +kernel⟩
theorem w_RX10_127 : CS RX10 127 yX10_isLaw cX10_isLaw 1 1 (some .boolean) := ⟨m_279, m_45, m_277, m_278, by decide +kernel⟩
theorem w_RX10_133 : CV RX10 133 RX2 yX2_isLawful cX2_isLawful 1 0 (some .boolean) := ⟨m_428, m_47, m_425, m_426, m_427, by decide +kernel⟩
theorem w_RX10_137 : CV RX10 137 RX2 yX2_mastersAmong cX2_mastersAmong 4 3 (some .int) := ⟨m_437, m_47, m_446, m_435, m_436, by decide +kernel⟩
theorem w_RX10_141 : CV RX10 141 RX2 yX2_orphanPairs cX2_orphanPairs 5 0 (some .int) := ⟨m_454, m_47, m_451, m_452, m_453, by decide +kernel⟩
theorem w_RX10_144 : CV RX10 144 RX2 yX2_firstOrphanPair cX2_firstOrphanPair 4 0 (some .int) := ⟨m_441, m_47, m_455, m_439, m_440, by decide +kernel⟩
theorem w_RX10_147 : CV RX10 147 RX2 yX2_matches cX2_matches 1 0 (some .int) := ⟨m_463, m_47, m_460, m_461, m_462, by decide +kernel⟩
theorem w_RX10_150 : CV RX10 150 RX10 yX10_lawfulTurns cX10_lawfulTurns 3 0 (some .int) := ⟨m_467, m_45, m_464, m_466, m_7, by decide +kernel⟩
theorem w_RX10_153 : CV RX10 153 RX2 yX2_isRing cX2_isRing 5 3 (some .boolean) := ⟨m_487, m_47, m_484, m_485, m_486, by decide +kernel⟩
theorem w_RX10_156 : CS RX10 156 yJ6_bitCount_0f7a4 cJ6_bitCount_0f7a4 1 1 (some .int) := ⟨m_347, m_57, m_493, m_346, by decide +kernel⟩
theorem w_RX10_165 : CS RX10 165 yX10_isPerson cX10_isPerson 2 2 (some .boolean) := ⟨m_201, m_45, m_199, m_200, by decide +kernel⟩
theorem w_RX10_168 : CS RX10 168 yX10_newPerson cX10_newPerson 2 2 (some (.object "OneBeatsBoth$Player")) := ⟨m_204, m_45, m_202, m_203, by decide +kernel⟩
theorem w_RX10_172 : CV RX10 172 RX2 yX2_newcomerBeats cX2_newcomerBeats 4 2 none := ⟨m_517, m_47, m_514, m_515, m_516, by decide +kernel⟩
theorem w_RX10_175 : CV RX10 175 RX2 yX2_unseat cX2_unseat 4 1 none := ⟨m_283, m_47, m_280, m_281, m_282, by decide +kernel⟩
theorem w_RX10_182 : CV RX10 182 RX2 yX2_play cX2_play 3 1 none := ⟨m_532, m_47, m_529, m_530, m_531, by decide +kernel⟩
theorem w_RX10_185 : CV RX10 185 RX2 yX2_weight cX2_weight 6 0 (some .long) := ⟨m_537, m_47, m_534, m_535, m_536, by decide +kernel⟩
theorem w_RX10_189 : CS RX10 189 yX10_commonDivisor cX10_commonDivisor 11 2 (some .long) := ⟨m_541, m_45, m_539, m_540, by decide +kernel⟩
theorem w_RX10_193 : CV RX10 193 RX10 yX10_clearTold cX10_clearTold 2 0 none := ⟨m_549, m_45, m_546, m_548, m_8, by decide +kernel⟩
theorem w_RX10_196 : CV RX10 196 RX10 yX10_lawfulWaysAsTold cX10_lawfulWaysAsTold 3 0 (some .int) := ⟨m_553, m_45, m_550, m_552, m_9, by decide +kernel⟩
theorem w_RX10_199 : CS RX10 199 yX10_isRing cX10_isRing 1 1 (some .boolean) := ⟨m_564, m_45, m_562, m_563, by decide +kernel⟩
theorem w_RX10_20 : CI RX10 20 yX2_init cX2_init 3 1 := ⟨m_94, m_47, m_92, m_93, rfl, by decide +kernel⟩
theorem w_RX10_201 : CS RX10 201 yX10_isHalfOfDifferences cX10_isHalfOfDifferences 3 2 (some .boolean) := ⟨m_567, m_45, m_565, m_566, by decide +kernel⟩
theorem w_RX10_204 : CS RX10 204 yX10_isLawfulRing cX10_isLawfulRing 7 3 (some .boolean) := ⟨m_570, m_45, m_568, m_569, by decide +kernel⟩
theorem w_RX10_207 : CS RX10 207 yX10_setWithUpperHalf cX10_setWithUpperHalf 5 2 (some .int) := ⟨m_577, m_45, m_575, m_576, by decide +kernel⟩
theorem w_RX10_211 : CS RX10 211 yX10_isShelf cX10_isShelf 1 1 (some .boolean) := ⟨m_157, m_45, m_155, m_156, by decide +kernel⟩
theorem w_RX10_214 : CV RX10 214 RX2 yX2_playSeason cX2_playSeason 6 1 (some .int) := ⟨m_589, m_47, m_586, m_587, m_588, by decide +kernel⟩
theorem w_RX10_217 : CV RX10 217 RX10 yX10_rowOn cX10_rowOn 2 1 (some (.object "OneBeatsBoth$Row")) := ⟨m_154, m_45, m_151, m_153, m_1, by decide +kernel⟩
theorem w_RX10_220 : CV RX10 220 RX2 yX2_wrongOfThree cX2_wrongOfThree 4 3 (some .int) := ⟨m_602, m_47, m_599, m_600, m_601, by decide +kernel⟩
theorem w_RX10_223 : CV RX10 223 RX2 yX2_allCosts cX2_allCosts 3 0 (some .int) := ⟨m_619, m_47, m_616, m_617, m_618, by decide +kernel⟩
theorem w_RX10_229 : CV RX10 229 RX8 yX8_hasPlaces cX8_hasPlaces 3 2 (some .boolean) := ⟨m_184, m_58, m_646, m_182, m_183, by decide +kernel⟩
theorem w_RX10_232 : CV RX10 232 RX8 yX8_change cX8_change 3 2 none := ⟨m_650, m_58, m_647, m_648, m_649, by decide +kernel⟩
theorem w_RX10_247 : CV RX10 247 RX10 yX10_isBare cX10_isBare 2 1 (some .boolean) := ⟨m_165, m_45, m_162, m_164, m_3, by decide +kernel⟩
theorem w_RX10_269 : CI RX10 269 yX4_init cX4_init 2 1 := ⟨m_209, m_50, m_207, m_208, rfl, by decide +kernel⟩
theorem w_RX10_272 : CI RX10 272 yX5_init cX5_init 2 1 := ⟨m_217, m_51, m_215, m_216, rfl, by decide +kernel⟩
theorem w_RX10_275 : CI RX10 275 yX1_init cX1_init 2 1 := ⟨m_225, m_52, m_223, m_224, rfl, by decide +kernel⟩
theorem w_RX10_278 : CI RX10 278 yX9_init cX9_init 2 1 := ⟨m_233, m_53, m_231, m_232, rfl, by decide +kernel⟩
theorem w_RX10_281 : CI RX10 281 yX3_init cX3_init 2 1 := ⟨m_241, m_54, m_239, m_240, rfl, by decide +kernel⟩
theorem w_RX10_284 : CI RX10 284 yX7_init cX7_init 2 1 := ⟨m_249, m_55, m_247, m_248, rfl, by decide +kernel⟩
theorem w_RX10_287 : CI RX10 287 yX0_init cX0_init 2 1 := ⟨m_257, m_56, m_255, m_256, rfl, by decide +kernel⟩
theorem w_RX10_288 : CV RX10 288 RX2 yX2_turn cX2_turn 2 1 none := ⟨m_471, m_47, m_468, m_469, m_470, by decide +kernel⟩
theorem w_RX10_294 : CV RX10 294 RX2 yX2_isAsTold cX2_isAsTold 3 1 (some .boolean) := ⟨m_557, m_47, m_554, m_555, m_556, by decide +kernel⟩
theorem w_RX10_51 : CV RX10 51 RX10 yX10_bytesOn cX10_bytesOn 3 1 (some (.object "OneBeatsBoth$Row")) := ⟨m_150, m_45, m_147, m_149, m_0, by decide +kernel⟩
theorem w_RX10_55 : CV RX10 55 RX10 yX10_whyNotOn cX10_whyNotOn 2 1 (some .int) := ⟨m_161, m_45, m_158, m_160, m_2, by decide +kernel⟩
theorem w_RX10_63 : CV RX10 63 RX2 yX2_become cX2_become 2 1 none := ⟨m_191, m_47, m_188, m_189, m_190, by decide +kernel⟩
theorem w_RX10_67 : CV RX10 67 RX8 yX8_size cX8_size 1 0 (some .int) := ⟨m_176, m_58, m_173, m_174, m_175, by decide +kernel⟩
theorem w_RX10_71 : CV RX10 71 RX8 yX8_at cX8_at 2 1 (some .int) := ⟨m_180, m_58, m_177, m_178, m_179, by decide +kernel⟩
theorem w_RX10_78 : CS RX10 78 yX10_digitsBehind cX10_digitsBehind 1 1 (some .int) := ⟨m_187, m_45, m_185, m_186, by decide +kernel⟩
theorem w_RX10_81 : CV RX10 81 RX2 yX2_has cX2_has 2 1 (some .boolean) := ⟨m_272, m_47, m_288, m_270, m_271, by decide +kernel⟩
theorem w_RX10_9 : CI RX10 9 yX6_init cX6_init 2 1 := ⟨m_77, m_46, m_75, m_76, rfl, by decide +kernel⟩
theorem w_RX11_103 : CV RX11 103 RX11 yX11_here cX11_here 1 0 (some .int) := ⟨m_888, m_48, m_885, m_887, m_13, by decide +kernel⟩
theorem w_RX11_111 : CV RX11 111 RX11 yX11_readsDigits cX11_readsDigits 3 1 (some .boolean) := ⟨m_892, m_48, m_889, m_891, m_14, by decide +kernel⟩
theorem w_RX11_114 : CV RX11 114 RX11 yX11_joins cX11_joins 5 2 none := ⟨m_909, m_48, m_906, m_908, m_17, by decide +kernel⟩
theorem w_RX11_117 : CV RX11 117 RX11 yX11_adds cX11_adds 3 2 (some .boolean) := ⟨m_905, m_48, m_902, m_904, m_16, by decide +kernel⟩
theorem w_RX11_121 : CV RX11 121 RX11 yX11_areTwo cX11_areTwo 3 2 (some .boolean) := ⟨m_921, m_48, m_918, m_920, m_20, by decide +kernel⟩
theorem w_RX11_124 : CS RX11 124 yX11_isLaw cX11_isLaw 1 1 (some .boolean) := ⟨m_932, m_48, m_930, m_931, by decide +kernel⟩
theorem w_RX11_127 : CV RX11 127 RX11 yX11_leaves cX11_leaves 4 1 none := ⟨m_937, m_48, m_934, m_936, m_23, by decide +kernel⟩
theorem w_RX11_131 : CS RX11 131 yX11_isShelf cX11_isShelf 1 1 (some .boolean) := ⟨m_876, m_48, m_874, m_875, by decide +kernel⟩
theorem w_RX11_134 : CV RX11 134 RX11 yX11_wrongRow cX11_wrongRow 3 2 (some .int) := ⟨m_873, m_48, m_870, m_872, m_11, by decide +kernel⟩
theorem w_RX11_137 : CV RX11 137 RX11 yX11_readsStatement cX11_readsStatement 3 0 (some .boolean) := ⟨m_884, m_48, m_881, m_883, m_12, by decide +kernel⟩
theorem w_RX11_141 : CV RX11 141 RX11 yX11_comesTold cX11_comesTold 3 1 (some .boolean) := ⟨m_901, m_48, m_898, m_900, m_15, by decide +kernel⟩
theorem w_RX11_144 : CV RX11 144 RX11 yX11_skill cX11_skill 2 1 (some .int) := ⟨m_953, m_48, m_950, m_952, m_26, by decide +kernel⟩
theorem w_RX11_147 : CS RX11 147 yX11_priceBy cX11_priceBy 2 2 (some .int) := ⟨m_966, m_48, m_964, m_965, by decide +kernel⟩
theorem w_RX11_150 : CV RX11 150 RX11 yX11_wrongKept cX11_wrongKept 2 1 (some .int) := ⟨m_974, m_48, m_971, m_973, m_28, by decide +kernel⟩
theorem w_RX11_153 : CV RX11 153 RX11 yX11_isLawful cX11_isLawful 3 0 (some .boolean) := ⟨m_990, m_48, m_987, m_989, m_29, by decide +kernel⟩
theorem w_RX11_156 : CV RX11 156 RX11 yX11_turns cX11_turns 3 2 none := ⟨m_1014, m_48, m_1011, m_1013, m_32, by decide +kernel⟩
theorem w_RX11_159 : CV RX11 159 RX11 yX11_turnedTo cX11_turnedTo 5 1 (some .int) := ⟨m_1010, m_48, m_1007, m_1009, m_31, by decide +kernel⟩
theorem w_RX11_177 : CV RX11 177 RX11 yX11_begins cX11_begins 1 0 none := ⟨m_1051, m_48, m_1048, m_1050, m_35, by decide +kernel⟩
theorem w_RX11_180 : CV RX11 180 RX11 yX11_ends cX11_ends 1 0 none := ⟨m_1055, m_48, m_1052, m_1054, m_36, by decide +kernel⟩
theorem w_RX11_191 : CV RX11 191 RX11 yX11_matches cX11_matches 1 0 (some .int) := ⟨m_1069, m_48, m_1066, m_1068, m_37, by decide +kernel⟩
theorem w_RX11_194 : CV RX11 194 RX11 yX11_plays cX11_plays 5 1 none := ⟨m_1073, m_48, m_1070, m_1072, m_38, by decide +kernel⟩
theorem w_RX11_207 : CS RX11 207 yX11_areBeaten cX11_areBeaten 4 3 (some .boolean) := ⟨m_1103, m_48, m_1101, m_1102, by decide +kernel⟩
theorem w_RX11_211 : CS RX11 211 yX11_isRound cX11_isRound 1 1 (some .boolean) := ⟨m_1092, m_48, m_1090, m_1091, by decide +kernel⟩
theorem w_RX11_214 : CS RX11 214 yX11_isSet cX11_isSet 3 2 (some .boolean) := ⟨m_1097, m_48, m_1095, m_1096, by decide +kernel⟩
theorem w_RX11_217 : CS RX11 217 yX11_isRoundWell cX11_isRoundWell 4 3 (some .boolean) := ⟨m_1100, m_48, m_1098, m_1099, by decide +kernel⟩
theorem w_RX11_220 : CV RX11 220 RX11 yX11_told cX11_told 3 2 (some .int) := ⟨m_1115, m_48, m_1112, m_1114, m_40, by decide +kernel⟩
theorem w_RX11_223 : CV RX11 223 RX11 yX11_isAsPlayed cX11_isAsPlayed 3 1 (some .boolean) := ⟨m_1119, m_48, m_1116, m_1118, m_41, by decide +kernel⟩
theorem w_RX11_234 : CV RX11 234 RX11 yX11_drawn cX11_drawn 2 1 (some .int) := ⟨m_1128, m_48, m_1125, m_1127, m_42, by decide +kernel⟩
theorem w_RX11_237 : CV RX11 237 RX11 yX11_wrongThree cX11_wrongThree 6 2 (some .int) := ⟨m_1139, m_48, m_1136, m_1138, m_43, by decide +kernel⟩
theorem w_RX11_49 : CS RX11 49 yX11_isIn cX11_isIn 6 3 (some .boolean) := ⟨m_880, m_48, m_878, m_879, by decide +kernel⟩
theorem w_RX11_55 : CV RX11 55 RX11 yX11_isOne cX11_isOne 2 1 (some .boolean) := ⟨m_925, m_48, m_922, m_924, m_21, by decide +kernel⟩
theorem w_RX11_59 : CS RX11 59 yX11_lays cX11_lays 3 2 none := ⟨m_897, m_48, m_895, m_896, by decide +kernel⟩
theorem w_RX11_63 : CV RX11 63 RX11 yX11_beaten cX11_beaten 2 1 (some .int) := ⟨m_917, m_48, m_914, m_916, m_19, by decide +kernel⟩
theorem w_RX11_67 : CS RX11 67 yX11_bits cX11_bits 3 1 (some .int) := ⟨m_963, m_48, m_961, m_962, by decide +kernel⟩
theorem w_RX11_70 : CV RX11 70 RX11 yX11_figure cX11_figure 2 1 (some .int) := ⟨m_949, m_48, m_946, m_948, m_25, by decide +kernel⟩
theorem w_RX11_73 : CV RX11 73 RX11 yX11_kind cX11_kind 2 1 (some .int) := ⟨m_945, m_48, m_942, m_944, m_24, by decide +kernel⟩
theorem w_RX11_76 : CS RX11 76 yX11_skillBy cX11_skillBy 2 2 (some .int) := ⟨m_956, m_48, m_954, m_955, by decide +kernel⟩
theorem w_RX11_80 : CV RX11 80 RX11 yX11_puts cX11_puts 4 3 none := ⟨m_913, m_48, m_910, m_912, m_18, by decide +kernel⟩
theorem w_RX11_84 : CV RX11 84 RX11 yX11_beats cX11_beats 3 2 none := ⟨m_929, m_48, m_926, m_928, m_22, by decide +kernel⟩
theorem w_RX11_88 : CV RX11 88 RX11 yX11_counts cX11_counts 4 1 (some .boolean) := ⟨m_960, m_48, m_957, m_959, m_27, by decide +kernel⟩
theorem w_RX11_91 : CV RX11 91 RX11 yX11_mastersOf cX11_mastersOf 4 1 (some .int) := ⟨m_994, m_48, m_991, m_993, m_30, by decide +kernel⟩
theorem w_RX1_1 : CI RX1 1 yX6_init cX6_init 2 1 := ⟨m_77, m_46, m_226, m_76, rfl, by decide +kernel⟩
theorem w_RX1_11 : CX RX1 11 yX6_cost cX6_cost 1 0 (some .int) := ⟨m_404, m_46, m_383, m_373, m_375, m_228, by decide +kernel⟩
theorem w_RX1_7 : CX RX1 7 yX6_skill cX6_skill 1 0 (some .int) := ⟨m_340, m_46, m_326, m_316, m_318, m_228, by decide +kernel⟩
theorem w_RX2_34 : CV RX2 34 RX2 yX2_has cX2_has 2 1 (some .boolean) := ⟨m_272, m_47, m_269, m_270, m_271, by decide +kernel⟩
theorem w_RX2_44 : CV RX2 44 RX2 yX2_hasBeaten cX2_hasBeaten 3 2 (some .boolean) := ⟨m_416, m_47, m_488, m_414, m_415, by decide +kernel⟩
theorem w_RX2_52 : CV RX2 52 RX2 yX2_matches cX2_matches 1 0 (some .int) := ⟨m_463, m_47, m_533, m_461, m_462, by decide +kernel⟩
theorem w_RX2_59 : CS RX2 59 yX2_drawBelow cX2_drawBelow 2 2 (some .int) := ⟨m_593, m_47, m_591, m_592, by decide +kernel⟩
theorem w_RX2_63 : CV RX2 63 RX2 yX2_win cX2_win 3 2 none := ⟨m_276, m_47, m_518, m_274, m_275, by decide +kernel⟩
theorem w_RX2_68 : CS RX2 68 yJ6_bitCount_0f7a4 cJ6_bitCount_0f7a4 1 1 (some .int) := ⟨m_347, m_57, m_345, m_346, by decide +kernel⟩
theorem w_RX2_77 : CV RX2 77 RX2 yX2_eachHasMaster cX2_eachHasMaster 3 0 (some .boolean) := ⟨m_432, m_47, m_429, m_431, m_6, by decide +kernel⟩
theorem w_RX2_81 : CV RX2 81 RX2 yX2_firstOrphanPair cX2_firstOrphanPair 4 0 (some .int) := ⟨m_441, m_47, m_438, m_439, m_440, by decide +kernel⟩
theorem w_RX2_84 : CV RX2 84 RX2 yX2_counting cX2_counting 3 0 (some .int) := ⟨m_344, m_47, m_433, m_342, m_343, by decide +kernel⟩
theorem w_RX2_87 : CV RX2 87 RX2 yX2_mastersAmong cX2_mastersAmong 4 3 (some .int) := ⟨m_437, m_47, m_434, m_435, m_436, by decide +kernel⟩
theorem w_RX2_91 : CV RX2 91 RX2 yX2_hasBoth cX2_hasBoth 3 2 (some .boolean) := ⟨m_268, m_47, m_603, m_266, m_267, by decide +kernel⟩
theorem w_RX3_1 : CI RX3 1 yX5_init cX5_init 2 1 := ⟨m_217, m_51, m_242, m_216, rfl, by decide +kernel⟩
theorem w_RX3_13 : CX RX3 13 yX5_cost cX5_cost 1 0 (some .int) := ⟨m_389, m_51, m_387, m_388, m_1183, m_244, by decide +kernel⟩
theorem w_RX4_1 : CI RX4 1 yX6_init cX6_init 2 1 := ⟨m_77, m_46, m_210, m_76, rfl, by decide +kernel⟩
theorem w_RX4_17 : CX RX4 17 yX6_cost cX6_cost 1 0 (some .int) := ⟨m_404, m_46, m_394, m_373, m_375, m_212, by decide +kernel⟩
theorem w_RX4_7 : CX RX4 7 yX6_skill cX6_skill 1 0 (some .int) := ⟨m_340, m_46, m_333, m_316, m_318, m_212, by decide +kernel⟩
theorem w_RX5_1 : CI RX5 1 yX6_init cX6_init 2 1 := ⟨m_77, m_46, m_218, m_76, rfl, by decide +kernel⟩
theorem w_RX5_7 : CX RX5 7 yX6_cost cX6_cost 1 0 (some .int) := ⟨m_404, m_46, m_390, m_373, m_375, m_220, by decide +kernel⟩
theorem w_RX7_1 : CI RX7 1 yX1_init cX1_init 2 1 := ⟨m_225, m_52, m_250, m_224, rfl, by decide +kernel⟩
theorem w_RX7_7 : CX RX7 7 yX1_cost cX1_cost 1 0 (some .int) := ⟨m_382, m_52, m_399, m_381, m_1184, m_252, by decide +kernel⟩
theorem w_RX8_17 : CV RX8 17 RX8 yX8_hasPlaces cX8_hasPlaces 3 2 (some .boolean) := ⟨m_184, m_58, m_181, m_182, m_183, by decide +kernel⟩
theorem w_RX9_1 : CI RX9 1 yX4_init cX4_init 2 1 := ⟨m_209, m_50, m_234, m_208, rfl, by decide +kernel⟩
theorem w_RX9_11 : CX RX9 11 yX4_countsWith cX4_countsWith 2 1 (some .boolean) := ⟨m_362, m_50, m_370, m_361, m_1182, m_236, by decide +kernel⟩
theorem w_RX9_15 : CX RX9 15 yX4_cost cX4_cost 1 0 (some .int) := ⟨m_393, m_50, m_403, m_392, m_1185, m_236, by decide +kernel⟩
theorem w_RX9_7 : CX RX9 7 yX4_skill cX4_skill 1 0 (some .int) := ⟨m_332, m_50, m_339, m_331, m_1181, m_236, by decide +kernel⟩
theorem wv_RX10_88_0 : CU RX10 88 RX0 "OneBeatsBoth$Player" ⟨"OneBeatsBoth$Player", "kind", "()I"⟩ yX0_kind cX0_kind 1 0 (some .int) := ⟨m_295, m_56, m_289, m_294, m_293, m_292, m_290, ⟨_, _, _, m_314⟩, by decide +kernel⟩
theorem wv_RX10_88_1 : CU RX10 88 RX1 "OneBeatsBoth$Player" ⟨"OneBeatsBoth$Player", "kind", "()I"⟩ yX1_kind cX1_kind 1 0 (some .int) := ⟨m_298, m_52, m_289, m_297, m_296, m_292, m_290, ⟨_, _, _, m_314⟩, by decide +kernel⟩
theorem wv_RX10_88_3 : CU RX10 88 RX3 "OneBeatsBoth$Player" ⟨"OneBeatsBoth$Player", "kind", "()I"⟩ yX3_kind cX3_kind 1 0 (some .int) := ⟨m_301, m_54, m_289, m_300, m_299, m_292, m_290, ⟨_, _, _, m_314⟩, by decide +kernel⟩
theorem wv_RX10_88_4 : CU RX10 88 RX4 "OneBeatsBoth$Player" ⟨"OneBeatsBoth$Player", "kind", "()I"⟩ yX4_kind cX4_kind 1 0 (some .int) := ⟨m_304, m_50, m_289, m_303, m_302, m_292, m_290, ⟨_, _, _, m_314⟩, by decide +kernel⟩
theorem wv_RX10_88_5 : CU RX10 88 RX5 "OneBeatsBoth$Player" ⟨"OneBeatsBoth$Player", "kind", "()I"⟩ yX5_kind cX5_kind 1 0 (some .int) := ⟨m_307, m_51, m_289, m_306, m_305, m_292, m_290, ⟨_, _, _, m_314⟩, by decide +kernel⟩
theorem wv_RX10_88_6 : CV RX10 88 RX6 yX6_kind cX6_kind 1 0 (some .int) := ⟨m_314, m_46, m_289, m_290, m_291, by decide +kernel⟩
theorem wv_RX10_88_7 : CU RX10 88 RX7 "OneBeatsBoth$Player" ⟨"OneBeatsBoth$Player", "kind", "()I"⟩ yX7_kind cX7_kind 1 0 (some .int) := ⟨m_310, m_55, m_289, m_309, m_308, m_292, m_290, ⟨_, _, _, m_314⟩, by decide +kernel⟩
theorem wv_RX10_88_9 : CU RX10 88 RX9 "OneBeatsBoth$Player" ⟨"OneBeatsBoth$Player", "kind", "()I"⟩ yX9_kind cX9_kind 1 0 (some .int) := ⟨m_313, m_53, m_289, m_312, m_311, m_292, m_290, ⟨_, _, _, m_314⟩, by decide +kernel⟩
theorem wv_RX10_95_0 : CU RX10 95 RX0 "OneBeatsBoth$Player" ⟨"OneBeatsBoth$Player", "skill", "()I"⟩ yX0_skill cX0_skill 1 0 (some .int) := ⟨m_321, m_56, m_315, m_320, m_319, m_318, m_316, ⟨_, _, _, m_340⟩, by decide +kernel⟩
theorem wv_RX10_95_1 : CU RX10 95 RX1 "OneBeatsBoth$Player" ⟨"OneBeatsBoth$Player", "skill", "()I"⟩ yX1_skill cX1_skill 1 0 (some .int) := ⟨m_325, m_52, m_315, m_324, m_323, m_318, m_316, ⟨_, _, _, m_340⟩, by decide +kernel⟩
theorem wv_RX10_95_3 : CU RX10 95 RX3 "OneBeatsBoth$Player" ⟨"OneBeatsBoth$Player", "skill", "()I"⟩ yX3_skill cX3_skill 1 0 (some .int) := ⟨m_329, m_54, m_315, m_328, m_327, m_318, m_316, ⟨_, _, _, m_340⟩, by decide +kernel⟩
theorem wv_RX10_95_4 : CU RX10 95 RX4 "OneBeatsBoth$Player" ⟨"OneBeatsBoth$Player", "skill", "()I"⟩ yX4_skill cX4_skill 1 0 (some .int) := ⟨m_332, m_50, m_315, m_331, m_330, m_318, m_316, ⟨_, _, _, m_340⟩, by decide +kernel⟩
theorem wv_RX10_95_5 : CU RX10 95 RX5 "OneBeatsBoth$Player" ⟨"OneBeatsBoth$Player", "skill", "()I"⟩ yX6_skill cX6_skill 1 0 (some .int) := ⟨m_340, m_46, m_315, m_316, m_334, m_318, m_316, ⟨_, _, _, m_340⟩, by decide +kernel⟩
theorem wv_RX10_95_6 : CV RX10 95 RX6 yX6_skill cX6_skill 1 0 (some .int) := ⟨m_340, m_46, m_315, m_316, m_317, by decide +kernel⟩
theorem wv_RX10_95_7 : CU RX10 95 RX7 "OneBeatsBoth$Player" ⟨"OneBeatsBoth$Player", "skill", "()I"⟩ yX1_skill cX1_skill 1 0 (some .int) := ⟨m_325, m_52, m_315, m_324, m_335, m_318, m_316, ⟨_, _, _, m_340⟩, by decide +kernel⟩
theorem wv_RX10_95_9 : CU RX10 95 RX9 "OneBeatsBoth$Player" ⟨"OneBeatsBoth$Player", "skill", "()I"⟩ yX9_skill cX9_skill 1 0 (some .int) := ⟨m_338, m_53, m_315, m_337, m_336, m_318, m_316, ⟨_, _, _, m_340⟩, by decide +kernel⟩
theorem wv_RX10_104_0 : CU RX10 104 RX0 "OneBeatsBoth$Player" ⟨"OneBeatsBoth$Player", "cost", "()I"⟩ yX0_cost cX0_cost 1 0 (some .int) := ⟨m_378, m_56, m_372, m_377, m_376, m_375, m_373, ⟨_, _, _, m_404⟩, by decide +kernel⟩
theorem wv_RX10_104_1 : CU RX10 104 RX1 "OneBeatsBoth$Player" ⟨"OneBeatsBoth$Player", "cost", "()I"⟩ yX1_cost cX1_cost 1 0 (some .int) := ⟨m_382, m_52, m_372, m_381, m_380, m_375, m_373, ⟨_, _, _, m_404⟩, by decide +kernel⟩
theorem wv_RX10_104_3 : CU RX10 104 RX3 "OneBeatsBoth$Player" ⟨"OneBeatsBoth$Player", "cost", "()I"⟩ yX3_cost cX3_cost 1 0 (some .int) := ⟨m_386, m_54, m_372, m_385, m_384, m_375, m_373, ⟨_, _, _, m_404⟩, by decide +kernel⟩
theorem wv_RX10_104_4 : CU RX10 104 RX4 "OneBeatsBoth$Player" ⟨"OneBeatsBoth$Player", "cost", "()I"⟩ yX4_cost cX4_cost 1 0 (some .int) := ⟨m_393, m_50, m_372, m_392, m_391, m_375, m_373, ⟨_, _, _, m_404⟩, by decide +kernel⟩
theorem wv_RX10_104_5 : CU RX10 104 RX5 "OneBeatsBoth$Player" ⟨"OneBeatsBoth$Player", "cost", "()I"⟩ yX5_cost cX5_cost 1 0 (some .int) := ⟨m_389, m_51, m_372, m_388, m_395, m_375, m_373, ⟨_, _, _, m_404⟩, by decide +kernel⟩
theorem wv_RX10_104_6 : CV RX10 104 RX6 yX6_cost cX6_cost 1 0 (some .int) := ⟨m_404, m_46, m_372, m_373, m_374, by decide +kernel⟩
theorem wv_RX10_104_7 : CU RX10 104 RX7 "OneBeatsBoth$Player" ⟨"OneBeatsBoth$Player", "cost", "()I"⟩ yX7_cost cX7_cost 1 0 (some .int) := ⟨m_398, m_55, m_372, m_397, m_396, m_375, m_373, ⟨_, _, _, m_404⟩, by decide +kernel⟩
theorem wv_RX10_104_9 : CU RX10 104 RX9 "OneBeatsBoth$Player" ⟨"OneBeatsBoth$Player", "cost", "()I"⟩ yX9_cost cX9_cost 1 0 (some .int) := ⟨m_402, m_53, m_372, m_401, m_400, m_375, m_373, ⟨_, _, _, m_404⟩, by decide +kernel⟩
theorem wv_RX2_48_0 : CU RX2 48 RX0 "OneBeatsBoth$Player" ⟨"OneBeatsBoth$Player", "cost", "()I"⟩ yX0_cost cX0_cost 1 0 (some .int) := ⟨m_378, m_56, m_505, m_377, m_376, m_375, m_373, ⟨_, _, _, m_404⟩, by decide +kernel⟩
theorem wv_RX2_48_1 : CU RX2 48 RX1 "OneBeatsBoth$Player" ⟨"OneBeatsBoth$Player", "cost", "()I"⟩ yX1_cost cX1_cost 1 0 (some .int) := ⟨m_382, m_52, m_505, m_381, m_380, m_375, m_373, ⟨_, _, _, m_404⟩, by decide +kernel⟩
theorem wv_RX2_48_3 : CU RX2 48 RX3 "OneBeatsBoth$Player" ⟨"OneBeatsBoth$Player", "cost", "()I"⟩ yX3_cost cX3_cost 1 0 (some .int) := ⟨m_386, m_54, m_505, m_385, m_384, m_375, m_373, ⟨_, _, _, m_404⟩, by decide +kernel⟩
theorem wv_RX2_48_4 : CU RX2 48 RX4 "OneBeatsBoth$Player" ⟨"OneBeatsBoth$Player", "cost", "()I"⟩ yX4_cost cX4_cost 1 0 (some .int) := ⟨m_393, m_50, m_505, m_392, m_391, m_375, m_373, ⟨_, _, _, m_404⟩, by decide +kernel⟩
theorem wv_RX2_48_5 : CU RX2 48 RX5 "OneBeatsBoth$Player" ⟨"OneBeatsBoth$Player", "cost", "()I"⟩ yX5_cost cX5_cost 1 0 (some .int) := ⟨m_389, m_51, m_505, m_388, m_395, m_375, m_373, ⟨_, _, _, m_404⟩, by decide +kernel⟩
theorem wv_RX2_48_6 : CV RX2 48 RX6 yX6_cost cX6_cost 1 0 (some .int) := ⟨m_404, m_46, m_505, m_373, m_374, by decide +kernel⟩
theorem wv_RX2_48_7 : CU RX2 48 RX7 "OneBeatsBoth$Player" ⟨"OneBeatsBoth$Player", "cost", "()I"⟩ yX7_cost cX7_cost 1 0 (some .int) := ⟨m_398, m_55, m_505, m_397, m_396, m_375, m_373, ⟨_, _, _, m_404⟩, by decide +kernel⟩
theorem wv_RX2_48_9 : CU RX2 48 RX9 "OneBeatsBoth$Player" ⟨"OneBeatsBoth$Player", "cost", "()I"⟩ yX9_cost cX9_cost 1 0 (some .int) := ⟨m_402, m_53, m_505, m_401, m_400, m_375, m_373, ⟨_, _, _, m_404⟩, by decide +kernel⟩
theorem wv_RX2_56_0 : CU RX2 56 RX0 "OneBeatsBoth$Player" ⟨"OneBeatsBoth$Player", "skill", "()I"⟩ yX0_skill cX0_skill 1 0 (some .int) := ⟨m_321, m_56, m_538, m_320, m_319, m_318, m_316, ⟨_, _, _, m_340⟩, by decide +kernel⟩
theorem wv_RX2_56_1 : CU RX2 56 RX1 "OneBeatsBoth$Player" ⟨"OneBeatsBoth$Player", "skill", "()I"⟩ yX1_skill cX1_skill 1 0 (some .int) := ⟨m_325, m_52, m_538, m_324, m_323, m_318, m_316, ⟨_, _, _, m_340⟩, by decide +kernel⟩
theorem wv_RX2_56_3 : CU RX2 56 RX3 "OneBeatsBoth$Player" ⟨"OneBeatsBoth$Player", "skill", "()I"⟩ yX3_skill cX3_skill 1 0 (some .int) := ⟨m_329, m_54, m_538, m_328, m_327, m_318, m_316, ⟨_, _, _, m_340⟩, by decide +kernel⟩
theorem wv_RX2_56_4 : CU RX2 56 RX4 "OneBeatsBoth$Player" ⟨"OneBeatsBoth$Player", "skill", "()I"⟩ yX4_skill cX4_skill 1 0 (some .int) := ⟨m_332, m_50, m_538, m_331, m_330, m_318, m_316, ⟨_, _, _, m_340⟩, by decide +kernel⟩
theorem wv_RX2_56_5 : CU RX2 56 RX5 "OneBeatsBoth$Player" ⟨"OneBeatsBoth$Player", "skill", "()I"⟩ yX6_skill cX6_skill 1 0 (some .int) := ⟨m_340, m_46, m_538, m_316, m_334, m_318, m_316, ⟨_, _, _, m_340⟩, by decide +kernel⟩
theorem wv_RX2_56_6 : CV RX2 56 RX6 yX6_skill cX6_skill 1 0 (some .int) := ⟨m_340, m_46, m_538, m_316, m_317, by decide +kernel⟩
theorem wv_RX2_56_7 : CU RX2 56 RX7 "OneBeatsBoth$Player" ⟨"OneBeatsBoth$Player", "skill", "()I"⟩ yX1_skill cX1_skill 1 0 (some .int) := ⟨m_325, m_52, m_538, m_324, m_335, m_318, m_316, ⟨_, _, _, m_340⟩, by decide +kernel⟩
theorem wv_RX2_56_9 : CU RX2 56 RX9 "OneBeatsBoth$Player" ⟨"OneBeatsBoth$Player", "skill", "()I"⟩ yX9_skill cX9_skill 1 0 (some .int) := ⟨m_338, m_53, m_538, m_337, m_336, m_318, m_316, ⟨_, _, _, m_340⟩, by decide +kernel⟩
theorem wv_RX2_74_0 : CU RX2 74 RX0 "OneBeatsBoth$Player" ⟨"OneBeatsBoth$Player", "countsWith", "(I)Z"⟩ yX6_countsWith cX6_countsWith 2 1 (some .boolean) := ⟨m_371, m_46, m_351, m_352, m_355, m_354, m_352, ⟨_, _, _, m_371⟩, by decide +kernel⟩
theorem wv_RX2_74_1 : CU RX2 74 RX1 "OneBeatsBoth$Player" ⟨"OneBeatsBoth$Player", "countsWith", "(I)Z"⟩ yX6_countsWith cX6_countsWith 2 1 (some .boolean) := ⟨m_371, m_46, m_351, m_352, m_356, m_354, m_352, ⟨_, _, _, m_371⟩, by decide +kernel⟩
theorem wv_RX2_74_3 : CU RX2 74 RX3 "OneBeatsBoth$Player" ⟨"OneBeatsBoth$Player", "countsWith", "(I)Z"⟩ yX3_countsWith cX3_countsWith 2 1 (some .boolean) := ⟨m_359, m_54, m_351, m_358, m_357, m_354, m_352, ⟨_, _, _, m_371⟩, by decide +kernel⟩
theorem wv_RX2_74_4 : CU RX2 74 RX4 "OneBeatsBoth$Player" ⟨"OneBeatsBoth$Player", "countsWith", "(I)Z"⟩ yX4_countsWith cX4_countsWith 2 1 (some .boolean) := ⟨m_362, m_50, m_351, m_361, m_360, m_354, m_352, ⟨_, _, _, m_371⟩, by decide +kernel⟩
theorem wv_RX2_74_5 : CU RX2 74 RX5 "OneBeatsBoth$Player" ⟨"OneBeatsBoth$Player", "countsWith", "(I)Z"⟩ yX6_countsWith cX6_countsWith 2 1 (some .boolean) := ⟨m_371, m_46, m_351, m_352, m_363, m_354, m_352, ⟨_, _, _, m_371⟩, by decide +kernel⟩
theorem wv_RX2_74_6 : CV RX2 74 RX6 yX6_countsWith cX6_countsWith 2 1 (some .boolean) := ⟨m_371, m_46, m_351, m_352, m_353, by decide +kernel⟩
theorem wv_RX2_74_7 : CU RX2 74 RX7 "OneBeatsBoth$Player" ⟨"OneBeatsBoth$Player", "countsWith", "(I)Z"⟩ yX7_countsWith cX7_countsWith 2 1 (some .boolean) := ⟨m_366, m_55, m_351, m_365, m_364, m_354, m_352, ⟨_, _, _, m_371⟩, by decide +kernel⟩
theorem wv_RX2_74_9 : CU RX2 74 RX9 "OneBeatsBoth$Player" ⟨"OneBeatsBoth$Player", "countsWith", "(I)Z"⟩ yX9_countsWith cX9_countsWith 2 1 (some .boolean) := ⟨m_369, m_53, m_351, m_368, m_367, m_354, m_352, ⟨_, _, _, m_371⟩, by decide +kernel⟩
