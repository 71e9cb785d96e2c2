theorem m_2 : Cond.initialized RX8 ∈ k_all := k_mem (k_t1 (List.mem_of_getElem? (i := 1) rfl)) rfl
theorem m_5 : Cond.initialized RX9 ∈ k_all := k_mem (k_t1 (List.mem_of_getElem? (i := 10) rfl)) rfl
theorem m_14 : Cond.initialized RX5 ∈ k_all := k_mem (k_t1 (List.mem_of_getElem? (i := 2) rfl)) rfl
theorem m_15 : Cond.fieldLink RX8 10 "FrameBoard" "page" "LFrameBoard$Page;" ∈ k_all := k_mem (k_t1 (List.mem_of_getElem? (i := 149) rfl)) rfl
theorem m_18 : Cond.initialized RX3 ∈ k_all := k_mem (k_t1 (List.mem_of_getElem? (i := 4) rfl)) rfl
theorem m_19 : Cond.fieldLink RX8 19 "FrameBoard" "frameText" "LFrameBoard$FrameText;" ∈ k_all := k_mem (k_t1 (List.mem_of_getElem? (i := 150) rfl)) rfl
theorem m_22 : Cond.initialized RX1 ∈ k_all := k_mem (k_t1 (List.mem_of_getElem? (i := 6) rfl)) rfl
theorem m_23 : Cond.fieldLink RX8 26 "FrameBoard" "formulaText" "LFrameBoard$FormulaText;" ∈ k_all := k_mem (k_t1 (List.mem_of_getElem? (i := 151) rfl)) rfl
theorem m_26 : Cond.initialized RX2 ∈ k_all := k_mem (k_t1 (List.mem_of_getElem? (i := 5) rfl)) rfl
theorem m_27 : Cond.fieldLink RX8 33 "FrameBoard" "frame" "LFrameBoard$Frame;" ∈ k_all := k_mem (k_t1 (List.mem_of_getElem? (i := 152) rfl)) rfl
theorem m_30 : Cond.initialized RX0 ∈ k_all := k_mem (k_t1 (List.mem_of_getElem? (i := 7) rfl)) rfl
theorem m_31 : Cond.fieldLink RX8 40 "FrameBoard" "formula" "LFrameBoard$Formula;" ∈ k_all := k_mem (k_t1 (List.mem_of_getElem? (i := 153) rfl)) rfl
theorem m_34 : Cond.initialized RX4 ∈ k_all := k_mem (k_t1 (List.mem_of_getElem? (i := 8) rfl)) rfl
theorem m_35 : Cond.fieldLink RX8 47 "FrameBoard" "observations" "LFrameBoard$Observations;" ∈ k_all := k_mem (k_t1 (List.mem_of_getElem? (i := 154) rfl)) rfl
theorem m_36 : Cond.fieldLink RX8 51 "FrameBoard" "savedFrame" "LFrameBoard$Frame;" ∈ k_all := k_mem (k_t1 (List.mem_of_getElem? (i := 155) rfl)) rfl
theorem m_37 : Cond.fieldLink RX8 54 "FrameBoard" "savedObservations" "LFrameBoard$Observations;" ∈ k_all := k_mem (k_t1 (List.mem_of_getElem? (i := 156) rfl)) rfl
theorem m_38 : Cond.fieldLink RX8 57 "FrameBoard" "candidate" "LFrameBoard$Frame;" ∈ k_all := k_mem (k_t1 (List.mem_of_getElem? (i := 157) rfl)) rfl
theorem m_41 : Cond.initialized RX7 ∈ k_all := k_mem (k_t1 (List.mem_of_getElem? (i := 9) rfl)) rfl
theorem m_42 : Cond.fieldLink RX8 63 "FrameBoard" "truth" "LFrameBoard$Truth;" ∈ k_all := k_mem (k_t1 (List.mem_of_getElem? (i := 158) rfl)) rfl
theorem m_47 : Cond.fieldLink RX5 9 "FrameBoard$Page" "codes" "[I" ∈ k_all := k_mem (k_t1 (List.mem_of_getElem? (i := 28) rfl)) rfl
theorem m_51 : Cond.fieldLink RX3 12 "FrameBoard$FrameText" "draft" "LFrameBoard$Frame;" ∈ k_all := k_mem (k_t1 (List.mem_of_getElem? (i := 72) rfl)) rfl
theorem m_53 : Cond.initialized RX6 ∈ k_all := k_mem (k_t1 (List.mem_of_getElem? (i := 3) rfl)) rfl
theorem m_64 : Cond.fieldLink RX0 9 "FrameBoard$Formula" "signs" "[I" ∈ k_all := k_mem (k_t1 (List.mem_of_getElem? (i := 107) rfl)) rfl
theorem m_65 : Cond.fieldLink RX0 15 "FrameBoard$Formula" "ends" "[I" ∈ k_all := k_mem (k_t1 (List.mem_of_getElem? (i := 108) rfl)) rfl
theorem m_69 : Cond.fieldLink RX4 11 "FrameBoard$Observations" "possible" "I" ∈ k_all := k_mem (k_t1 (List.mem_of_getElem? (i := 125) rfl)) rfl
theorem m_74 : Cond.fieldLink RX7 9 "FrameBoard$Truth" "p" "[J" ∈ k_all := k_mem (k_t1 (List.mem_of_getElem? (i := 138) rfl)) rfl
theorem m_75 : Cond.fieldLink RX7 15 "FrameBoard$Truth" "q" "[J" ∈ k_all := k_mem (k_t1 (List.mem_of_getElem? (i := 139) rfl)) rfl
theorem m_76 : Cond.fieldLink RX7 18 "FrameBoard$Truth" "held" "[J" ∈ k_all := k_mem (k_t1 (List.mem_of_getElem? (i := 140) rfl)) rfl
theorem m_82 : Cond.fieldLink RX9 7 "FrameBoardModel" "arrows" "[Z" ∈ k_all := k_mem (k_t4 (List.mem_of_getElem? (i := 29) rfl)) rfl
theorem m_83 : Cond.fieldLink RX9 13 "FrameBoardModel" "marks" "[I" ∈ k_all := k_mem (k_t4 (List.mem_of_getElem? (i := 30) rfl)) rfl
theorem m_85 : Cond.fieldLink RX9 17 "FrameBoardModel" "signAt" "[B" ∈ k_all := k_mem (k_t4 (List.mem_of_getElem? (i := 33) rfl)) rfl
theorem m_86 : Cond.fieldLink RX9 21 "FrameBoardModel" "behind" "[I" ∈ k_all := k_mem (k_t4 (List.mem_of_getElem? (i := 34) rfl)) rfl
theorem m_87 : Cond.fieldLink RX9 24 "FrameBoardModel" "seenWhat" "[I" ∈ k_all := k_mem (k_t4 (List.mem_of_getElem? (i := 39) rfl)) rfl
theorem m_88 : Cond.fieldLink RX9 27 "FrameBoardModel" "seenCan" "[Z" ∈ k_all := k_mem (k_t4 (List.mem_of_getElem? (i := 40) rfl)) rfl
theorem m_89 : Cond.fieldLink RX9 30 "FrameBoardModel" "page" "[B" ∈ k_all := k_mem (k_t4 (List.mem_of_getElem? (i := 42) rfl)) rfl
theorem m_90 : Cond.fieldLink RX9 33 "FrameBoardModel" "newArrows" "[Z" ∈ k_all := k_mem (k_t4 (List.mem_of_getElem? (i := 50) rfl)) rfl
theorem m_91 : Cond.fieldLink RX9 36 "FrameBoardModel" "to" "[I" ∈ k_all := k_mem (k_t4 (List.mem_of_getElem? (i := 53) rfl)) rfl
theorem m_92 : Cond.fieldLink RX9 39 "FrameBoardModel" "holds" "[I" ∈ k_all := k_mem (k_t4 (List.mem_of_getElem? (i := 56) rfl)) rfl
theorem m_93 : Cond.fieldLink RX9 42 "FrameBoardModel" "apart" "[Z" ∈ k_all := k_mem (k_t4 (List.mem_of_getElem? (i := 57) rfl)) rfl
theorem m_94 : Cond.fieldLink RX9 45 "FrameBoardModel" "keptArrows" "[Z" ∈ k_all := k_mem (k_t4 (List.mem_of_getElem? (i := 63) rfl)) rfl
theorem m_95 : Cond.fieldLink RX9 48 "FrameBoardModel" "keptMarks" "[I" ∈ k_all := k_mem (k_t4 (List.mem_of_getElem? (i := 64) rfl)) rfl
theorem m_96 : Cond.fieldLink RX9 51 "FrameBoardModel" "keptWhat" "[I" ∈ k_all := k_mem (k_t4 (List.mem_of_getElem? (i := 65) rfl)) rfl
theorem m_97 : Cond.fieldLink RX9 54 "FrameBoardModel" "keptCan" "[Z" ∈ k_all := k_mem (k_t4 (List.mem_of_getElem? (i := 66) rfl)) rfl
theorem m_102 : Cond.methodLink RX8 67 yX5_length ∈ k_all := k_mem (k_t1 (List.mem_of_getElem? (i := 199) rfl)) rfl
theorem m_103 : Cond.instanceMethod yX5_length ∈ k_all := k_mem (k_t1 (List.mem_of_getElem? (i := 200) rfl)) rfl
theorem m_104 : Cond.selects RX5 yX5_length yX5_length ∈ k_all := k_mem (k_t1 (List.mem_of_getElem? (i := 201) rfl)) rfl
theorem m_105 : Cond.code yX5_length cX5_length 1 (some .int) ∈ k_all := k_mem (k_t1 (List.mem_of_getElem? (i := 202) rfl)) rfl
theorem m_106 : Cond.fieldLink RX5 15 "FrameBoard$Page" "length" "I" ∈ k_all := k_mem (k_t1 (List.mem_of_getElem? (i := 29) rfl)) rfl
theorem m_107 : Cond.methodLink RX8 71 yX5_write ∈ k_all := k_mem (k_t1 (List.mem_of_getElem? (i := 203) rfl)) rfl
theorem m_108 : Cond.instanceMethod yX5_write ∈ k_all := k_mem (k_t1 (List.mem_of_getElem? (i := 204) rfl)) rfl
theorem m_109 : Cond.selects RX5 yX5_write yX5_write ∈ k_all := k_mem (k_t1 (List.mem_of_getElem? (i := 205) rfl)) rfl
theorem m_110 : Cond.code yX5_write cX5_write 2 none ∈ k_all := k_mem (k_t1 (List.mem_of_getElem? (i := 206) rfl)) rfl
theorem m_111 : Cond.static yX8_isBelow ∈ k_all := k_mem (k_t1 (List.mem_of_getElem? (i := 208) rfl)) rfl
theorem m_112 : Cond.code yX8_isBelow cX8_isBelow 2 (some .boolean) ∈ k_all := k_mem (k_t1 (List.mem_of_getElem? (i := 209) rfl)) rfl
theorem m_117 : Cond.fieldLink RX9 61 "FrameBoardModel" "pageLength" "I" ∈ k_all := k_mem (k_t4 (List.mem_of_getElem? (i := 41) rfl)) rfl
theorem m_118 : Cond.methodLink RX9 57 yX9_within ∈ k_all := k_mem (k_t4 (List.mem_of_getElem? (i := 157) rfl)) rfl
theorem m_119 : Cond.static yX9_within ∈ k_all := k_mem (k_t4 (List.mem_of_getElem? (i := 158) rfl)) rfl
theorem m_120 : Cond.code yX9_within cX9_within 3 (some .boolean) ∈ k_all := k_mem (k_t4 (List.mem_of_getElem? (i := 159) rfl)) rfl
theorem m_125 : Cond.methodLink RX8 75 yX5_clear ∈ k_all := k_mem (k_t1 (List.mem_of_getElem? (i := 214) rfl)) rfl
theorem m_126 : Cond.instanceMethod yX5_clear ∈ k_all := k_mem (k_t1 (List.mem_of_getElem? (i := 215) rfl)) rfl
theorem m_127 : Cond.selects RX5 yX5_clear yX5_clear ∈ k_all := k_mem (k_t1 (List.mem_of_getElem? (i := 216) rfl)) rfl
theorem m_128 : Cond.code yX5_clear cX5_clear 1 none ∈ k_all := k_mem (k_t1 (List.mem_of_getElem? (i := 217) rfl)) rfl
theorem m_137 : Cond.methodLink RX8 78 yX8_isBelow ∈ k_all := k_mem (k_t1 (List.mem_of_getElem? (i := 222) rfl)) rfl
theorem m_138 : Cond.methodLink RX8 82 ⟨"FrameBoard$FrameText", "firstFault", "(LFrameBoard$Page;)I"⟩ ∈ k_all := k_mem (k_t1 (List.mem_of_getElem? (i := 223) rfl)) rfl
theorem m_139 : Cond.sameMethod "FrameBoard$FrameText" "FrameBoard$Text" "firstFault" "(LFrameBoard$Page;)I" ∈ k_all := k_mem (k_t1 (List.mem_of_getElem? (i := 224) rfl)) rfl
theorem m_140 : Cond.selects RX3 ⟨"FrameBoard$FrameText", "firstFault", "(LFrameBoard$Page;)I"⟩ yX6_firstFault ∈ k_all := k_mem (k_t1 (List.mem_of_getElem? (i := 226) rfl)) rfl
theorem m_141 : Cond.instanceMethod yX6_firstFault ∈ k_all := k_mem (k_t1 (List.mem_of_getElem? (i := 227) rfl)) rfl
theorem m_142 : Cond.code yX6_firstFault cX6_firstFault 3 (some .int) ∈ k_all := k_mem (k_t1 (List.mem_of_getElem? (i := 228) rfl)) rfl
theorem m_143 : Cond.methodLink RX6 7 ⟨"FrameBoard$Text", "begin", "()V"⟩ ∈ k_all := k_mem (k_t1 (List.mem_of_getElem? (i := 229) rfl)) rfl
theorem m_144 : Cond.sameMethod "FrameBoard$Text" "FrameBoard$Text" "begin" "()V" ∈ k_all := k_mem (k_t1 (List.mem_of_getElem? (i := 231) rfl)) rfl
theorem m_145 : Cond.selects RX1 ⟨"FrameBoard$Text", "begin", "()V"⟩ yX1_begin ∈ k_all := k_mem (k_t1 (List.mem_of_getElem? (i := 232) rfl)) rfl
theorem m_146 : Cond.instanceMethod yX1_begin ∈ k_all := k_mem (k_t1 (List.mem_of_getElem? (i := 233) rfl)) rfl
theorem m_147 : Cond.code yX1_begin cX1_begin 1 none ∈ k_all := k_mem (k_t1 (List.mem_of_getElem? (i := 234) rfl)) rfl
theorem m_148 : Cond.fieldLink RX1 9 "FrameBoard$FormulaText" "read" "I" ∈ k_all := k_mem (k_t1 (List.mem_of_getElem? (i := 92) rfl)) rfl
theorem m_149 : Cond.fieldLink RX1 15 "FrameBoard$FormulaText" "due" "I" ∈ k_all := k_mem (k_t1 (List.mem_of_getElem? (i := 93) rfl)) rfl
theorem m_150 : Cond.selects RX3 ⟨"FrameBoard$Text", "begin", "()V"⟩ yX3_begin ∈ k_all := k_mem (k_t1 (List.mem_of_getElem? (i := 235) rfl)) rfl
theorem m_151 : Cond.instanceMethod yX3_begin ∈ k_all := k_mem (k_t1 (List.mem_of_getElem? (i := 236) rfl)) rfl
theorem m_152 : Cond.code yX3_begin cX3_begin 1 none ∈ k_all := k_mem (k_t1 (List.mem_of_getElem? (i := 237) rfl)) rfl
theorem m_153 : Cond.fieldLink RX3 22 "FrameBoard$FrameText" "place" "I" ∈ k_all := k_mem (k_t1 (List.mem_of_getElem? (i := 74) rfl)) rfl
theorem m_154 : Cond.methodLink RX3 18 yX2_build ∈ k_all := k_mem (k_t1 (List.mem_of_getElem? (i := 238) rfl)) rfl
theorem m_155 : Cond.instanceMethod yX2_build ∈ k_all := k_mem (k_t1 (List.mem_of_getElem? (i := 239) rfl)) rfl
theorem m_156 : Cond.selects RX2 yX2_build yX2_build ∈ k_all := k_mem (k_t2 (List.mem_of_getElem? (i := 0) rfl)) rfl
theorem m_157 : Cond.code yX2_build cX2_build 4 none ∈ k_all := k_mem (k_t2 (List.mem_of_getElem? (i := 1) rfl)) rfl
theorem m_158 : Cond.fieldLink RX2 9 "FrameBoard$Frame" "kind" "I" ∈ k_all := k_mem (k_t1 (List.mem_of_getElem? (i := 51) rfl)) rfl
theorem m_159 : Cond.fieldLink RX2 15 "FrameBoard$Frame" "worlds" "I" ∈ k_all := k_mem (k_t1 (List.mem_of_getElem? (i := 54) rfl)) rfl
theorem m_160 : Cond.fieldLink RX2 18 "FrameBoard$Frame" "arrows" "I" ∈ k_all := k_mem (k_t1 (List.mem_of_getElem? (i := 58) rfl)) rfl
theorem m_161 : Cond.fieldLink RX2 21 "FrameBoard$Frame" "p" "I" ∈ k_all := k_mem (k_t1 (List.mem_of_getElem? (i := 59) rfl)) rfl
theorem m_162 : Cond.fieldLink RX2 24 "FrameBoard$Frame" "q" "I" ∈ k_all := k_mem (k_t1 (List.mem_of_getElem? (i := 60) rfl)) rfl
theorem m_163 : Cond.methodLink RX2 27 yX2_join ∈ k_all := k_mem (k_t2 (List.mem_of_getElem? (i := 2) rfl)) rfl
theorem m_164 : Cond.instanceMethod yX2_join ∈ k_all := k_mem (k_t2 (List.mem_of_getElem? (i := 4) rfl)) rfl
theorem m_165 : Cond.selects RX2 yX2_join yX2_join ∈ k_all := k_mem (k_s1 (List.mem_of_getElem? (i := 0) rfl)) rfl
theorem m_166 : Cond.code yX2_join cX2_join 3 none ∈ k_all := k_mem (k_t2 (List.mem_of_getElem? (i := 5) rfl)) rfl
theorem m_167 : Cond.methodLink RX6 12 yX5_length ∈ k_all := k_mem (k_t2 (List.mem_of_getElem? (i := 6) rfl)) rfl
theorem m_168 : Cond.methodLink RX6 18 yX5_at ∈ k_all := k_mem (k_t2 (List.mem_of_getElem? (i := 7) rfl)) rfl
theorem m_169 : Cond.instanceMethod yX5_at ∈ k_all := k_mem (k_t2 (List.mem_of_getElem? (i := 8) rfl)) rfl
theorem m_170 : Cond.selects RX5 yX5_at yX5_at ∈ k_all := k_mem (k_t2 (List.mem_of_getElem? (i := 9) rfl)) rfl
theorem m_171 : Cond.code yX5_at cX5_at 2 (some .int) ∈ k_all := k_mem (k_t2 (List.mem_of_getElem? (i := 10) rfl)) rfl
theorem m_172 : Cond.methodLink RX6 22 ⟨"FrameBoard$Text", "reads", "(I)Z"⟩ ∈ k_all := k_mem (k_t2 (List.mem_of_getElem? (i := 11) rfl)) rfl
theorem m_173 : Cond.sameMethod "FrameBoard$Text" "FrameBoard$Text" "reads" "(I)Z" ∈ k_all := k_mem (k_t2 (List.mem_of_getElem? (i := 13) rfl)) rfl
theorem m_174 : Cond.selects RX1 ⟨"FrameBoard$Text", "reads", "(I)Z"⟩ yX1_reads ∈ k_all := k_mem (k_t2 (List.mem_of_getElem? (i := 14) rfl)) rfl
theorem m_175 : Cond.instanceMethod yX1_reads ∈ k_all := k_mem (k_t2 (List.mem_of_getElem? (i := 15) rfl)) rfl
theorem m_176 : Cond.code yX1_reads cX1_reads 4 (some .boolean) ∈ k_all := k_mem (k_t2 (List.mem_of_getElem? (i := 16) rfl)) rfl
theorem m_177 : Cond.methodLink RX1 18 yX0_operands ∈ k_all := k_mem (k_t2 (List.mem_of_getElem? (i := 17) rfl)) rfl
theorem m_178 : Cond.static yX0_operands ∈ k_all := k_mem (k_t2 (List.mem_of_getElem? (i := 18) rfl)) rfl
theorem m_179 : Cond.code yX0_operands cX0_operands 1 (some .int) ∈ k_all := k_mem (k_t2 (List.mem_of_getElem? (i := 19) rfl)) rfl
theorem m_180 : Cond.selects RX3 ⟨"FrameBoard$Text", "reads", "(I)Z"⟩ yX3_reads ∈ k_all := k_mem (k_t2 (List.mem_of_getElem? (i := 20) rfl)) rfl
theorem m_181 : Cond.instanceMethod yX3_reads ∈ k_all := k_mem (k_t2 (List.mem_of_getElem? (i := 21) rfl)) rfl
theorem m_182 : Cond.code yX3_reads cX3_reads 2 (some .boolean) ∈ k_all := k_mem (k_t2 (List.mem_of_getElem? (i := 22) rfl)) rfl
theorem m_183 : Cond.methodLink RX3 26 yX3_readsKind ∈ k_all := k_mem (k_t2 (List.mem_of_getElem? (i := 23) rfl)) rfl
theorem m_184 : Cond.instanceMethod yX3_readsKind ∈ k_all := k_mem (k_t2 (List.mem_of_getElem? (i := 25) rfl)) rfl
theorem m_185 : Cond.selects RX3 yX3_readsKind yX3_readsKind ∈ k_all := k_mem (k_s1 (List.mem_of_getElem? (i := 1) rfl)) rfl
theorem m_186 : Cond.code yX3_readsKind cX3_readsKind 3 (some .boolean) ∈ k_all := k_mem (k_t2 (List.mem_of_getElem? (i := 26) rfl)) rfl
theorem m_187 : Cond.fieldLink RX3 51 "FrameBoard$Frame" "kind" "I" ∈ k_all := k_mem (k_t1 (List.mem_of_getElem? (i := 52) rfl)) rfl
theorem m_188 : Cond.methodLink RX3 47 yX3_kindOf ∈ k_all := k_mem (k_t2 (List.mem_of_getElem? (i := 27) rfl)) rfl
theorem m_189 : Cond.static yX3_kindOf ∈ k_all := k_mem (k_t2 (List.mem_of_getElem? (i := 28) rfl)) rfl
theorem m_190 : Cond.code yX3_kindOf cX3_kindOf 1 (some .int) ∈ k_all := k_mem (k_t2 (List.mem_of_getElem? (i := 29) rfl)) rfl
theorem m_191 : Cond.methodLink RX3 30 yX3_readsSize ∈ k_all := k_mem (k_t2 (List.mem_of_getElem? (i := 30) rfl)) rfl
theorem m_192 : Cond.instanceMethod yX3_readsSize ∈ k_all := k_mem (k_t2 (List.mem_of_getElem? (i := 32) rfl)) rfl
theorem m_193 : Cond.selects RX3 yX3_readsSize yX3_readsSize ∈ k_all := k_mem (k_s1 (List.mem_of_getElem? (i := 2) rfl)) rfl
theorem m_194 : Cond.code yX3_readsSize cX3_readsSize 3 (some .boolean) ∈ k_all := k_mem (k_t2 (List.mem_of_getElem? (i := 33) rfl)) rfl
theorem m_195 : Cond.fieldLink RX3 54 "FrameBoard$Frame" "worlds" "I" ∈ k_all := k_mem (k_t1 (List.mem_of_getElem? (i := 56) rfl)) rfl
theorem m_196 : Cond.methodLink RX3 33 yX3_readsSign ∈ k_all := k_mem (k_t2 (List.mem_of_getElem? (i := 34) rfl)) rfl
theorem m_197 : Cond.instanceMethod yX3_readsSign ∈ k_all := k_mem (k_t2 (List.mem_of_getElem? (i := 36) rfl)) rfl
theorem m_198 : Cond.selects RX3 yX3_readsSign yX3_readsSign ∈ k_all := k_mem (k_s1 (List.mem_of_getElem? (i := 3) rfl)) rfl
theorem m_199 : Cond.code yX3_readsSign cX3_readsSign 4 (some .boolean) ∈ k_all := k_mem (k_t2 (List.mem_of_getElem? (i := 37) rfl)) rfl
theorem m_200 : Cond.fieldLink RX3 57 "FrameBoard$FrameText" "leastWorld" "I" ∈ k_all := k_mem (k_t1 (List.mem_of_getElem? (i := 76) rfl)) rfl
theorem m_201 : Cond.methodLink RX3 37 yX3_readsFrom ∈ k_all := k_mem (k_t2 (List.mem_of_getElem? (i := 38) rfl)) rfl
theorem m_202 : Cond.instanceMethod yX3_readsFrom ∈ k_all := k_mem (k_t2 (List.mem_of_getElem? (i := 40) rfl)) rfl
theorem m_203 : Cond.selects RX3 yX3_readsFrom yX3_readsFrom ∈ k_all := k_mem (k_s1 (List.mem_of_getElem? (i := 4) rfl)) rfl
theorem m_204 : Cond.code yX3_readsFrom cX3_readsFrom 3 (some .boolean) ∈ k_all := k_mem (k_t2 (List.mem_of_getElem? (i := 41) rfl)) rfl
theorem m_205 : Cond.fieldLink RX3 63 "FrameBoard$FrameText" "from" "I" ∈ k_all := k_mem (k_t1 (List.mem_of_getElem? (i := 75) rfl)) rfl
theorem m_206 : Cond.methodLink RX3 40 yX3_readsTo ∈ k_all := k_mem (k_t2 (List.mem_of_getElem? (i := 43) rfl)) rfl
theorem m_207 : Cond.instanceMethod yX3_readsTo ∈ k_all := k_mem (k_t2 (List.mem_of_getElem? (i := 45) rfl)) rfl
theorem m_208 : Cond.selects RX3 yX3_readsTo yX3_readsTo ∈ k_all := k_mem (k_s1 (List.mem_of_getElem? (i := 5) rfl)) rfl
theorem m_209 : Cond.code yX3_readsTo cX3_readsTo 3 (some .boolean) ∈ k_all := k_mem (k_t2 (List.mem_of_getElem? (i := 46) rfl)) rfl
theorem m_210 : Cond.methodLink RX3 66 yX2_has ∈ k_all := k_mem (k_t2 (List.mem_of_getElem? (i := 47) rfl)) rfl
theorem m_211 : Cond.instanceMethod yX2_has ∈ k_all := k_mem (k_t2 (List.mem_of_getElem? (i := 48) rfl)) rfl
theorem m_212 : Cond.selects RX2 yX2_has yX2_has ∈ k_all := k_mem (k_t2 (List.mem_of_getElem? (i := 49) rfl)) rfl
theorem m_213 : Cond.code yX2_has cX2_has 3 (some .boolean) ∈ k_all := k_mem (k_t2 (List.mem_of_getElem? (i := 50) rfl)) rfl
theorem m_214 : Cond.methodLink RX3 69 yX2_turn ∈ k_all := k_mem (k_t2 (List.mem_of_getElem? (i := 51) rfl)) rfl
theorem m_215 : Cond.instanceMethod yX2_turn ∈ k_all := k_mem (k_t2 (List.mem_of_getElem? (i := 52) rfl)) rfl
theorem m_216 : Cond.selects RX2 yX2_turn yX2_turn ∈ k_all := k_mem (k_t2 (List.mem_of_getElem? (i := 53) rfl)) rfl
theorem m_217 : Cond.code yX2_turn cX2_turn 3 none ∈ k_all := k_mem (k_t2 (List.mem_of_getElem? (i := 54) rfl)) rfl
theorem m_218 : Cond.methodLink RX2 31 yX2_pair ∈ k_all := k_mem (k_t2 (List.mem_of_getElem? (i := 55) rfl)) rfl
theorem m_219 : Cond.static yX2_pair ∈ k_all := k_mem (k_t2 (List.mem_of_getElem? (i := 56) rfl)) rfl
theorem m_220 : Cond.code yX2_pair cX2_pair 2 (some .int) ∈ k_all := k_mem (k_t2 (List.mem_of_getElem? (i := 57) rfl)) rfl
theorem m_221 : Cond.methodLink RX3 43 yX3_readsMarked ∈ k_all := k_mem (k_t2 (List.mem_of_getElem? (i := 58) rfl)) rfl
theorem m_222 : Cond.instanceMethod yX3_readsMarked ∈ k_all := k_mem (k_t2 (List.mem_of_getElem? (i := 60) rfl)) rfl
theorem m_223 : Cond.selects RX3 yX3_readsMarked yX3_readsMarked ∈ k_all := k_mem (k_s1 (List.mem_of_getElem? (i := 6) rfl)) rfl
theorem m_224 : Cond.code yX3_readsMarked cX3_readsMarked 4 (some .boolean) ∈ k_all := k_mem (k_t2 (List.mem_of_getElem? (i := 61) rfl)) rfl
theorem m_225 : Cond.methodLink RX3 72 yX2_marks ∈ k_all := k_mem (k_t2 (List.mem_of_getElem? (i := 62) rfl)) rfl
theorem m_226 : Cond.instanceMethod yX2_marks ∈ k_all := k_mem (k_t2 (List.mem_of_getElem? (i := 63) rfl)) rfl
theorem m_227 : Cond.selects RX2 yX2_marks yX2_marks ∈ k_all := k_mem (k_t2 (List.mem_of_getElem? (i := 64) rfl)) rfl
theorem m_228 : Cond.code yX2_marks cX2_marks 2 (some .int) ∈ k_all := k_mem (k_t2 (List.mem_of_getElem? (i := 65) rfl)) rfl
theorem m_229 : Cond.static yX8_bit ∈ k_all := k_mem (k_t2 (List.mem_of_getElem? (i := 67) rfl)) rfl
theorem m_230 : Cond.code yX8_bit cX8_bit 2 (some .int) ∈ k_all := k_mem (k_t2 (List.mem_of_getElem? (i := 68) rfl)) rfl
theorem m_231 : Cond.methodLink RX3 75 yX2_setMarks ∈ k_all := k_mem (k_t2 (List.mem_of_getElem? (i := 69) rfl)) rfl
theorem m_232 : Cond.instanceMethod yX2_setMarks ∈ k_all := k_mem (k_t2 (List.mem_of_getElem? (i := 70) rfl)) rfl
theorem m_233 : Cond.selects RX2 yX2_setMarks yX2_setMarks ∈ k_all := k_mem (k_t2 (List.mem_of_getElem? (i := 71) rfl)) rfl
theorem m_234 : Cond.code yX2_setMarks cX2_setMarks 3 none ∈ k_all := k_mem (k_t2 (List.mem_of_getElem? (i := 72) rfl)) rfl
theorem m_235 : Cond.methodLink RX8 86 ⟨"FrameBoard$FormulaText", "firstFault", "(LFrameBoard$Page;)I"⟩ ∈ k_all := k_mem (k_t2 (List.mem_of_getElem? (i := 73) rfl)) rfl
theorem m_236 : Cond.sameMethod "FrameBoard$FormulaText" "FrameBoard$Text" "firstFault" "(LFrameBoard$Page;)I" ∈ k_all := k_mem (k_t2 (List.mem_of_getElem? (i := 74) rfl)) rfl
theorem m_237 : Cond.selects RX1 ⟨"FrameBoard$FormulaText", "firstFault", "(LFrameBoard$Page;)I"⟩ yX6_firstFault ∈ k_all := k_mem (k_t2 (List.mem_of_getElem? (i := 75) rfl)) rfl
theorem m_242 : Cond.methodLink RX9 111 yX9_readFrame ∈ k_all := k_mem (k_t4 (List.mem_of_getElem? (i := 168) rfl)) rfl
theorem m_243 : Cond.instanceMethod yX9_readFrame ∈ k_all := k_mem (k_t4 (List.mem_of_getElem? (i := 170) rfl)) rfl
theorem m_244 : Cond.selects RX9 yX9_readFrame yX9_readFrame ∈ k_all := k_mem (k_s2 (List.mem_of_getElem? (i := 15) rfl)) rfl
theorem m_245 : Cond.code yX9_readFrame cX9_readFrame 2 (some .int) ∈ k_all := k_mem (k_t4 (List.mem_of_getElem? (i := 171) rfl)) rfl
theorem m_246 : Cond.fieldLink RX9 65 "FrameBoardModel" "stage" "I" ∈ k_all := k_mem (k_t4 (List.mem_of_getElem? (i := 43) rfl)) rfl
theorem m_247 : Cond.fieldLink RX9 68 "FrameBoardModel" "newWorlds" "I" ∈ k_all := k_mem (k_t4 (List.mem_of_getElem? (i := 45) rfl)) rfl
theorem m_248 : Cond.fieldLink RX9 88 "FrameBoardModel" "newLast" "I" ∈ k_all := k_mem (k_t4 (List.mem_of_getElem? (i := 47) rfl)) rfl
theorem m_249 : Cond.fieldLink RX9 95 "FrameBoardModel" "newP" "I" ∈ k_all := k_mem (k_t4 (List.mem_of_getElem? (i := 48) rfl)) rfl
theorem m_250 : Cond.fieldLink RX9 98 "FrameBoardModel" "newQ" "I" ∈ k_all := k_mem (k_t4 (List.mem_of_getElem? (i := 49) rfl)) rfl
theorem m_251 : Cond.methodLink RX9 101 yX9_takes ∈ k_all := k_mem (k_t4 (List.mem_of_getElem? (i := 172) rfl)) rfl
theorem m_252 : Cond.instanceMethod yX9_takes ∈ k_all := k_mem (k_t4 (List.mem_of_getElem? (i := 174) rfl)) rfl
theorem m_253 : Cond.selects RX9 yX9_takes yX9_takes ∈ k_all := k_mem (k_s3 (List.mem_of_getElem? (i := 0) rfl)) rfl
theorem m_254 : Cond.code yX9_takes cX9_takes 4 (some .boolean) ∈ k_all := k_mem (k_t4 (List.mem_of_getElem? (i := 175) rfl)) rfl
theorem m_255 : Cond.fieldLink RX9 75 "FrameBoardModel" "newKind" "I" ∈ k_all := k_mem (k_t4 (List.mem_of_getElem? (i := 44) rfl)) rfl
theorem m_256 : Cond.fieldLink RX9 82 "FrameBoardModel" "newFrom" "I" ∈ k_all := k_mem (k_t4 (List.mem_of_getElem? (i := 46) rfl)) rfl
theorem m_257 : Cond.methodLink RX9 71 yX9_kindBy ∈ k_all := k_mem (k_t4 (List.mem_of_getElem? (i := 176) rfl)) rfl
theorem m_258 : Cond.static yX9_kindBy ∈ k_all := k_mem (k_t4 (List.mem_of_getElem? (i := 177) rfl)) rfl
theorem m_259 : Cond.code yX9_kindBy cX9_kindBy 1 (some .int) ∈ k_all := k_mem (k_t4 (List.mem_of_getElem? (i := 178) rfl)) rfl
theorem m_260 : Cond.methodLink RX9 78 yX9_goes ∈ k_all := k_mem (k_t4 (List.mem_of_getElem? (i := 179) rfl)) rfl
theorem m_261 : Cond.instanceMethod yX9_goes ∈ k_all := k_mem (k_t4 (List.mem_of_getElem? (i := 181) rfl)) rfl
theorem m_262 : Cond.selects RX9 yX9_goes yX9_goes ∈ k_all := k_mem (k_s3 (List.mem_of_getElem? (i := 1) rfl)) rfl
theorem m_263 : Cond.code yX9_goes cX9_goes 3 (some .boolean) ∈ k_all := k_mem (k_t4 (List.mem_of_getElem? (i := 182) rfl)) rfl
theorem m_264 : Cond.methodLink RX9 85 yX9_takesArrow ∈ k_all := k_mem (k_t4 (List.mem_of_getElem? (i := 183) rfl)) rfl
theorem m_265 : Cond.instanceMethod yX9_takesArrow ∈ k_all := k_mem (k_t4 (List.mem_of_getElem? (i := 185) rfl)) rfl
theorem m_266 : Cond.selects RX9 yX9_takesArrow yX9_takesArrow ∈ k_all := k_mem (k_s3 (List.mem_of_getElem? (i := 2) rfl)) rfl
theorem m_267 : Cond.code yX9_takesArrow cX9_takesArrow 4 (some .boolean) ∈ k_all := k_mem (k_t4 (List.mem_of_getElem? (i := 186) rfl)) rfl
theorem m_268 : Cond.methodLink RX9 91 yX9_takesMark ∈ k_all := k_mem (k_t4 (List.mem_of_getElem? (i := 187) rfl)) rfl
theorem m_269 : Cond.instanceMethod yX9_takesMark ∈ k_all := k_mem (k_t4 (List.mem_of_getElem? (i := 189) rfl)) rfl
theorem m_270 : Cond.selects RX9 yX9_takesMark yX9_takesMark ∈ k_all := k_mem (k_s3 (List.mem_of_getElem? (i := 3) rfl)) rfl
theorem m_271 : Cond.code yX9_takesMark cX9_takesMark 4 (some .boolean) ∈ k_all := k_mem (k_t4 (List.mem_of_getElem? (i := 190) rfl)) rfl
theorem m_272 : Cond.methodLink RX9 115 yX9_readFormula ∈ k_all := k_mem (k_t4 (List.mem_of_getElem? (i := 191) rfl)) rfl
theorem m_273 : Cond.instanceMethod yX9_readFormula ∈ k_all := k_mem (k_t4 (List.mem_of_getElem? (i := 193) rfl)) rfl
theorem m_274 : Cond.selects RX9 yX9_readFormula yX9_readFormula ∈ k_all := k_mem (k_s3 (List.mem_of_getElem? (i := 4) rfl)) rfl
theorem m_275 : Cond.code yX9_readFormula cX9_readFormula 4 (some .int) ∈ k_all := k_mem (k_t4 (List.mem_of_getElem? (i := 194) rfl)) rfl
theorem m_276 : Cond.fieldLink RX9 105 "FrameBoardModel" "wanted" "I" ∈ k_all := k_mem (k_t4 (List.mem_of_getElem? (i := 51) rfl)) rfl
theorem m_277 : Cond.methodLink RX9 108 yX9_partsOf ∈ k_all := k_mem (k_t4 (List.mem_of_getElem? (i := 195) rfl)) rfl
theorem m_278 : Cond.static yX9_partsOf ∈ k_all := k_mem (k_t4 (List.mem_of_getElem? (i := 196) rfl)) rfl
theorem m_279 : Cond.code yX9_partsOf cX9_partsOf 1 (some .int) ∈ k_all := k_mem (k_t4 (List.mem_of_getElem? (i := 197) rfl)) rfl
theorem m_284 : Cond.fieldLink RX8 91 "FrameBoard$FrameText" "draft" "LFrameBoard$Frame;" ∈ k_all := k_mem (k_t1 (List.mem_of_getElem? (i := 73) rfl)) rfl
theorem m_285 : Cond.fieldLink RX8 99 "FrameBoard" "saved" "Z" ∈ k_all := k_mem (k_t1 (List.mem_of_getElem? (i := 159) rfl)) rfl
theorem m_286 : Cond.fieldLink RX8 103 "FrameBoard" "framesRead" "I" ∈ k_all := k_mem (k_t1 (List.mem_of_getElem? (i := 160) rfl)) rfl
theorem m_287 : Cond.fieldLink RX8 107 "FrameBoard$Frame" "worlds" "I" ∈ k_all := k_mem (k_t1 (List.mem_of_getElem? (i := 55) rfl)) rfl
theorem m_288 : Cond.methodLink RX8 87 ⟨"FrameBoard$FrameText", "isWhole", "(LFrameBoard$Page;)Z"⟩ ∈ k_all := k_mem (k_t2 (List.mem_of_getElem? (i := 80) rfl)) rfl
theorem m_289 : Cond.sameMethod "FrameBoard$FrameText" "FrameBoard$Text" "isWhole" "(LFrameBoard$Page;)Z" ∈ k_all := k_mem (k_t2 (List.mem_of_getElem? (i := 81) rfl)) rfl
theorem m_290 : Cond.selects RX3 ⟨"FrameBoard$FrameText", "isWhole", "(LFrameBoard$Page;)Z"⟩ yX6_isWhole ∈ k_all := k_mem (k_t2 (List.mem_of_getElem? (i := 83) rfl)) rfl
theorem m_291 : Cond.instanceMethod yX6_isWhole ∈ k_all := k_mem (k_t2 (List.mem_of_getElem? (i := 84) rfl)) rfl
theorem m_292 : Cond.code yX6_isWhole cX6_isWhole 2 (some .boolean) ∈ k_all := k_mem (k_t2 (List.mem_of_getElem? (i := 85) rfl)) rfl
theorem m_293 : Cond.methodLink RX6 26 ⟨"FrameBoard$Text", "firstFault", "(LFrameBoard$Page;)I"⟩ ∈ k_all := k_mem (k_t2 (List.mem_of_getElem? (i := 86) rfl)) rfl
theorem m_294 : Cond.sameMethod "FrameBoard$Text" "FrameBoard$Text" "firstFault" "(LFrameBoard$Page;)I" ∈ k_all := k_mem (k_t6 (List.mem_of_getElem? (i := 37) rfl)) rfl
theorem m_295 : Cond.selects RX1 ⟨"FrameBoard$Text", "firstFault", "(LFrameBoard$Page;)I"⟩ yX6_firstFault ∈ k_all := k_mem (k_t6 (List.mem_of_getElem? (i := 38) rfl)) rfl
theorem m_296 : Cond.selects RX3 ⟨"FrameBoard$Text", "firstFault", "(LFrameBoard$Page;)I"⟩ yX6_firstFault ∈ k_all := k_mem (k_t6 (List.mem_of_getElem? (i := 39) rfl)) rfl
theorem m_297 : Cond.methodLink RX6 30 ⟨"FrameBoard$Text", "isComplete", "()Z"⟩ ∈ k_all := k_mem (k_t2 (List.mem_of_getElem? (i := 87) rfl)) rfl
theorem m_298 : Cond.sameMethod "FrameBoard$Text" "FrameBoard$Text" "isComplete" "()Z" ∈ k_all := k_mem (k_t2 (List.mem_of_getElem? (i := 89) rfl)) rfl
theorem m_299 : Cond.selects RX1 ⟨"FrameBoard$Text", "isComplete", "()Z"⟩ yX1_isComplete ∈ k_all := k_mem (k_t2 (List.mem_of_getElem? (i := 90) rfl)) rfl
theorem m_300 : Cond.instanceMethod yX1_isComplete ∈ k_all := k_mem (k_t2 (List.mem_of_getElem? (i := 91) rfl)) rfl
theorem m_301 : Cond.code yX1_isComplete cX1_isComplete 1 (some .boolean) ∈ k_all := k_mem (k_t2 (List.mem_of_getElem? (i := 92) rfl)) rfl
theorem m_302 : Cond.selects RX3 ⟨"FrameBoard$Text", "isComplete", "()Z"⟩ yX3_isComplete ∈ k_all := k_mem (k_t2 (List.mem_of_getElem? (i := 93) rfl)) rfl
theorem m_303 : Cond.instanceMethod yX3_isComplete ∈ k_all := k_mem (k_t2 (List.mem_of_getElem? (i := 94) rfl)) rfl
theorem m_304 : Cond.code yX3_isComplete cX3_isComplete 1 (some .boolean) ∈ k_all := k_mem (k_t2 (List.mem_of_getElem? (i := 95) rfl)) rfl
theorem m_305 : Cond.methodLink RX8 94 yX2_copy ∈ k_all := k_mem (k_t2 (List.mem_of_getElem? (i := 96) rfl)) rfl
theorem m_306 : Cond.instanceMethod yX2_copy ∈ k_all := k_mem (k_t2 (List.mem_of_getElem? (i := 97) rfl)) rfl
theorem m_307 : Cond.selects RX2 yX2_copy yX2_copy ∈ k_all := k_mem (k_t2 (List.mem_of_getElem? (i := 98) rfl)) rfl
theorem m_308 : Cond.code yX2_copy cX2_copy 2 none ∈ k_all := k_mem (k_t2 (List.mem_of_getElem? (i := 99) rfl)) rfl
theorem m_309 : Cond.methodLink RX8 98 yX4_clear ∈ k_all := k_mem (k_t2 (List.mem_of_getElem? (i := 100) rfl)) rfl
theorem m_310 : Cond.instanceMethod yX4_clear ∈ k_all := k_mem (k_t2 (List.mem_of_getElem? (i := 101) rfl)) rfl
theorem m_311 : Cond.selects RX4 yX4_clear yX4_clear ∈ k_all := k_mem (k_t2 (List.mem_of_getElem? (i := 102) rfl)) rfl
theorem m_312 : Cond.code yX4_clear cX4_clear 1 none ∈ k_all := k_mem (k_t2 (List.mem_of_getElem? (i := 103) rfl)) rfl
theorem m_313 : Cond.fieldLink RX4 15 "FrameBoard$Observations" "number" "I" ∈ k_all := k_mem (k_t1 (List.mem_of_getElem? (i := 123) rfl)) rfl
theorem m_318 : Cond.fieldLink RX9 118 "FrameBoardModel" "kind" "I" ∈ k_all := k_mem (k_t4 (List.mem_of_getElem? (i := 27) rfl)) rfl
theorem m_319 : Cond.fieldLink RX9 121 "FrameBoardModel" "worlds" "I" ∈ k_all := k_mem (k_t4 (List.mem_of_getElem? (i := 28) rfl)) rfl
theorem m_320 : Cond.fieldLink RX9 124 "FrameBoardModel" "frames" "I" ∈ k_all := k_mem (k_t4 (List.mem_of_getElem? (i := 31) rfl)) rfl
theorem m_321 : Cond.fieldLink RX9 127 "FrameBoardModel" "seen" "I" ∈ k_all := k_mem (k_t4 (List.mem_of_getElem? (i := 38) rfl)) rfl
theorem m_326 : Cond.fieldLink RX8 115 "FrameBoard" "formulasRead" "I" ∈ k_all := k_mem (k_t1 (List.mem_of_getElem? (i := 161) rfl)) rfl
theorem m_327 : Cond.methodLink RX8 110 ⟨"FrameBoard$FormulaText", "isWhole", "(LFrameBoard$Page;)Z"⟩ ∈ k_all := k_mem (k_t2 (List.mem_of_getElem? (i := 108) rfl)) rfl
theorem m_328 : Cond.sameMethod "FrameBoard$FormulaText" "FrameBoard$Text" "isWhole" "(LFrameBoard$Page;)Z" ∈ k_all := k_mem (k_t2 (List.mem_of_getElem? (i := 109) rfl)) rfl
theorem m_329 : Cond.selects RX1 ⟨"FrameBoard$FormulaText", "isWhole", "(LFrameBoard$Page;)Z"⟩ yX6_isWhole ∈ k_all := k_mem (k_t2 (List.mem_of_getElem? (i := 110) rfl)) rfl
theorem m_330 : Cond.methodLink RX8 111 yX0_read ∈ k_all := k_mem (k_t2 (List.mem_of_getElem? (i := 111) rfl)) rfl
theorem m_331 : Cond.instanceMethod yX0_read ∈ k_all := k_mem (k_t2 (List.mem_of_getElem? (i := 112) rfl)) rfl
theorem m_332 : Cond.selects RX0 yX0_read yX0_read ∈ k_all := k_mem (k_t2 (List.mem_of_getElem? (i := 113) rfl)) rfl
theorem m_333 : Cond.code yX0_read cX0_read 3 none ∈ k_all := k_mem (k_t2 (List.mem_of_getElem? (i := 114) rfl)) rfl
theorem m_334 : Cond.fieldLink RX0 18 "FrameBoard$Formula" "length" "I" ∈ k_all := k_mem (k_t1 (List.mem_of_getElem? (i := 109) rfl)) rfl
theorem m_335 : Cond.methodLink RX0 26 yX5_length ∈ k_all := k_mem (k_t2 (List.mem_of_getElem? (i := 115) rfl)) rfl
theorem m_336 : Cond.methodLink RX0 31 yX5_at ∈ k_all := k_mem (k_t2 (List.mem_of_getElem? (i := 116) rfl)) rfl
theorem m_337 : Cond.methodLink RX0 35 yX0_endFrom ∈ k_all := k_mem (k_t2 (List.mem_of_getElem? (i := 117) rfl)) rfl
theorem m_338 : Cond.instanceMethod yX0_endFrom ∈ k_all := k_mem (k_t2 (List.mem_of_getElem? (i := 119) rfl)) rfl
theorem m_339 : Cond.selects RX0 yX0_endFrom yX0_endFrom ∈ k_all := k_mem (k_s1 (List.mem_of_getElem? (i := 7) rfl)) rfl
theorem m_340 : Cond.code yX0_endFrom cX0_endFrom 5 (some .int) ∈ k_all := k_mem (k_t2 (List.mem_of_getElem? (i := 120) rfl)) rfl
theorem m_341 : Cond.methodLink RX0 38 yX0_signAt ∈ k_all := k_mem (k_t2 (List.mem_of_getElem? (i := 121) rfl)) rfl
theorem m_342 : Cond.instanceMethod yX0_signAt ∈ k_all := k_mem (k_t2 (List.mem_of_getElem? (i := 122) rfl)) rfl
theorem m_343 : Cond.selects RX0 yX0_signAt yX0_signAt ∈ k_all := k_mem (k_t2 (List.mem_of_getElem? (i := 123) rfl)) rfl
theorem m_344 : Cond.code yX0_signAt cX0_signAt 2 (some .int) ∈ k_all := k_mem (k_t2 (List.mem_of_getElem? (i := 124) rfl)) rfl
theorem m_345 : Cond.methodLink RX0 41 yX0_operands ∈ k_all := k_mem (k_t2 (List.mem_of_getElem? (i := 126) rfl)) rfl
theorem m_346 : Cond.methodLink RX0 44 yX0_end ∈ k_all := k_mem (k_t2 (List.mem_of_getElem? (i := 127) rfl)) rfl
theorem m_347 : Cond.instanceMethod yX0_end ∈ k_all := k_mem (k_t2 (List.mem_of_getElem? (i := 128) rfl)) rfl
theorem m_348 : Cond.selects RX0 yX0_end yX0_end ∈ k_all := k_mem (k_t2 (List.mem_of_getElem? (i := 129) rfl)) rfl
theorem m_349 : Cond.code yX0_end cX0_end 2 (some .int) ∈ k_all := k_mem (k_t2 (List.mem_of_getElem? (i := 130) rfl)) rfl
theorem m_350 : Cond.methodLink RX8 118 yX0_length ∈ k_all := k_mem (k_t2 (List.mem_of_getElem? (i := 131) rfl)) rfl
theorem m_351 : Cond.instanceMethod yX0_length ∈ k_all := k_mem (k_t2 (List.mem_of_getElem? (i := 132) rfl)) rfl
theorem m_352 : Cond.selects RX0 yX0_length yX0_length ∈ k_all := k_mem (k_t2 (List.mem_of_getElem? (i := 133) rfl)) rfl
theorem m_353 : Cond.code yX0_length cX0_length 1 (some .int) ∈ k_all := k_mem (k_t2 (List.mem_of_getElem? (i := 134) rfl)) rfl
theorem m_358 : Cond.fieldLink RX9 130 "FrameBoardModel" "signs" "I" ∈ k_all := k_mem (k_t4 (List.mem_of_getElem? (i := 32) rfl)) rfl
theorem m_359 : Cond.fieldLink RX9 133 "FrameBoardModel" "formulas" "I" ∈ k_all := k_mem (k_t4 (List.mem_of_getElem? (i := 35) rfl)) rfl
theorem m_361 : Cond.instanceMethod yX8_about ∈ k_all := k_mem (k_t2 (List.mem_of_getElem? (i := 136) rfl)) rfl
theorem m_362 : Cond.selects RX8 yX8_about yX8_about ∈ k_all := k_mem (k_t2 (List.mem_of_getElem? (i := 137) rfl)) rfl
theorem m_363 : Cond.code yX8_about cX8_about 2 (some .int) ∈ k_all := k_mem (k_t2 (List.mem_of_getElem? (i := 138) rfl)) rfl
theorem m_364 : Cond.fieldLink RX8 123 "FrameBoard$Frame" "kind" "I" ∈ k_all := k_mem (k_t1 (List.mem_of_getElem? (i := 53) rfl)) rfl
theorem m_365 : Cond.methodLink RX8 119 yX8_hasFrame ∈ k_all := k_mem (k_t2 (List.mem_of_getElem? (i := 139) rfl)) rfl
theorem m_366 : Cond.instanceMethod yX8_hasFrame ∈ k_all := k_mem (k_t2 (List.mem_of_getElem? (i := 141) rfl)) rfl
theorem m_367 : Cond.selects RX8 yX8_hasFrame yX8_hasFrame ∈ k_all := k_mem (k_s1 (List.mem_of_getElem? (i := 8) rfl)) rfl
theorem m_368 : Cond.code yX8_hasFrame cX8_hasFrame 1 (some .boolean) ∈ k_all := k_mem (k_t2 (List.mem_of_getElem? (i := 142) rfl)) rfl
theorem m_369 : Cond.methodLink RX8 126 yX2_arrowCount ∈ k_all := k_mem (k_t2 (List.mem_of_getElem? (i := 143) rfl)) rfl
theorem m_370 : Cond.instanceMethod yX2_arrowCount ∈ k_all := k_mem (k_t2 (List.mem_of_getElem? (i := 144) rfl)) rfl
theorem m_371 : Cond.selects RX2 yX2_arrowCount yX2_arrowCount ∈ k_all := k_mem (k_t2 (List.mem_of_getElem? (i := 145) rfl)) rfl
theorem m_372 : Cond.code yX2_arrowCount cX2_arrowCount 1 (some .int) ∈ k_all := k_mem (k_t2 (List.mem_of_getElem? (i := 146) rfl)) rfl
theorem m_373 : Cond.methodLink RX2 35 yJ6_bitCount_0f7a4 ∈ k_all := k_mem (k_t2 (List.mem_of_getElem? (i := 147) rfl)) rfl
theorem m_374 : Cond.static yJ6_bitCount_0f7a4 ∈ k_all := k_mem (k_t2 (List.mem_of_getElem? (i := 148) rfl)) rfl
theorem m_375 : Cond.initialized RJ6 ∈ k_all := k_mem (k_t1 (List.mem_of_getElem? (i := 11) rfl)) rfl
theorem m_376 : Cond.code yJ6_bitCount_0f7a4 cJ6_bitCount_0f7a4 1 (some .int) ∈ k_all := k_mem (k_t2 (List.mem_of_getElem? (i := 149) rfl)) rfl
theorem m_377 : Cond.constant RJ6 265 (1431655765) ∈ k_all := k_mem (k_t2 (List.mem_of_getElem? (i := 150) rfl)) rfl
theorem m_378 : Cond.constant RJ6 266 (858993459) ∈ k_all := k_mem (k_t2 (List.mem_of_getElem? (i := 151) rfl)) rfl
theorem m_379 : Cond.constant RJ6 267 (252645135) ∈ k_all := k_mem (k_t2 (List.mem_of_getElem? (i := 152) rfl)) rfl
theorem m_380 : Cond.methodLink RX8 129 yX2_fits ∈ k_all := k_mem (k_t2 (List.mem_of_getElem? (i := 153) rfl)) rfl
theorem m_381 : Cond.instanceMethod yX2_fits ∈ k_all := k_mem (k_t2 (List.mem_of_getElem? (i := 154) rfl)) rfl
theorem m_382 : Cond.selects RX2 yX2_fits yX2_fits ∈ k_all := k_mem (k_t2 (List.mem_of_getElem? (i := 155) rfl)) rfl
theorem m_383 : Cond.code yX2_fits cX2_fits 2 (some .boolean) ∈ k_all := k_mem (k_t2 (List.mem_of_getElem? (i := 156) rfl)) rfl
theorem m_384 : Cond.methodLink RX2 47 yX2_obeys ∈ k_all := k_mem (k_t2 (List.mem_of_getElem? (i := 157) rfl)) rfl
theorem m_385 : Cond.instanceMethod yX2_obeys ∈ k_all := k_mem (k_t2 (List.mem_of_getElem? (i := 158) rfl)) rfl
theorem m_386 : Cond.selects RX2 yX2_obeys yX2_obeys ∈ k_all := k_mem (k_t2 (List.mem_of_getElem? (i := 159) rfl)) rfl
theorem m_387 : Cond.code yX2_obeys cX2_obeys 3 (some .boolean) ∈ k_all := k_mem (k_t2 (List.mem_of_getElem? (i := 160) rfl)) rfl
theorem m_388 : Cond.methodLink RX2 51 yX2_obeysAt ∈ k_all := k_mem (k_t2 (List.mem_of_getElem? (i := 161) rfl)) rfl
theorem m_389 : Cond.instanceMethod yX2_obeysAt ∈ k_all := k_mem (k_t2 (List.mem_of_getElem? (i := 163) rfl)) rfl
theorem m_390 : Cond.selects RX2 yX2_obeysAt yX2_obeysAt ∈ k_all := k_mem (k_s1 (List.mem_of_getElem? (i := 9) rfl)) rfl
theorem m_391 : Cond.code yX2_obeysAt cX2_obeysAt 4 (some .boolean) ∈ k_all := k_mem (k_t2 (List.mem_of_getElem? (i := 164) rfl)) rfl
theorem m_392 : Cond.methodLink RX2 55 yX2_has ∈ k_all := k_mem (k_t2 (List.mem_of_getElem? (i := 165) rfl)) rfl
theorem m_393 : Cond.methodLink RX2 41 yX2_row ∈ k_all := k_mem (k_t2 (List.mem_of_getElem? (i := 166) rfl)) rfl
theorem m_394 : Cond.instanceMethod yX2_row ∈ k_all := k_mem (k_t2 (List.mem_of_getElem? (i := 167) rfl)) rfl
theorem m_395 : Cond.selects RX2 yX2_row yX2_row ∈ k_all := k_mem (k_t2 (List.mem_of_getElem? (i := 168) rfl)) rfl
theorem m_396 : Cond.code yX2_row cX2_row 2 (some .int) ∈ k_all := k_mem (k_t2 (List.mem_of_getElem? (i := 169) rfl)) rfl
theorem m_397 : Cond.methodLink RX2 58 yX2_obeysAlong ∈ k_all := k_mem (k_t2 (List.mem_of_getElem? (i := 170) rfl)) rfl
theorem m_398 : Cond.instanceMethod yX2_obeysAlong ∈ k_all := k_mem (k_t2 (List.mem_of_getElem? (i := 172) rfl)) rfl
theorem m_399 : Cond.selects RX2 yX2_obeysAlong yX2_obeysAlong ∈ k_all := k_mem (k_s1 (List.mem_of_getElem? (i := 10) rfl)) rfl
theorem m_400 : Cond.code yX2_obeysAlong cX2_obeysAlong 4 (some .boolean) ∈ k_all := k_mem (k_t2 (List.mem_of_getElem? (i := 173) rfl)) rfl
theorem m_401 : Cond.methodLink RX8 133 yX8_toInt ∈ k_all := k_mem (k_t2 (List.mem_of_getElem? (i := 174) rfl)) rfl
theorem m_402 : Cond.static yX8_toInt ∈ k_all := k_mem (k_t2 (List.mem_of_getElem? (i := 175) rfl)) rfl
theorem m_403 : Cond.code yX8_toInt cX8_toInt 1 (some .int) ∈ k_all := k_mem (k_t2 (List.mem_of_getElem? (i := 176) rfl)) rfl
theorem m_404 : Cond.methodLink RX8 137 yX2_classes ∈ k_all := k_mem (k_t2 (List.mem_of_getElem? (i := 177) rfl)) rfl
theorem m_405 : Cond.instanceMethod yX2_classes ∈ k_all := k_mem (k_t2 (List.mem_of_getElem? (i := 178) rfl)) rfl
theorem m_406 : Cond.selects RX2 yX2_classes yX2_classes ∈ k_all := k_mem (k_t2 (List.mem_of_getElem? (i := 179) rfl)) rfl
theorem m_407 : Cond.code yX2_classes cX2_classes 4 (some .int) ∈ k_all := k_mem (k_t2 (List.mem_of_getElem? (i := 180) rfl)) rfl
theorem m_408 : Cond.methodLink RX2 71 yX2_bisimilarity ∈ k_all := k_mem (k_t2 (List.mem_of_getElem? (i := 181) rfl)) rfl
theorem m_409 : Cond.instanceMethod yX2_bisimilarity ∈ k_all := k_mem (k_t2 (List.mem_of_getElem? (i := 183) rfl)) rfl
theorem m_410 : Cond.selects RX2 yX2_bisimilarity yX2_bisimilarity ∈ k_all := k_mem (k_s1 (List.mem_of_getElem? (i := 11) rfl)) rfl
theorem m_411 : Cond.code yX2_bisimilarity cX2_bisimilarity 3 (some .int) ∈ k_all := k_mem (k_t2 (List.mem_of_getElem? (i := 184) rfl)) rfl
theorem m_412 : Cond.methodLink RX2 86 yX2_sameMarks ∈ k_all := k_mem (k_t2 (List.mem_of_getElem? (i := 185) rfl)) rfl
theorem m_413 : Cond.instanceMethod yX2_sameMarks ∈ k_all := k_mem (k_t2 (List.mem_of_getElem? (i := 187) rfl)) rfl
theorem m_414 : Cond.selects RX2 yX2_sameMarks yX2_sameMarks ∈ k_all := k_mem (k_s1 (List.mem_of_getElem? (i := 12) rfl)) rfl
theorem m_415 : Cond.code yX2_sameMarks cX2_sameMarks 4 (some .int) ∈ k_all := k_mem (k_t2 (List.mem_of_getElem? (i := 188) rfl)) rfl
theorem m_416 : Cond.methodLink RX2 92 yX2_marks ∈ k_all := k_mem (k_t2 (List.mem_of_getElem? (i := 189) rfl)) rfl
theorem m_417 : Cond.methodLink RX2 89 yX2_refined ∈ k_all := k_mem (k_t2 (List.mem_of_getElem? (i := 190) rfl)) rfl
theorem m_418 : Cond.instanceMethod yX2_refined ∈ k_all := k_mem (k_t2 (List.mem_of_getElem? (i := 192) rfl)) rfl
theorem m_419 : Cond.selects RX2 yX2_refined yX2_refined ∈ k_all := k_mem (k_s1 (List.mem_of_getElem? (i := 13) rfl)) rfl
theorem m_420 : Cond.code yX2_refined cX2_refined 6 (some .int) ∈ k_all := k_mem (k_t2 (List.mem_of_getElem? (i := 193) rfl)) rfl
theorem m_421 : Cond.methodLink RX2 95 yX2_isMatched ∈ k_all := k_mem (k_t2 (List.mem_of_getElem? (i := 194) rfl)) rfl
theorem m_422 : Cond.instanceMethod yX2_isMatched ∈ k_all := k_mem (k_t2 (List.mem_of_getElem? (i := 196) rfl)) rfl
theorem m_423 : Cond.selects RX2 yX2_isMatched yX2_isMatched ∈ k_all := k_mem (k_s1 (List.mem_of_getElem? (i := 14) rfl)) rfl
theorem m_424 : Cond.code yX2_isMatched cX2_isMatched 5 (some .boolean) ∈ k_all := k_mem (k_t2 (List.mem_of_getElem? (i := 197) rfl)) rfl
theorem m_425 : Cond.methodLink RX2 75 yX2_rowOf ∈ k_all := k_mem (k_t2 (List.mem_of_getElem? (i := 198) rfl)) rfl
theorem m_426 : Cond.static yX2_rowOf ∈ k_all := k_mem (k_t2 (List.mem_of_getElem? (i := 199) rfl)) rfl
theorem m_427 : Cond.code yX2_rowOf cX2_rowOf 2 (some .int) ∈ k_all := k_mem (k_t2 (List.mem_of_getElem? (i := 200) rfl)) rfl
theorem m_428 : Cond.static yX8_lowest ∈ k_all := k_mem (k_t2 (List.mem_of_getElem? (i := 202) rfl)) rfl
theorem m_429 : Cond.code yX8_lowest cX8_lowest 2 (some .int) ∈ k_all := k_mem (k_t2 (List.mem_of_getElem? (i := 203) rfl)) rfl
theorem m_430 : Cond.methodLink RX8 249 yJ13_bitCount_95d88 ∈ k_all := k_mem (k_t2 (List.mem_of_getElem? (i := 204) rfl)) rfl
theorem m_431 : Cond.static yJ13_bitCount_95d88 ∈ k_all := k_mem (k_t2 (List.mem_of_getElem? (i := 205) rfl)) rfl
theorem m_432 : Cond.initialized RJ13 ∈ k_all := k_mem (k_t1 (List.mem_of_getElem? (i := 12) rfl)) rfl
theorem m_433 : Cond.code yJ13_bitCount_95d88 cJ13_bitCount_95d88 2 (some .int) ∈ k_all := k_mem (k_t2 (List.mem_of_getElem? (i := 206) rfl)) rfl
theorem m_434 : Cond.constantLong RJ13 314 (6148914691236517205) ∈ k_all := k_mem (k_t2 (List.mem_of_getElem? (i := 207) rfl)) rfl
theorem m_435 : Cond.constantLong RJ13 316 (3689348814741910323) ∈ k_all := k_mem (k_t2 (List.mem_of_getElem? (i := 208) rfl)) rfl
theorem m_436 : Cond.constantLong RJ13 318 (1085102592571150095) ∈ k_all := k_mem (k_t2 (List.mem_of_getElem? (i := 209) rfl)) rfl
theorem m_441 : Cond.methodLink RX9 202 yX9_isFrame ∈ k_all := k_mem (k_t4 (List.mem_of_getElem? (i := 210) rfl)) rfl
theorem m_442 : Cond.instanceMethod yX9_isFrame ∈ k_all := k_mem (k_t4 (List.mem_of_getElem? (i := 212) rfl)) rfl
theorem m_443 : Cond.selects RX9 yX9_isFrame yX9_isFrame ∈ k_all := k_mem (k_s3 (List.mem_of_getElem? (i := 5) rfl)) rfl
theorem m_444 : Cond.code yX9_isFrame cX9_isFrame 1 (some .boolean) ∈ k_all := k_mem (k_t4 (List.mem_of_getElem? (i := 213) rfl)) rfl
theorem m_445 : Cond.methodLink RX9 206 yX9_aboutNow ∈ k_all := k_mem (k_t4 (List.mem_of_getElem? (i := 214) rfl)) rfl
theorem m_446 : Cond.instanceMethod yX9_aboutNow ∈ k_all := k_mem (k_t4 (List.mem_of_getElem? (i := 216) rfl)) rfl
theorem m_447 : Cond.selects RX9 yX9_aboutNow yX9_aboutNow ∈ k_all := k_mem (k_s3 (List.mem_of_getElem? (i := 6) rfl)) rfl
theorem m_448 : Cond.code yX9_aboutNow cX9_aboutNow 2 (some .int) ∈ k_all := k_mem (k_t4 (List.mem_of_getElem? (i := 217) rfl)) rfl
theorem m_449 : Cond.methodLink RX9 193 yX9_allArrows ∈ k_all := k_mem (k_t4 (List.mem_of_getElem? (i := 218) rfl)) rfl
theorem m_450 : Cond.instanceMethod yX9_allArrows ∈ k_all := k_mem (k_t4 (List.mem_of_getElem? (i := 220) rfl)) rfl
theorem m_451 : Cond.selects RX9 yX9_allArrows yX9_allArrows ∈ k_all := k_mem (k_s3 (List.mem_of_getElem? (i := 7) rfl)) rfl
theorem m_452 : Cond.code yX9_allArrows cX9_allArrows 3 (some .int) ∈ k_all := k_mem (k_t4 (List.mem_of_getElem? (i := 221) rfl)) rfl
theorem m_453 : Cond.methodLink RX9 196 yX9_fitsTold ∈ k_all := k_mem (k_t4 (List.mem_of_getElem? (i := 222) rfl)) rfl
theorem m_454 : Cond.instanceMethod yX9_fitsTold ∈ k_all := k_mem (k_t4 (List.mem_of_getElem? (i := 224) rfl)) rfl
theorem m_455 : Cond.selects RX9 yX9_fitsTold yX9_fitsTold ∈ k_all := k_mem (k_s3 (List.mem_of_getElem? (i := 8) rfl)) rfl
theorem m_456 : Cond.code yX9_fitsTold cX9_fitsTold 1 (some .int) ∈ k_all := k_mem (k_t4 (List.mem_of_getElem? (i := 225) rfl)) rfl
theorem m_457 : Cond.methodLink RX9 184 yX9_layFrame ∈ k_all := k_mem (k_t4 (List.mem_of_getElem? (i := 226) rfl)) rfl
theorem m_458 : Cond.instanceMethod yX9_layFrame ∈ k_all := k_mem (k_t4 (List.mem_of_getElem? (i := 228) rfl)) rfl
theorem m_459 : Cond.selects RX9 yX9_layFrame yX9_layFrame ∈ k_all := k_mem (k_s3 (List.mem_of_getElem? (i := 9) rfl)) rfl
theorem m_460 : Cond.code yX9_layFrame cX9_layFrame 3 none ∈ k_all := k_mem (k_t4 (List.mem_of_getElem? (i := 229) rfl)) rfl
theorem m_461 : Cond.fieldLink RX9 136 "FrameBoardModel" "many" "I" ∈ k_all := k_mem (k_t4 (List.mem_of_getElem? (i := 52) rfl)) rfl
theorem m_462 : Cond.fieldLink RX9 139 "FrameBoardModel" "pNow" "I" ∈ k_all := k_mem (k_t4 (List.mem_of_getElem? (i := 54) rfl)) rfl
theorem m_463 : Cond.fieldLink RX9 142 "FrameBoardModel" "qNow" "I" ∈ k_all := k_mem (k_t4 (List.mem_of_getElem? (i := 55) rfl)) rfl
theorem m_464 : Cond.methodLink RX9 190 yX9_fitsNow ∈ k_all := k_mem (k_t4 (List.mem_of_getElem? (i := 230) rfl)) rfl
theorem m_465 : Cond.instanceMethod yX9_fitsNow ∈ k_all := k_mem (k_t4 (List.mem_of_getElem? (i := 232) rfl)) rfl
theorem m_466 : Cond.selects RX9 yX9_fitsNow yX9_fitsNow ∈ k_all := k_mem (k_s3 (List.mem_of_getElem? (i := 10) rfl)) rfl
theorem m_467 : Cond.code yX9_fitsNow cX9_fitsNow 2 (some .boolean) ∈ k_all := k_mem (k_t4 (List.mem_of_getElem? (i := 233) rfl)) rfl
theorem m_468 : Cond.methodLink RX9 172 yX9_keepsNow ∈ k_all := k_mem (k_t4 (List.mem_of_getElem? (i := 234) rfl)) rfl
theorem m_469 : Cond.instanceMethod yX9_keepsNow ∈ k_all := k_mem (k_t4 (List.mem_of_getElem? (i := 236) rfl)) rfl
theorem m_470 : Cond.selects RX9 yX9_keepsNow yX9_keepsNow ∈ k_all := k_mem (k_s3 (List.mem_of_getElem? (i := 11) rfl)) rfl
theorem m_471 : Cond.code yX9_keepsNow cX9_keepsNow 4 (some .boolean) ∈ k_all := k_mem (k_t4 (List.mem_of_getElem? (i := 237) rfl)) rfl
theorem m_472 : Cond.methodLink RX9 168 yX9_keepsHere ∈ k_all := k_mem (k_t4 (List.mem_of_getElem? (i := 238) rfl)) rfl
theorem m_473 : Cond.instanceMethod yX9_keepsHere ∈ k_all := k_mem (k_t5 (List.mem_of_getElem? (i := 0) rfl)) rfl
theorem m_474 : Cond.selects RX9 yX9_keepsHere yX9_keepsHere ∈ k_all := k_mem (k_s3 (List.mem_of_getElem? (i := 12) rfl)) rfl
theorem m_475 : Cond.code yX9_keepsHere cX9_keepsHere 5 (some .boolean) ∈ k_all := k_mem (k_t5 (List.mem_of_getElem? (i := 1) rfl)) rfl
theorem m_476 : Cond.methodLink RX9 165 yX9_isArrow ∈ k_all := k_mem (k_t5 (List.mem_of_getElem? (i := 2) rfl)) rfl
theorem m_477 : Cond.instanceMethod yX9_isArrow ∈ k_all := k_mem (k_t5 (List.mem_of_getElem? (i := 4) rfl)) rfl
theorem m_478 : Cond.selects RX9 yX9_isArrow yX9_isArrow ∈ k_all := k_mem (k_s3 (List.mem_of_getElem? (i := 13) rfl)) rfl
theorem m_479 : Cond.code yX9_isArrow cX9_isArrow 3 (some .boolean) ∈ k_all := k_mem (k_t5 (List.mem_of_getElem? (i := 5) rfl)) rfl
theorem m_480 : Cond.methodLink RX9 161 yX9_isIn ∈ k_all := k_mem (k_t5 (List.mem_of_getElem? (i := 6) rfl)) rfl
theorem m_481 : Cond.static yX9_isIn ∈ k_all := k_mem (k_t5 (List.mem_of_getElem? (i := 7) rfl)) rfl
theorem m_482 : Cond.code yX9_isIn cX9_isIn 2 (some .boolean) ∈ k_all := k_mem (k_t5 (List.mem_of_getElem? (i := 8) rfl)) rfl
theorem m_483 : Cond.methodLink RX9 199 yX9_twinKinds ∈ k_all := k_mem (k_t5 (List.mem_of_getElem? (i := 9) rfl)) rfl
theorem m_484 : Cond.instanceMethod yX9_twinKinds ∈ k_all := k_mem (k_t5 (List.mem_of_getElem? (i := 11) rfl)) rfl
theorem m_485 : Cond.selects RX9 yX9_twinKinds yX9_twinKinds ∈ k_all := k_mem (k_s3 (List.mem_of_getElem? (i := 14) rfl)) rfl
theorem m_486 : Cond.code yX9_twinKinds cX9_twinKinds 3 (some .int) ∈ k_all := k_mem (k_t5 (List.mem_of_getElem? (i := 12) rfl)) rfl
theorem m_487 : Cond.methodLink RX9 178 yX9_layApart ∈ k_all := k_mem (k_t5 (List.mem_of_getElem? (i := 13) rfl)) rfl
theorem m_488 : Cond.instanceMethod yX9_layApart ∈ k_all := k_mem (k_t5 (List.mem_of_getElem? (i := 15) rfl)) rfl
theorem m_489 : Cond.selects RX9 yX9_layApart yX9_layApart ∈ k_all := k_mem (k_s3 (List.mem_of_getElem? (i := 15) rfl)) rfl
theorem m_490 : Cond.code yX9_layApart cX9_layApart 5 none ∈ k_all := k_mem (k_t5 (List.mem_of_getElem? (i := 16) rfl)) rfl
theorem m_491 : Cond.methodLink RX9 175 yX9_isMet ∈ k_all := k_mem (k_t5 (List.mem_of_getElem? (i := 17) rfl)) rfl
theorem m_492 : Cond.instanceMethod yX9_isMet ∈ k_all := k_mem (k_t5 (List.mem_of_getElem? (i := 19) rfl)) rfl
theorem m_493 : Cond.selects RX9 yX9_isMet yX9_isMet ∈ k_all := k_mem (k_s4 (List.mem_of_getElem? (i := 0) rfl)) rfl
theorem m_494 : Cond.code yX9_isMet cX9_isMet 7 (some .boolean) ∈ k_all := k_mem (k_t5 (List.mem_of_getElem? (i := 20) rfl)) rfl
theorem m_495 : Cond.methodLink RX9 181 yX9_twinOf ∈ k_all := k_mem (k_t5 (List.mem_of_getElem? (i := 21) rfl)) rfl
theorem m_496 : Cond.instanceMethod yX9_twinOf ∈ k_all := k_mem (k_t5 (List.mem_of_getElem? (i := 23) rfl)) rfl
theorem m_497 : Cond.selects RX9 yX9_twinOf yX9_twinOf ∈ k_all := k_mem (k_s4 (List.mem_of_getElem? (i := 1) rfl)) rfl
theorem m_498 : Cond.code yX9_twinOf cX9_twinOf 3 (some .int) ∈ k_all := k_mem (k_t5 (List.mem_of_getElem? (i := 24) rfl)) rfl
theorem m_503 : Cond.methodLink RX8 140 yX8_isType ∈ k_all := k_mem (k_t2 (List.mem_of_getElem? (i := 214) rfl)) rfl
theorem m_504 : Cond.static yX8_isType ∈ k_all := k_mem (k_t2 (List.mem_of_getElem? (i := 215) rfl)) rfl
theorem m_505 : Cond.code yX8_isType cX8_isType 2 (some .boolean) ∈ k_all := k_mem (k_t2 (List.mem_of_getElem? (i := 216) rfl)) rfl
theorem m_510 : Cond.methodLink RX9 209 yX9_isKind ∈ k_all := k_mem (k_t5 (List.mem_of_getElem? (i := 29) rfl)) rfl
theorem m_511 : Cond.static yX9_isKind ∈ k_all := k_mem (k_t5 (List.mem_of_getElem? (i := 30) rfl)) rfl
theorem m_512 : Cond.code yX9_isKind cX9_isKind 1 (some .boolean) ∈ k_all := k_mem (k_t5 (List.mem_of_getElem? (i := 31) rfl)) rfl
theorem m_514 : Cond.instanceMethod yX8_world ∈ k_all := k_mem (k_t2 (List.mem_of_getElem? (i := 218) rfl)) rfl
theorem m_515 : Cond.selects RX8 yX8_world yX8_world ∈ k_all := k_mem (k_t2 (List.mem_of_getElem? (i := 219) rfl)) rfl
theorem m_516 : Cond.code yX8_world cX8_world 3 (some .int) ∈ k_all := k_mem (k_t2 (List.mem_of_getElem? (i := 220) rfl)) rfl
theorem m_517 : Cond.methodLink RX8 143 yX2_row ∈ k_all := k_mem (k_t2 (List.mem_of_getElem? (i := 221) rfl)) rfl
theorem m_518 : Cond.methodLink RX8 147 yJ6_bitCount_0f7a4 ∈ k_all := k_mem (k_t2 (List.mem_of_getElem? (i := 222) rfl)) rfl
theorem m_519 : Cond.methodLink RX8 152 yX2_arrowsTo ∈ k_all := k_mem (k_t2 (List.mem_of_getElem? (i := 223) rfl)) rfl
theorem m_520 : Cond.instanceMethod yX2_arrowsTo ∈ k_all := k_mem (k_t2 (List.mem_of_getElem? (i := 224) rfl)) rfl
theorem m_521 : Cond.selects RX2 yX2_arrowsTo yX2_arrowsTo ∈ k_all := k_mem (k_t2 (List.mem_of_getElem? (i := 225) rfl)) rfl
theorem m_522 : Cond.code yX2_arrowsTo cX2_arrowsTo 4 (some .int) ∈ k_all := k_mem (k_t2 (List.mem_of_getElem? (i := 226) rfl)) rfl
theorem m_523 : Cond.methodLink RX8 155 yX2_marks ∈ k_all := k_mem (k_t2 (List.mem_of_getElem? (i := 227) rfl)) rfl
theorem m_524 : Cond.methodLink RX8 158 yX2_lowestBisimilar ∈ k_all := k_mem (k_t2 (List.mem_of_getElem? (i := 228) rfl)) rfl
theorem m_525 : Cond.instanceMethod yX2_lowestBisimilar ∈ k_all := k_mem (k_t2 (List.mem_of_getElem? (i := 229) rfl)) rfl
theorem m_526 : Cond.selects RX2 yX2_lowestBisimilar yX2_lowestBisimilar ∈ k_all := k_mem (k_t2 (List.mem_of_getElem? (i := 230) rfl)) rfl
theorem m_527 : Cond.code yX2_lowestBisimilar cX2_lowestBisimilar 2 (some .int) ∈ k_all := k_mem (k_t2 (List.mem_of_getElem? (i := 231) rfl)) rfl
theorem m_528 : Cond.methodLink RX8 161 yX8_lowestSimilar ∈ k_all := k_mem (k_t2 (List.mem_of_getElem? (i := 232) rfl)) rfl
theorem m_529 : Cond.instanceMethod yX8_lowestSimilar ∈ k_all := k_mem (k_t2 (List.mem_of_getElem? (i := 234) rfl)) rfl
theorem m_530 : Cond.selects RX8 yX8_lowestSimilar yX8_lowestSimilar ∈ k_all := k_mem (k_s1 (List.mem_of_getElem? (i := 15) rfl)) rfl
theorem m_531 : Cond.code yX8_lowestSimilar cX8_lowestSimilar 3 (some .int) ∈ k_all := k_mem (k_t2 (List.mem_of_getElem? (i := 235) rfl)) rfl
theorem m_532 : Cond.methodLink RX8 164 yX8_hasFormula ∈ k_all := k_mem (k_t2 (List.mem_of_getElem? (i := 236) rfl)) rfl
theorem m_533 : Cond.instanceMethod yX8_hasFormula ∈ k_all := k_mem (k_t2 (List.mem_of_getElem? (i := 238) rfl)) rfl
theorem m_534 : Cond.selects RX8 yX8_hasFormula yX8_hasFormula ∈ k_all := k_mem (k_s2 (List.mem_of_getElem? (i := 0) rfl)) rfl
theorem m_535 : Cond.code yX8_hasFormula cX8_hasFormula 1 (some .boolean) ∈ k_all := k_mem (k_t2 (List.mem_of_getElem? (i := 239) rfl)) rfl
theorem m_536 : Cond.methodLink RX8 297 yX7_useOwn ∈ k_all := k_mem (k_t3 (List.mem_of_getElem? (i := 0) rfl)) rfl
theorem m_537 : Cond.instanceMethod yX7_useOwn ∈ k_all := k_mem (k_t3 (List.mem_of_getElem? (i := 1) rfl)) rfl
theorem m_538 : Cond.selects RX7 yX7_useOwn yX7_useOwn ∈ k_all := k_mem (k_t3 (List.mem_of_getElem? (i := 2) rfl)) rfl
theorem m_539 : Cond.code yX7_useOwn cX7_useOwn 4 none ∈ k_all := k_mem (k_t3 (List.mem_of_getElem? (i := 3) rfl)) rfl
theorem m_540 : Cond.methodLink RX7 21 yX2_marks ∈ k_all := k_mem (k_t3 (List.mem_of_getElem? (i := 4) rfl)) rfl
theorem m_541 : Cond.methodLink RX7 31 yX7_allLanes ∈ k_all := k_mem (k_t3 (List.mem_of_getElem? (i := 6) rfl)) rfl
theorem m_542 : Cond.static yX7_allLanes ∈ k_all := k_mem (k_t3 (List.mem_of_getElem? (i := 7) rfl)) rfl
theorem m_543 : Cond.code yX7_allLanes cX7_allLanes 1 (some .long) ∈ k_all := k_mem (k_t3 (List.mem_of_getElem? (i := 8) rfl)) rfl
theorem m_544 : Cond.constantLong RX7 49 (-1) ∈ k_all := k_mem (k_t3 (List.mem_of_getElem? (i := 9) rfl)) rfl
theorem m_545 : Cond.methodLink RX7 35 yX7_setLetters ∈ k_all := k_mem (k_t3 (List.mem_of_getElem? (i := 10) rfl)) rfl
theorem m_546 : Cond.instanceMethod yX7_setLetters ∈ k_all := k_mem (k_t3 (List.mem_of_getElem? (i := 12) rfl)) rfl
theorem m_547 : Cond.selects RX7 yX7_setLetters yX7_setLetters ∈ k_all := k_mem (k_s2 (List.mem_of_getElem? (i := 1) rfl)) rfl
theorem m_548 : Cond.code yX7_setLetters cX7_setLetters 6 none ∈ k_all := k_mem (k_t3 (List.mem_of_getElem? (i := 13) rfl)) rfl
theorem m_549 : Cond.methodLink RX8 243 yX7_evaluate ∈ k_all := k_mem (k_t3 (List.mem_of_getElem? (i := 15) rfl)) rfl
theorem m_550 : Cond.instanceMethod yX7_evaluate ∈ k_all := k_mem (k_t3 (List.mem_of_getElem? (i := 16) rfl)) rfl
theorem m_551 : Cond.selects RX7 yX7_evaluate yX7_evaluate ∈ k_all := k_mem (k_t3 (List.mem_of_getElem? (i := 17) rfl)) rfl
theorem m_552 : Cond.code yX7_evaluate cX7_evaluate 5 none ∈ k_all := k_mem (k_t3 (List.mem_of_getElem? (i := 18) rfl)) rfl
theorem m_553 : Cond.fieldLink RX7 58 "FrameBoard$Frame" "worlds" "I" ∈ k_all := k_mem (k_t1 (List.mem_of_getElem? (i := 57) rfl)) rfl
theorem m_554 : Cond.methodLink RX7 73 yX0_length ∈ k_all := k_mem (k_t3 (List.mem_of_getElem? (i := 19) rfl)) rfl
theorem m_555 : Cond.methodLink RX7 79 yX7_lanesOf ∈ k_all := k_mem (k_t3 (List.mem_of_getElem? (i := 20) rfl)) rfl
theorem m_556 : Cond.instanceMethod yX7_lanesOf ∈ k_all := k_mem (k_t3 (List.mem_of_getElem? (i := 22) rfl)) rfl
theorem m_557 : Cond.selects RX7 yX7_lanesOf yX7_lanesOf ∈ k_all := k_mem (k_s2 (List.mem_of_getElem? (i := 2) rfl)) rfl
theorem m_558 : Cond.code yX7_lanesOf cX7_lanesOf 6 (some .long) ∈ k_all := k_mem (k_t3 (List.mem_of_getElem? (i := 23) rfl)) rfl
theorem m_559 : Cond.methodLink RX7 87 yX0_signAt ∈ k_all := k_mem (k_t3 (List.mem_of_getElem? (i := 24) rfl)) rfl
theorem m_560 : Cond.methodLink RX7 90 yX7_at ∈ k_all := k_mem (k_t3 (List.mem_of_getElem? (i := 25) rfl)) rfl
theorem m_561 : Cond.instanceMethod yX7_at ∈ k_all := k_mem (k_t3 (List.mem_of_getElem? (i := 26) rfl)) rfl
theorem m_562 : Cond.selects RX7 yX7_at yX7_at ∈ k_all := k_mem (k_t3 (List.mem_of_getElem? (i := 27) rfl)) rfl
theorem m_563 : Cond.code yX7_at cX7_at 4 (some .long) ∈ k_all := k_mem (k_t3 (List.mem_of_getElem? (i := 28) rfl)) rfl
theorem m_564 : Cond.methodLink RX7 93 yX0_end ∈ k_all := k_mem (k_t3 (List.mem_of_getElem? (i := 29) rfl)) rfl
theorem m_565 : Cond.methodLink RX7 96 yX2_row ∈ k_all := k_mem (k_t3 (List.mem_of_getElem? (i := 30) rfl)) rfl
theorem m_566 : Cond.methodLink RX7 99 yX7_inAll ∈ k_all := k_mem (k_t3 (List.mem_of_getElem? (i := 31) rfl)) rfl
theorem m_567 : Cond.instanceMethod yX7_inAll ∈ k_all := k_mem (k_t3 (List.mem_of_getElem? (i := 33) rfl)) rfl
theorem m_568 : Cond.selects RX7 yX7_inAll yX7_inAll ∈ k_all := k_mem (k_s2 (List.mem_of_getElem? (i := 3) rfl)) rfl
theorem m_569 : Cond.code yX7_inAll cX7_inAll 6 (some .long) ∈ k_all := k_mem (k_t3 (List.mem_of_getElem? (i := 34) rfl)) rfl
theorem m_570 : Cond.methodLink RX7 102 yX7_inSome ∈ k_all := k_mem (k_t3 (List.mem_of_getElem? (i := 35) rfl)) rfl
theorem m_571 : Cond.instanceMethod yX7_inSome ∈ k_all := k_mem (k_t3 (List.mem_of_getElem? (i := 37) rfl)) rfl
theorem m_572 : Cond.selects RX7 yX7_inSome yX7_inSome ∈ k_all := k_mem (k_s2 (List.mem_of_getElem? (i := 4) rfl)) rfl
theorem m_573 : Cond.code yX7_inSome cX7_inSome 6 (some .long) ∈ k_all := k_mem (k_t3 (List.mem_of_getElem? (i := 38) rfl)) rfl
theorem m_574 : Cond.methodLink RX7 83 yX7_set ∈ k_all := k_mem (k_t3 (List.mem_of_getElem? (i := 39) rfl)) rfl
theorem m_575 : Cond.instanceMethod yX7_set ∈ k_all := k_mem (k_t3 (List.mem_of_getElem? (i := 41) rfl)) rfl
theorem m_576 : Cond.selects RX7 yX7_set yX7_set ∈ k_all := k_mem (k_s2 (List.mem_of_getElem? (i := 5) rfl)) rfl
theorem m_577 : Cond.code yX7_set cX7_set 6 none ∈ k_all := k_mem (k_t3 (List.mem_of_getElem? (i := 42) rfl)) rfl
theorem m_578 : Cond.methodLink RX8 303 yX7_agree ∈ k_all := k_mem (k_t3 (List.mem_of_getElem? (i := 43) rfl)) rfl
theorem m_579 : Cond.instanceMethod yX7_agree ∈ k_all := k_mem (k_t3 (List.mem_of_getElem? (i := 44) rfl)) rfl
theorem m_580 : Cond.selects RX7 yX7_agree yX7_agree ∈ k_all := k_mem (k_t3 (List.mem_of_getElem? (i := 45) rfl)) rfl
theorem m_581 : Cond.code yX7_agree cX7_agree 5 (some .boolean) ∈ k_all := k_mem (k_t3 (List.mem_of_getElem? (i := 46) rfl)) rfl
theorem m_582 : Cond.methodLink RX8 167 yX8_worldsOf ∈ k_all := k_mem (k_t3 (List.mem_of_getElem? (i := 47) rfl)) rfl
theorem m_583 : Cond.instanceMethod yX8_worldsOf ∈ k_all := k_mem (k_t3 (List.mem_of_getElem? (i := 49) rfl)) rfl
theorem m_584 : Cond.selects RX8 yX8_worldsOf yX8_worldsOf ∈ k_all := k_mem (k_s2 (List.mem_of_getElem? (i := 6) rfl)) rfl
theorem m_585 : Cond.code yX8_worldsOf cX8_worldsOf 4 (some .int) ∈ k_all := k_mem (k_t3 (List.mem_of_getElem? (i := 50) rfl)) rfl
theorem m_586 : Cond.methodLink RX8 300 yX7_at ∈ k_all := k_mem (k_t3 (List.mem_of_getElem? (i := 51) rfl)) rfl
theorem m_587 : Cond.methodLink RX8 170 yX8_bit ∈ k_all := k_mem (k_t3 (List.mem_of_getElem? (i := 52) rfl)) rfl
theorem m_592 : Cond.methodLink RX9 227 yX9_isWorld ∈ k_all := k_mem (k_t5 (List.mem_of_getElem? (i := 36) rfl)) rfl
theorem m_593 : Cond.instanceMethod yX9_isWorld ∈ k_all := k_mem (k_t5 (List.mem_of_getElem? (i := 38) rfl)) rfl
theorem m_594 : Cond.selects RX9 yX9_isWorld yX9_isWorld ∈ k_all := k_mem (k_s4 (List.mem_of_getElem? (i := 2) rfl)) rfl
theorem m_595 : Cond.code yX9_isWorld cX9_isWorld 2 (some .boolean) ∈ k_all := k_mem (k_t5 (List.mem_of_getElem? (i := 39) rfl)) rfl
theorem m_596 : Cond.methodLink RX9 230 yX9_worldNow ∈ k_all := k_mem (k_t5 (List.mem_of_getElem? (i := 40) rfl)) rfl
theorem m_597 : Cond.instanceMethod yX9_worldNow ∈ k_all := k_mem (k_t5 (List.mem_of_getElem? (i := 42) rfl)) rfl
theorem m_598 : Cond.selects RX9 yX9_worldNow yX9_worldNow ∈ k_all := k_mem (k_s4 (List.mem_of_getElem? (i := 3) rfl)) rfl
theorem m_599 : Cond.code yX9_worldNow cX9_worldNow 3 (some .int) ∈ k_all := k_mem (k_t5 (List.mem_of_getElem? (i := 43) rfl)) rfl
theorem m_600 : Cond.methodLink RX9 212 yX9_goOut ∈ k_all := k_mem (k_t5 (List.mem_of_getElem? (i := 44) rfl)) rfl
theorem m_601 : Cond.instanceMethod yX9_goOut ∈ k_all := k_mem (k_t5 (List.mem_of_getElem? (i := 46) rfl)) rfl
theorem m_602 : Cond.selects RX9 yX9_goOut yX9_goOut ∈ k_all := k_mem (k_s4 (List.mem_of_getElem? (i := 4) rfl)) rfl
theorem m_603 : Cond.code yX9_goOut cX9_goOut 4 (some .int) ∈ k_all := k_mem (k_t5 (List.mem_of_getElem? (i := 47) rfl)) rfl
theorem m_604 : Cond.methodLink RX9 215 yX9_comeIn ∈ k_all := k_mem (k_t5 (List.mem_of_getElem? (i := 48) rfl)) rfl
theorem m_605 : Cond.instanceMethod yX9_comeIn ∈ k_all := k_mem (k_t5 (List.mem_of_getElem? (i := 50) rfl)) rfl
theorem m_606 : Cond.selects RX9 yX9_comeIn yX9_comeIn ∈ k_all := k_mem (k_s4 (List.mem_of_getElem? (i := 5) rfl)) rfl
theorem m_607 : Cond.code yX9_comeIn cX9_comeIn 4 (some .int) ∈ k_all := k_mem (k_t5 (List.mem_of_getElem? (i := 51) rfl)) rfl
theorem m_608 : Cond.methodLink RX9 218 yX9_isFormula ∈ k_all := k_mem (k_t5 (List.mem_of_getElem? (i := 52) rfl)) rfl
theorem m_609 : Cond.instanceMethod yX9_isFormula ∈ k_all := k_mem (k_t5 (List.mem_of_getElem? (i := 54) rfl)) rfl
theorem m_610 : Cond.selects RX9 yX9_isFormula yX9_isFormula ∈ k_all := k_mem (k_s4 (List.mem_of_getElem? (i := 6) rfl)) rfl
theorem m_611 : Cond.code yX9_isFormula cX9_isFormula 1 (some .boolean) ∈ k_all := k_mem (k_t5 (List.mem_of_getElem? (i := 55) rfl)) rfl
theorem m_612 : Cond.methodLink RX9 221 yX9_likeOf ∈ k_all := k_mem (k_t5 (List.mem_of_getElem? (i := 56) rfl)) rfl
theorem m_613 : Cond.instanceMethod yX9_likeOf ∈ k_all := k_mem (k_t5 (List.mem_of_getElem? (i := 58) rfl)) rfl
theorem m_614 : Cond.selects RX9 yX9_likeOf yX9_likeOf ∈ k_all := k_mem (k_s4 (List.mem_of_getElem? (i := 7) rfl)) rfl
theorem m_615 : Cond.code yX9_likeOf cX9_likeOf 3 (some .int) ∈ k_all := k_mem (k_t5 (List.mem_of_getElem? (i := 59) rfl)) rfl
theorem m_616 : Cond.methodLink RX9 158 yX9_layHolds ∈ k_all := k_mem (k_t5 (List.mem_of_getElem? (i := 60) rfl)) rfl
theorem m_617 : Cond.instanceMethod yX9_layHolds ∈ k_all := k_mem (k_t5 (List.mem_of_getElem? (i := 62) rfl)) rfl
theorem m_618 : Cond.selects RX9 yX9_layHolds yX9_layHolds ∈ k_all := k_mem (k_s4 (List.mem_of_getElem? (i := 8) rfl)) rfl
theorem m_619 : Cond.code yX9_layHolds cX9_layHolds 2 none ∈ k_all := k_mem (k_t5 (List.mem_of_getElem? (i := 63) rfl)) rfl
theorem m_620 : Cond.methodLink RX9 151 yX9_holdsPart ∈ k_all := k_mem (k_t5 (List.mem_of_getElem? (i := 64) rfl)) rfl
theorem m_621 : Cond.instanceMethod yX9_holdsPart ∈ k_all := k_mem (k_t5 (List.mem_of_getElem? (i := 66) rfl)) rfl
theorem m_622 : Cond.selects RX9 yX9_holdsPart yX9_holdsPart ∈ k_all := k_mem (k_s4 (List.mem_of_getElem? (i := 9) rfl)) rfl
theorem m_623 : Cond.code yX9_holdsPart cX9_holdsPart 5 (some .int) ∈ k_all := k_mem (k_t5 (List.mem_of_getElem? (i := 67) rfl)) rfl
theorem m_624 : Cond.methodLink RX9 145 yX9_must ∈ k_all := k_mem (k_t5 (List.mem_of_getElem? (i := 68) rfl)) rfl
theorem m_625 : Cond.instanceMethod yX9_must ∈ k_all := k_mem (k_t5 (List.mem_of_getElem? (i := 70) rfl)) rfl
theorem m_626 : Cond.selects RX9 yX9_must yX9_must ∈ k_all := k_mem (k_s4 (List.mem_of_getElem? (i := 10) rfl)) rfl
theorem m_627 : Cond.code yX9_must cX9_must 4 (some .int) ∈ k_all := k_mem (k_t5 (List.mem_of_getElem? (i := 71) rfl)) rfl
theorem m_628 : Cond.methodLink RX9 148 yX9_can ∈ k_all := k_mem (k_t5 (List.mem_of_getElem? (i := 72) rfl)) rfl
theorem m_629 : Cond.instanceMethod yX9_can ∈ k_all := k_mem (k_t5 (List.mem_of_getElem? (i := 74) rfl)) rfl
theorem m_630 : Cond.selects RX9 yX9_can yX9_can ∈ k_all := k_mem (k_s4 (List.mem_of_getElem? (i := 11) rfl)) rfl
theorem m_631 : Cond.code yX9_can cX9_can 4 (some .int) ∈ k_all := k_mem (k_t5 (List.mem_of_getElem? (i := 75) rfl)) rfl
theorem m_632 : Cond.methodLink RX9 187 yX9_isLike ∈ k_all := k_mem (k_t5 (List.mem_of_getElem? (i := 76) rfl)) rfl
theorem m_633 : Cond.instanceMethod yX9_isLike ∈ k_all := k_mem (k_t5 (List.mem_of_getElem? (i := 78) rfl)) rfl
theorem m_634 : Cond.selects RX9 yX9_isLike yX9_isLike ∈ k_all := k_mem (k_s4 (List.mem_of_getElem? (i := 12) rfl)) rfl
theorem m_635 : Cond.code yX9_isLike cX9_isLike 5 (some .boolean) ∈ k_all := k_mem (k_t5 (List.mem_of_getElem? (i := 79) rfl)) rfl
theorem m_636 : Cond.methodLink RX9 224 yX9_formulaHolds ∈ k_all := k_mem (k_t5 (List.mem_of_getElem? (i := 80) rfl)) rfl
theorem m_637 : Cond.instanceMethod yX9_formulaHolds ∈ k_all := k_mem (k_t5 (List.mem_of_getElem? (i := 82) rfl)) rfl
theorem m_638 : Cond.selects RX9 yX9_formulaHolds yX9_formulaHolds ∈ k_all := k_mem (k_s4 (List.mem_of_getElem? (i := 13) rfl)) rfl
theorem m_639 : Cond.code yX9_formulaHolds cX9_formulaHolds 1 (some .int) ∈ k_all := k_mem (k_t5 (List.mem_of_getElem? (i := 83) rfl)) rfl
theorem m_641 : Cond.instanceMethod yX8_arrow ∈ k_all := k_mem (k_t3 (List.mem_of_getElem? (i := 54) rfl)) rfl
theorem m_642 : Cond.selects RX8 yX8_arrow yX8_arrow ∈ k_all := k_mem (k_t3 (List.mem_of_getElem? (i := 55) rfl)) rfl
theorem m_643 : Cond.code yX8_arrow cX8_arrow 3 (some .int) ∈ k_all := k_mem (k_t3 (List.mem_of_getElem? (i := 56) rfl)) rfl
theorem m_644 : Cond.methodLink RX8 174 yX2_has ∈ k_all := k_mem (k_t3 (List.mem_of_getElem? (i := 57) rfl)) rfl
theorem m_649 : Cond.methodLink RX9 234 yX9_arrowNow ∈ k_all := k_mem (k_t5 (List.mem_of_getElem? (i := 88) rfl)) rfl
theorem m_650 : Cond.instanceMethod yX9_arrowNow ∈ k_all := k_mem (k_t5 (List.mem_of_getElem? (i := 90) rfl)) rfl
theorem m_651 : Cond.selects RX9 yX9_arrowNow yX9_arrowNow ∈ k_all := k_mem (k_s4 (List.mem_of_getElem? (i := 14) rfl)) rfl
theorem m_652 : Cond.code yX9_arrowNow cX9_arrowNow 3 (some .int) ∈ k_all := k_mem (k_t5 (List.mem_of_getElem? (i := 91) rfl)) rfl
theorem m_654 : Cond.instanceMethod yX8_part ∈ k_all := k_mem (k_t3 (List.mem_of_getElem? (i := 59) rfl)) rfl
theorem m_655 : Cond.selects RX8 yX8_part yX8_part ∈ k_all := k_mem (k_t3 (List.mem_of_getElem? (i := 60) rfl)) rfl
theorem m_656 : Cond.code yX8_part cX8_part 2 (some .int) ∈ k_all := k_mem (k_t3 (List.mem_of_getElem? (i := 61) rfl)) rfl
theorem m_661 : Cond.methodLink RX9 237 yX9_partNow ∈ k_all := k_mem (k_t5 (List.mem_of_getElem? (i := 96) rfl)) rfl
theorem m_662 : Cond.instanceMethod yX9_partNow ∈ k_all := k_mem (k_t5 (List.mem_of_getElem? (i := 98) rfl)) rfl
theorem m_663 : Cond.selects RX9 yX9_partNow yX9_partNow ∈ k_all := k_mem (k_s4 (List.mem_of_getElem? (i := 15) rfl)) rfl
theorem m_664 : Cond.code yX9_partNow cX9_partNow 2 (some .int) ∈ k_all := k_mem (k_t5 (List.mem_of_getElem? (i := 99) rfl)) rfl
theorem m_666 : Cond.instanceMethod yX8_sign ∈ k_all := k_mem (k_t3 (List.mem_of_getElem? (i := 63) rfl)) rfl
theorem m_667 : Cond.selects RX8 yX8_sign yX8_sign ∈ k_all := k_mem (k_t3 (List.mem_of_getElem? (i := 64) rfl)) rfl
theorem m_668 : Cond.code yX8_sign cX8_sign 2 (some .int) ∈ k_all := k_mem (k_t3 (List.mem_of_getElem? (i := 65) rfl)) rfl
theorem m_669 : Cond.methodLink RX8 177 yX0_signAt ∈ k_all := k_mem (k_t3 (List.mem_of_getElem? (i := 66) rfl)) rfl
theorem m_678 : Cond.methodLink RX8 180 yX2_turn ∈ k_all := k_mem (k_t3 (List.mem_of_getElem? (i := 71) rfl)) rfl
theorem m_687 : Cond.methodLink RX8 184 yX2_setMarks ∈ k_all := k_mem (k_t3 (List.mem_of_getElem? (i := 76) rfl)) rfl
theorem m_700 : Cond.methodLink RX9 240 yX9_emptyWorld ∈ k_all := k_mem (k_t5 (List.mem_of_getElem? (i := 116) rfl)) rfl
theorem m_701 : Cond.instanceMethod yX9_emptyWorld ∈ k_all := k_mem (k_t5 (List.mem_of_getElem? (i := 118) rfl)) rfl
theorem m_702 : Cond.selects RX9 yX9_emptyWorld yX9_emptyWorld ∈ k_all := k_mem (k_s5 (List.mem_of_getElem? (i := 0) rfl)) rfl
theorem m_703 : Cond.code yX9_emptyWorld cX9_emptyWorld 3 none ∈ k_all := k_mem (k_t5 (List.mem_of_getElem? (i := 119) rfl)) rfl
theorem m_708 : Cond.methodLink RX8 187 yX2_drop ∈ k_all := k_mem (k_t3 (List.mem_of_getElem? (i := 85) rfl)) rfl
theorem m_709 : Cond.instanceMethod yX2_drop ∈ k_all := k_mem (k_t3 (List.mem_of_getElem? (i := 86) rfl)) rfl
theorem m_710 : Cond.selects RX2 yX2_drop yX2_drop ∈ k_all := k_mem (k_t3 (List.mem_of_getElem? (i := 87) rfl)) rfl
theorem m_711 : Cond.code yX2_drop cX2_drop 5 none ∈ k_all := k_mem (k_t3 (List.mem_of_getElem? (i := 88) rfl)) rfl
theorem m_712 : Cond.methodLink RX2 68 yX2_without ∈ k_all := k_mem (k_t3 (List.mem_of_getElem? (i := 89) rfl)) rfl
theorem m_713 : Cond.static yX2_without ∈ k_all := k_mem (k_t3 (List.mem_of_getElem? (i := 90) rfl)) rfl
theorem m_714 : Cond.code yX2_without cX2_without 3 (some .int) ∈ k_all := k_mem (k_t3 (List.mem_of_getElem? (i := 91) rfl)) rfl
theorem m_719 : Cond.methodLink RX9 246 yX9_takeOut ∈ k_all := k_mem (k_t5 (List.mem_of_getElem? (i := 124) rfl)) rfl
theorem m_720 : Cond.instanceMethod yX9_takeOut ∈ k_all := k_mem (k_t5 (List.mem_of_getElem? (i := 126) rfl)) rfl
theorem m_721 : Cond.selects RX9 yX9_takeOut yX9_takeOut ∈ k_all := k_mem (k_s5 (List.mem_of_getElem? (i := 1) rfl)) rfl
theorem m_722 : Cond.code yX9_takeOut cX9_takeOut 3 none ∈ k_all := k_mem (k_t5 (List.mem_of_getElem? (i := 127) rfl)) rfl
theorem m_723 : Cond.methodLink RX9 243 yX9_moveDown ∈ k_all := k_mem (k_t5 (List.mem_of_getElem? (i := 128) rfl)) rfl
theorem m_724 : Cond.instanceMethod yX9_moveDown ∈ k_all := k_mem (k_t5 (List.mem_of_getElem? (i := 130) rfl)) rfl
theorem m_725 : Cond.selects RX9 yX9_moveDown yX9_moveDown ∈ k_all := k_mem (k_s5 (List.mem_of_getElem? (i := 2) rfl)) rfl
theorem m_726 : Cond.code yX9_moveDown cX9_moveDown 3 none ∈ k_all := k_mem (k_t5 (List.mem_of_getElem? (i := 131) rfl)) rfl
theorem m_739 : Cond.methodLink RX8 190 yX2_makeFit ∈ k_all := k_mem (k_t3 (List.mem_of_getElem? (i := 100) rfl)) rfl
theorem m_740 : Cond.instanceMethod yX2_makeFit ∈ k_all := k_mem (k_t3 (List.mem_of_getElem? (i := 101) rfl)) rfl
theorem m_741 : Cond.selects RX2 yX2_makeFit yX2_makeFit ∈ k_all := k_mem (k_t3 (List.mem_of_getElem? (i := 102) rfl)) rfl
theorem m_742 : Cond.code yX2_makeFit cX2_makeFit 2 none ∈ k_all := k_mem (k_t3 (List.mem_of_getElem? (i := 103) rfl)) rfl
theorem m_743 : Cond.methodLink RX2 62 yX2_makeTransitive ∈ k_all := k_mem (k_t3 (List.mem_of_getElem? (i := 104) rfl)) rfl
theorem m_744 : Cond.instanceMethod yX2_makeTransitive ∈ k_all := k_mem (k_t3 (List.mem_of_getElem? (i := 106) rfl)) rfl
theorem m_745 : Cond.selects RX2 yX2_makeTransitive yX2_makeTransitive ∈ k_all := k_mem (k_s2 (List.mem_of_getElem? (i := 7) rfl)) rfl
theorem m_746 : Cond.code yX2_makeTransitive cX2_makeTransitive 3 none ∈ k_all := k_mem (k_t3 (List.mem_of_getElem? (i := 107) rfl)) rfl
theorem m_747 : Cond.methodLink RX2 65 yX2_makeSymmetric ∈ k_all := k_mem (k_t3 (List.mem_of_getElem? (i := 108) rfl)) rfl
theorem m_748 : Cond.instanceMethod yX2_makeSymmetric ∈ k_all := k_mem (k_t3 (List.mem_of_getElem? (i := 110) rfl)) rfl
theorem m_749 : Cond.selects RX2 yX2_makeSymmetric yX2_makeSymmetric ∈ k_all := k_mem (k_s2 (List.mem_of_getElem? (i := 8) rfl)) rfl
theorem m_750 : Cond.code yX2_makeSymmetric cX2_makeSymmetric 3 none ∈ k_all := k_mem (k_t3 (List.mem_of_getElem? (i := 111) rfl)) rfl
theorem m_755 : Cond.methodLink RX9 252 yX9_wants ∈ k_all := k_mem (k_t5 (List.mem_of_getElem? (i := 140) rfl)) rfl
theorem m_756 : Cond.instanceMethod yX9_wants ∈ k_all := k_mem (k_t5 (List.mem_of_getElem? (i := 142) rfl)) rfl
theorem m_757 : Cond.selects RX9 yX9_wants yX9_wants ∈ k_all := k_mem (k_s5 (List.mem_of_getElem? (i := 3) rfl)) rfl
theorem m_758 : Cond.code yX9_wants cX9_wants 3 (some .boolean) ∈ k_all := k_mem (k_t5 (List.mem_of_getElem? (i := 143) rfl)) rfl
theorem m_759 : Cond.methodLink RX9 249 yX9_isJoined ∈ k_all := k_mem (k_t5 (List.mem_of_getElem? (i := 144) rfl)) rfl
theorem m_760 : Cond.instanceMethod yX9_isJoined ∈ k_all := k_mem (k_t5 (List.mem_of_getElem? (i := 146) rfl)) rfl
theorem m_761 : Cond.selects RX9 yX9_isJoined yX9_isJoined ∈ k_all := k_mem (k_s5 (List.mem_of_getElem? (i := 4) rfl)) rfl
theorem m_762 : Cond.code yX9_isJoined cX9_isJoined 5 (some .boolean) ∈ k_all := k_mem (k_t5 (List.mem_of_getElem? (i := 147) rfl)) rfl
theorem m_767 : Cond.methodLink RX8 193 yX2_merge ∈ k_all := k_mem (k_t3 (List.mem_of_getElem? (i := 116) rfl)) rfl
theorem m_768 : Cond.instanceMethod yX2_merge ∈ k_all := k_mem (k_t3 (List.mem_of_getElem? (i := 117) rfl)) rfl
theorem m_769 : Cond.selects RX2 yX2_merge yX2_merge ∈ k_all := k_mem (k_t3 (List.mem_of_getElem? (i := 118) rfl)) rfl
theorem m_770 : Cond.code yX2_merge cX2_merge 4 none ∈ k_all := k_mem (k_t3 (List.mem_of_getElem? (i := 119) rfl)) rfl
theorem m_771 : Cond.methodLink RX2 82 yX2_drop ∈ k_all := k_mem (k_t3 (List.mem_of_getElem? (i := 120) rfl)) rfl
theorem m_777 : Cond.instanceMethod yX8_valid ∈ k_all := k_mem (k_t3 (List.mem_of_getElem? (i := 122) rfl)) rfl
theorem m_778 : Cond.selects RX8 yX8_valid yX8_valid ∈ k_all := k_mem (k_t3 (List.mem_of_getElem? (i := 123) rfl)) rfl
theorem m_779 : Cond.code yX8_valid cX8_valid 1 (some .int) ∈ k_all := k_mem (k_t3 (List.mem_of_getElem? (i := 124) rfl)) rfl
theorem m_780 : Cond.methodLink RX8 196 yX7_isValid ∈ k_all := k_mem (k_t3 (List.mem_of_getElem? (i := 125) rfl)) rfl
theorem m_781 : Cond.instanceMethod yX7_isValid ∈ k_all := k_mem (k_t3 (List.mem_of_getElem? (i := 126) rfl)) rfl
theorem m_782 : Cond.selects RX7 yX7_isValid yX7_isValid ∈ k_all := k_mem (k_t3 (List.mem_of_getElem? (i := 127) rfl)) rfl
theorem m_783 : Cond.code yX7_isValid cX7_isValid 5 (some .boolean) ∈ k_all := k_mem (k_t3 (List.mem_of_getElem? (i := 128) rfl)) rfl
theorem m_784 : Cond.methodLink RX7 62 yX7_useBlock ∈ k_all := k_mem (k_t3 (List.mem_of_getElem? (i := 129) rfl)) rfl
theorem m_785 : Cond.instanceMethod yX7_useBlock ∈ k_all := k_mem (k_t3 (List.mem_of_getElem? (i := 131) rfl)) rfl
theorem m_786 : Cond.selects RX7 yX7_useBlock yX7_useBlock ∈ k_all := k_mem (k_s2 (List.mem_of_getElem? (i := 9) rfl)) rfl
theorem m_787 : Cond.code yX7_useBlock cX7_useBlock 4 none ∈ k_all := k_mem (k_t3 (List.mem_of_getElem? (i := 132) rfl)) rfl
theorem m_788 : Cond.methodLink RX7 39 yX7_lanesOfBit ∈ k_all := k_mem (k_t3 (List.mem_of_getElem? (i := 133) rfl)) rfl
theorem m_789 : Cond.static yX7_lanesOfBit ∈ k_all := k_mem (k_t3 (List.mem_of_getElem? (i := 134) rfl)) rfl
theorem m_790 : Cond.code yX7_lanesOfBit cX7_lanesOfBit 2 (some .long) ∈ k_all := k_mem (k_t3 (List.mem_of_getElem? (i := 135) rfl)) rfl
theorem m_791 : Cond.fieldLink RX7 51 "FrameBoard$Truth" "LANES_OF_BIT" "[J" ∈ k_all := k_mem (k_t3 (List.mem_of_getElem? (i := 136) rfl)) rfl
theorem m_792 : Cond.methodLink RX7 66 yX7_evaluate ∈ k_all := k_mem (k_t3 (List.mem_of_getElem? (i := 138) rfl)) rfl
theorem m_793 : Cond.methodLink RX7 70 yX7_refuting ∈ k_all := k_mem (k_t3 (List.mem_of_getElem? (i := 139) rfl)) rfl
theorem m_794 : Cond.instanceMethod yX7_refuting ∈ k_all := k_mem (k_t3 (List.mem_of_getElem? (i := 140) rfl)) rfl
theorem m_795 : Cond.selects RX7 yX7_refuting yX7_refuting ∈ k_all := k_mem (k_t3 (List.mem_of_getElem? (i := 141) rfl)) rfl
theorem m_796 : Cond.code yX7_refuting cX7_refuting 5 (some .long) ∈ k_all := k_mem (k_t3 (List.mem_of_getElem? (i := 142) rfl)) rfl
theorem m_801 : Cond.methodLink RX9 258 yX9_validNow ∈ k_all := k_mem (k_t5 (List.mem_of_getElem? (i := 156) rfl)) rfl
theorem m_802 : Cond.instanceMethod yX9_validNow ∈ k_all := k_mem (k_t5 (List.mem_of_getElem? (i := 158) rfl)) rfl
theorem m_803 : Cond.selects RX9 yX9_validNow yX9_validNow ∈ k_all := k_mem (k_s5 (List.mem_of_getElem? (i := 5) rfl)) rfl
theorem m_804 : Cond.code yX9_validNow cX9_validNow 1 (some .int) ∈ k_all := k_mem (k_t5 (List.mem_of_getElem? (i := 159) rfl)) rfl
theorem m_805 : Cond.methodLink RX9 255 yX9_failing ∈ k_all := k_mem (k_t5 (List.mem_of_getElem? (i := 160) rfl)) rfl
theorem m_806 : Cond.instanceMethod yX9_failing ∈ k_all := k_mem (k_t5 (List.mem_of_getElem? (i := 162) rfl)) rfl
theorem m_807 : Cond.selects RX9 yX9_failing yX9_failing ∈ k_all := k_mem (k_s5 (List.mem_of_getElem? (i := 6) rfl)) rfl
theorem m_808 : Cond.code yX9_failing cX9_failing 2 (some .int) ∈ k_all := k_mem (k_t5 (List.mem_of_getElem? (i := 163) rfl)) rfl
theorem m_809 : Cond.methodLink RX9 154 yX9_layMarks ∈ k_all := k_mem (k_t5 (List.mem_of_getElem? (i := 164) rfl)) rfl
theorem m_810 : Cond.instanceMethod yX9_layMarks ∈ k_all := k_mem (k_t5 (List.mem_of_getElem? (i := 166) rfl)) rfl
theorem m_811 : Cond.selects RX9 yX9_layMarks yX9_layMarks ∈ k_all := k_mem (k_s5 (List.mem_of_getElem? (i := 7) rfl)) rfl
theorem m_812 : Cond.code yX9_layMarks cX9_layMarks 2 none ∈ k_all := k_mem (k_t5 (List.mem_of_getElem? (i := 167) rfl)) rfl
theorem m_817 : Cond.fieldLink RX8 200 "FrameBoard" "failCalls" "I" ∈ k_all := k_mem (k_t1 (List.mem_of_getElem? (i := 162) rfl)) rfl
theorem m_818 : Cond.methodLink RX8 203 yX8_firstRefuting ∈ k_all := k_mem (k_t3 (List.mem_of_getElem? (i := 147) rfl)) rfl
theorem m_819 : Cond.instanceMethod yX8_firstRefuting ∈ k_all := k_mem (k_t3 (List.mem_of_getElem? (i := 149) rfl)) rfl
theorem m_820 : Cond.selects RX8 yX8_firstRefuting yX8_firstRefuting ∈ k_all := k_mem (k_s2 (List.mem_of_getElem? (i := 10) rfl)) rfl
theorem m_821 : Cond.code yX8_firstRefuting cX8_firstRefuting 4 (some .int) ∈ k_all := k_mem (k_t3 (List.mem_of_getElem? (i := 150) rfl)) rfl
theorem m_822 : Cond.methodLink RX8 307 yX2_build ∈ k_all := k_mem (k_t3 (List.mem_of_getElem? (i := 151) rfl)) rfl
theorem m_823 : Cond.methodLink RX8 206 yX7_refuting ∈ k_all := k_mem (k_t3 (List.mem_of_getElem? (i := 152) rfl)) rfl
theorem m_824 : Cond.methodLink RX8 210 yX8_lowest ∈ k_all := k_mem (k_t3 (List.mem_of_getElem? (i := 153) rfl)) rfl
theorem m_825 : Cond.methodLink RX8 214 yX7_lowestWithout ∈ k_all := k_mem (k_t3 (List.mem_of_getElem? (i := 154) rfl)) rfl
theorem m_826 : Cond.instanceMethod yX7_lowestWithout ∈ k_all := k_mem (k_t3 (List.mem_of_getElem? (i := 155) rfl)) rfl
theorem m_827 : Cond.selects RX7 yX7_lowestWithout yX7_lowestWithout ∈ k_all := k_mem (k_t3 (List.mem_of_getElem? (i := 156) rfl)) rfl
theorem m_828 : Cond.code yX7_lowestWithout cX7_lowestWithout 4 (some .int) ∈ k_all := k_mem (k_t3 (List.mem_of_getElem? (i := 157) rfl)) rfl
theorem m_833 : Cond.fieldLink RX9 265 "FrameBoardModel" "failsTold" "I" ∈ k_all := k_mem (k_t4 (List.mem_of_getElem? (i := 36) rfl)) rfl
theorem m_834 : Cond.methodLink RX9 268 yX9_failNow ∈ k_all := k_mem (k_t5 (List.mem_of_getElem? (i := 172) rfl)) rfl
theorem m_835 : Cond.instanceMethod yX9_failNow ∈ k_all := k_mem (k_t5 (List.mem_of_getElem? (i := 174) rfl)) rfl
theorem m_836 : Cond.selects RX9 yX9_failNow yX9_failNow ∈ k_all := k_mem (k_s5 (List.mem_of_getElem? (i := 8) rfl)) rfl
theorem m_837 : Cond.code yX9_failNow cX9_failNow 6 (some .int) ∈ k_all := k_mem (k_t5 (List.mem_of_getElem? (i := 175) rfl)) rfl
theorem m_838 : Cond.methodLink RX9 261 yX9_layNumber ∈ k_all := k_mem (k_t5 (List.mem_of_getElem? (i := 176) rfl)) rfl
theorem m_839 : Cond.instanceMethod yX9_layNumber ∈ k_all := k_mem (k_t5 (List.mem_of_getElem? (i := 178) rfl)) rfl
theorem m_840 : Cond.selects RX9 yX9_layNumber yX9_layNumber ∈ k_all := k_mem (k_s5 (List.mem_of_getElem? (i := 9) rfl)) rfl
theorem m_841 : Cond.code yX9_layNumber cX9_layNumber 4 none ∈ k_all := k_mem (k_t5 (List.mem_of_getElem? (i := 179) rfl)) rfl
theorem m_846 : Cond.fieldLink RX8 217 "FrameBoard" "tellsCalls" "I" ∈ k_all := k_mem (k_t1 (List.mem_of_getElem? (i := 163) rfl)) rfl
theorem m_847 : Cond.methodLink RX8 220 yX8_defines ∈ k_all := k_mem (k_t3 (List.mem_of_getElem? (i := 162) rfl)) rfl
theorem m_848 : Cond.instanceMethod yX8_defines ∈ k_all := k_mem (k_t3 (List.mem_of_getElem? (i := 164) rfl)) rfl
theorem m_849 : Cond.selects RX8 yX8_defines yX8_defines ∈ k_all := k_mem (k_s2 (List.mem_of_getElem? (i := 11) rfl)) rfl
theorem m_850 : Cond.code yX8_defines cX8_defines 4 (some .boolean) ∈ k_all := k_mem (k_t3 (List.mem_of_getElem? (i := 165) rfl)) rfl
theorem m_851 : Cond.methodLink RX8 223 yX2_obeys ∈ k_all := k_mem (k_t3 (List.mem_of_getElem? (i := 166) rfl)) rfl
theorem m_856 : Cond.fieldLink RX9 271 "FrameBoardModel" "tellsTold" "I" ∈ k_all := k_mem (k_t4 (List.mem_of_getElem? (i := 37) rfl)) rfl
theorem m_857 : Cond.methodLink RX9 274 yX9_tellsNow ∈ k_all := k_mem (k_t5 (List.mem_of_getElem? (i := 184) rfl)) rfl
theorem m_858 : Cond.instanceMethod yX9_tellsNow ∈ k_all := k_mem (k_t5 (List.mem_of_getElem? (i := 186) rfl)) rfl
theorem m_859 : Cond.selects RX9 yX9_tellsNow yX9_tellsNow ∈ k_all := k_mem (k_s5 (List.mem_of_getElem? (i := 10) rfl)) rfl
theorem m_860 : Cond.code yX9_tellsNow cX9_tellsNow 3 (some .int) ∈ k_all := k_mem (k_t5 (List.mem_of_getElem? (i := 187) rfl)) rfl
theorem m_862 : Cond.instanceMethod yX8_keeps ∈ k_all := k_mem (k_t3 (List.mem_of_getElem? (i := 168) rfl)) rfl
theorem m_863 : Cond.selects RX8 yX8_keeps yX8_keeps ∈ k_all := k_mem (k_t3 (List.mem_of_getElem? (i := 169) rfl)) rfl
theorem m_864 : Cond.code yX8_keeps cX8_keeps 2 (some .int) ∈ k_all := k_mem (k_t3 (List.mem_of_getElem? (i := 170) rfl)) rfl
theorem m_869 : Cond.methodLink RX9 277 yX9_keepsTold ∈ k_all := k_mem (k_t5 (List.mem_of_getElem? (i := 192) rfl)) rfl
theorem m_870 : Cond.instanceMethod yX9_keepsTold ∈ k_all := k_mem (k_t5 (List.mem_of_getElem? (i := 194) rfl)) rfl
theorem m_871 : Cond.selects RX9 yX9_keepsTold yX9_keepsTold ∈ k_all := k_mem (k_s5 (List.mem_of_getElem? (i := 11) rfl)) rfl
theorem m_872 : Cond.code yX9_keepsTold cX9_keepsTold 2 (some .int) ∈ k_all := k_mem (k_t5 (List.mem_of_getElem? (i := 195) rfl)) rfl
theorem m_877 : Cond.fieldLink RX8 226 "FrameBoard$Observations" "number" "I" ∈ k_all := k_mem (k_t1 (List.mem_of_getElem? (i := 124) rfl)) rfl
theorem m_878 : Cond.methodLink RX8 229 yX4_note ∈ k_all := k_mem (k_t3 (List.mem_of_getElem? (i := 175) rfl)) rfl
theorem m_879 : Cond.instanceMethod yX4_note ∈ k_all := k_mem (k_t3 (List.mem_of_getElem? (i := 176) rfl)) rfl
theorem m_880 : Cond.selects RX4 yX4_note yX4_note ∈ k_all := k_mem (k_t3 (List.mem_of_getElem? (i := 177) rfl)) rfl
theorem m_881 : Cond.code yX4_note cX4_note 3 none ∈ k_all := k_mem (k_t3 (List.mem_of_getElem? (i := 178) rfl)) rfl
theorem m_882 : Cond.methodLink RX4 18 yX4_kindsWith ∈ k_all := k_mem (k_t3 (List.mem_of_getElem? (i := 179) rfl)) rfl
theorem m_883 : Cond.static yX4_kindsWith ∈ k_all := k_mem (k_t3 (List.mem_of_getElem? (i := 180) rfl)) rfl
theorem m_884 : Cond.code yX4_kindsWith cX4_kindsWith 1 (some .int) ∈ k_all := k_mem (k_t3 (List.mem_of_getElem? (i := 181) rfl)) rfl
theorem m_885 : Cond.fieldLink RX4 22 "FrameBoard$Observations" "KINDS_WITH" "[I" ∈ k_all := k_mem (k_t3 (List.mem_of_getElem? (i := 182) rfl)) rfl
theorem m_899 : Cond.instanceMethod yX8_sorts ∈ k_all := k_mem (k_t3 (List.mem_of_getElem? (i := 190) rfl)) rfl
theorem m_900 : Cond.selects RX8 yX8_sorts yX8_sorts ∈ k_all := k_mem (k_t3 (List.mem_of_getElem? (i := 191) rfl)) rfl
theorem m_901 : Cond.code yX8_sorts cX8_sorts 2 (some .int) ∈ k_all := k_mem (k_t3 (List.mem_of_getElem? (i := 192) rfl)) rfl
theorem m_902 : Cond.fieldLink RX8 233 "FrameBoard$Observations" "possible" "I" ∈ k_all := k_mem (k_t1 (List.mem_of_getElem? (i := 126) rfl)) rfl
theorem m_903 : Cond.methodLink RX8 236 yX4_bestQuestion ∈ k_all := k_mem (k_t3 (List.mem_of_getElem? (i := 193) rfl)) rfl
theorem m_904 : Cond.instanceMethod yX4_bestQuestion ∈ k_all := k_mem (k_t3 (List.mem_of_getElem? (i := 194) rfl)) rfl
theorem m_905 : Cond.selects RX4 yX4_bestQuestion yX4_bestQuestion ∈ k_all := k_mem (k_t3 (List.mem_of_getElem? (i := 195) rfl)) rfl
theorem m_906 : Cond.code yX4_bestQuestion cX4_bestQuestion 4 (some .int) ∈ k_all := k_mem (k_t3 (List.mem_of_getElem? (i := 196) rfl)) rfl
theorem m_907 : Cond.methodLink RX4 30 yX4_leftAtWorst ∈ k_all := k_mem (k_t3 (List.mem_of_getElem? (i := 197) rfl)) rfl
theorem m_908 : Cond.instanceMethod yX4_leftAtWorst ∈ k_all := k_mem (k_t3 (List.mem_of_getElem? (i := 199) rfl)) rfl
theorem m_909 : Cond.selects RX4 yX4_leftAtWorst yX4_leftAtWorst ∈ k_all := k_mem (k_s2 (List.mem_of_getElem? (i := 12) rfl)) rfl
theorem m_910 : Cond.code yX4_leftAtWorst cX4_leftAtWorst 3 (some .int) ∈ k_all := k_mem (k_t3 (List.mem_of_getElem? (i := 200) rfl)) rfl
theorem m_911 : Cond.methodLink RX4 38 Lib.Math.max.name ∈ k_all := k_mem (k_t3 (List.mem_of_getElem? (i := 202) rfl)) rfl
theorem m_912 : Cond.static Lib.Math.max.name ∈ k_all := k_mem (k_t3 (List.mem_of_getElem? (i := 203) rfl)) rfl
theorem m_913 : Cond.initialized "java/lang/Math" ∈ k_all := k_mem (k_t1 (List.mem_of_getElem? (i := 13) rfl)) rfl
theorem m_914 : Cond.code Lib.Math.max.name Lib.Math.max.code 2 (some .int) ∈ k_all := k_mem (k_t3 (List.mem_of_getElem? (i := 204) rfl)) rfl
theorem m_915 : Cond.methodLink RX4 33 yJ6_bitCount_0f7a4 ∈ k_all := k_mem (k_t3 (List.mem_of_getElem? (i := 201) rfl)) rfl
theorem m_920 : Cond.methodLink RX9 283 yX9_sortsNow ∈ k_all := k_mem (k_t5 (List.mem_of_getElem? (i := 208) rfl)) rfl
theorem m_921 : Cond.instanceMethod yX9_sortsNow ∈ k_all := k_mem (k_t5 (List.mem_of_getElem? (i := 210) rfl)) rfl
theorem m_922 : Cond.selects RX9 yX9_sortsNow yX9_sortsNow ∈ k_all := k_mem (k_s5 (List.mem_of_getElem? (i := 12) rfl)) rfl
theorem m_923 : Cond.code yX9_sortsNow cX9_sortsNow 5 (some .int) ∈ k_all := k_mem (k_t5 (List.mem_of_getElem? (i := 211) rfl)) rfl
theorem m_924 : Cond.methodLink RX9 280 yX9_could ∈ k_all := k_mem (k_t5 (List.mem_of_getElem? (i := 212) rfl)) rfl
theorem m_925 : Cond.static yX9_could ∈ k_all := k_mem (k_t5 (List.mem_of_getElem? (i := 213) rfl)) rfl
theorem m_926 : Cond.code yX9_could cX9_could 2 (some .boolean) ∈ k_all := k_mem (k_t5 (List.mem_of_getElem? (i := 214) rfl)) rfl
theorem m_927 : Cond.methodLink RX9 290 yX9_askNow ∈ k_all := k_mem (k_t5 (List.mem_of_getElem? (i := 215) rfl)) rfl
theorem m_928 : Cond.instanceMethod yX9_askNow ∈ k_all := k_mem (k_t5 (List.mem_of_getElem? (i := 217) rfl)) rfl
theorem m_929 : Cond.selects RX9 yX9_askNow yX9_askNow ∈ k_all := k_mem (k_s5 (List.mem_of_getElem? (i := 13) rfl)) rfl
theorem m_930 : Cond.code yX9_askNow cX9_askNow 8 (some .int) ∈ k_all := k_mem (k_t5 (List.mem_of_getElem? (i := 218) rfl)) rfl
theorem m_931 : Cond.constant RX9 286 (268435456) ∈ k_all := k_mem (k_t5 (List.mem_of_getElem? (i := 219) rfl)) rfl
theorem m_932 : Cond.methodLink RX9 287 yX9_size ∈ k_all := k_mem (k_t5 (List.mem_of_getElem? (i := 220) rfl)) rfl
theorem m_933 : Cond.static yX9_size ∈ k_all := k_mem (k_t5 (List.mem_of_getElem? (i := 221) rfl)) rfl
theorem m_934 : Cond.code yX9_size cX9_size 3 (some .int) ∈ k_all := k_mem (k_t5 (List.mem_of_getElem? (i := 222) rfl)) rfl
theorem m_939 : Cond.constantLong RX8 247 (-1) ∈ k_all := k_mem (k_t3 (List.mem_of_getElem? (i := 219) rfl)) rfl
theorem m_940 : Cond.methodLink RX8 239 yX7_useDrawn ∈ k_all := k_mem (k_t3 (List.mem_of_getElem? (i := 209) rfl)) rfl
theorem m_941 : Cond.instanceMethod yX7_useDrawn ∈ k_all := k_mem (k_t3 (List.mem_of_getElem? (i := 210) rfl)) rfl
theorem m_942 : Cond.selects RX7 yX7_useDrawn yX7_useDrawn ∈ k_all := k_mem (k_t3 (List.mem_of_getElem? (i := 211) rfl)) rfl
theorem m_943 : Cond.code yX7_useDrawn cX7_useDrawn 7 (some .int) ∈ k_all := k_mem (k_t3 (List.mem_of_getElem? (i := 212) rfl)) rfl
theorem m_944 : Cond.constant RX7 43 (1103515245) ∈ k_all := k_mem (k_t3 (List.mem_of_getElem? (i := 213) rfl)) rfl
theorem m_945 : Cond.constant RX7 44 (2147483647) ∈ k_all := k_mem (k_t3 (List.mem_of_getElem? (i := 214) rfl)) rfl
theorem m_946 : Cond.methodLink RX7 45 yX7_addLetters ∈ k_all := k_mem (k_t3 (List.mem_of_getElem? (i := 215) rfl)) rfl
theorem m_947 : Cond.instanceMethod yX7_addLetters ∈ k_all := k_mem (k_t3 (List.mem_of_getElem? (i := 217) rfl)) rfl
theorem m_948 : Cond.selects RX7 yX7_addLetters yX7_addLetters ∈ k_all := k_mem (k_s2 (List.mem_of_getElem? (i := 13) rfl)) rfl
theorem m_949 : Cond.code yX7_addLetters cX7_addLetters 4 none ∈ k_all := k_mem (k_t3 (List.mem_of_getElem? (i := 218) rfl)) rfl
theorem m_950 : Cond.methodLink RX8 253 yX7_heldIn ∈ k_all := k_mem (k_t3 (List.mem_of_getElem? (i := 220) rfl)) rfl
theorem m_951 : Cond.instanceMethod yX7_heldIn ∈ k_all := k_mem (k_t3 (List.mem_of_getElem? (i := 221) rfl)) rfl
theorem m_952 : Cond.selects RX7 yX7_heldIn yX7_heldIn ∈ k_all := k_mem (k_t3 (List.mem_of_getElem? (i := 222) rfl)) rfl
theorem m_953 : Cond.code yX7_heldIn cX7_heldIn 6 (some .int) ∈ k_all := k_mem (k_t3 (List.mem_of_getElem? (i := 223) rfl)) rfl
theorem m_954 : Cond.methodLink RX7 105 yJ13_bitCount_95d88 ∈ k_all := k_mem (k_t3 (List.mem_of_getElem? (i := 224) rfl)) rfl
theorem m_959 : Cond.methodLink RX9 308 yX9_drawnNow ∈ k_all := k_mem (k_t5 (List.mem_of_getElem? (i := 227) rfl)) rfl
theorem m_960 : Cond.instanceMethod yX9_drawnNow ∈ k_all := k_mem (k_t5 (List.mem_of_getElem? (i := 229) rfl)) rfl
theorem m_961 : Cond.selects RX9 yX9_drawnNow yX9_drawnNow ∈ k_all := k_mem (k_s5 (List.mem_of_getElem? (i := 14) rfl)) rfl
theorem m_962 : Cond.code yX9_drawnNow cX9_drawnNow 9 (some .int) ∈ k_all := k_mem (k_t5 (List.mem_of_getElem? (i := 230) rfl)) rfl
theorem m_963 : Cond.fieldLink RX9 295 "FrameBoardModel" "seedNow" "J" ∈ k_all := k_mem (k_t4 (List.mem_of_getElem? (i := 58) rfl)) rfl
theorem m_964 : Cond.methodLink RX9 305 yX9_drawOf ∈ k_all := k_mem (k_t5 (List.mem_of_getElem? (i := 231) rfl)) rfl
theorem m_965 : Cond.instanceMethod yX9_drawOf ∈ k_all := k_mem (k_t5 (List.mem_of_getElem? (i := 233) rfl)) rfl
theorem m_966 : Cond.selects RX9 yX9_drawOf yX9_drawOf ∈ k_all := k_mem (k_s5 (List.mem_of_getElem? (i := 15) rfl)) rfl
theorem m_967 : Cond.code yX9_drawOf cX9_drawOf 2 (some .int) ∈ k_all := k_mem (k_t5 (List.mem_of_getElem? (i := 234) rfl)) rfl
theorem m_968 : Cond.constantLong RX9 293 (1103515245) ∈ k_all := k_mem (k_t5 (List.mem_of_getElem? (i := 235) rfl)) rfl
theorem m_969 : Cond.constantLong RX9 299 (12345) ∈ k_all := k_mem (k_t5 (List.mem_of_getElem? (i := 236) rfl)) rfl
theorem m_970 : Cond.constantLong RX9 301 (2147483647) ∈ k_all := k_mem (k_t5 (List.mem_of_getElem? (i := 237) rfl)) rfl
theorem m_971 : Cond.constantLong RX9 303 (65536) ∈ k_all := k_mem (k_t5 (List.mem_of_getElem? (i := 238) rfl)) rfl
theorem m_976 : Cond.methodLink RX8 257 yX4_copy ∈ k_all := k_mem (k_t3 (List.mem_of_getElem? (i := 229) rfl)) rfl
theorem m_977 : Cond.instanceMethod yX4_copy ∈ k_all := k_mem (k_t3 (List.mem_of_getElem? (i := 230) rfl)) rfl
theorem m_978 : Cond.selects RX4 yX4_copy yX4_copy ∈ k_all := k_mem (k_t3 (List.mem_of_getElem? (i := 231) rfl)) rfl
theorem m_979 : Cond.code yX4_copy cX4_copy 2 none ∈ k_all := k_mem (k_t3 (List.mem_of_getElem? (i := 232) rfl)) rfl
theorem m_984 : Cond.fieldLink RX9 312 "FrameBoardModel" "keptFrame" "I" ∈ k_all := k_mem (k_t4 (List.mem_of_getElem? (i := 59) rfl)) rfl
theorem m_985 : Cond.fieldLink RX9 315 "FrameBoardModel" "keptKind" "I" ∈ k_all := k_mem (k_t4 (List.mem_of_getElem? (i := 60) rfl)) rfl
theorem m_986 : Cond.fieldLink RX9 318 "FrameBoardModel" "keptWorlds" "I" ∈ k_all := k_mem (k_t4 (List.mem_of_getElem? (i := 61) rfl)) rfl
theorem m_987 : Cond.fieldLink RX9 321 "FrameBoardModel" "keptSeen" "I" ∈ k_all := k_mem (k_t4 (List.mem_of_getElem? (i := 62) rfl)) rfl
theorem m_997 : Cond.instanceMethod yX8_count ∈ k_all := k_mem (k_t3 (List.mem_of_getElem? (i := 238) rfl)) rfl
theorem m_998 : Cond.selects RX8 yX8_count yX8_count ∈ k_all := k_mem (k_t3 (List.mem_of_getElem? (i := 239) rfl)) rfl
theorem m_999 : Cond.code yX8_count cX8_count 2 (some .int) ∈ k_all := k_mem (k_t4 (List.mem_of_getElem? (i := 0) rfl)) rfl
theorem m_1000 : Cond.methodLink RX8 260 yX8_lawsObeyed ∈ k_all := k_mem (k_t4 (List.mem_of_getElem? (i := 1) rfl)) rfl
theorem m_1001 : Cond.instanceMethod yX8_lawsObeyed ∈ k_all := k_mem (k_t4 (List.mem_of_getElem? (i := 3) rfl)) rfl
theorem m_1002 : Cond.selects RX8 yX8_lawsObeyed yX8_lawsObeyed ∈ k_all := k_mem (k_s2 (List.mem_of_getElem? (i := 14) rfl)) rfl
theorem m_1003 : Cond.code yX8_lawsObeyed cX8_lawsObeyed 3 (some .int) ∈ k_all := k_mem (k_t4 (List.mem_of_getElem? (i := 4) rfl)) rfl
theorem m_1008 : Cond.methodLink RX9 327 yX9_howMany ∈ k_all := k_mem (k_t6 (List.mem_of_getElem? (i := 11) rfl)) rfl
theorem m_1009 : Cond.instanceMethod yX9_howMany ∈ k_all := k_mem (k_t6 (List.mem_of_getElem? (i := 13) rfl)) rfl
theorem m_1010 : Cond.selects RX9 yX9_howMany yX9_howMany ∈ k_all := k_mem (k_s6 (List.mem_of_getElem? (i := 0) rfl)) rfl
theorem m_1011 : Cond.code yX9_howMany cX9_howMany 2 (some .int) ∈ k_all := k_mem (k_t6 (List.mem_of_getElem? (i := 14) rfl)) rfl
theorem m_1012 : Cond.methodLink RX9 324 yX9_lawsKept ∈ k_all := k_mem (k_t6 (List.mem_of_getElem? (i := 15) rfl)) rfl
theorem m_1013 : Cond.instanceMethod yX9_lawsKept ∈ k_all := k_mem (k_t6 (List.mem_of_getElem? (i := 17) rfl)) rfl
theorem m_1014 : Cond.selects RX9 yX9_lawsKept yX9_lawsKept ∈ k_all := k_mem (k_s6 (List.mem_of_getElem? (i := 1) rfl)) rfl
theorem m_1015 : Cond.code yX9_lawsKept cX9_lawsKept 3 (some .int) ∈ k_all := k_mem (k_t6 (List.mem_of_getElem? (i := 18) rfl)) rfl
theorem m_1020 : Cond.constantLong RX8 263 (1481) ∈ k_all := k_mem (k_t4 (List.mem_of_getElem? (i := 9) rfl)) rfl
theorem m_1021 : Cond.constantLong RX8 265 (31) ∈ k_all := k_mem (k_t4 (List.mem_of_getElem? (i := 10) rfl)) rfl
theorem m_1022 : Cond.methodLink RX8 267 yX8_about ∈ k_all := k_mem (k_t4 (List.mem_of_getElem? (i := 11) rfl)) rfl
theorem m_1023 : Cond.methodLink RX8 270 yX8_world ∈ k_all := k_mem (k_t4 (List.mem_of_getElem? (i := 12) rfl)) rfl
theorem m_1024 : Cond.methodLink RX8 273 yX8_arrow ∈ k_all := k_mem (k_t4 (List.mem_of_getElem? (i := 13) rfl)) rfl
theorem m_1025 : Cond.methodLink RX8 276 yX8_keeps ∈ k_all := k_mem (k_t4 (List.mem_of_getElem? (i := 14) rfl)) rfl
theorem m_1026 : Cond.methodLink RX8 279 yX8_valid ∈ k_all := k_mem (k_t4 (List.mem_of_getElem? (i := 15) rfl)) rfl
theorem m_1027 : Cond.methodLink RX8 282 yX8_part ∈ k_all := k_mem (k_t4 (List.mem_of_getElem? (i := 16) rfl)) rfl
theorem m_1028 : Cond.methodLink RX8 285 yX8_sign ∈ k_all := k_mem (k_t4 (List.mem_of_getElem? (i := 17) rfl)) rfl
theorem m_1029 : Cond.methodLink RX8 288 yX8_sorts ∈ k_all := k_mem (k_t4 (List.mem_of_getElem? (i := 18) rfl)) rfl
theorem m_1030 : Cond.methodLink RX8 291 yX5_at ∈ k_all := k_mem (k_t4 (List.mem_of_getElem? (i := 19) rfl)) rfl
theorem m_1031 : Cond.methodLink RX8 294 yX8_count ∈ k_all := k_mem (k_t4 (List.mem_of_getElem? (i := 20) rfl)) rfl
theorem m_1036 : Cond.constantLong RX9 342 (1481) ∈ k_all := k_mem (k_t6 (List.mem_of_getElem? (i := 23) rfl)) rfl
theorem m_1037 : Cond.fieldLink RX9 332 "FrameBoardModel" "h" "J" ∈ k_all := k_mem (k_t4 (List.mem_of_getElem? (i := 67) rfl)) rfl
theorem m_1038 : Cond.methodLink RX9 344 yX9_mixFrame ∈ k_all := k_mem (k_t6 (List.mem_of_getElem? (i := 24) rfl)) rfl
theorem m_1039 : Cond.instanceMethod yX9_mixFrame ∈ k_all := k_mem (k_t6 (List.mem_of_getElem? (i := 26) rfl)) rfl
theorem m_1040 : Cond.selects RX9 yX9_mixFrame yX9_mixFrame ∈ k_all := k_mem (k_s6 (List.mem_of_getElem? (i := 2) rfl)) rfl
theorem m_1041 : Cond.code yX9_mixFrame cX9_mixFrame 2 none ∈ k_all := k_mem (k_t6 (List.mem_of_getElem? (i := 27) rfl)) rfl
theorem m_1042 : Cond.methodLink RX9 335 yX9_mix ∈ k_all := k_mem (k_t6 (List.mem_of_getElem? (i := 28) rfl)) rfl
theorem m_1043 : Cond.instanceMethod yX9_mix ∈ k_all := k_mem (k_t6 (List.mem_of_getElem? (i := 30) rfl)) rfl
theorem m_1044 : Cond.selects RX9 yX9_mix yX9_mix ∈ k_all := k_mem (k_s6 (List.mem_of_getElem? (i := 3) rfl)) rfl
theorem m_1045 : Cond.code yX9_mix cX9_mix 3 none ∈ k_all := k_mem (k_t6 (List.mem_of_getElem? (i := 31) rfl)) rfl
theorem m_1046 : Cond.constantLong RX9 330 (31) ∈ k_all := k_mem (k_t6 (List.mem_of_getElem? (i := 32) rfl)) rfl
theorem m_1047 : Cond.methodLink RX9 339 yX9_mixWorld ∈ k_all := k_mem (k_t6 (List.mem_of_getElem? (i := 33) rfl)) rfl
theorem m_1048 : Cond.instanceMethod yX9_mixWorld ∈ k_all := k_mem (k_t6 (List.mem_of_getElem? (i := 35) rfl)) rfl
theorem m_1049 : Cond.selects RX9 yX9_mixWorld yX9_mixWorld ∈ k_all := k_mem (k_s6 (List.mem_of_getElem? (i := 4) rfl)) rfl
theorem m_1050 : Cond.code yX9_mixWorld cX9_mixWorld 3 none ∈ k_all := k_mem (k_t6 (List.mem_of_getElem? (i := 36) rfl)) rfl
theorem ml_X0_0 : Cond.laysFinal RX0 "FrameBoard$Formula" "signs" "[I" ∈ k_all := k_mem (k_t1 (List.mem_of_getElem? (i := 110) rfl)) rfl
theorem ml_X0_1 : Cond.laysFinal RX0 "FrameBoard$Formula" "ends" "[I" ∈ k_all := k_mem (k_t1 (List.mem_of_getElem? (i := 112) rfl)) rfl
theorem ml_X0_2 : Cond.lays RX0 "FrameBoard$Formula" "length" "I" ∈ k_all := k_mem (k_t1 (List.mem_of_getElem? (i := 114) rfl)) rfl
theorem inlX0 : ∀ w ∈ wsX00, w ∈ k_all := by
  show ∀ w ∈ [Cond.laysFinal RX0 "FrameBoard$Formula" "signs" "[I", Cond.laysFinal RX0 "FrameBoard$Formula" "ends" "[I", Cond.lays RX0 "FrameBoard$Formula" "length" "I"], w ∈ k_all
  exact List.forall_mem_cons.mpr ⟨ml_X0_0, List.forall_mem_cons.mpr ⟨ml_X0_1, List.forall_mem_cons.mpr ⟨ml_X0_2, fun w h => absurd h List.not_mem_nil⟩⟩⟩
theorem ml_X1_0 : Cond.lays RX1 "FrameBoard$FormulaText" "read" "I" ∈ k_all := k_mem (k_t1 (List.mem_of_getElem? (i := 94) rfl)) rfl
theorem ml_X1_1 : Cond.lays RX1 "FrameBoard$FormulaText" "due" "I" ∈ k_all := k_mem (k_t1 (List.mem_of_getElem? (i := 96) rfl)) rfl
theorem inlX1 : ∀ w ∈ wsX10, w ∈ k_all := by
  show ∀ w ∈ [Cond.lays RX1 "FrameBoard$FormulaText" "read" "I", Cond.lays RX1 "FrameBoard$FormulaText" "due" "I"], w ∈ k_all
  exact List.forall_mem_cons.mpr ⟨ml_X1_0, List.forall_mem_cons.mpr ⟨ml_X1_1, fun w h => absurd h List.not_mem_nil⟩⟩
theorem ml_X2_0 : Cond.lays RX2 "FrameBoard$Frame" "kind" "I" ∈ k_all := k_mem (k_t1 (List.mem_of_getElem? (i := 61) rfl)) rfl
theorem ml_X2_1 : Cond.lays RX2 "FrameBoard$Frame" "worlds" "I" ∈ k_all := k_mem (k_t1 (List.mem_of_getElem? (i := 63) rfl)) rfl
theorem ml_X2_2 : Cond.lays RX2 "FrameBoard$Frame" "arrows" "I" ∈ k_all := k_mem (k_t1 (List.mem_of_getElem? (i := 65) rfl)) rfl
theorem ml_X2_3 : Cond.lays RX2 "FrameBoard$Frame" "p" "I" ∈ k_all := k_mem (k_t1 (List.mem_of_getElem? (i := 67) rfl)) rfl
theorem ml_X2_4 : Cond.lays RX2 "FrameBoard$Frame" "q" "I" ∈ k_all := k_mem (k_t1 (List.mem_of_getElem? (i := 69) rfl)) rfl
theorem inlX2 : ∀ w ∈ wsX20, w ∈ k_all := by
  show ∀ w ∈ [Cond.lays RX2 "FrameBoard$Frame" "kind" "I", Cond.lays RX2 "FrameBoard$Frame" "worlds" "I", Cond.lays RX2 "FrameBoard$Frame" "arrows" "I", Cond.lays RX2 "FrameBoard$Frame" "p" "I", Cond.lays RX2 "FrameBoard$Frame" "q" "I"], w ∈ k_all
  exact List.forall_mem_cons.mpr ⟨ml_X2_0, List.forall_mem_cons.mpr ⟨ml_X2_1, List.forall_mem_cons.mpr ⟨ml_X2_2, List.forall_mem_cons.mpr ⟨ml_X2_3, List.forall_mem_cons.mpr ⟨ml_X2_4, fun w h => absurd h List.not_mem_nil⟩⟩⟩⟩⟩
theorem ml_X3_0 : Cond.laysFinal RX3 "FrameBoard$FrameText" "draft" "LFrameBoard$Frame;" ∈ k_all := k_mem (k_t1 (List.mem_of_getElem? (i := 77) rfl)) rfl
theorem ml_X3_1 : Cond.lays RX3 "FrameBoard$FrameText" "place" "I" ∈ k_all := k_mem (k_t1 (List.mem_of_getElem? (i := 79) rfl)) rfl
theorem ml_X3_2 : Cond.lays RX3 "FrameBoard$FrameText" "from" "I" ∈ k_all := k_mem (k_t1 (List.mem_of_getElem? (i := 81) rfl)) rfl
theorem ml_X3_3 : Cond.lays RX3 "FrameBoard$FrameText" "leastWorld" "I" ∈ k_all := k_mem (k_t1 (List.mem_of_getElem? (i := 83) rfl)) rfl
theorem inlX3 : ∀ w ∈ wsX30, w ∈ k_all := by
  show ∀ w ∈ [Cond.laysFinal RX3 "FrameBoard$FrameText" "draft" "LFrameBoard$Frame;", Cond.lays RX3 "FrameBoard$FrameText" "place" "I", Cond.lays RX3 "FrameBoard$FrameText" "from" "I", Cond.lays RX3 "FrameBoard$FrameText" "leastWorld" "I"], w ∈ k_all
  exact List.forall_mem_cons.mpr ⟨ml_X3_0, List.forall_mem_cons.mpr ⟨ml_X3_1, List.forall_mem_cons.mpr ⟨ml_X3_2, List.forall_mem_cons.mpr ⟨ml_X3_3, fun w h => absurd h List.not_mem_nil⟩⟩⟩⟩
theorem ml_X4_0 : Cond.lays RX4 "FrameBoard$Observations" "number" "I" ∈ k_all := k_mem (k_t1 (List.mem_of_getElem? (i := 127) rfl)) rfl
theorem ml_X4_1 : Cond.lays RX4 "FrameBoard$Observations" "possible" "I" ∈ k_all := k_mem (k_t1 (List.mem_of_getElem? (i := 129) rfl)) rfl
theorem inlX4 : ∀ w ∈ wsX40, w ∈ k_all := by
  show ∀ w ∈ [Cond.lays RX4 "FrameBoard$Observations" "number" "I", Cond.lays RX4 "FrameBoard$Observations" "possible" "I"], w ∈ k_all
  exact List.forall_mem_cons.mpr ⟨ml_X4_0, List.forall_mem_cons.mpr ⟨ml_X4_1, fun w h => absurd h List.not_mem_nil⟩⟩
theorem ml_X5_0 : Cond.laysFinal RX5 "FrameBoard$Page" "codes" "[I" ∈ k_all := k_mem (k_t1 (List.mem_of_getElem? (i := 30) rfl)) rfl
theorem ml_X5_1 : Cond.lays RX5 "FrameBoard$Page" "length" "I" ∈ k_all := k_mem (k_t1 (List.mem_of_getElem? (i := 32) rfl)) rfl
theorem inlX5 : ∀ w ∈ wsX50, w ∈ k_all := by
  show ∀ w ∈ [Cond.laysFinal RX5 "FrameBoard$Page" "codes" "[I", Cond.lays RX5 "FrameBoard$Page" "length" "I"], w ∈ k_all
  exact List.forall_mem_cons.mpr ⟨ml_X5_0, List.forall_mem_cons.mpr ⟨ml_X5_1, fun w h => absurd h List.not_mem_nil⟩⟩
theorem ml_X7_0 : Cond.laysFinal RX7 "FrameBoard$Truth" "p" "[J" ∈ k_all := k_mem (k_t1 (List.mem_of_getElem? (i := 141) rfl)) rfl
theorem ml_X7_1 : Cond.laysFinal RX7 "FrameBoard$Truth" "q" "[J" ∈ k_all := k_mem (k_t1 (List.mem_of_getElem? (i := 143) rfl)) rfl
theorem ml_X7_2 : Cond.laysFinal RX7 "FrameBoard$Truth" "held" "[J" ∈ k_all := k_mem (k_t1 (List.mem_of_getElem? (i := 145) rfl)) rfl
theorem inlX7 : ∀ w ∈ wsX70, w ∈ k_all := by
  show ∀ w ∈ [Cond.laysFinal RX7 "FrameBoard$Truth" "p" "[J", Cond.laysFinal RX7 "FrameBoard$Truth" "q" "[J", Cond.laysFinal RX7 "FrameBoard$Truth" "held" "[J"], w ∈ k_all
  exact List.forall_mem_cons.mpr ⟨ml_X7_0, List.forall_mem_cons.mpr ⟨ml_X7_1, List.forall_mem_cons.mpr ⟨ml_X7_2, fun w h => absurd h List.not_mem_nil⟩⟩⟩
theorem ml_X8_0 : Cond.laysFinal RX8 "FrameBoard" "page" "LFrameBoard$Page;" ∈ k_all := k_mem (k_t1 (List.mem_of_getElem? (i := 164) rfl)) rfl
theorem ml_X8_1 : Cond.laysFinal RX8 "FrameBoard" "frameText" "LFrameBoard$FrameText;" ∈ k_all := k_mem (k_t1 (List.mem_of_getElem? (i := 166) rfl)) rfl
theorem ml_X8_2 : Cond.laysFinal RX8 "FrameBoard" "formulaText" "LFrameBoard$FormulaText;" ∈ k_all := k_mem (k_t1 (List.mem_of_getElem? (i := 168) rfl)) rfl
theorem ml_X8_3 : Cond.laysFinal RX8 "FrameBoard" "frame" "LFrameBoard$Frame;" ∈ k_all := k_mem (k_t1 (List.mem_of_getElem? (i := 170) rfl)) rfl
theorem ml_X8_4 : Cond.laysFinal RX8 "FrameBoard" "formula" "LFrameBoard$Formula;" ∈ k_all := k_mem (k_t1 (List.mem_of_getElem? (i := 172) rfl)) rfl
theorem ml_X8_5 : Cond.laysFinal RX8 "FrameBoard" "observations" "LFrameBoard$Observations;" ∈ k_all := k_mem (k_t1 (List.mem_of_getElem? (i := 174) rfl)) rfl
theorem ml_X8_6 : Cond.laysFinal RX8 "FrameBoard" "savedFrame" "LFrameBoard$Frame;" ∈ k_all := k_mem (k_t1 (List.mem_of_getElem? (i := 176) rfl)) rfl
theorem ml_X8_7 : Cond.laysFinal RX8 "FrameBoard" "savedObservations" "LFrameBoard$Observations;" ∈ k_all := k_mem (k_t1 (List.mem_of_getElem? (i := 178) rfl)) rfl
theorem ml_X8_8 : Cond.laysFinal RX8 "FrameBoard" "candidate" "LFrameBoard$Frame;" ∈ k_all := k_mem (k_t1 (List.mem_of_getElem? (i := 180) rfl)) rfl
theorem ml_X8_9 : Cond.laysFinal RX8 "FrameBoard" "truth" "LFrameBoard$Truth;" ∈ k_all := k_mem (k_t1 (List.mem_of_getElem? (i := 182) rfl)) rfl
theorem ml_X8_10 : Cond.lays RX8 "FrameBoard" "saved" "Z" ∈ k_all := k_mem (k_t1 (List.mem_of_getElem? (i := 184) rfl)) rfl
theorem ml_X8_11 : Cond.lays RX8 "FrameBoard" "framesRead" "I" ∈ k_all := k_mem (k_t1 (List.mem_of_getElem? (i := 186) rfl)) rfl
theorem ml_X8_12 : Cond.lays RX8 "FrameBoard" "formulasRead" "I" ∈ k_all := k_mem (k_t1 (List.mem_of_getElem? (i := 188) rfl)) rfl
theorem ml_X8_13 : Cond.lays RX8 "FrameBoard" "failCalls" "I" ∈ k_all := k_mem (k_t1 (List.mem_of_getElem? (i := 190) rfl)) rfl
theorem ml_X8_14 : Cond.lays RX8 "FrameBoard" "tellsCalls" "I" ∈ k_all := k_mem (k_t1 (List.mem_of_getElem? (i := 192) rfl)) rfl
theorem inlX8 : ∀ w ∈ wsX80, w ∈ k_all := by
  show ∀ w ∈ [Cond.laysFinal RX8 "FrameBoard" "page" "LFrameBoard$Page;", Cond.laysFinal RX8 "FrameBoard" "frameText" "LFrameBoard$FrameText;", Cond.laysFinal RX8 "FrameBoard" "formulaText" "LFrameBoard$FormulaText;", Cond.laysFinal RX8 "FrameBoard" "frame" "LFrameBoard$Frame;", Cond.laysFinal RX8 "FrameBoard" "formula" "LFrameBoard$Formula;", Cond.laysFinal RX8 "FrameBoard" "observations" "LFrameBoard$Observations;", Cond.laysFinal RX8 "FrameBoard" "savedFrame" "LFrameBoard$Frame;", Cond.laysFinal RX8 "FrameBoard" "savedObservations" "LFrameBoard$Observations;", Cond.laysFinal RX8 "FrameBoard" "candidate" "LFrameBoard$Frame;", Cond.laysFinal RX8 "FrameBoard" "truth" "LFrameBoard$Truth;", Cond.lays RX8 "FrameBoard" "saved" "Z", Cond.lays RX8 "FrameBoard" "framesRead" "I", Cond.lays RX8 "FrameBoard" "formulasRead" "I", Cond.lays RX8 "FrameBoard" "failCalls" "I", Cond.lays RX8 "FrameBoard" "tellsCalls" "I"], w ∈ k_all
  exact List.forall_mem_cons.mpr ⟨ml_X8_0, List.forall_mem_cons.mpr ⟨ml_X8_1, List.forall_mem_cons.mpr ⟨ml_X8_2, List.forall_mem_cons.mpr ⟨ml_X8_3, List.forall_mem_cons.mpr ⟨ml_X8_4, List.forall_mem_cons.mpr ⟨ml_X8_5, List.forall_mem_cons.mpr ⟨ml_X8_6, List.forall_mem_cons.mpr ⟨ml_X8_7, List.forall_mem_cons.mpr ⟨ml_X8_8, List.forall_mem_cons.mpr ⟨ml_X8_9, List.forall_mem_cons.mpr ⟨ml_X8_10, List.forall_mem_cons.mpr ⟨ml_X8_11, List.forall_mem_cons.mpr ⟨ml_X8_12, List.forall_mem_cons.mpr ⟨ml_X8_13, List.forall_mem_cons.mpr ⟨ml_X8_14, fun w h => absurd h List.not_mem_nil⟩⟩⟩⟩⟩⟩⟩⟩⟩⟩⟩⟩⟩⟩⟩
theorem ml_X9_0 : Cond.lays RX9 "FrameBoardModel" "kind" "I" ∈ k_all := k_mem (k_t4 (List.mem_of_getElem? (i := 68) rfl)) rfl
theorem ml_X9_1 : Cond.lays RX9 "FrameBoardModel" "worlds" "I" ∈ k_all := k_mem (k_t4 (List.mem_of_getElem? (i := 70) rfl)) rfl
theorem ml_X9_2 : Cond.laysFinal RX9 "FrameBoardModel" "arrows" "[Z" ∈ k_all := k_mem (k_t4 (List.mem_of_getElem? (i := 72) rfl)) rfl
theorem ml_X9_3 : Cond.laysFinal RX9 "FrameBoardModel" "marks" "[I" ∈ k_all := k_mem (k_t4 (List.mem_of_getElem? (i := 74) rfl)) rfl
theorem ml_X9_4 : Cond.lays RX9 "FrameBoardModel" "frames" "I" ∈ k_all := k_mem (k_t4 (List.mem_of_getElem? (i := 76) rfl)) rfl
theorem ml_X9_5 : Cond.lays RX9 "FrameBoardModel" "signs" "I" ∈ k_all := k_mem (k_t4 (List.mem_of_getElem? (i := 78) rfl)) rfl
theorem ml_X9_6 : Cond.laysFinal RX9 "FrameBoardModel" "signAt" "[B" ∈ k_all := k_mem (k_t4 (List.mem_of_getElem? (i := 80) rfl)) rfl
theorem ml_X9_7 : Cond.laysFinal RX9 "FrameBoardModel" "behind" "[I" ∈ k_all := k_mem (k_t4 (List.mem_of_getElem? (i := 82) rfl)) rfl
theorem ml_X9_8 : Cond.lays RX9 "FrameBoardModel" "formulas" "I" ∈ k_all := k_mem (k_t4 (List.mem_of_getElem? (i := 84) rfl)) rfl
theorem ml_X9_9 : Cond.lays RX9 "FrameBoardModel" "failsTold" "I" ∈ k_all := k_mem (k_t4 (List.mem_of_getElem? (i := 86) rfl)) rfl
theorem ml_X9_10 : Cond.lays RX9 "FrameBoardModel" "tellsTold" "I" ∈ k_all := k_mem (k_t4 (List.mem_of_getElem? (i := 88) rfl)) rfl
theorem ml_X9_11 : Cond.lays RX9 "FrameBoardModel" "seen" "I" ∈ k_all := k_mem (k_t4 (List.mem_of_getElem? (i := 90) rfl)) rfl
theorem ml_X9_12 : Cond.laysFinal RX9 "FrameBoardModel" "seenWhat" "[I" ∈ k_all := k_mem (k_t4 (List.mem_of_getElem? (i := 92) rfl)) rfl
theorem ml_X9_13 : Cond.laysFinal RX9 "FrameBoardModel" "seenCan" "[Z" ∈ k_all := k_mem (k_t4 (List.mem_of_getElem? (i := 94) rfl)) rfl
theorem ml_X9_14 : Cond.lays RX9 "FrameBoardModel" "pageLength" "I" ∈ k_all := k_mem (k_t4 (List.mem_of_getElem? (i := 96) rfl)) rfl
theorem ml_X9_15 : Cond.laysFinal RX9 "FrameBoardModel" "page" "[B" ∈ k_all := k_mem (k_t4 (List.mem_of_getElem? (i := 98) rfl)) rfl
theorem ml_X9_16 : Cond.lays RX9 "FrameBoardModel" "stage" "I" ∈ k_all := k_mem (k_t4 (List.mem_of_getElem? (i := 100) rfl)) rfl
theorem ml_X9_17 : Cond.lays RX9 "FrameBoardModel" "newKind" "I" ∈ k_all := k_mem (k_t4 (List.mem_of_getElem? (i := 102) rfl)) rfl
theorem ml_X9_18 : Cond.lays RX9 "FrameBoardModel" "newWorlds" "I" ∈ k_all := k_mem (k_t4 (List.mem_of_getElem? (i := 104) rfl)) rfl
theorem ml_X9_19 : Cond.lays RX9 "FrameBoardModel" "newFrom" "I" ∈ k_all := k_mem (k_t4 (List.mem_of_getElem? (i := 106) rfl)) rfl
theorem ml_X9_20 : Cond.lays RX9 "FrameBoardModel" "newLast" "I" ∈ k_all := k_mem (k_t4 (List.mem_of_getElem? (i := 108) rfl)) rfl
theorem ml_X9_21 : Cond.lays RX9 "FrameBoardModel" "newP" "I" ∈ k_all := k_mem (k_t4 (List.mem_of_getElem? (i := 110) rfl)) rfl
theorem ml_X9_22 : Cond.lays RX9 "FrameBoardModel" "newQ" "I" ∈ k_all := k_mem (k_t4 (List.mem_of_getElem? (i := 112) rfl)) rfl
theorem ml_X9_23 : Cond.laysFinal RX9 "FrameBoardModel" "newArrows" "[Z" ∈ k_all := k_mem (k_t4 (List.mem_of_getElem? (i := 114) rfl)) rfl
theorem ml_X9_24 : Cond.lays RX9 "FrameBoardModel" "wanted" "I" ∈ k_all := k_mem (k_t4 (List.mem_of_getElem? (i := 116) rfl)) rfl
theorem ml_X9_25 : Cond.lays RX9 "FrameBoardModel" "many" "I" ∈ k_all := k_mem (k_t4 (List.mem_of_getElem? (i := 118) rfl)) rfl
theorem ml_X9_26 : Cond.laysFinal RX9 "FrameBoardModel" "to" "[I" ∈ k_all := k_mem (k_t4 (List.mem_of_getElem? (i := 120) rfl)) rfl
theorem ml_X9_27 : Cond.lays RX9 "FrameBoardModel" "pNow" "I" ∈ k_all := k_mem (k_t4 (List.mem_of_getElem? (i := 122) rfl)) rfl
theorem ml_X9_28 : Cond.lays RX9 "FrameBoardModel" "qNow" "I" ∈ k_all := k_mem (k_t4 (List.mem_of_getElem? (i := 124) rfl)) rfl
theorem ml_X9_29 : Cond.laysFinal RX9 "FrameBoardModel" "holds" "[I" ∈ k_all := k_mem (k_t4 (List.mem_of_getElem? (i := 126) rfl)) rfl
theorem ml_X9_30 : Cond.laysFinal RX9 "FrameBoardModel" "apart" "[Z" ∈ k_all := k_mem (k_t4 (List.mem_of_getElem? (i := 128) rfl)) rfl
theorem ml_X9_31 : Cond.lays RX9 "FrameBoardModel" "seedNow" "J" ∈ k_all := k_mem (k_t4 (List.mem_of_getElem? (i := 130) rfl)) rfl
theorem ml_X9_32 : Cond.lays RX9 "FrameBoardModel" "keptFrame" "I" ∈ k_all := k_mem (k_t4 (List.mem_of_getElem? (i := 132) rfl)) rfl
theorem ml_X9_33 : Cond.lays RX9 "FrameBoardModel" "keptKind" "I" ∈ k_all := k_mem (k_t4 (List.mem_of_getElem? (i := 134) rfl)) rfl
theorem ml_X9_34 : Cond.lays RX9 "FrameBoardModel" "keptWorlds" "I" ∈ k_all := k_mem (k_t4 (List.mem_of_getElem? (i := 136) rfl)) rfl
theorem ml_X9_35 : Cond.lays RX9 "FrameBoardModel" "keptSeen" "I" ∈ k_all := k_mem (k_t4 (List.mem_of_getElem? (i := 138) rfl)) rfl
theorem ml_X9_36 : Cond.laysFinal RX9 "FrameBoardModel" "keptArrows" "[Z" ∈ k_all := k_mem (k_t4 (List.mem_of_getElem? (i := 140) rfl)) rfl
theorem ml_X9_37 : Cond.laysFinal RX9 "FrameBoardModel" "keptMarks" "[I" ∈ k_all := k_mem (k_t4 (List.mem_of_getElem? (i := 142) rfl)) rfl
theorem ml_X9_38 : Cond.laysFinal RX9 "FrameBoardModel" "keptWhat" "[I" ∈ k_all := k_mem (k_t4 (List.mem_of_getElem? (i := 144) rfl)) rfl
theorem ml_X9_39 : Cond.laysFinal RX9 "FrameBoardModel" "keptCan" "[Z" ∈ k_all := k_mem (k_t4 (List.mem_of_getElem? (i := 146) rfl)) rfl
theorem ml_X9_40 : Cond.lays RX9 "FrameBoardModel" "h" "J" ∈ k_all := k_mem (k_t4 (List.mem_of_getElem? (i := 148) rfl)) rfl
theorem inlX9 : ∀ w ∈ wsX90, w ∈ k_all := by
  show ∀ w ∈ [Cond.lays RX9 "FrameBoardModel" "kind" "I", Cond.lays RX9 "FrameBoardModel" "worlds" "I", Cond.laysFinal RX9 "FrameBoardModel" "arrows" "[Z", Cond.laysFinal RX9 "FrameBoardModel" "marks" "[I", Cond.lays RX9 "FrameBoardModel" "frames" "I", Cond.lays RX9 "FrameBoardModel" "signs" "I", Cond.laysFinal RX9 "FrameBoardModel" "signAt" "[B", Cond.laysFinal RX9 "FrameBoardModel" "behind" "[I", Cond.lays RX9 "FrameBoardModel" "formulas" "I", Cond.lays RX9 "FrameBoardModel" "failsTold" "I", Cond.lays RX9 "FrameBoardModel" "tellsTold" "I", Cond.lays RX9 "FrameBoardModel" "seen" "I", Cond.laysFinal RX9 "FrameBoardModel" "seenWhat" "[I", Cond.laysFinal RX9 "FrameBoardModel" "seenCan" "[Z", Cond.lays RX9 "FrameBoardModel" "pageLength" "I", Cond.laysFinal RX9 "FrameBoardModel" "page" "[B", Cond.lays RX9 "FrameBoardModel" "stage" "I", Cond.lays RX9 "FrameBoardModel" "newKind" "I", Cond.lays RX9 "FrameBoardModel" "newWorlds" "I", Cond.lays RX9 "FrameBoardModel" "newFrom" "I", Cond.lays RX9 "FrameBoardModel" "newLast" "I", Cond.lays RX9 "FrameBoardModel" "newP" "I", Cond.lays RX9 "FrameBoardModel" "newQ" "I", Cond.laysFinal RX9 "FrameBoardModel" "newArrows" "[Z", Cond.lays RX9 "FrameBoardModel" "wanted" "I", Cond.lays RX9 "FrameBoardModel" "many" "I", Cond.laysFinal RX9 "FrameBoardModel" "to" "[I", Cond.lays RX9 "FrameBoardModel" "pNow" "I", Cond.lays RX9 "FrameBoardModel" "qNow" "I", Cond.laysFinal RX9 "FrameBoardModel" "holds" "[I", Cond.laysFinal RX9 "FrameBoardModel" "apart" "[Z", Cond.lays RX9 "FrameBoardModel" "seedNow" "J", Cond.lays RX9 "FrameBoardModel" "keptFrame" "I", Cond.lays RX9 "FrameBoardModel" "keptKind" "I", Cond.lays RX9 "FrameBoardModel" "keptWorlds" "I", Cond.lays RX9 "FrameBoardModel" "keptSeen" "I", Cond.laysFinal RX9 "FrameBoardModel" "keptArrows" "[Z", Cond.laysFinal RX9 "FrameBoardModel" "keptMarks" "[I", Cond.laysFinal RX9 "FrameBoardModel" "keptWhat" "[I", Cond.laysFinal RX9 "FrameBoardModel" "keptCan" "[Z", Cond.lays RX9 "FrameBoardModel" "h" "J"], w ∈ k_all
  exact List.forall_mem_cons.mpr ⟨ml_X9_0, List.forall_mem_cons.mpr ⟨ml_X9_1, List.forall_mem_cons.mpr ⟨ml_X9_2, List.forall_mem_cons.mpr ⟨ml_X9_3, List.forall_mem_cons.mpr ⟨ml_X9_4, List.forall_mem_cons.mpr ⟨ml_X9_5, List.forall_mem_cons.mpr ⟨ml_X9_6, List.forall_mem_cons.mpr ⟨ml_X9_7, List.forall_mem_cons.mpr ⟨ml_X9_8, List.forall_mem_cons.mpr ⟨ml_X9_9, List.forall_mem_cons.mpr ⟨ml_X9_10, List.forall_mem_cons.mpr ⟨ml_X9_11, List.forall_mem_cons.mpr ⟨ml_X9_12, List.forall_mem_cons.mpr ⟨ml_X9_13, List.forall_mem_cons.mpr ⟨ml_X9_14, List.forall_mem_cons.mpr ⟨ml_X9_15, List.forall_mem_cons.mpr ⟨ml_X9_16, List.forall_mem_cons.mpr ⟨ml_X9_17, List.forall_mem_cons.mpr ⟨ml_X9_18, List.forall_mem_cons.mpr ⟨ml_X9_19, List.forall_mem_cons.mpr ⟨ml_X9_20, List.forall_mem_cons.mpr ⟨ml_X9_21, List.forall_mem_cons.mpr ⟨ml_X9_22, List.forall_mem_cons.mpr ⟨ml_X9_23, List.forall_mem_cons.mpr ⟨ml_X9_24, List.forall_mem_cons.mpr ⟨ml_X9_25, List.forall_mem_cons.mpr ⟨ml_X9_26, List.forall_mem_cons.mpr ⟨ml_X9_27, List.forall_mem_cons.mpr ⟨ml_X9_28, List.forall_mem_cons.mpr ⟨ml_X9_29, List.forall_mem_cons.mpr ⟨ml_X9_30, List.forall_mem_cons.mpr ⟨ml_X9_31, List.forall_mem_cons.mpr ⟨ml_X9_32, List.forall_mem_cons.mpr ⟨ml_X9_33, List.forall_mem_cons.mpr ⟨ml_X9_34, List.forall_mem_cons.mpr ⟨ml_X9_35, List.forall_mem_cons.mpr ⟨ml_X9_36, List.forall_mem_cons.mpr ⟨ml_X9_37, List.forall_mem_cons.mpr ⟨ml_X9_38, List.forall_mem_cons.mpr ⟨ml_X9_39, List.forall_mem_cons.mpr ⟨ml_X9_40, fun w h => absurd h List.not_mem_nil⟩⟩⟩⟩⟩⟩⟩⟩⟩⟩⟩⟩⟩⟩⟩⟩⟩⟩⟩⟩⟩⟩⟩⟩⟩⟩⟩⟩⟩⟩⟩⟩⟩⟩⟩⟩⟩⟩⟩⟩⟩
