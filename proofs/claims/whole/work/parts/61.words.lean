theorem n_0 : Cond.methodLink RX6 1 objectInit ∈ k_all := k_mem (k_t1 (List.mem_of_getElem? (i := 44) rfl)) rfl
theorem n_1 : Cond.instanceMethod objectInit ∈ k_all := k_mem (k_t1 (List.mem_of_getElem? (i := 20) rfl)) rfl
theorem n_2 : Cond.code objectInit ⟨#[0xb1]⟩ 1 none ∈ k_all := k_mem (k_t1 (List.mem_of_getElem? (i := 21) rfl)) rfl
theorem n_3 : Cond.methodLink RX2 3 objectInit ∈ k_all := k_mem (k_t1 (List.mem_of_getElem? (i := 50) rfl)) rfl
theorem n_4 : Cond.code yX6_init cX6_init 1 none ∈ k_all := k_mem (k_t1 (List.mem_of_getElem? (i := 43) rfl)) rfl
theorem n_5 : Cond.initialized RX6 ∈ k_all := k_mem (k_t1 (List.mem_of_getElem? (i := 3) rfl)) rfl
theorem n_6 : Cond.instanceMethod yX6_init ∈ k_all := k_mem (k_t1 (List.mem_of_getElem? (i := 42) rfl)) rfl
theorem n_7 : Cond.methodLink RX4 3 objectInit ∈ k_all := k_mem (k_t1 (List.mem_of_getElem? (i := 122) rfl)) rfl
theorem n_8 : Cond.fieldLink RX4 11 "FrameBoard$Observations" "possible" "I" ∈ k_all := k_mem (k_t1 (List.mem_of_getElem? (i := 125) rfl)) rfl
theorem n_9 : Cond.methodLink RX5 3 objectInit ∈ k_all := k_mem (k_t1 (List.mem_of_getElem? (i := 27) rfl)) rfl
theorem n_10 : Cond.arrayClass .int ∈ k_all := k_mem (k_t1 (List.mem_of_getElem? (i := 35) rfl)) rfl
theorem n_11 : Cond.fieldLink RX5 9 "FrameBoard$Page" "codes" "[I" ∈ k_all := k_mem (k_t1 (List.mem_of_getElem? (i := 28) rfl)) rfl
theorem n_12 : Cond.methodLink RX0 3 objectInit ∈ k_all := k_mem (k_t1 (List.mem_of_getElem? (i := 106) rfl)) rfl
theorem n_13 : Cond.fieldLink RX0 9 "FrameBoard$Formula" "signs" "[I" ∈ k_all := k_mem (k_t1 (List.mem_of_getElem? (i := 107) rfl)) rfl
theorem n_14 : Cond.fieldLink RX0 15 "FrameBoard$Formula" "ends" "[I" ∈ k_all := k_mem (k_t1 (List.mem_of_getElem? (i := 108) rfl)) rfl
theorem n_15 : Cond.methodLink RX7 3 objectInit ∈ k_all := k_mem (k_t1 (List.mem_of_getElem? (i := 137) rfl)) rfl
theorem n_16 : Cond.arrayClass .long ∈ k_all := k_mem (k_t1 (List.mem_of_getElem? (i := 148) rfl)) rfl
theorem n_17 : Cond.fieldLink RX7 9 "FrameBoard$Truth" "p" "[J" ∈ k_all := k_mem (k_t1 (List.mem_of_getElem? (i := 138) rfl)) rfl
theorem n_18 : Cond.fieldLink RX7 15 "FrameBoard$Truth" "q" "[J" ∈ k_all := k_mem (k_t1 (List.mem_of_getElem? (i := 139) rfl)) rfl
theorem n_19 : Cond.fieldLink RX7 18 "FrameBoard$Truth" "held" "[J" ∈ k_all := k_mem (k_t1 (List.mem_of_getElem? (i := 140) rfl)) rfl
theorem n_20 : Cond.methodLink RX9 1 objectInit ∈ k_all := k_mem (k_t4 (List.mem_of_getElem? (i := 26) rfl)) rfl
theorem n_21 : Cond.arrayClass .boolean ∈ k_all := k_mem (k_t4 (List.mem_of_getElem? (i := 151) rfl)) rfl
theorem n_22 : Cond.fieldLink RX9 7 "FrameBoardModel" "arrows" "[Z" ∈ k_all := k_mem (k_t4 (List.mem_of_getElem? (i := 29) rfl)) rfl
theorem n_23 : Cond.fieldLink RX9 13 "FrameBoardModel" "marks" "[I" ∈ k_all := k_mem (k_t4 (List.mem_of_getElem? (i := 30) rfl)) rfl
theorem n_24 : Cond.arrayClass .byte ∈ k_all := k_mem (k_t4 (List.mem_of_getElem? (i := 152) rfl)) rfl
theorem n_25 : Cond.fieldLink RX9 17 "FrameBoardModel" "signAt" "[B" ∈ k_all := k_mem (k_t4 (List.mem_of_getElem? (i := 33) rfl)) rfl
theorem n_26 : Cond.fieldLink RX9 21 "FrameBoardModel" "behind" "[I" ∈ k_all := k_mem (k_t4 (List.mem_of_getElem? (i := 34) rfl)) rfl
theorem n_27 : Cond.fieldLink RX9 24 "FrameBoardModel" "seenWhat" "[I" ∈ k_all := k_mem (k_t4 (List.mem_of_getElem? (i := 39) rfl)) rfl
theorem n_28 : Cond.fieldLink RX9 27 "FrameBoardModel" "seenCan" "[Z" ∈ k_all := k_mem (k_t4 (List.mem_of_getElem? (i := 40) rfl)) rfl
theorem n_29 : Cond.fieldLink RX9 30 "FrameBoardModel" "page" "[B" ∈ k_all := k_mem (k_t4 (List.mem_of_getElem? (i := 42) rfl)) rfl
theorem n_30 : Cond.fieldLink RX9 33 "FrameBoardModel" "newArrows" "[Z" ∈ k_all := k_mem (k_t4 (List.mem_of_getElem? (i := 50) rfl)) rfl
theorem n_31 : Cond.fieldLink RX9 36 "FrameBoardModel" "to" "[I" ∈ k_all := k_mem (k_t4 (List.mem_of_getElem? (i := 53) rfl)) rfl
theorem n_32 : Cond.fieldLink RX9 39 "FrameBoardModel" "holds" "[I" ∈ k_all := k_mem (k_t4 (List.mem_of_getElem? (i := 56) rfl)) rfl
theorem n_33 : Cond.fieldLink RX9 42 "FrameBoardModel" "apart" "[Z" ∈ k_all := k_mem (k_t4 (List.mem_of_getElem? (i := 57) rfl)) rfl
theorem n_34 : Cond.fieldLink RX9 45 "FrameBoardModel" "keptArrows" "[Z" ∈ k_all := k_mem (k_t4 (List.mem_of_getElem? (i := 63) rfl)) rfl
theorem n_35 : Cond.fieldLink RX9 48 "FrameBoardModel" "keptMarks" "[I" ∈ k_all := k_mem (k_t4 (List.mem_of_getElem? (i := 64) rfl)) rfl
theorem n_36 : Cond.fieldLink RX9 51 "FrameBoardModel" "keptWhat" "[I" ∈ k_all := k_mem (k_t4 (List.mem_of_getElem? (i := 65) rfl)) rfl
theorem n_37 : Cond.fieldLink RX9 54 "FrameBoardModel" "keptCan" "[Z" ∈ k_all := k_mem (k_t4 (List.mem_of_getElem? (i := 66) rfl)) rfl
theorem n_38 : Cond.classLink RX3 9 RX2 ∈ k_all := k_mem (k_t1 (List.mem_of_getElem? (i := 45) rfl)) rfl
theorem n_39 : Cond.instantiable RX2 5 ∈ k_all := k_mem (k_t1 (List.mem_of_getElem? (i := 46) rfl)) rfl
theorem n_40 : Cond.initialized RX2 ∈ k_all := k_mem (k_t1 (List.mem_of_getElem? (i := 5) rfl)) rfl
theorem n_41 : Cond.code yX2_init cX2_init 1 none ∈ k_all := k_mem (k_t1 (List.mem_of_getElem? (i := 49) rfl)) rfl
theorem n_42 : Cond.instanceMethod yX2_init ∈ k_all := k_mem (k_t1 (List.mem_of_getElem? (i := 48) rfl)) rfl
theorem n_43 : Cond.fieldLink RX3 12 "FrameBoard$FrameText" "draft" "LFrameBoard$Frame;" ∈ k_all := k_mem (k_t1 (List.mem_of_getElem? (i := 72) rfl)) rfl
theorem n_44 : Cond.methodLink RX8 1 objectInit ∈ k_all := k_mem (k_t1 (List.mem_of_getElem? (i := 19) rfl)) rfl
theorem n_45 : Cond.classLink RX8 7 RX5 ∈ k_all := k_mem (k_t1 (List.mem_of_getElem? (i := 22) rfl)) rfl
theorem n_46 : Cond.instantiable RX5 2 ∈ k_all := k_mem (k_t1 (List.mem_of_getElem? (i := 23) rfl)) rfl
theorem n_47 : Cond.initialized RX5 ∈ k_all := k_mem (k_t1 (List.mem_of_getElem? (i := 2) rfl)) rfl
theorem n_48 : Cond.code yX5_init cX5_init 1 none ∈ k_all := k_mem (k_t1 (List.mem_of_getElem? (i := 26) rfl)) rfl
theorem n_49 : Cond.instanceMethod yX5_init ∈ k_all := k_mem (k_t1 (List.mem_of_getElem? (i := 25) rfl)) rfl
theorem n_50 : Cond.fieldLink RX8 10 "FrameBoard" "page" "LFrameBoard$Page;" ∈ k_all := k_mem (k_t1 (List.mem_of_getElem? (i := 149) rfl)) rfl
theorem n_51 : Cond.classLink RX8 16 RX3 ∈ k_all := k_mem (k_t1 (List.mem_of_getElem? (i := 36) rfl)) rfl
theorem n_52 : Cond.instantiable RX3 4 ∈ k_all := k_mem (k_t1 (List.mem_of_getElem? (i := 37) rfl)) rfl
theorem n_53 : Cond.initialized RX3 ∈ k_all := k_mem (k_t1 (List.mem_of_getElem? (i := 4) rfl)) rfl
theorem n_54 : Cond.code yX3_init cX3_init 1 none ∈ k_all := k_mem (k_t1 (List.mem_of_getElem? (i := 40) rfl)) rfl
theorem n_55 : Cond.instanceMethod yX3_init ∈ k_all := k_mem (k_t1 (List.mem_of_getElem? (i := 39) rfl)) rfl
theorem n_56 : Cond.fieldLink RX8 19 "FrameBoard" "frameText" "LFrameBoard$FrameText;" ∈ k_all := k_mem (k_t1 (List.mem_of_getElem? (i := 150) rfl)) rfl
theorem n_57 : Cond.classLink RX8 23 RX1 ∈ k_all := k_mem (k_t1 (List.mem_of_getElem? (i := 86) rfl)) rfl
theorem n_58 : Cond.instantiable RX1 2 ∈ k_all := k_mem (k_t1 (List.mem_of_getElem? (i := 87) rfl)) rfl
theorem n_59 : Cond.initialized RX1 ∈ k_all := k_mem (k_t1 (List.mem_of_getElem? (i := 6) rfl)) rfl
theorem n_60 : Cond.code yX1_init cX1_init 1 none ∈ k_all := k_mem (k_t1 (List.mem_of_getElem? (i := 90) rfl)) rfl
theorem n_61 : Cond.instanceMethod yX1_init ∈ k_all := k_mem (k_t1 (List.mem_of_getElem? (i := 89) rfl)) rfl
theorem n_62 : Cond.fieldLink RX8 26 "FrameBoard" "formulaText" "LFrameBoard$FormulaText;" ∈ k_all := k_mem (k_t1 (List.mem_of_getElem? (i := 151) rfl)) rfl
theorem n_63 : Cond.classLink RX8 30 RX2 ∈ k_all := k_mem (k_t1 (List.mem_of_getElem? (i := 99) rfl)) rfl
theorem n_64 : Cond.fieldLink RX8 33 "FrameBoard" "frame" "LFrameBoard$Frame;" ∈ k_all := k_mem (k_t1 (List.mem_of_getElem? (i := 152) rfl)) rfl
theorem n_65 : Cond.classLink RX8 37 RX0 ∈ k_all := k_mem (k_t1 (List.mem_of_getElem? (i := 101) rfl)) rfl
theorem n_66 : Cond.instantiable RX0 3 ∈ k_all := k_mem (k_t1 (List.mem_of_getElem? (i := 102) rfl)) rfl
theorem n_67 : Cond.initialized RX0 ∈ k_all := k_mem (k_t1 (List.mem_of_getElem? (i := 7) rfl)) rfl
theorem n_68 : Cond.code yX0_init cX0_init 1 none ∈ k_all := k_mem (k_t1 (List.mem_of_getElem? (i := 105) rfl)) rfl
theorem n_69 : Cond.instanceMethod yX0_init ∈ k_all := k_mem (k_t1 (List.mem_of_getElem? (i := 104) rfl)) rfl
theorem n_70 : Cond.fieldLink RX8 40 "FrameBoard" "formula" "LFrameBoard$Formula;" ∈ k_all := k_mem (k_t1 (List.mem_of_getElem? (i := 153) rfl)) rfl
theorem n_71 : Cond.classLink RX8 44 RX4 ∈ k_all := k_mem (k_t1 (List.mem_of_getElem? (i := 117) rfl)) rfl
theorem n_72 : Cond.instantiable RX4 2 ∈ k_all := k_mem (k_t1 (List.mem_of_getElem? (i := 118) rfl)) rfl
theorem n_73 : Cond.initialized RX4 ∈ k_all := k_mem (k_t1 (List.mem_of_getElem? (i := 8) rfl)) rfl
theorem n_74 : Cond.code yX4_init cX4_init 1 none ∈ k_all := k_mem (k_t1 (List.mem_of_getElem? (i := 121) rfl)) rfl
theorem n_75 : Cond.instanceMethod yX4_init ∈ k_all := k_mem (k_t1 (List.mem_of_getElem? (i := 120) rfl)) rfl
theorem n_76 : Cond.fieldLink RX8 47 "FrameBoard" "observations" "LFrameBoard$Observations;" ∈ k_all := k_mem (k_t1 (List.mem_of_getElem? (i := 154) rfl)) rfl
theorem n_77 : Cond.fieldLink RX8 51 "FrameBoard" "savedFrame" "LFrameBoard$Frame;" ∈ k_all := k_mem (k_t1 (List.mem_of_getElem? (i := 155) rfl)) rfl
theorem n_78 : Cond.fieldLink RX8 54 "FrameBoard" "savedObservations" "LFrameBoard$Observations;" ∈ k_all := k_mem (k_t1 (List.mem_of_getElem? (i := 156) rfl)) rfl
theorem n_79 : Cond.fieldLink RX8 57 "FrameBoard" "candidate" "LFrameBoard$Frame;" ∈ k_all := k_mem (k_t1 (List.mem_of_getElem? (i := 157) rfl)) rfl
theorem n_80 : Cond.classLink RX8 60 RX7 ∈ k_all := k_mem (k_t1 (List.mem_of_getElem? (i := 132) rfl)) rfl
theorem n_81 : Cond.instantiable RX7 3 ∈ k_all := k_mem (k_t1 (List.mem_of_getElem? (i := 133) rfl)) rfl
theorem n_82 : Cond.initialized RX7 ∈ k_all := k_mem (k_t1 (List.mem_of_getElem? (i := 9) rfl)) rfl
theorem n_83 : Cond.code yX7_init cX7_init 1 none ∈ k_all := k_mem (k_t1 (List.mem_of_getElem? (i := 136) rfl)) rfl
theorem n_84 : Cond.instanceMethod yX7_init ∈ k_all := k_mem (k_t1 (List.mem_of_getElem? (i := 135) rfl)) rfl
theorem n_85 : Cond.fieldLink RX8 63 "FrameBoard" "truth" "LFrameBoard$Truth;" ∈ k_all := k_mem (k_t1 (List.mem_of_getElem? (i := 158) rfl)) rfl
