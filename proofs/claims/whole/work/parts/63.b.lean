theorem nl_0 : Cond.code yX8_letter cX8_letter 2 (some .int) ∈ k_all := k_mem (k_t1 (List.mem_of_getElem? (i := 198) rfl)) rfl
theorem nl_1 : Cond.methodLink RL 13 yX8_letter ∈ k_all := k_mem (k_t1 (List.mem_of_getElem? (i := 195) rfl)) rfl
theorem nl_2 : Cond.instanceMethod yX8_letter ∈ k_all := k_mem (k_t1 (List.mem_of_getElem? (i := 196) rfl)) rfl
theorem nl_3 : Cond.selects RX8 yX8_letter yX8_letter ∈ k_all := k_mem (k_t1 (List.mem_of_getElem? (i := 197) rfl)) rfl
theorem nl_4 : Cond.initialized RX8 ∈ k_all := k_mem (k_t1 (List.mem_of_getElem? (i := 1) rfl)) rfl
theorem nl_5 : Cond.code yX9_letter cX9_letter 2 (some .int) ∈ k_all := k_mem (k_t4 (List.mem_of_getElem? (i := 156) rfl)) rfl
theorem nl_6 : Cond.methodLink RL 17 yX9_letter ∈ k_all := k_mem (k_t4 (List.mem_of_getElem? (i := 153) rfl)) rfl
theorem nl_7 : Cond.instanceMethod yX9_letter ∈ k_all := k_mem (k_t4 (List.mem_of_getElem? (i := 154) rfl)) rfl
theorem nl_8 : Cond.selects RX9 yX9_letter yX9_letter ∈ k_all := k_mem (k_t4 (List.mem_of_getElem? (i := 155) rfl)) rfl
theorem nl_9 : Cond.initialized RX9 ∈ k_all := k_mem (k_t1 (List.mem_of_getElem? (i := 10) rfl)) rfl
theorem nl_10 : Cond.code yX8_blank cX8_blank 2 (some .int) ∈ k_all := k_mem (k_t1 (List.mem_of_getElem? (i := 213) rfl)) rfl
theorem nl_11 : Cond.methodLink RL 18 yX8_blank ∈ k_all := k_mem (k_t1 (List.mem_of_getElem? (i := 210) rfl)) rfl
theorem nl_12 : Cond.instanceMethod yX8_blank ∈ k_all := k_mem (k_t1 (List.mem_of_getElem? (i := 211) rfl)) rfl
theorem nl_13 : Cond.selects RX8 yX8_blank yX8_blank ∈ k_all := k_mem (k_t1 (List.mem_of_getElem? (i := 212) rfl)) rfl
theorem nl_14 : Cond.code yX9_blank cX9_blank 2 (some .int) ∈ k_all := k_mem (k_t4 (List.mem_of_getElem? (i := 163) rfl)) rfl
theorem nl_15 : Cond.methodLink RL 22 yX9_blank ∈ k_all := k_mem (k_t4 (List.mem_of_getElem? (i := 160) rfl)) rfl
theorem nl_16 : Cond.instanceMethod yX9_blank ∈ k_all := k_mem (k_t4 (List.mem_of_getElem? (i := 161) rfl)) rfl
theorem nl_17 : Cond.selects RX9 yX9_blank yX9_blank ∈ k_all := k_mem (k_t4 (List.mem_of_getElem? (i := 162) rfl)) rfl
theorem nl_18 : Cond.code yX8_fault cX8_fault 2 (some .int) ∈ k_all := k_mem (k_t1 (List.mem_of_getElem? (i := 221) rfl)) rfl
theorem nl_19 : Cond.methodLink RL 23 yX8_fault ∈ k_all := k_mem (k_t1 (List.mem_of_getElem? (i := 218) rfl)) rfl
theorem nl_20 : Cond.instanceMethod yX8_fault ∈ k_all := k_mem (k_t1 (List.mem_of_getElem? (i := 219) rfl)) rfl
theorem nl_21 : Cond.selects RX8 yX8_fault yX8_fault ∈ k_all := k_mem (k_t1 (List.mem_of_getElem? (i := 220) rfl)) rfl
theorem nl_22 : Cond.code yX9_fault cX9_fault 2 (some .int) ∈ k_all := k_mem (k_t4 (List.mem_of_getElem? (i := 167) rfl)) rfl
theorem nl_23 : Cond.methodLink RL 26 yX9_fault ∈ k_all := k_mem (k_t4 (List.mem_of_getElem? (i := 164) rfl)) rfl
theorem nl_24 : Cond.instanceMethod yX9_fault ∈ k_all := k_mem (k_t4 (List.mem_of_getElem? (i := 165) rfl)) rfl
theorem nl_25 : Cond.selects RX9 yX9_fault yX9_fault ∈ k_all := k_mem (k_t4 (List.mem_of_getElem? (i := 166) rfl)) rfl
theorem nl_26 : Cond.code yX8_frame cX8_frame 1 (some .int) ∈ k_all := k_mem (k_t2 (List.mem_of_getElem? (i := 79) rfl)) rfl
theorem nl_27 : Cond.methodLink RL 27 yX8_frame ∈ k_all := k_mem (k_t2 (List.mem_of_getElem? (i := 76) rfl)) rfl
theorem nl_28 : Cond.instanceMethod yX8_frame ∈ k_all := k_mem (k_t2 (List.mem_of_getElem? (i := 77) rfl)) rfl
theorem nl_29 : Cond.selects RX8 yX8_frame yX8_frame ∈ k_all := k_mem (k_t2 (List.mem_of_getElem? (i := 78) rfl)) rfl
theorem nl_30 : Cond.code yX9_frame cX9_frame 2 (some .int) ∈ k_all := k_mem (k_t4 (List.mem_of_getElem? (i := 201) rfl)) rfl
theorem nl_31 : Cond.methodLink RL 30 yX9_frame ∈ k_all := k_mem (k_t4 (List.mem_of_getElem? (i := 198) rfl)) rfl
theorem nl_32 : Cond.instanceMethod yX9_frame ∈ k_all := k_mem (k_t4 (List.mem_of_getElem? (i := 199) rfl)) rfl
theorem nl_33 : Cond.selects RX9 yX9_frame yX9_frame ∈ k_all := k_mem (k_t4 (List.mem_of_getElem? (i := 200) rfl)) rfl
theorem nl_34 : Cond.code yX8_formula cX8_formula 1 (some .int) ∈ k_all := k_mem (k_t2 (List.mem_of_getElem? (i := 107) rfl)) rfl
theorem nl_35 : Cond.methodLink RL 31 yX8_formula ∈ k_all := k_mem (k_t2 (List.mem_of_getElem? (i := 104) rfl)) rfl
theorem nl_36 : Cond.instanceMethod yX8_formula ∈ k_all := k_mem (k_t2 (List.mem_of_getElem? (i := 105) rfl)) rfl
theorem nl_37 : Cond.selects RX8 yX8_formula yX8_formula ∈ k_all := k_mem (k_t2 (List.mem_of_getElem? (i := 106) rfl)) rfl
theorem nl_38 : Cond.code yX9_formula cX9_formula 5 (some .int) ∈ k_all := k_mem (k_t4 (List.mem_of_getElem? (i := 205) rfl)) rfl
theorem nl_39 : Cond.methodLink RL 34 yX9_formula ∈ k_all := k_mem (k_t4 (List.mem_of_getElem? (i := 202) rfl)) rfl
theorem nl_40 : Cond.instanceMethod yX9_formula ∈ k_all := k_mem (k_t4 (List.mem_of_getElem? (i := 203) rfl)) rfl
theorem nl_41 : Cond.selects RX9 yX9_formula yX9_formula ∈ k_all := k_mem (k_t4 (List.mem_of_getElem? (i := 204) rfl)) rfl
theorem nl_42 : Cond.code yX8_about cX8_about 2 (some .int) ∈ k_all := k_mem (k_t2 (List.mem_of_getElem? (i := 138) rfl)) rfl
theorem nl_43 : Cond.methodLink RL 35 yX8_about ∈ k_all := k_mem (k_t2 (List.mem_of_getElem? (i := 135) rfl)) rfl
theorem nl_44 : Cond.instanceMethod yX8_about ∈ k_all := k_mem (k_t2 (List.mem_of_getElem? (i := 136) rfl)) rfl
theorem nl_45 : Cond.selects RX8 yX8_about yX8_about ∈ k_all := k_mem (k_t2 (List.mem_of_getElem? (i := 137) rfl)) rfl
theorem nl_46 : Cond.code yX9_about cX9_about 2 (some .int) ∈ k_all := k_mem (k_t4 (List.mem_of_getElem? (i := 209) rfl)) rfl
theorem nl_47 : Cond.methodLink RL 38 yX9_about ∈ k_all := k_mem (k_t4 (List.mem_of_getElem? (i := 206) rfl)) rfl
theorem nl_48 : Cond.instanceMethod yX9_about ∈ k_all := k_mem (k_t4 (List.mem_of_getElem? (i := 207) rfl)) rfl
theorem nl_49 : Cond.selects RX9 yX9_about yX9_about ∈ k_all := k_mem (k_t4 (List.mem_of_getElem? (i := 208) rfl)) rfl
theorem nl_50 : Cond.code yX8_as cX8_as 2 (some .int) ∈ k_all := k_mem (k_t2 (List.mem_of_getElem? (i := 213) rfl)) rfl
theorem nl_51 : Cond.methodLink RL 39 yX8_as ∈ k_all := k_mem (k_t2 (List.mem_of_getElem? (i := 210) rfl)) rfl
theorem nl_52 : Cond.instanceMethod yX8_as ∈ k_all := k_mem (k_t2 (List.mem_of_getElem? (i := 211) rfl)) rfl
theorem nl_53 : Cond.selects RX8 yX8_as yX8_as ∈ k_all := k_mem (k_t2 (List.mem_of_getElem? (i := 212) rfl)) rfl
theorem nl_54 : Cond.code yX9_as cX9_as 2 (some .int) ∈ k_all := k_mem (k_t5 (List.mem_of_getElem? (i := 28) rfl)) rfl
theorem nl_55 : Cond.methodLink RL 42 yX9_as ∈ k_all := k_mem (k_t5 (List.mem_of_getElem? (i := 25) rfl)) rfl
theorem nl_56 : Cond.instanceMethod yX9_as ∈ k_all := k_mem (k_t5 (List.mem_of_getElem? (i := 26) rfl)) rfl
theorem nl_57 : Cond.selects RX9 yX9_as yX9_as ∈ k_all := k_mem (k_t5 (List.mem_of_getElem? (i := 27) rfl)) rfl
theorem nl_58 : Cond.code yX8_world cX8_world 3 (some .int) ∈ k_all := k_mem (k_t2 (List.mem_of_getElem? (i := 220) rfl)) rfl
theorem nl_59 : Cond.methodLink RL 43 yX8_world ∈ k_all := k_mem (k_t2 (List.mem_of_getElem? (i := 217) rfl)) rfl
theorem nl_60 : Cond.instanceMethod yX8_world ∈ k_all := k_mem (k_t2 (List.mem_of_getElem? (i := 218) rfl)) rfl
theorem nl_61 : Cond.selects RX8 yX8_world yX8_world ∈ k_all := k_mem (k_t2 (List.mem_of_getElem? (i := 219) rfl)) rfl
theorem nl_62 : Cond.code yX9_world cX9_world 3 (some .int) ∈ k_all := k_mem (k_t5 (List.mem_of_getElem? (i := 35) rfl)) rfl
theorem nl_63 : Cond.methodLink RL 47 yX9_world ∈ k_all := k_mem (k_t5 (List.mem_of_getElem? (i := 32) rfl)) rfl
theorem nl_64 : Cond.instanceMethod yX9_world ∈ k_all := k_mem (k_t5 (List.mem_of_getElem? (i := 33) rfl)) rfl
theorem nl_65 : Cond.selects RX9 yX9_world yX9_world ∈ k_all := k_mem (k_t5 (List.mem_of_getElem? (i := 34) rfl)) rfl
theorem nl_66 : Cond.code yX8_arrow cX8_arrow 3 (some .int) ∈ k_all := k_mem (k_t3 (List.mem_of_getElem? (i := 56) rfl)) rfl
theorem nl_67 : Cond.methodLink RL 48 yX8_arrow ∈ k_all := k_mem (k_t3 (List.mem_of_getElem? (i := 53) rfl)) rfl
theorem nl_68 : Cond.instanceMethod yX8_arrow ∈ k_all := k_mem (k_t3 (List.mem_of_getElem? (i := 54) rfl)) rfl
theorem nl_69 : Cond.selects RX8 yX8_arrow yX8_arrow ∈ k_all := k_mem (k_t3 (List.mem_of_getElem? (i := 55) rfl)) rfl
theorem nl_70 : Cond.code yX9_arrow cX9_arrow 3 (some .int) ∈ k_all := k_mem (k_t5 (List.mem_of_getElem? (i := 87) rfl)) rfl
theorem nl_71 : Cond.methodLink RL 51 yX9_arrow ∈ k_all := k_mem (k_t5 (List.mem_of_getElem? (i := 84) rfl)) rfl
theorem nl_72 : Cond.instanceMethod yX9_arrow ∈ k_all := k_mem (k_t5 (List.mem_of_getElem? (i := 85) rfl)) rfl
theorem nl_73 : Cond.selects RX9 yX9_arrow yX9_arrow ∈ k_all := k_mem (k_t5 (List.mem_of_getElem? (i := 86) rfl)) rfl
theorem nl_74 : Cond.code yX8_part cX8_part 2 (some .int) ∈ k_all := k_mem (k_t3 (List.mem_of_getElem? (i := 61) rfl)) rfl
theorem nl_75 : Cond.methodLink RL 52 yX8_part ∈ k_all := k_mem (k_t3 (List.mem_of_getElem? (i := 58) rfl)) rfl
theorem nl_76 : Cond.instanceMethod yX8_part ∈ k_all := k_mem (k_t3 (List.mem_of_getElem? (i := 59) rfl)) rfl
theorem nl_77 : Cond.selects RX8 yX8_part yX8_part ∈ k_all := k_mem (k_t3 (List.mem_of_getElem? (i := 60) rfl)) rfl
theorem nl_78 : Cond.code yX9_part cX9_part 2 (some .int) ∈ k_all := k_mem (k_t5 (List.mem_of_getElem? (i := 95) rfl)) rfl
theorem nl_79 : Cond.methodLink RL 55 yX9_part ∈ k_all := k_mem (k_t5 (List.mem_of_getElem? (i := 92) rfl)) rfl
theorem nl_80 : Cond.instanceMethod yX9_part ∈ k_all := k_mem (k_t5 (List.mem_of_getElem? (i := 93) rfl)) rfl
theorem nl_81 : Cond.selects RX9 yX9_part yX9_part ∈ k_all := k_mem (k_t5 (List.mem_of_getElem? (i := 94) rfl)) rfl
theorem nl_82 : Cond.code yX8_sign cX8_sign 2 (some .int) ∈ k_all := k_mem (k_t3 (List.mem_of_getElem? (i := 65) rfl)) rfl
theorem nl_83 : Cond.methodLink RL 56 yX8_sign ∈ k_all := k_mem (k_t3 (List.mem_of_getElem? (i := 62) rfl)) rfl
theorem nl_84 : Cond.instanceMethod yX8_sign ∈ k_all := k_mem (k_t3 (List.mem_of_getElem? (i := 63) rfl)) rfl
theorem nl_85 : Cond.selects RX8 yX8_sign yX8_sign ∈ k_all := k_mem (k_t3 (List.mem_of_getElem? (i := 64) rfl)) rfl
theorem nl_86 : Cond.code yX9_sign cX9_sign 2 (some .int) ∈ k_all := k_mem (k_t5 (List.mem_of_getElem? (i := 103) rfl)) rfl
theorem nl_87 : Cond.methodLink RL 59 yX9_sign ∈ k_all := k_mem (k_t5 (List.mem_of_getElem? (i := 100) rfl)) rfl
theorem nl_88 : Cond.instanceMethod yX9_sign ∈ k_all := k_mem (k_t5 (List.mem_of_getElem? (i := 101) rfl)) rfl
theorem nl_89 : Cond.selects RX9 yX9_sign yX9_sign ∈ k_all := k_mem (k_t5 (List.mem_of_getElem? (i := 102) rfl)) rfl
theorem nl_90 : Cond.code yX8_draw cX8_draw 4 (some .int) ∈ k_all := k_mem (k_t3 (List.mem_of_getElem? (i := 70) rfl)) rfl
theorem nl_91 : Cond.methodLink RL 60 yX8_draw ∈ k_all := k_mem (k_t3 (List.mem_of_getElem? (i := 67) rfl)) rfl
theorem nl_92 : Cond.instanceMethod yX8_draw ∈ k_all := k_mem (k_t3 (List.mem_of_getElem? (i := 68) rfl)) rfl
theorem nl_93 : Cond.selects RX8 yX8_draw yX8_draw ∈ k_all := k_mem (k_t3 (List.mem_of_getElem? (i := 69) rfl)) rfl
theorem nl_94 : Cond.code yX9_draw cX9_draw 4 (some .int) ∈ k_all := k_mem (k_t5 (List.mem_of_getElem? (i := 107) rfl)) rfl
theorem nl_95 : Cond.methodLink RL 64 yX9_draw ∈ k_all := k_mem (k_t5 (List.mem_of_getElem? (i := 104) rfl)) rfl
theorem nl_96 : Cond.instanceMethod yX9_draw ∈ k_all := k_mem (k_t5 (List.mem_of_getElem? (i := 105) rfl)) rfl
theorem nl_97 : Cond.selects RX9 yX9_draw yX9_draw ∈ k_all := k_mem (k_t5 (List.mem_of_getElem? (i := 106) rfl)) rfl
theorem nl_98 : Cond.code yX8_mark cX8_mark 4 (some .int) ∈ k_all := k_mem (k_t3 (List.mem_of_getElem? (i := 75) rfl)) rfl
theorem nl_99 : Cond.methodLink RL 65 yX8_mark ∈ k_all := k_mem (k_t3 (List.mem_of_getElem? (i := 72) rfl)) rfl
theorem nl_100 : Cond.instanceMethod yX8_mark ∈ k_all := k_mem (k_t3 (List.mem_of_getElem? (i := 73) rfl)) rfl
theorem nl_101 : Cond.selects RX8 yX8_mark yX8_mark ∈ k_all := k_mem (k_t3 (List.mem_of_getElem? (i := 74) rfl)) rfl
theorem nl_102 : Cond.code yX9_mark cX9_mark 4 (some .int) ∈ k_all := k_mem (k_t5 (List.mem_of_getElem? (i := 111) rfl)) rfl
theorem nl_103 : Cond.methodLink RL 68 yX9_mark ∈ k_all := k_mem (k_t5 (List.mem_of_getElem? (i := 108) rfl)) rfl
theorem nl_104 : Cond.instanceMethod yX9_mark ∈ k_all := k_mem (k_t5 (List.mem_of_getElem? (i := 109) rfl)) rfl
theorem nl_105 : Cond.selects RX9 yX9_mark yX9_mark ∈ k_all := k_mem (k_t5 (List.mem_of_getElem? (i := 110) rfl)) rfl
theorem nl_106 : Cond.code yX8_add cX8_add 1 (some .int) ∈ k_all := k_mem (k_t3 (List.mem_of_getElem? (i := 80) rfl)) rfl
theorem nl_107 : Cond.methodLink RL 69 yX8_add ∈ k_all := k_mem (k_t3 (List.mem_of_getElem? (i := 77) rfl)) rfl
theorem nl_108 : Cond.instanceMethod yX8_add ∈ k_all := k_mem (k_t3 (List.mem_of_getElem? (i := 78) rfl)) rfl
theorem nl_109 : Cond.selects RX8 yX8_add yX8_add ∈ k_all := k_mem (k_t3 (List.mem_of_getElem? (i := 79) rfl)) rfl
theorem nl_110 : Cond.code yX9_add cX9_add 1 (some .int) ∈ k_all := k_mem (k_t5 (List.mem_of_getElem? (i := 115) rfl)) rfl
theorem nl_111 : Cond.methodLink RL 72 yX9_add ∈ k_all := k_mem (k_t5 (List.mem_of_getElem? (i := 112) rfl)) rfl
theorem nl_112 : Cond.instanceMethod yX9_add ∈ k_all := k_mem (k_t5 (List.mem_of_getElem? (i := 113) rfl)) rfl
theorem nl_113 : Cond.selects RX9 yX9_add yX9_add ∈ k_all := k_mem (k_t5 (List.mem_of_getElem? (i := 114) rfl)) rfl
theorem nl_114 : Cond.code yX8_take cX8_take 2 (some .int) ∈ k_all := k_mem (k_t3 (List.mem_of_getElem? (i := 84) rfl)) rfl
theorem nl_115 : Cond.methodLink RL 73 yX8_take ∈ k_all := k_mem (k_t3 (List.mem_of_getElem? (i := 81) rfl)) rfl
theorem nl_116 : Cond.instanceMethod yX8_take ∈ k_all := k_mem (k_t3 (List.mem_of_getElem? (i := 82) rfl)) rfl
theorem nl_117 : Cond.selects RX8 yX8_take yX8_take ∈ k_all := k_mem (k_t3 (List.mem_of_getElem? (i := 83) rfl)) rfl
theorem nl_118 : Cond.code yX9_take cX9_take 2 (some .int) ∈ k_all := k_mem (k_t5 (List.mem_of_getElem? (i := 123) rfl)) rfl
theorem nl_119 : Cond.methodLink RL 76 yX9_take ∈ k_all := k_mem (k_t5 (List.mem_of_getElem? (i := 120) rfl)) rfl
theorem nl_120 : Cond.instanceMethod yX9_take ∈ k_all := k_mem (k_t5 (List.mem_of_getElem? (i := 121) rfl)) rfl
theorem nl_121 : Cond.selects RX9 yX9_take yX9_take ∈ k_all := k_mem (k_t5 (List.mem_of_getElem? (i := 122) rfl)) rfl
theorem nl_122 : Cond.code yX8_be cX8_be 3 (some .int) ∈ k_all := k_mem (k_t3 (List.mem_of_getElem? (i := 95) rfl)) rfl
theorem nl_123 : Cond.methodLink RL 77 yX8_be ∈ k_all := k_mem (k_t3 (List.mem_of_getElem? (i := 92) rfl)) rfl
theorem nl_124 : Cond.instanceMethod yX8_be ∈ k_all := k_mem (k_t3 (List.mem_of_getElem? (i := 93) rfl)) rfl
theorem nl_125 : Cond.selects RX8 yX8_be yX8_be ∈ k_all := k_mem (k_t3 (List.mem_of_getElem? (i := 94) rfl)) rfl
theorem nl_126 : Cond.code yX9_be cX9_be 3 (some .int) ∈ k_all := k_mem (k_t5 (List.mem_of_getElem? (i := 135) rfl)) rfl
theorem nl_127 : Cond.methodLink RL 80 yX9_be ∈ k_all := k_mem (k_t5 (List.mem_of_getElem? (i := 132) rfl)) rfl
theorem nl_128 : Cond.instanceMethod yX9_be ∈ k_all := k_mem (k_t5 (List.mem_of_getElem? (i := 133) rfl)) rfl
theorem nl_129 : Cond.selects RX9 yX9_be yX9_be ∈ k_all := k_mem (k_t5 (List.mem_of_getElem? (i := 134) rfl)) rfl
theorem nl_130 : Cond.code yX8_close cX8_close 2 (some .int) ∈ k_all := k_mem (k_t3 (List.mem_of_getElem? (i := 99) rfl)) rfl
theorem nl_131 : Cond.methodLink RL 81 yX8_close ∈ k_all := k_mem (k_t3 (List.mem_of_getElem? (i := 96) rfl)) rfl
theorem nl_132 : Cond.instanceMethod yX8_close ∈ k_all := k_mem (k_t3 (List.mem_of_getElem? (i := 97) rfl)) rfl
theorem nl_133 : Cond.selects RX8 yX8_close yX8_close ∈ k_all := k_mem (k_t3 (List.mem_of_getElem? (i := 98) rfl)) rfl
theorem nl_134 : Cond.code yX9_close cX9_close 6 (some .int) ∈ k_all := k_mem (k_t5 (List.mem_of_getElem? (i := 139) rfl)) rfl
theorem nl_135 : Cond.methodLink RL 84 yX9_close ∈ k_all := k_mem (k_t5 (List.mem_of_getElem? (i := 136) rfl)) rfl
theorem nl_136 : Cond.instanceMethod yX9_close ∈ k_all := k_mem (k_t5 (List.mem_of_getElem? (i := 137) rfl)) rfl
theorem nl_137 : Cond.selects RX9 yX9_close yX9_close ∈ k_all := k_mem (k_t5 (List.mem_of_getElem? (i := 138) rfl)) rfl
theorem nl_138 : Cond.code yX8_shrink cX8_shrink 1 (some .int) ∈ k_all := k_mem (k_t3 (List.mem_of_getElem? (i := 115) rfl)) rfl
theorem nl_139 : Cond.methodLink RL 85 yX8_shrink ∈ k_all := k_mem (k_t3 (List.mem_of_getElem? (i := 112) rfl)) rfl
theorem nl_140 : Cond.instanceMethod yX8_shrink ∈ k_all := k_mem (k_t3 (List.mem_of_getElem? (i := 113) rfl)) rfl
theorem nl_141 : Cond.selects RX8 yX8_shrink yX8_shrink ∈ k_all := k_mem (k_t3 (List.mem_of_getElem? (i := 114) rfl)) rfl
theorem nl_142 : Cond.code yX9_shrink cX9_shrink 4 (some .int) ∈ k_all := k_mem (k_t5 (List.mem_of_getElem? (i := 151) rfl)) rfl
theorem nl_143 : Cond.methodLink RL 88 yX9_shrink ∈ k_all := k_mem (k_t5 (List.mem_of_getElem? (i := 148) rfl)) rfl
theorem nl_144 : Cond.instanceMethod yX9_shrink ∈ k_all := k_mem (k_t5 (List.mem_of_getElem? (i := 149) rfl)) rfl
theorem nl_145 : Cond.selects RX9 yX9_shrink yX9_shrink ∈ k_all := k_mem (k_t5 (List.mem_of_getElem? (i := 150) rfl)) rfl
theorem nl_146 : Cond.code yX8_valid cX8_valid 1 (some .int) ∈ k_all := k_mem (k_t3 (List.mem_of_getElem? (i := 124) rfl)) rfl
theorem nl_147 : Cond.methodLink RL 89 yX8_valid ∈ k_all := k_mem (k_t3 (List.mem_of_getElem? (i := 121) rfl)) rfl
theorem nl_148 : Cond.instanceMethod yX8_valid ∈ k_all := k_mem (k_t3 (List.mem_of_getElem? (i := 122) rfl)) rfl
theorem nl_149 : Cond.selects RX8 yX8_valid yX8_valid ∈ k_all := k_mem (k_t3 (List.mem_of_getElem? (i := 123) rfl)) rfl
theorem nl_150 : Cond.code yX9_valid cX9_valid 1 (some .int) ∈ k_all := k_mem (k_t5 (List.mem_of_getElem? (i := 155) rfl)) rfl
theorem nl_151 : Cond.methodLink RL 92 yX9_valid ∈ k_all := k_mem (k_t5 (List.mem_of_getElem? (i := 152) rfl)) rfl
theorem nl_152 : Cond.instanceMethod yX9_valid ∈ k_all := k_mem (k_t5 (List.mem_of_getElem? (i := 153) rfl)) rfl
theorem nl_153 : Cond.selects RX9 yX9_valid yX9_valid ∈ k_all := k_mem (k_t5 (List.mem_of_getElem? (i := 154) rfl)) rfl
theorem nl_154 : Cond.code yX8_fail cX8_fail 5 (some .int) ∈ k_all := k_mem (k_t3 (List.mem_of_getElem? (i := 146) rfl)) rfl
theorem nl_155 : Cond.methodLink RL 93 yX8_fail ∈ k_all := k_mem (k_t3 (List.mem_of_getElem? (i := 143) rfl)) rfl
theorem nl_156 : Cond.instanceMethod yX8_fail ∈ k_all := k_mem (k_t3 (List.mem_of_getElem? (i := 144) rfl)) rfl
theorem nl_157 : Cond.selects RX8 yX8_fail yX8_fail ∈ k_all := k_mem (k_t3 (List.mem_of_getElem? (i := 145) rfl)) rfl
theorem nl_158 : Cond.code yX9_fail cX9_fail 3 (some .int) ∈ k_all := k_mem (k_t5 (List.mem_of_getElem? (i := 171) rfl)) rfl
theorem nl_159 : Cond.methodLink RL 96 yX9_fail ∈ k_all := k_mem (k_t5 (List.mem_of_getElem? (i := 168) rfl)) rfl
theorem nl_160 : Cond.instanceMethod yX9_fail ∈ k_all := k_mem (k_t5 (List.mem_of_getElem? (i := 169) rfl)) rfl
theorem nl_161 : Cond.selects RX9 yX9_fail yX9_fail ∈ k_all := k_mem (k_t5 (List.mem_of_getElem? (i := 170) rfl)) rfl
theorem nl_162 : Cond.code yX8_tells cX8_tells 2 (some .int) ∈ k_all := k_mem (k_t3 (List.mem_of_getElem? (i := 161) rfl)) rfl
theorem nl_163 : Cond.methodLink RL 97 yX8_tells ∈ k_all := k_mem (k_t3 (List.mem_of_getElem? (i := 158) rfl)) rfl
theorem nl_164 : Cond.instanceMethod yX8_tells ∈ k_all := k_mem (k_t3 (List.mem_of_getElem? (i := 159) rfl)) rfl
theorem nl_165 : Cond.selects RX8 yX8_tells yX8_tells ∈ k_all := k_mem (k_t3 (List.mem_of_getElem? (i := 160) rfl)) rfl
theorem nl_166 : Cond.code yX9_tells cX9_tells 2 (some .int) ∈ k_all := k_mem (k_t5 (List.mem_of_getElem? (i := 183) rfl)) rfl
theorem nl_167 : Cond.methodLink RL 100 yX9_tells ∈ k_all := k_mem (k_t5 (List.mem_of_getElem? (i := 180) rfl)) rfl
theorem nl_168 : Cond.instanceMethod yX9_tells ∈ k_all := k_mem (k_t5 (List.mem_of_getElem? (i := 181) rfl)) rfl
theorem nl_169 : Cond.selects RX9 yX9_tells yX9_tells ∈ k_all := k_mem (k_t5 (List.mem_of_getElem? (i := 182) rfl)) rfl
theorem nl_170 : Cond.code yX8_keeps cX8_keeps 2 (some .int) ∈ k_all := k_mem (k_t3 (List.mem_of_getElem? (i := 170) rfl)) rfl
theorem nl_171 : Cond.methodLink RL 101 yX8_keeps ∈ k_all := k_mem (k_t3 (List.mem_of_getElem? (i := 167) rfl)) rfl
theorem nl_172 : Cond.instanceMethod yX8_keeps ∈ k_all := k_mem (k_t3 (List.mem_of_getElem? (i := 168) rfl)) rfl
theorem nl_173 : Cond.selects RX8 yX8_keeps yX8_keeps ∈ k_all := k_mem (k_t3 (List.mem_of_getElem? (i := 169) rfl)) rfl
theorem nl_174 : Cond.code yX9_keeps cX9_keeps 2 (some .int) ∈ k_all := k_mem (k_t5 (List.mem_of_getElem? (i := 191) rfl)) rfl
theorem nl_175 : Cond.methodLink RL 104 yX9_keeps ∈ k_all := k_mem (k_t5 (List.mem_of_getElem? (i := 188) rfl)) rfl
theorem nl_176 : Cond.instanceMethod yX9_keeps ∈ k_all := k_mem (k_t5 (List.mem_of_getElem? (i := 189) rfl)) rfl
theorem nl_177 : Cond.selects RX9 yX9_keeps yX9_keeps ∈ k_all := k_mem (k_t5 (List.mem_of_getElem? (i := 190) rfl)) rfl
theorem nl_178 : Cond.code yX8_see cX8_see 3 (some .int) ∈ k_all := k_mem (k_t3 (List.mem_of_getElem? (i := 174) rfl)) rfl
theorem nl_179 : Cond.methodLink RL 105 yX8_see ∈ k_all := k_mem (k_t3 (List.mem_of_getElem? (i := 171) rfl)) rfl
theorem nl_180 : Cond.instanceMethod yX8_see ∈ k_all := k_mem (k_t3 (List.mem_of_getElem? (i := 172) rfl)) rfl
theorem nl_181 : Cond.selects RX8 yX8_see yX8_see ∈ k_all := k_mem (k_t3 (List.mem_of_getElem? (i := 173) rfl)) rfl
theorem nl_182 : Cond.code yX9_see cX9_see 3 (some .int) ∈ k_all := k_mem (k_t5 (List.mem_of_getElem? (i := 199) rfl)) rfl
theorem nl_183 : Cond.methodLink RL 109 yX9_see ∈ k_all := k_mem (k_t5 (List.mem_of_getElem? (i := 196) rfl)) rfl
theorem nl_184 : Cond.instanceMethod yX9_see ∈ k_all := k_mem (k_t5 (List.mem_of_getElem? (i := 197) rfl)) rfl
theorem nl_185 : Cond.selects RX9 yX9_see yX9_see ∈ k_all := k_mem (k_t5 (List.mem_of_getElem? (i := 198) rfl)) rfl
theorem nl_186 : Cond.code yX8_forget cX8_forget 2 (some .int) ∈ k_all := k_mem (k_t3 (List.mem_of_getElem? (i := 188) rfl)) rfl
theorem nl_187 : Cond.methodLink RL 110 yX8_forget ∈ k_all := k_mem (k_t3 (List.mem_of_getElem? (i := 185) rfl)) rfl
theorem nl_188 : Cond.instanceMethod yX8_forget ∈ k_all := k_mem (k_t3 (List.mem_of_getElem? (i := 186) rfl)) rfl
theorem nl_189 : Cond.selects RX8 yX8_forget yX8_forget ∈ k_all := k_mem (k_t3 (List.mem_of_getElem? (i := 187) rfl)) rfl
theorem nl_190 : Cond.code yX9_forget cX9_forget 2 (some .int) ∈ k_all := k_mem (k_t5 (List.mem_of_getElem? (i := 203) rfl)) rfl
theorem nl_191 : Cond.methodLink RL 113 yX9_forget ∈ k_all := k_mem (k_t5 (List.mem_of_getElem? (i := 200) rfl)) rfl
theorem nl_192 : Cond.instanceMethod yX9_forget ∈ k_all := k_mem (k_t5 (List.mem_of_getElem? (i := 201) rfl)) rfl
theorem nl_193 : Cond.selects RX9 yX9_forget yX9_forget ∈ k_all := k_mem (k_t5 (List.mem_of_getElem? (i := 202) rfl)) rfl
theorem nl_194 : Cond.code yX8_sorts cX8_sorts 2 (some .int) ∈ k_all := k_mem (k_t3 (List.mem_of_getElem? (i := 192) rfl)) rfl
theorem nl_195 : Cond.methodLink RL 114 yX8_sorts ∈ k_all := k_mem (k_t3 (List.mem_of_getElem? (i := 189) rfl)) rfl
theorem nl_196 : Cond.instanceMethod yX8_sorts ∈ k_all := k_mem (k_t3 (List.mem_of_getElem? (i := 190) rfl)) rfl
theorem nl_197 : Cond.selects RX8 yX8_sorts yX8_sorts ∈ k_all := k_mem (k_t3 (List.mem_of_getElem? (i := 191) rfl)) rfl
theorem nl_198 : Cond.code yX9_sorts cX9_sorts 2 (some .int) ∈ k_all := k_mem (k_t5 (List.mem_of_getElem? (i := 207) rfl)) rfl
theorem nl_199 : Cond.methodLink RL 117 yX9_sorts ∈ k_all := k_mem (k_t5 (List.mem_of_getElem? (i := 204) rfl)) rfl
theorem nl_200 : Cond.instanceMethod yX9_sorts ∈ k_all := k_mem (k_t5 (List.mem_of_getElem? (i := 205) rfl)) rfl
theorem nl_201 : Cond.selects RX9 yX9_sorts yX9_sorts ∈ k_all := k_mem (k_t5 (List.mem_of_getElem? (i := 206) rfl)) rfl
theorem nl_202 : Cond.code yX8_drawn cX8_drawn 7 (some .int) ∈ k_all := k_mem (k_t3 (List.mem_of_getElem? (i := 208) rfl)) rfl
theorem nl_203 : Cond.methodLink RL 118 yX8_drawn ∈ k_all := k_mem (k_t3 (List.mem_of_getElem? (i := 205) rfl)) rfl
theorem nl_204 : Cond.instanceMethod yX8_drawn ∈ k_all := k_mem (k_t3 (List.mem_of_getElem? (i := 206) rfl)) rfl
theorem nl_205 : Cond.selects RX8 yX8_drawn yX8_drawn ∈ k_all := k_mem (k_t3 (List.mem_of_getElem? (i := 207) rfl)) rfl
theorem nl_206 : Cond.code yX9_drawn cX9_drawn 4 (some .int) ∈ k_all := k_mem (k_t5 (List.mem_of_getElem? (i := 226) rfl)) rfl
theorem nl_207 : Cond.methodLink RL 122 yX9_drawn ∈ k_all := k_mem (k_t5 (List.mem_of_getElem? (i := 223) rfl)) rfl
theorem nl_208 : Cond.instanceMethod yX9_drawn ∈ k_all := k_mem (k_t5 (List.mem_of_getElem? (i := 224) rfl)) rfl
theorem nl_209 : Cond.selects RX9 yX9_drawn yX9_drawn ∈ k_all := k_mem (k_t5 (List.mem_of_getElem? (i := 225) rfl)) rfl
theorem nl_210 : Cond.code yX8_image cX8_image 1 (some .int) ∈ k_all := k_mem (k_t3 (List.mem_of_getElem? (i := 228) rfl)) rfl
theorem nl_211 : Cond.methodLink RL 123 yX8_image ∈ k_all := k_mem (k_t3 (List.mem_of_getElem? (i := 225) rfl)) rfl
theorem nl_212 : Cond.instanceMethod yX8_image ∈ k_all := k_mem (k_t3 (List.mem_of_getElem? (i := 226) rfl)) rfl
theorem nl_213 : Cond.selects RX8 yX8_image yX8_image ∈ k_all := k_mem (k_t3 (List.mem_of_getElem? (i := 227) rfl)) rfl
theorem nl_214 : Cond.code yX9_image cX9_image 2 (some .int) ∈ k_all := k_mem (k_t6 (List.mem_of_getElem? (i := 2) rfl)) rfl
theorem nl_215 : Cond.methodLink RL 126 yX9_image ∈ k_all := k_mem (k_t5 (List.mem_of_getElem? (i := 239) rfl)) rfl
theorem nl_216 : Cond.instanceMethod yX9_image ∈ k_all := k_mem (k_t6 (List.mem_of_getElem? (i := 0) rfl)) rfl
theorem nl_217 : Cond.selects RX9 yX9_image yX9_image ∈ k_all := k_mem (k_t6 (List.mem_of_getElem? (i := 1) rfl)) rfl
theorem nl_218 : Cond.code yX8_restore cX8_restore 1 (some .int) ∈ k_all := k_mem (k_t3 (List.mem_of_getElem? (i := 236) rfl)) rfl
theorem nl_219 : Cond.methodLink RL 127 yX8_restore ∈ k_all := k_mem (k_t3 (List.mem_of_getElem? (i := 233) rfl)) rfl
theorem nl_220 : Cond.instanceMethod yX8_restore ∈ k_all := k_mem (k_t3 (List.mem_of_getElem? (i := 234) rfl)) rfl
theorem nl_221 : Cond.selects RX8 yX8_restore yX8_restore ∈ k_all := k_mem (k_t3 (List.mem_of_getElem? (i := 235) rfl)) rfl
theorem nl_222 : Cond.code yX9_restore cX9_restore 2 (some .int) ∈ k_all := k_mem (k_t6 (List.mem_of_getElem? (i := 6) rfl)) rfl
theorem nl_223 : Cond.methodLink RL 130 yX9_restore ∈ k_all := k_mem (k_t6 (List.mem_of_getElem? (i := 3) rfl)) rfl
theorem nl_224 : Cond.instanceMethod yX9_restore ∈ k_all := k_mem (k_t6 (List.mem_of_getElem? (i := 4) rfl)) rfl
theorem nl_225 : Cond.selects RX9 yX9_restore yX9_restore ∈ k_all := k_mem (k_t6 (List.mem_of_getElem? (i := 5) rfl)) rfl
theorem nl_226 : Cond.code yX8_count cX8_count 2 (some .int) ∈ k_all := k_mem (k_t4 (List.mem_of_getElem? (i := 0) rfl)) rfl
theorem nl_227 : Cond.methodLink RL 131 yX8_count ∈ k_all := k_mem (k_t3 (List.mem_of_getElem? (i := 237) rfl)) rfl
theorem nl_228 : Cond.instanceMethod yX8_count ∈ k_all := k_mem (k_t3 (List.mem_of_getElem? (i := 238) rfl)) rfl
theorem nl_229 : Cond.selects RX8 yX8_count yX8_count ∈ k_all := k_mem (k_t3 (List.mem_of_getElem? (i := 239) rfl)) rfl
theorem nl_230 : Cond.code yX9_count cX9_count 2 (some .int) ∈ k_all := k_mem (k_t6 (List.mem_of_getElem? (i := 10) rfl)) rfl
theorem nl_231 : Cond.methodLink RL 134 yX9_count ∈ k_all := k_mem (k_t6 (List.mem_of_getElem? (i := 7) rfl)) rfl
theorem nl_232 : Cond.instanceMethod yX9_count ∈ k_all := k_mem (k_t6 (List.mem_of_getElem? (i := 8) rfl)) rfl
theorem nl_233 : Cond.selects RX9 yX9_count yX9_count ∈ k_all := k_mem (k_t6 (List.mem_of_getElem? (i := 9) rfl)) rfl
theorem nl_234 : Cond.code yX8_digest cX8_digest 5 (some .long) ∈ k_all := k_mem (k_t4 (List.mem_of_getElem? (i := 8) rfl)) rfl
theorem nl_235 : Cond.methodLink RL 135 yX8_digest ∈ k_all := k_mem (k_t4 (List.mem_of_getElem? (i := 5) rfl)) rfl
theorem nl_236 : Cond.instanceMethod yX8_digest ∈ k_all := k_mem (k_t4 (List.mem_of_getElem? (i := 6) rfl)) rfl
theorem nl_237 : Cond.selects RX8 yX8_digest yX8_digest ∈ k_all := k_mem (k_t4 (List.mem_of_getElem? (i := 7) rfl)) rfl
theorem nl_238 : Cond.code yX9_digest cX9_digest 2 (some .long) ∈ k_all := k_mem (k_t6 (List.mem_of_getElem? (i := 22) rfl)) rfl
theorem nl_239 : Cond.methodLink RL 139 yX9_digest ∈ k_all := k_mem (k_t6 (List.mem_of_getElem? (i := 19) rfl)) rfl
theorem nl_240 : Cond.instanceMethod yX9_digest ∈ k_all := k_mem (k_t6 (List.mem_of_getElem? (i := 20) rfl)) rfl
theorem nl_241 : Cond.selects RX9 yX9_digest yX9_digest ∈ k_all := k_mem (k_t6 (List.mem_of_getElem? (i := 21) rfl)) rfl
theorem nl_242 : Cond.classLink RL 7 RX8 ∈ k_all := k_mem (k_t1 (List.mem_of_getElem? (i := 14) rfl)) rfl
theorem nl_243 : Cond.instantiable RX8 15 ∈ k_all := k_mem (k_t1 (List.mem_of_getElem? (i := 15) rfl)) rfl
theorem nl_244 : Cond.code yX8_init cX8_init 1 none ∈ k_all := k_mem (k_t1 (List.mem_of_getElem? (i := 18) rfl)) rfl
theorem nl_245 : Cond.methodLink RL 9 yX8_init ∈ k_all := k_mem (k_t1 (List.mem_of_getElem? (i := 16) rfl)) rfl
theorem nl_246 : Cond.instanceMethod yX8_init ∈ k_all := k_mem (k_t1 (List.mem_of_getElem? (i := 17) rfl)) rfl
theorem nl_247 : Cond.classLink RL 10 RX9 ∈ k_all := k_mem (k_t4 (List.mem_of_getElem? (i := 21) rfl)) rfl
theorem nl_248 : Cond.instantiable RX9 41 ∈ k_all := k_mem (k_t4 (List.mem_of_getElem? (i := 22) rfl)) rfl
theorem nl_249 : Cond.code yX9_init cX9_init 1 none ∈ k_all := k_mem (k_t4 (List.mem_of_getElem? (i := 25) rfl)) rfl
theorem nl_250 : Cond.methodLink RL 12 yX9_init ∈ k_all := k_mem (k_t4 (List.mem_of_getElem? (i := 23) rfl)) rfl
theorem nl_251 : Cond.instanceMethod yX9_init ∈ k_all := k_mem (k_t4 (List.mem_of_getElem? (i := 24) rfl)) rfl
