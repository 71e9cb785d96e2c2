theorem dX9_close_38 : decode cX9_close 38 = .ok (.iload_n 3, 1) := by decide +kernel
theorem dX9_close_39 : decode cX9_close 39 = .ok (.aload_n 0, 1) := by decide +kernel
theorem dX9_close_40 : decode cX9_close 40 = .ok (.getfield 121, 3) := by decide +kernel
theorem dX9_close_43 : decode cX9_close 43 = .ok (.idiv, 1) := by decide +kernel
theorem dX9_close_44 : decode cX9_close 44 = .ok (.istore 4, 2) := by decide +kernel
theorem dX9_close_46 : decode cX9_close 46 = .ok (.iload_n 3, 1) := by decide +kernel
theorem dX9_close_47 : decode cX9_close 47 = .ok (.aload_n 0, 1) := by decide +kernel
theorem dX9_close_48 : decode cX9_close 48 = .ok (.getfield 121, 3) := by decide +kernel
theorem dX9_close_51 : decode cX9_close 51 = .ok (.irem, 1) := by decide +kernel
theorem dX9_close_52 : decode cX9_close 52 = .ok (.istore 5, 2) := by decide +kernel
theorem dX9_close_54 : decode cX9_close 54 = .ok (.aload_n 0, 1) := by decide +kernel
theorem dX9_close_55 : decode cX9_close 55 = .ok (.getfield 7, 3) := by decide +kernel
theorem dX9_close_58 : decode cX9_close 58 = .ok (.iconst 4, 1) := by decide +kernel
theorem dX9_close_59 : decode cX9_close 59 = .ok (.iload 4, 2) := by decide +kernel
theorem dX9_close_61 : decode cX9_close 61 = .ok (.imul, 1) := by decide +kernel
theorem dX9_close_62 : decode cX9_close 62 = .ok (.iload 5, 2) := by decide +kernel
theorem dX9_close_64 : decode cX9_close 64 = .ok (.iadd, 1) := by decide +kernel
theorem dX9_close_65 : decode cX9_close 65 = .ok (.aload_n 0, 1) := by decide +kernel
theorem dX9_close_66 : decode cX9_close 66 = .ok (.getfield 7, 3) := by decide +kernel
theorem dX9_close_69 : decode cX9_close 69 = .ok (.iconst 4, 1) := by decide +kernel
theorem dX9_close_70 : decode cX9_close 70 = .ok (.iload 4, 2) := by decide +kernel
theorem dX9_close_72 : decode cX9_close 72 = .ok (.imul, 1) := by decide +kernel
theorem dX9_close_73 : decode cX9_close 73 = .ok (.iload 5, 2) := by decide +kernel
theorem dX9_close_75 : decode cX9_close 75 = .ok (.iadd, 1) := by decide +kernel
theorem dX9_close_76 : decode cX9_close 76 = .ok (.baload, 1) := by decide +kernel
theorem dX9_close_77 : decode cX9_close 77 = .ok (.ifCond .ne 14, 3) := by decide +kernel
theorem dX9_close_80 : decode cX9_close 80 = .ok (.aload_n 0, 1) := by decide +kernel
theorem dX9_close_81 : decode cX9_close 81 = .ok (.iload 4, 2) := by decide +kernel
theorem dX9_close_83 : decode cX9_close 83 = .ok (.iload 5, 2) := by decide +kernel
theorem dX9_close_85 : decode cX9_close 85 = .ok (.invokevirtual 252, 3) := by decide +kernel
theorem dX9_close_88 : decode cX9_close 88 = .ok (.ifCond .eq 7, 3) := by decide +kernel
theorem dX9_close_91 : decode cX9_close 91 = .ok (.iconst 1, 1) := by decide +kernel
theorem dX9_close_92 : decode cX9_close 92 = .ok (.goto 4, 3) := by decide +kernel
theorem dX9_close_95 : decode cX9_close 95 = .ok (.iconst 0, 1) := by decide +kernel
theorem dX9_close_96 : decode cX9_close 96 = .ok (.bastore, 1) := by decide +kernel
theorem dX9_close_97 : decode cX9_close 97 = .ok (.iinc 3 1, 3) := by decide +kernel
theorem dX9_close_100 : decode cX9_close 100 = .ok (.goto (-75), 3) := by decide +kernel
theorem dX9_close_103 : decode cX9_close 103 = .ok (.iinc 2 1, 3) := by decide +kernel
theorem dX9_close_106 : decode cX9_close 106 = .ok (.goto (-89), 3) := by decide +kernel
theorem dX9_close_109 : decode cX9_close 109 = .ok (.aload_n 0, 1) := by decide +kernel
theorem dX9_close_110 : decode cX9_close 110 = .ok (.invokevirtual 193, 3) := by decide +kernel
theorem dX9_close_113 : decode cX9_close 113 = .ok (.iload_n 1, 1) := by decide +kernel
theorem dX9_close_114 : decode cX9_close 114 = .ok (.isub, 1) := by decide +kernel
theorem dX9_close_115 : decode cX9_close 115 = .ok (.ireturn, 1) := by decide +kernel
theorem dX9_shrink_0 : decode cX9_shrink 0 = .ok (.aload_n 0, 1) := by decide +kernel
theorem dX9_shrink_1 : decode cX9_shrink 1 = .ok (.invokevirtual 202, 3) := by decide +kernel
theorem dX9_shrink_4 : decode cX9_shrink 4 = .ok (.ifCond .ne 6, 3) := by decide +kernel
theorem dX9_shrink_7 : decode cX9_shrink 7 = .ok (.bipush (-103), 2) := by decide +kernel
theorem dX9_shrink_9 : decode cX9_shrink 9 = .ok (.ireturn, 1) := by decide +kernel
theorem dX9_shrink_10 : decode cX9_shrink 10 = .ok (.aload_n 0, 1) := by decide +kernel
theorem dX9_shrink_11 : decode cX9_shrink 11 = .ok (.invokevirtual 178, 3) := by decide +kernel
theorem dX9_shrink_14 : decode cX9_shrink 14 = .ok (.aload_n 0, 1) := by decide +kernel
theorem dX9_shrink_15 : decode cX9_shrink 15 = .ok (.getfield 121, 3) := by decide +kernel
theorem dX9_shrink_18 : decode cX9_shrink 18 = .ok (.iconst 1, 1) := by decide +kernel
theorem dX9_shrink_19 : decode cX9_shrink 19 = .ok (.isub, 1) := by decide +kernel
theorem dX9_shrink_20 : decode cX9_shrink 20 = .ok (.istore_n 1, 1) := by decide +kernel
theorem dX9_shrink_21 : decode cX9_shrink 21 = .ok (.iload_n 1, 1) := by decide +kernel
theorem dX9_shrink_22 : decode cX9_shrink 22 = .ok (.ifCond .lt 82, 3) := by decide +kernel
theorem dX9_shrink_25 : decode cX9_shrink 25 = .ok (.aload_n 0, 1) := by decide +kernel
theorem dX9_shrink_26 : decode cX9_shrink 26 = .ok (.iload_n 1, 1) := by decide +kernel
theorem dX9_shrink_27 : decode cX9_shrink 27 = .ok (.invokevirtual 181, 3) := by decide +kernel
theorem dX9_shrink_30 : decode cX9_shrink 30 = .ok (.istore_n 2, 1) := by decide +kernel
theorem dX9_shrink_31 : decode cX9_shrink 31 = .ok (.iload_n 2, 1) := by decide +kernel
theorem dX9_shrink_32 : decode cX9_shrink 32 = .ok (.iload_n 1, 1) := by decide +kernel
theorem dX9_shrink_33 : decode cX9_shrink 33 = .ok (.if_icmp .eq 65, 3) := by decide +kernel
theorem dX9_shrink_36 : decode cX9_shrink 36 = .ok (.iconst 0, 1) := by decide +kernel
theorem dX9_shrink_37 : decode cX9_shrink 37 = .ok (.istore_n 3, 1) := by decide +kernel
theorem dX9_shrink_38 : decode cX9_shrink 38 = .ok (.iload_n 3, 1) := by decide +kernel
theorem dX9_shrink_39 : decode cX9_shrink 39 = .ok (.aload_n 0, 1) := by decide +kernel
theorem dX9_shrink_40 : decode cX9_shrink 40 = .ok (.getfield 121, 3) := by decide +kernel
theorem dX9_shrink_43 : decode cX9_shrink 43 = .ok (.if_icmp .ge 50, 3) := by decide +kernel
theorem dX9_shrink_46 : decode cX9_shrink 46 = .ok (.aload_n 0, 1) := by decide +kernel
theorem dX9_shrink_47 : decode cX9_shrink 47 = .ok (.getfield 7, 3) := by decide +kernel
theorem dX9_shrink_50 : decode cX9_shrink 50 = .ok (.iconst 4, 1) := by decide +kernel
theorem dX9_shrink_51 : decode cX9_shrink 51 = .ok (.iload_n 3, 1) := by decide +kernel
theorem dX9_shrink_52 : decode cX9_shrink 52 = .ok (.imul, 1) := by decide +kernel
theorem dX9_shrink_53 : decode cX9_shrink 53 = .ok (.iload_n 2, 1) := by decide +kernel
theorem dX9_shrink_54 : decode cX9_shrink 54 = .ok (.iadd, 1) := by decide +kernel
theorem dX9_shrink_55 : decode cX9_shrink 55 = .ok (.aload_n 0, 1) := by decide +kernel
theorem dX9_shrink_56 : decode cX9_shrink 56 = .ok (.getfield 7, 3) := by decide +kernel
theorem dX9_shrink_59 : decode cX9_shrink 59 = .ok (.iconst 4, 1) := by decide +kernel
theorem dX9_shrink_60 : decode cX9_shrink 60 = .ok (.iload_n 3, 1) := by decide +kernel
theorem dX9_shrink_61 : decode cX9_shrink 61 = .ok (.imul, 1) := by decide +kernel
theorem dX9_shrink_62 : decode cX9_shrink 62 = .ok (.iload_n 2, 1) := by decide +kernel
theorem dX9_shrink_63 : decode cX9_shrink 63 = .ok (.iadd, 1) := by decide +kernel
theorem dX9_shrink_64 : decode cX9_shrink 64 = .ok (.baload, 1) := by decide +kernel
theorem dX9_shrink_65 : decode cX9_shrink 65 = .ok (.ifCond .ne 16, 3) := by decide +kernel
theorem dX9_shrink_68 : decode cX9_shrink 68 = .ok (.aload_n 0, 1) := by decide +kernel
theorem dX9_shrink_69 : decode cX9_shrink 69 = .ok (.getfield 7, 3) := by decide +kernel
theorem dX9_shrink_72 : decode cX9_shrink 72 = .ok (.iconst 4, 1) := by decide +kernel
theorem dX9_shrink_73 : decode cX9_shrink 73 = .ok (.iload_n 3, 1) := by decide +kernel
theorem dX9_shrink_74 : decode cX9_shrink 74 = .ok (.imul, 1) := by decide +kernel
theorem dX9_shrink_75 : decode cX9_shrink 75 = .ok (.iload_n 1, 1) := by decide +kernel
theorem dX9_shrink_76 : decode cX9_shrink 76 = .ok (.iadd, 1) := by decide +kernel
theorem dX9_shrink_77 : decode cX9_shrink 77 = .ok (.baload, 1) := by decide +kernel
theorem dX9_shrink_78 : decode cX9_shrink 78 = .ok (.ifCond .eq 7, 3) := by decide +kernel
theorem dX9_shrink_81 : decode cX9_shrink 81 = .ok (.iconst 1, 1) := by decide +kernel
theorem dX9_shrink_82 : decode cX9_shrink 82 = .ok (.goto 4, 3) := by decide +kernel
theorem dX9_shrink_85 : decode cX9_shrink 85 = .ok (.iconst 0, 1) := by decide +kernel
theorem dX9_shrink_86 : decode cX9_shrink 86 = .ok (.bastore, 1) := by decide +kernel
theorem dX9_shrink_87 : decode cX9_shrink 87 = .ok (.iinc 3 1, 3) := by decide +kernel
theorem dX9_shrink_90 : decode cX9_shrink 90 = .ok (.goto (-52), 3) := by decide +kernel
theorem dX9_shrink_93 : decode cX9_shrink 93 = .ok (.aload_n 0, 1) := by decide +kernel
theorem dX9_shrink_94 : decode cX9_shrink 94 = .ok (.iload_n 1, 1) := by decide +kernel
theorem dX9_shrink_95 : decode cX9_shrink 95 = .ok (.invokevirtual 246, 3) := by decide +kernel
theorem dX9_shrink_98 : decode cX9_shrink 98 = .ok (.iinc 1 (-1), 3) := by decide +kernel
theorem dX9_shrink_101 : decode cX9_shrink 101 = .ok (.goto (-80), 3) := by decide +kernel
theorem dX9_shrink_104 : decode cX9_shrink 104 = .ok (.aload_n 0, 1) := by decide +kernel
theorem dX9_shrink_105 : decode cX9_shrink 105 = .ok (.getfield 121, 3) := by decide +kernel
theorem dX9_shrink_108 : decode cX9_shrink 108 = .ok (.ireturn, 1) := by decide +kernel
theorem dX9_validNow_0 : decode cX9_validNow 0 = .ok (.aload_n 0, 1) := by decide +kernel
theorem dX9_validNow_1 : decode cX9_validNow 1 = .ok (.invokevirtual 184, 3) := by decide +kernel
theorem dX9_validNow_4 : decode cX9_validNow 4 = .ok (.aload_n 0, 1) := by decide +kernel
theorem dX9_validNow_5 : decode cX9_validNow 5 = .ok (.invokevirtual 255, 3) := by decide +kernel
theorem dX9_validNow_8 : decode cX9_validNow 8 = .ok (.iconst (-1), 1) := by decide +kernel
theorem dX9_validNow_9 : decode cX9_validNow 9 = .ok (.if_icmp .ne 7, 3) := by decide +kernel
theorem dX9_validNow_12 : decode cX9_validNow 12 = .ok (.iconst 1, 1) := by decide +kernel
theorem dX9_validNow_13 : decode cX9_validNow 13 = .ok (.goto 4, 3) := by decide +kernel
theorem dX9_validNow_16 : decode cX9_validNow 16 = .ok (.iconst 0, 1) := by decide +kernel
theorem dX9_validNow_17 : decode cX9_validNow 17 = .ok (.ireturn, 1) := by decide +kernel
theorem dX9_valid_0 : decode cX9_valid 0 = .ok (.aload_n 0, 1) := by decide +kernel
theorem dX9_valid_1 : decode cX9_valid 1 = .ok (.invokevirtual 202, 3) := by decide +kernel
theorem dX9_valid_4 : decode cX9_valid 4 = .ok (.ifCond .eq 17, 3) := by decide +kernel
theorem dX9_valid_7 : decode cX9_valid 7 = .ok (.aload_n 0, 1) := by decide +kernel
theorem dX9_valid_8 : decode cX9_valid 8 = .ok (.invokevirtual 218, 3) := by decide +kernel
theorem dX9_valid_11 : decode cX9_valid 11 = .ok (.ifCond .eq 10, 3) := by decide +kernel
theorem dX9_valid_14 : decode cX9_valid 14 = .ok (.aload_n 0, 1) := by decide +kernel
theorem dX9_valid_15 : decode cX9_valid 15 = .ok (.invokevirtual 258, 3) := by decide +kernel
theorem dX9_valid_18 : decode cX9_valid 18 = .ok (.goto 5, 3) := by decide +kernel
theorem dX9_valid_21 : decode cX9_valid 21 = .ok (.bipush (-103), 2) := by decide +kernel
theorem dX9_valid_23 : decode cX9_valid 23 = .ok (.ireturn, 1) := by decide +kernel
theorem dX9_failNow_0 : decode cX9_failNow 0 = .ok (.iconst 0, 1) := by decide +kernel
theorem dX9_failNow_1 : decode cX9_failNow 1 = .ok (.istore_n 3, 1) := by decide +kernel
theorem dX9_failNow_2 : decode cX9_failNow 2 = .ok (.iload_n 3, 1) := by decide +kernel
theorem dX9_failNow_3 : decode cX9_failNow 3 = .ok (.iconst 1, 1) := by decide +kernel
theorem dX9_failNow_4 : decode cX9_failNow 4 = .ok (.iload_n 1, 1) := by decide +kernel
theorem dX9_failNow_5 : decode cX9_failNow 5 = .ok (.iload_n 1, 1) := by decide +kernel
theorem dX9_failNow_6 : decode cX9_failNow 6 = .ok (.imul, 1) := by decide +kernel
theorem dX9_failNow_7 : decode cX9_failNow 7 = .ok (.ishl, 1) := by decide +kernel
theorem dX9_failNow_8 : decode cX9_failNow 8 = .ok (.if_icmp .ge 94, 3) := by decide +kernel
theorem dX9_failNow_11 : decode cX9_failNow 11 = .ok (.aload_n 0, 1) := by decide +kernel
theorem dX9_failNow_12 : decode cX9_failNow 12 = .ok (.iload_n 1, 1) := by decide +kernel
theorem dX9_failNow_13 : decode cX9_failNow 13 = .ok (.iload_n 3, 1) := by decide +kernel
theorem dX9_failNow_14 : decode cX9_failNow 14 = .ok (.invokevirtual 261, 3) := by decide +kernel
theorem dX9_failNow_17 : decode cX9_failNow 17 = .ok (.aload_n 0, 1) := by decide +kernel
theorem dX9_failNow_18 : decode cX9_failNow 18 = .ok (.aload_n 0, 1) := by decide +kernel
theorem dX9_failNow_19 : decode cX9_failNow 19 = .ok (.getfield 118, 3) := by decide +kernel
theorem dX9_failNow_22 : decode cX9_failNow 22 = .ok (.invokevirtual 190, 3) := by decide +kernel
theorem dX9_failNow_25 : decode cX9_failNow 25 = .ok (.ifCond .eq 10, 3) := by decide +kernel
theorem dX9_failNow_28 : decode cX9_failNow 28 = .ok (.aload_n 0, 1) := by decide +kernel
theorem dX9_failNow_29 : decode cX9_failNow 29 = .ok (.invokevirtual 255, 3) := by decide +kernel
theorem dX9_failNow_32 : decode cX9_failNow 32 = .ok (.goto 4, 3) := by decide +kernel
theorem dX9_failNow_35 : decode cX9_failNow 35 = .ok (.iconst (-1), 1) := by decide +kernel
theorem dX9_failNow_36 : decode cX9_failNow 36 = .ok (.istore 4, 2) := by decide +kernel
theorem dX9_failNow_38 : decode cX9_failNow 38 = .ok (.iload 4, 2) := by decide +kernel
theorem dX9_failNow_40 : decode cX9_failNow 40 = .ok (.iconst (-1), 1) := by decide +kernel
theorem dX9_failNow_41 : decode cX9_failNow 41 = .ok (.if_icmp .eq 55, 3) := by decide +kernel
theorem dX9_failNow_44 : decode cX9_failNow 44 = .ok (.iconst 0, 1) := by decide +kernel
theorem dX9_failNow_45 : decode cX9_failNow 45 = .ok (.istore 5, 2) := by decide +kernel
theorem dX9_failNow_47 : decode cX9_failNow 47 = .ok (.iload 5, 2) := by decide +kernel
theorem dX9_failNow_49 : decode cX9_failNow 49 = .ok (.iload_n 1, 1) := by decide +kernel
theorem dX9_failNow_50 : decode cX9_failNow 50 = .ok (.iconst 1, 1) := by decide +kernel
theorem dX9_failNow_51 : decode cX9_failNow 51 = .ok (.isub, 1) := by decide +kernel
theorem dX9_failNow_52 : decode cX9_failNow 52 = .ok (.if_icmp .ge 23, 3) := by decide +kernel
theorem dX9_failNow_55 : decode cX9_failNow 55 = .ok (.aload_n 0, 1) := by decide +kernel
theorem dX9_failNow_56 : decode cX9_failNow 56 = .ok (.getfield 39, 3) := by decide +kernel
theorem dX9_failNow_59 : decode cX9_failNow 59 = .ok (.iconst 0, 1) := by decide +kernel
theorem dX9_failNow_60 : decode cX9_failNow 60 = .ok (.iaload, 1) := by decide +kernel
theorem dX9_failNow_61 : decode cX9_failNow 61 = .ok (.iload 5, 2) := by decide +kernel
theorem dX9_failNow_63 : decode cX9_failNow 63 = .ok (.invokestatic 161, 3) := by decide +kernel
theorem dX9_failNow_66 : decode cX9_failNow 66 = .ok (.ifCond .eq 9, 3) := by decide +kernel
theorem dX9_failNow_69 : decode cX9_failNow 69 = .ok (.iinc 5 1, 3) := by decide +kernel
theorem dX9_failNow_72 : decode cX9_failNow 72 = .ok (.goto (-25), 3) := by decide +kernel
theorem dX9_failNow_75 : decode cX9_failNow 75 = .ok (.iload_n 2, 1) := by decide +kernel
theorem dX9_failNow_76 : decode cX9_failNow 76 = .ok (.ifCond .ne 7, 3) := by decide +kernel
theorem dX9_failNow_79 : decode cX9_failNow 79 = .ok (.iload_n 3, 1) := by decide +kernel
theorem dX9_failNow_80 : decode cX9_failNow 80 = .ok (.goto 15, 3) := by decide +kernel
theorem dX9_failNow_83 : decode cX9_failNow 83 = .ok (.iload_n 2, 1) := by decide +kernel
theorem dX9_failNow_84 : decode cX9_failNow 84 = .ok (.iconst 1, 1) := by decide +kernel
theorem dX9_failNow_85 : decode cX9_failNow 85 = .ok (.if_icmp .ne 8, 3) := by decide +kernel
theorem dX9_failNow_88 : decode cX9_failNow 88 = .ok (.iload 4, 2) := by decide +kernel
theorem dX9_failNow_90 : decode cX9_failNow 90 = .ok (.goto 5, 3) := by decide +kernel
theorem dX9_failNow_93 : decode cX9_failNow 93 = .ok (.iload 5, 2) := by decide +kernel
theorem dX9_failNow_95 : decode cX9_failNow 95 = .ok (.ireturn, 1) := by decide +kernel
theorem dX9_failNow_96 : decode cX9_failNow 96 = .ok (.iinc 3 1, 3) := by decide +kernel
theorem dX9_failNow_99 : decode cX9_failNow 99 = .ok (.goto (-97), 3) := by decide +kernel
theorem dX9_failNow_102 : decode cX9_failNow 102 = .ok (.iconst (-1), 1) := by decide +kernel
theorem dX9_failNow_103 : decode cX9_failNow 103 = .ok (.ireturn, 1) := by decide +kernel
theorem dX9_fail_0 : decode cX9_fail 0 = .ok (.iload_n 1, 1) := by decide +kernel
theorem dX9_fail_1 : decode cX9_fail 1 = .ok (.iconst 1, 1) := by decide +kernel
theorem dX9_fail_2 : decode cX9_fail 2 = .ok (.iconst 3, 1) := by decide +kernel
theorem dX9_fail_3 : decode cX9_fail 3 = .ok (.invokestatic 57, 3) := by decide +kernel
theorem dX9_fail_6 : decode cX9_fail 6 = .ok (.ifCond .eq 12, 3) := by decide +kernel
theorem dX9_fail_9 : decode cX9_fail 9 = .ok (.iload_n 2, 1) := by decide +kernel
theorem dX9_fail_10 : decode cX9_fail 10 = .ok (.iconst 0, 1) := by decide +kernel
theorem dX9_fail_11 : decode cX9_fail 11 = .ok (.iconst 2, 1) := by decide +kernel
theorem dX9_fail_12 : decode cX9_fail 12 = .ok (.invokestatic 57, 3) := by decide +kernel
theorem dX9_fail_15 : decode cX9_fail 15 = .ok (.ifCond .ne 6, 3) := by decide +kernel
theorem dX9_fail_18 : decode cX9_fail 18 = .ok (.bipush (-102), 2) := by decide +kernel
theorem dX9_fail_20 : decode cX9_fail 20 = .ok (.ireturn, 1) := by decide +kernel
theorem dX9_fail_21 : decode cX9_fail 21 = .ok (.aload_n 0, 1) := by decide +kernel
theorem dX9_fail_22 : decode cX9_fail 22 = .ok (.invokevirtual 202, 3) := by decide +kernel
theorem dX9_fail_25 : decode cX9_fail 25 = .ok (.ifCond .eq 19, 3) := by decide +kernel
theorem dX9_fail_28 : decode cX9_fail 28 = .ok (.aload_n 0, 1) := by decide +kernel
theorem dX9_fail_29 : decode cX9_fail 29 = .ok (.invokevirtual 218, 3) := by decide +kernel
theorem dX9_fail_32 : decode cX9_fail 32 = .ok (.ifCond .eq 12, 3) := by decide +kernel
theorem dX9_fail_35 : decode cX9_fail 35 = .ok (.aload_n 0, 1) := by decide +kernel
theorem dX9_fail_36 : decode cX9_fail 36 = .ok (.getfield 265, 3) := by decide +kernel
theorem dX9_fail_39 : decode cX9_fail 39 = .ok (.bipush 12, 2) := by decide +kernel
theorem dX9_fail_41 : decode cX9_fail 41 = .ok (.if_icmp .ne 6, 3) := by decide +kernel
theorem dX9_fail_44 : decode cX9_fail 44 = .ok (.bipush (-103), 2) := by decide +kernel
theorem dX9_fail_46 : decode cX9_fail 46 = .ok (.ireturn, 1) := by decide +kernel
theorem dX9_fail_47 : decode cX9_fail 47 = .ok (.aload_n 0, 1) := by decide +kernel
theorem dX9_fail_48 : decode cX9_fail 48 = .ok (.dup, 1) := by decide +kernel
theorem dX9_fail_49 : decode cX9_fail 49 = .ok (.getfield 265, 3) := by decide +kernel
theorem dX9_fail_52 : decode cX9_fail 52 = .ok (.iconst 1, 1) := by decide +kernel
theorem dX9_fail_53 : decode cX9_fail 53 = .ok (.iadd, 1) := by decide +kernel
theorem dX9_fail_54 : decode cX9_fail 54 = .ok (.putfield 265, 3) := by decide +kernel
theorem dX9_fail_57 : decode cX9_fail 57 = .ok (.aload_n 0, 1) := by decide +kernel
theorem dX9_fail_58 : decode cX9_fail 58 = .ok (.iload_n 1, 1) := by decide +kernel
theorem dX9_fail_59 : decode cX9_fail 59 = .ok (.iload_n 2, 1) := by decide +kernel
theorem dX9_fail_60 : decode cX9_fail 60 = .ok (.invokevirtual 268, 3) := by decide +kernel
theorem dX9_fail_63 : decode cX9_fail 63 = .ok (.ireturn, 1) := by decide +kernel
theorem dX9_tellsNow_0 : decode cX9_tellsNow 0 = .ok (.iconst 0, 1) := by decide +kernel
theorem dX9_tellsNow_1 : decode cX9_tellsNow 1 = .ok (.istore_n 2, 1) := by decide +kernel
theorem dX9_tellsNow_2 : decode cX9_tellsNow 2 = .ok (.iload_n 2, 1) := by decide +kernel
theorem dX9_tellsNow_3 : decode cX9_tellsNow 3 = .ok (.sipush 512, 3) := by decide +kernel
theorem dX9_tellsNow_6 : decode cX9_tellsNow 6 = .ok (.if_icmp .ge 38, 3) := by decide +kernel
theorem dX9_tellsNow_9 : decode cX9_tellsNow 9 = .ok (.aload_n 0, 1) := by decide +kernel
theorem dX9_tellsNow_10 : decode cX9_tellsNow 10 = .ok (.iconst 3, 1) := by decide +kernel
theorem dX9_tellsNow_11 : decode cX9_tellsNow 11 = .ok (.iload_n 2, 1) := by decide +kernel
theorem dX9_tellsNow_12 : decode cX9_tellsNow 12 = .ok (.invokevirtual 261, 3) := by decide +kernel
theorem dX9_tellsNow_15 : decode cX9_tellsNow 15 = .ok (.aload_n 0, 1) := by decide +kernel
theorem dX9_tellsNow_16 : decode cX9_tellsNow 16 = .ok (.iload_n 1, 1) := by decide +kernel
theorem dX9_tellsNow_17 : decode cX9_tellsNow 17 = .ok (.invokevirtual 172, 3) := by decide +kernel
theorem dX9_tellsNow_20 : decode cX9_tellsNow 20 = .ok (.aload_n 0, 1) := by decide +kernel
theorem dX9_tellsNow_21 : decode cX9_tellsNow 21 = .ok (.invokevirtual 255, 3) := by decide +kernel
theorem dX9_tellsNow_24 : decode cX9_tellsNow 24 = .ok (.iconst (-1), 1) := by decide +kernel
theorem dX9_tellsNow_25 : decode cX9_tellsNow 25 = .ok (.if_icmp .ne 7, 3) := by decide +kernel
theorem dX9_tellsNow_28 : decode cX9_tellsNow 28 = .ok (.iconst 1, 1) := by decide +kernel
theorem dX9_tellsNow_29 : decode cX9_tellsNow 29 = .ok (.goto 4, 3) := by decide +kernel
theorem dX9_tellsNow_32 : decode cX9_tellsNow 32 = .ok (.iconst 0, 1) := by decide +kernel
theorem dX9_tellsNow_33 : decode cX9_tellsNow 33 = .ok (.if_icmp .eq 5, 3) := by decide +kernel
theorem dX9_tellsNow_36 : decode cX9_tellsNow 36 = .ok (.iconst 0, 1) := by decide +kernel
theorem dX9_tellsNow_37 : decode cX9_tellsNow 37 = .ok (.ireturn, 1) := by decide +kernel
theorem dX9_tellsNow_38 : decode cX9_tellsNow 38 = .ok (.iinc 2 1, 3) := by decide +kernel
theorem dX9_tellsNow_41 : decode cX9_tellsNow 41 = .ok (.goto (-39), 3) := by decide +kernel
theorem dX9_tellsNow_44 : decode cX9_tellsNow 44 = .ok (.iconst 1, 1) := by decide +kernel
theorem dX9_tellsNow_45 : decode cX9_tellsNow 45 = .ok (.ireturn, 1) := by decide +kernel
theorem dX9_tells_0 : decode cX9_tells 0 = .ok (.iload_n 1, 1) := by decide +kernel
theorem dX9_tells_1 : decode cX9_tells 1 = .ok (.iconst 0, 1) := by decide +kernel
theorem dX9_tells_2 : decode cX9_tells 2 = .ok (.iconst 4, 1) := by decide +kernel
theorem dX9_tells_3 : decode cX9_tells 3 = .ok (.invokestatic 57, 3) := by decide +kernel
theorem dX9_tells_6 : decode cX9_tells 6 = .ok (.ifCond .ne 6, 3) := by decide +kernel
theorem dX9_tells_9 : decode cX9_tells 9 = .ok (.bipush (-102), 2) := by decide +kernel
theorem dX9_tells_11 : decode cX9_tells 11 = .ok (.ireturn, 1) := by decide +kernel
theorem dX9_tells_12 : decode cX9_tells 12 = .ok (.aload_n 0, 1) := by decide +kernel
theorem dX9_tells_13 : decode cX9_tells 13 = .ok (.invokevirtual 218, 3) := by decide +kernel
theorem dX9_tells_16 : decode cX9_tells 16 = .ok (.ifCond .eq 12, 3) := by decide +kernel
theorem dX9_tells_19 : decode cX9_tells 19 = .ok (.aload_n 0, 1) := by decide +kernel
theorem dX9_tells_20 : decode cX9_tells 20 = .ok (.getfield 271, 3) := by decide +kernel
theorem dX9_tells_23 : decode cX9_tells 23 = .ok (.bipush 12, 2) := by decide +kernel
theorem dX9_tells_25 : decode cX9_tells 25 = .ok (.if_icmp .ne 6, 3) := by decide +kernel
theorem dX9_tells_28 : decode cX9_tells 28 = .ok (.bipush (-103), 2) := by decide +kernel
theorem dX9_tells_30 : decode cX9_tells 30 = .ok (.ireturn, 1) := by decide +kernel
theorem dX9_tells_31 : decode cX9_tells 31 = .ok (.aload_n 0, 1) := by decide +kernel
theorem dX9_tells_32 : decode cX9_tells 32 = .ok (.dup, 1) := by decide +kernel
theorem dX9_tells_33 : decode cX9_tells 33 = .ok (.getfield 271, 3) := by decide +kernel
theorem dX9_tells_36 : decode cX9_tells 36 = .ok (.iconst 1, 1) := by decide +kernel
theorem dX9_tells_37 : decode cX9_tells 37 = .ok (.iadd, 1) := by decide +kernel
theorem dX9_tells_38 : decode cX9_tells 38 = .ok (.putfield 271, 3) := by decide +kernel
theorem dX9_tells_41 : decode cX9_tells 41 = .ok (.aload_n 0, 1) := by decide +kernel
theorem dX9_tells_42 : decode cX9_tells 42 = .ok (.iload_n 1, 1) := by decide +kernel
theorem dX9_tells_43 : decode cX9_tells 43 = .ok (.invokevirtual 274, 3) := by decide +kernel
theorem dX9_tells_46 : decode cX9_tells 46 = .ok (.ireturn, 1) := by decide +kernel
theorem dX9_keepsTold_0 : decode cX9_keepsTold 0 = .ok (.aload_n 0, 1) := by decide +kernel
theorem dX9_keepsTold_1 : decode cX9_keepsTold 1 = .ok (.invokevirtual 184, 3) := by decide +kernel
theorem dX9_keepsTold_4 : decode cX9_keepsTold 4 = .ok (.aload_n 0, 1) := by decide +kernel
theorem dX9_keepsTold_5 : decode cX9_keepsTold 5 = .ok (.iload_n 1, 1) := by decide +kernel
theorem dX9_keepsTold_6 : decode cX9_keepsTold 6 = .ok (.invokevirtual 172, 3) := by decide +kernel
theorem dX9_keepsTold_9 : decode cX9_keepsTold 9 = .ok (.ifCond .eq 7, 3) := by decide +kernel
theorem dX9_keepsTold_12 : decode cX9_keepsTold 12 = .ok (.iconst 1, 1) := by decide +kernel
theorem dX9_keepsTold_13 : decode cX9_keepsTold 13 = .ok (.goto 4, 3) := by decide +kernel
theorem dX9_keepsTold_16 : decode cX9_keepsTold 16 = .ok (.iconst 0, 1) := by decide +kernel
theorem dX9_keepsTold_17 : decode cX9_keepsTold 17 = .ok (.ireturn, 1) := by decide +kernel
theorem dX9_keeps_0 : decode cX9_keeps 0 = .ok (.iload_n 1, 1) := by decide +kernel
theorem dX9_keeps_1 : decode cX9_keeps 1 = .ok (.iconst 0, 1) := by decide +kernel
theorem dX9_keeps_2 : decode cX9_keeps 2 = .ok (.iconst 4, 1) := by decide +kernel
theorem dX9_keeps_3 : decode cX9_keeps 3 = .ok (.invokestatic 57, 3) := by decide +kernel
theorem dX9_keeps_6 : decode cX9_keeps 6 = .ok (.ifCond .ne 6, 3) := by decide +kernel
theorem dX9_keeps_9 : decode cX9_keeps 9 = .ok (.bipush (-102), 2) := by decide +kernel
theorem dX9_keeps_11 : decode cX9_keeps 11 = .ok (.ireturn, 1) := by decide +kernel
theorem dX9_keeps_12 : decode cX9_keeps 12 = .ok (.aload_n 0, 1) := by decide +kernel
theorem dX9_keeps_13 : decode cX9_keeps 13 = .ok (.invokevirtual 202, 3) := by decide +kernel
theorem dX9_keeps_16 : decode cX9_keeps 16 = .ok (.ifCond .eq 11, 3) := by decide +kernel
theorem dX9_keeps_19 : decode cX9_keeps 19 = .ok (.aload_n 0, 1) := by decide +kernel
theorem dX9_keeps_20 : decode cX9_keeps 20 = .ok (.iload_n 1, 1) := by decide +kernel
theorem dX9_keeps_21 : decode cX9_keeps 21 = .ok (.invokevirtual 277, 3) := by decide +kernel
theorem dX9_keeps_24 : decode cX9_keeps 24 = .ok (.goto 5, 3) := by decide +kernel
theorem dX9_keeps_27 : decode cX9_keeps 27 = .ok (.bipush (-103), 2) := by decide +kernel
theorem dX9_keeps_29 : decode cX9_keeps 29 = .ok (.ireturn, 1) := by decide +kernel
theorem dX9_could_0 : decode cX9_could 0 = .ok (.iload_n 1, 1) := by decide +kernel
theorem dX9_could_1 : decode cX9_could 1 = .ok (.tableswitch 73 0 2 #[27, 42, 62], 27) := by decide +kernel
theorem dX9_could_28 : decode cX9_could 28 = .ok (.iload_n 0, 1) := by decide +kernel
theorem dX9_could_29 : decode cX9_could 29 = .ok (.ifCond .eq 8, 3) := by decide +kernel
theorem dX9_could_32 : decode cX9_could 32 = .ok (.iload_n 0, 1) := by decide +kernel
theorem dX9_could_33 : decode cX9_could 33 = .ok (.iconst 3, 1) := by decide +kernel
theorem dX9_could_34 : decode cX9_could 34 = .ok (.if_icmp .ne 7, 3) := by decide +kernel
theorem dX9_could_37 : decode cX9_could 37 = .ok (.iconst 1, 1) := by decide +kernel
theorem dX9_could_38 : decode cX9_could 38 = .ok (.goto 4, 3) := by decide +kernel
theorem dX9_could_41 : decode cX9_could 41 = .ok (.iconst 0, 1) := by decide +kernel
theorem dX9_could_42 : decode cX9_could 42 = .ok (.ireturn, 1) := by decide +kernel
theorem dX9_could_43 : decode cX9_could 43 = .ok (.iload_n 0, 1) := by decide +kernel
theorem dX9_could_44 : decode cX9_could 44 = .ok (.ifCond .eq 13, 3) := by decide +kernel
theorem dX9_could_47 : decode cX9_could 47 = .ok (.iload_n 0, 1) := by decide +kernel
theorem dX9_could_48 : decode cX9_could 48 = .ok (.iconst 3, 1) := by decide +kernel
theorem dX9_could_49 : decode cX9_could 49 = .ok (.if_icmp .eq 8, 3) := by decide +kernel
theorem dX9_could_52 : decode cX9_could 52 = .ok (.iload_n 0, 1) := by decide +kernel
theorem dX9_could_53 : decode cX9_could 53 = .ok (.iconst 4, 1) := by decide +kernel
theorem dX9_could_54 : decode cX9_could 54 = .ok (.if_icmp .ne 7, 3) := by decide +kernel
theorem dX9_could_57 : decode cX9_could 57 = .ok (.iconst 1, 1) := by decide +kernel
theorem dX9_could_58 : decode cX9_could 58 = .ok (.goto 4, 3) := by decide +kernel
theorem dX9_could_61 : decode cX9_could 61 = .ok (.iconst 0, 1) := by decide +kernel
theorem dX9_could_62 : decode cX9_could 62 = .ok (.ireturn, 1) := by decide +kernel
theorem dX9_could_63 : decode cX9_could 63 = .ok (.iload_n 0, 1) := by decide +kernel
theorem dX9_could_64 : decode cX9_could 64 = .ok (.iconst 3, 1) := by decide +kernel
theorem dX9_could_65 : decode cX9_could 65 = .ok (.if_icmp .eq 7, 3) := by decide +kernel
theorem dX9_could_68 : decode cX9_could 68 = .ok (.iconst 1, 1) := by decide +kernel
theorem dX9_could_69 : decode cX9_could 69 = .ok (.goto 4, 3) := by decide +kernel
theorem dX9_could_72 : decode cX9_could 72 = .ok (.iconst 0, 1) := by decide +kernel
theorem dX9_could_73 : decode cX9_could 73 = .ok (.ireturn, 1) := by decide +kernel
theorem dX9_could_74 : decode cX9_could 74 = .ok (.iload_n 0, 1) := by decide +kernel
theorem dX9_could_75 : decode cX9_could 75 = .ok (.iconst 2, 1) := by decide +kernel
theorem dX9_could_76 : decode cX9_could 76 = .ok (.if_icmp .eq 7, 3) := by decide +kernel
theorem dX9_could_79 : decode cX9_could 79 = .ok (.iconst 1, 1) := by decide +kernel
theorem dX9_could_80 : decode cX9_could 80 = .ok (.goto 4, 3) := by decide +kernel
theorem dX9_could_83 : decode cX9_could 83 = .ok (.iconst 0, 1) := by decide +kernel
theorem dX9_could_84 : decode cX9_could 84 = .ok (.ireturn, 1) := by decide +kernel
theorem dX9_see_0 : decode cX9_see 0 = .ok (.iload_n 1, 1) := by decide +kernel
theorem dX9_see_1 : decode cX9_see 1 = .ok (.iconst 0, 1) := by decide +kernel
theorem dX9_see_2 : decode cX9_see 2 = .ok (.iconst 3, 1) := by decide +kernel
theorem dX9_see_3 : decode cX9_see 3 = .ok (.invokestatic 57, 3) := by decide +kernel
theorem dX9_see_6 : decode cX9_see 6 = .ok (.ifCond .ne 6, 3) := by decide +kernel
theorem dX9_see_9 : decode cX9_see 9 = .ok (.bipush (-102), 2) := by decide +kernel
theorem dX9_see_11 : decode cX9_see 11 = .ok (.ireturn, 1) := by decide +kernel
theorem dX9_see_12 : decode cX9_see 12 = .ok (.aload_n 0, 1) := by decide +kernel
theorem dX9_see_13 : decode cX9_see 13 = .ok (.invokevirtual 202, 3) := by decide +kernel
theorem dX9_see_16 : decode cX9_see 16 = .ok (.ifCond .ne 6, 3) := by decide +kernel
theorem dX9_see_19 : decode cX9_see 19 = .ok (.bipush (-103), 2) := by decide +kernel
theorem dX9_see_21 : decode cX9_see 21 = .ok (.ireturn, 1) := by decide +kernel
theorem dX9_see_22 : decode cX9_see 22 = .ok (.aload_n 0, 1) := by decide +kernel
theorem dX9_see_23 : decode cX9_see 23 = .ok (.getfield 127, 3) := by decide +kernel
theorem dX9_see_26 : decode cX9_see 26 = .ok (.bipush 6, 2) := by decide +kernel
theorem dX9_see_28 : decode cX9_see 28 = .ok (.if_icmp .ne 6, 3) := by decide +kernel
theorem dX9_see_31 : decode cX9_see 31 = .ok (.bipush (-104), 2) := by decide +kernel
theorem dX9_see_33 : decode cX9_see 33 = .ok (.ireturn, 1) := by decide +kernel
theorem dX9_see_34 : decode cX9_see 34 = .ok (.aload_n 0, 1) := by decide +kernel
theorem dX9_see_35 : decode cX9_see 35 = .ok (.getfield 24, 3) := by decide +kernel
theorem dX9_see_38 : decode cX9_see 38 = .ok (.aload_n 0, 1) := by decide +kernel
theorem dX9_see_39 : decode cX9_see 39 = .ok (.getfield 127, 3) := by decide +kernel
theorem dX9_see_42 : decode cX9_see 42 = .ok (.iload_n 1, 1) := by decide +kernel
theorem dX9_see_43 : decode cX9_see 43 = .ok (.iastore, 1) := by decide +kernel
theorem dX9_see_44 : decode cX9_see 44 = .ok (.aload_n 0, 1) := by decide +kernel
theorem dX9_see_45 : decode cX9_see 45 = .ok (.getfield 27, 3) := by decide +kernel
theorem dX9_see_48 : decode cX9_see 48 = .ok (.aload_n 0, 1) := by decide +kernel
theorem dX9_see_49 : decode cX9_see 49 = .ok (.getfield 127, 3) := by decide +kernel
theorem dX9_see_52 : decode cX9_see 52 = .ok (.iload_n 2, 1) := by decide +kernel
theorem dX9_see_53 : decode cX9_see 53 = .ok (.bastore, 1) := by decide +kernel
theorem dX9_see_54 : decode cX9_see 54 = .ok (.aload_n 0, 1) := by decide +kernel
theorem dX9_see_55 : decode cX9_see 55 = .ok (.dup, 1) := by decide +kernel
theorem dX9_see_56 : decode cX9_see 56 = .ok (.getfield 127, 3) := by decide +kernel
theorem dX9_see_59 : decode cX9_see 59 = .ok (.iconst 1, 1) := by decide +kernel
theorem dX9_see_60 : decode cX9_see 60 = .ok (.iadd, 1) := by decide +kernel
theorem dX9_see_61 : decode cX9_see 61 = .ok (.putfield 127, 3) := by decide +kernel
theorem dX9_see_64 : decode cX9_see 64 = .ok (.aload_n 0, 1) := by decide +kernel
theorem dX9_see_65 : decode cX9_see 65 = .ok (.getfield 127, 3) := by decide +kernel
theorem dX9_see_68 : decode cX9_see 68 = .ok (.ireturn, 1) := by decide +kernel
theorem dX9_forget_0 : decode cX9_forget 0 = .ok (.aload_n 0, 1) := by decide +kernel
theorem dX9_forget_1 : decode cX9_forget 1 = .ok (.getfield 127, 3) := by decide +kernel
theorem dX9_forget_4 : decode cX9_forget 4 = .ok (.istore_n 1, 1) := by decide +kernel
theorem dX9_forget_5 : decode cX9_forget 5 = .ok (.aload_n 0, 1) := by decide +kernel
theorem dX9_forget_6 : decode cX9_forget 6 = .ok (.iconst 0, 1) := by decide +kernel
theorem dX9_forget_7 : decode cX9_forget 7 = .ok (.putfield 127, 3) := by decide +kernel
theorem dX9_forget_10 : decode cX9_forget 10 = .ok (.iload_n 1, 1) := by decide +kernel
theorem dX9_forget_11 : decode cX9_forget 11 = .ok (.ireturn, 1) := by decide +kernel
theorem dX9_sortsNow_0 : decode cX9_sortsNow 0 = .ok (.iconst 0, 1) := by decide +kernel
theorem dX9_sortsNow_1 : decode cX9_sortsNow 1 = .ok (.istore_n 1, 1) := by decide +kernel
theorem dX9_sortsNow_2 : decode cX9_sortsNow 2 = .ok (.iconst 0, 1) := by decide +kernel
theorem dX9_sortsNow_3 : decode cX9_sortsNow 3 = .ok (.istore_n 2, 1) := by decide +kernel
theorem dX9_sortsNow_4 : decode cX9_sortsNow 4 = .ok (.iload_n 2, 1) := by decide +kernel
theorem dX9_sortsNow_5 : decode cX9_sortsNow 5 = .ok (.iconst 4, 1) := by decide +kernel
theorem dX9_sortsNow_6 : decode cX9_sortsNow 6 = .ok (.if_icmp .gt 74, 3) := by decide +kernel
theorem dX9_sortsNow_9 : decode cX9_sortsNow 9 = .ok (.iconst 1, 1) := by decide +kernel
theorem dX9_sortsNow_10 : decode cX9_sortsNow 10 = .ok (.istore_n 3, 1) := by decide +kernel
theorem dX9_sortsNow_11 : decode cX9_sortsNow 11 = .ok (.iconst 0, 1) := by decide +kernel
theorem dX9_sortsNow_12 : decode cX9_sortsNow 12 = .ok (.istore 4, 2) := by decide +kernel
theorem dX9_sortsNow_14 : decode cX9_sortsNow 14 = .ok (.iload 4, 2) := by decide +kernel
theorem dX9_sortsNow_16 : decode cX9_sortsNow 16 = .ok (.aload_n 0, 1) := by decide +kernel
theorem dX9_sortsNow_17 : decode cX9_sortsNow 17 = .ok (.getfield 127, 3) := by decide +kernel
theorem dX9_sortsNow_20 : decode cX9_sortsNow 20 = .ok (.if_icmp .ge 40, 3) := by decide +kernel
theorem dX9_sortsNow_23 : decode cX9_sortsNow 23 = .ok (.iload_n 3, 1) := by decide +kernel
theorem dX9_sortsNow_24 : decode cX9_sortsNow 24 = .ok (.ifCond .eq 28, 3) := by decide +kernel
theorem dX9_sortsNow_27 : decode cX9_sortsNow 27 = .ok (.iload_n 2, 1) := by decide +kernel
theorem dX9_sortsNow_28 : decode cX9_sortsNow 28 = .ok (.aload_n 0, 1) := by decide +kernel
theorem dX9_sortsNow_29 : decode cX9_sortsNow 29 = .ok (.getfield 24, 3) := by decide +kernel
theorem dX9_sortsNow_32 : decode cX9_sortsNow 32 = .ok (.iload 4, 2) := by decide +kernel
theorem dX9_sortsNow_34 : decode cX9_sortsNow 34 = .ok (.iaload, 1) := by decide +kernel
theorem dX9_sortsNow_35 : decode cX9_sortsNow 35 = .ok (.invokestatic 280, 3) := by decide +kernel
theorem dX9_sortsNow_38 : decode cX9_sortsNow 38 = .ok (.aload_n 0, 1) := by decide +kernel
theorem dX9_sortsNow_39 : decode cX9_sortsNow 39 = .ok (.getfield 27, 3) := by decide +kernel
theorem dX9_sortsNow_42 : decode cX9_sortsNow 42 = .ok (.iload 4, 2) := by decide +kernel
theorem dX9_sortsNow_44 : decode cX9_sortsNow 44 = .ok (.baload, 1) := by decide +kernel
theorem dX9_sortsNow_45 : decode cX9_sortsNow 45 = .ok (.if_icmp .ne 7, 3) := by decide +kernel
theorem dX9_sortsNow_48 : decode cX9_sortsNow 48 = .ok (.iconst 1, 1) := by decide +kernel
theorem dX9_sortsNow_49 : decode cX9_sortsNow 49 = .ok (.goto 4, 3) := by decide +kernel
theorem dX9_sortsNow_52 : decode cX9_sortsNow 52 = .ok (.iconst 0, 1) := by decide +kernel
theorem dX9_sortsNow_53 : decode cX9_sortsNow 53 = .ok (.istore_n 3, 1) := by decide +kernel
theorem dX9_sortsNow_54 : decode cX9_sortsNow 54 = .ok (.iinc 4 1, 3) := by decide +kernel
theorem dX9_sortsNow_57 : decode cX9_sortsNow 57 = .ok (.goto (-43), 3) := by decide +kernel
theorem dX9_sortsNow_60 : decode cX9_sortsNow 60 = .ok (.iload_n 1, 1) := by decide +kernel
theorem dX9_sortsNow_61 : decode cX9_sortsNow 61 = .ok (.iload_n 3, 1) := by decide +kernel
theorem dX9_sortsNow_62 : decode cX9_sortsNow 62 = .ok (.ifCond .eq 9, 3) := by decide +kernel
theorem dX9_sortsNow_65 : decode cX9_sortsNow 65 = .ok (.iconst 1, 1) := by decide +kernel
theorem dX9_sortsNow_66 : decode cX9_sortsNow 66 = .ok (.iload_n 2, 1) := by decide +kernel
theorem dX9_sortsNow_67 : decode cX9_sortsNow 67 = .ok (.ishl, 1) := by decide +kernel
theorem dX9_sortsNow_68 : decode cX9_sortsNow 68 = .ok (.goto 4, 3) := by decide +kernel
theorem dX9_sortsNow_71 : decode cX9_sortsNow 71 = .ok (.iconst 0, 1) := by decide +kernel
theorem dX9_sortsNow_72 : decode cX9_sortsNow 72 = .ok (.ior, 1) := by decide +kernel
theorem dX9_sortsNow_73 : decode cX9_sortsNow 73 = .ok (.istore_n 1, 1) := by decide +kernel
theorem dX9_sortsNow_74 : decode cX9_sortsNow 74 = .ok (.iinc 2 1, 3) := by decide +kernel
theorem dX9_sortsNow_77 : decode cX9_sortsNow 77 = .ok (.goto (-73), 3) := by decide +kernel
theorem dX9_sortsNow_80 : decode cX9_sortsNow 80 = .ok (.iload_n 1, 1) := by decide +kernel
theorem dX9_sortsNow_81 : decode cX9_sortsNow 81 = .ok (.ireturn, 1) := by decide +kernel
theorem dX9_askNow_0 : decode cX9_askNow 0 = .ok (.aload_n 0, 1) := by decide +kernel
theorem dX9_askNow_1 : decode cX9_askNow 1 = .ok (.invokevirtual 283, 3) := by decide +kernel
theorem dX9_askNow_4 : decode cX9_askNow 4 = .ok (.istore_n 1, 1) := by decide +kernel
theorem dX9_askNow_5 : decode cX9_askNow 5 = .ok (.iconst (-1), 1) := by decide +kernel
theorem dX9_askNow_6 : decode cX9_askNow 6 = .ok (.istore_n 2, 1) := by decide +kernel
theorem dX9_askNow_7 : decode cX9_askNow 7 = .ok (.ldc_w 286, 3) := by decide +kernel
theorem dX9_askNow_10 : decode cX9_askNow 10 = .ok (.istore_n 3, 1) := by decide +kernel
theorem dX9_askNow_11 : decode cX9_askNow 11 = .ok (.iconst 0, 1) := by decide +kernel
theorem dX9_askNow_12 : decode cX9_askNow 12 = .ok (.istore 4, 2) := by decide +kernel
theorem dX9_askNow_14 : decode cX9_askNow 14 = .ok (.iload 4, 2) := by decide +kernel
theorem dX9_askNow_16 : decode cX9_askNow 16 = .ok (.iconst 4, 1) := by decide +kernel
theorem dX9_askNow_17 : decode cX9_askNow 17 = .ok (.if_icmp .ge 111, 3) := by decide +kernel
theorem dX9_askNow_20 : decode cX9_askNow 20 = .ok (.iload_n 1, 1) := by decide +kernel
theorem dX9_askNow_21 : decode cX9_askNow 21 = .ok (.ifCond .eq 107, 3) := by decide +kernel
theorem dX9_askNow_24 : decode cX9_askNow 24 = .ok (.iconst 0, 1) := by decide +kernel
theorem dX9_askNow_25 : decode cX9_askNow 25 = .ok (.istore 5, 2) := by decide +kernel
theorem dX9_askNow_27 : decode cX9_askNow 27 = .ok (.iconst 0, 1) := by decide +kernel
theorem dX9_askNow_28 : decode cX9_askNow 28 = .ok (.istore 6, 2) := by decide +kernel
theorem dX9_askNow_30 : decode cX9_askNow 30 = .ok (.iload 6, 2) := by decide +kernel
theorem dX9_askNow_32 : decode cX9_askNow 32 = .ok (.iconst 4, 1) := by decide +kernel
theorem dX9_askNow_33 : decode cX9_askNow 33 = .ok (.if_icmp .gt 38, 3) := by decide +kernel
theorem dX9_askNow_36 : decode cX9_askNow 36 = .ok (.iload 5, 2) := by decide +kernel
theorem dX9_askNow_38 : decode cX9_askNow 38 = .ok (.iload_n 1, 1) := by decide +kernel
theorem dX9_askNow_39 : decode cX9_askNow 39 = .ok (.iload 6, 2) := by decide +kernel
theorem dX9_askNow_41 : decode cX9_askNow 41 = .ok (.invokestatic 161, 3) := by decide +kernel
theorem dX9_askNow_44 : decode cX9_askNow 44 = .ok (.ifCond .eq 17, 3) := by decide +kernel
theorem dX9_askNow_47 : decode cX9_askNow 47 = .ok (.iload 6, 2) := by decide +kernel
theorem dX9_askNow_49 : decode cX9_askNow 49 = .ok (.iload 4, 2) := by decide +kernel
theorem dX9_askNow_51 : decode cX9_askNow 51 = .ok (.invokestatic 280, 3) := by decide +kernel
theorem dX9_askNow_54 : decode cX9_askNow 54 = .ok (.ifCond .eq 7, 3) := by decide +kernel
theorem dX9_askNow_57 : decode cX9_askNow 57 = .ok (.iconst 1, 1) := by decide +kernel
theorem dX9_askNow_58 : decode cX9_askNow 58 = .ok (.goto 4, 3) := by decide +kernel
theorem dX9_askNow_61 : decode cX9_askNow 61 = .ok (.iconst 0, 1) := by decide +kernel
theorem dX9_askNow_62 : decode cX9_askNow 62 = .ok (.iadd, 1) := by decide +kernel
theorem dX9_askNow_63 : decode cX9_askNow 63 = .ok (.istore 5, 2) := by decide +kernel
theorem dX9_askNow_65 : decode cX9_askNow 65 = .ok (.iinc 6 1, 3) := by decide +kernel
theorem dX9_askNow_68 : decode cX9_askNow 68 = .ok (.goto (-38), 3) := by decide +kernel
theorem dX9_askNow_71 : decode cX9_askNow 71 = .ok (.iload_n 1, 1) := by decide +kernel
theorem dX9_askNow_72 : decode cX9_askNow 72 = .ok (.invokestatic 287, 3) := by decide +kernel
theorem dX9_askNow_75 : decode cX9_askNow 75 = .ok (.iload 5, 2) := by decide +kernel
theorem dX9_askNow_77 : decode cX9_askNow 77 = .ok (.isub, 1) := by decide +kernel
theorem dX9_askNow_78 : decode cX9_askNow 78 = .ok (.istore 6, 2) := by decide +kernel
theorem dX9_askNow_80 : decode cX9_askNow 80 = .ok (.iload 5, 2) := by decide +kernel
theorem dX9_askNow_82 : decode cX9_askNow 82 = .ok (.iload 6, 2) := by decide +kernel
theorem dX9_askNow_84 : decode cX9_askNow 84 = .ok (.if_icmp .le 8, 3) := by decide +kernel
theorem dX9_askNow_87 : decode cX9_askNow 87 = .ok (.iload 5, 2) := by decide +kernel
theorem dX9_askNow_89 : decode cX9_askNow 89 = .ok (.goto 5, 3) := by decide +kernel
theorem dX9_askNow_92 : decode cX9_askNow 92 = .ok (.iload 6, 2) := by decide +kernel
theorem dX9_askNow_94 : decode cX9_askNow 94 = .ok (.istore 7, 2) := by decide +kernel
theorem dX9_askNow_96 : decode cX9_askNow 96 = .ok (.iload 7, 2) := by decide +kernel
theorem dX9_askNow_98 : decode cX9_askNow 98 = .ok (.iload_n 3, 1) := by decide +kernel
theorem dX9_askNow_99 : decode cX9_askNow 99 = .ok (.if_icmp .ge 8, 3) := by decide +kernel
theorem dX9_askNow_102 : decode cX9_askNow 102 = .ok (.iload 4, 2) := by decide +kernel
theorem dX9_askNow_104 : decode cX9_askNow 104 = .ok (.goto 4, 3) := by decide +kernel
theorem dX9_askNow_107 : decode cX9_askNow 107 = .ok (.iload_n 2, 1) := by decide +kernel
theorem dX9_askNow_108 : decode cX9_askNow 108 = .ok (.istore_n 2, 1) := by decide +kernel
theorem dX9_askNow_109 : decode cX9_askNow 109 = .ok (.iload 7, 2) := by decide +kernel
theorem dX9_askNow_111 : decode cX9_askNow 111 = .ok (.iload_n 3, 1) := by decide +kernel
theorem dX9_askNow_112 : decode cX9_askNow 112 = .ok (.if_icmp .ge 8, 3) := by decide +kernel
theorem dX9_askNow_115 : decode cX9_askNow 115 = .ok (.iload 7, 2) := by decide +kernel
theorem dX9_askNow_117 : decode cX9_askNow 117 = .ok (.goto 4, 3) := by decide +kernel
theorem dX9_askNow_120 : decode cX9_askNow 120 = .ok (.iload_n 3, 1) := by decide +kernel
theorem dX9_askNow_121 : decode cX9_askNow 121 = .ok (.istore_n 3, 1) := by decide +kernel
theorem dX9_askNow_122 : decode cX9_askNow 122 = .ok (.iinc 4 1, 3) := by decide +kernel
theorem dX9_askNow_125 : decode cX9_askNow 125 = .ok (.goto (-111), 3) := by decide +kernel
theorem dX9_askNow_128 : decode cX9_askNow 128 = .ok (.iload_n 2, 1) := by decide +kernel
theorem dX9_askNow_129 : decode cX9_askNow 129 = .ok (.ireturn, 1) := by decide +kernel
theorem dX9_sorts_0 : decode cX9_sorts 0 = .ok (.iload_n 1, 1) := by decide +kernel
theorem dX9_sorts_1 : decode cX9_sorts 1 = .ok (.iconst 0, 1) := by decide +kernel
theorem dX9_sorts_2 : decode cX9_sorts 2 = .ok (.iconst 1, 1) := by decide +kernel
theorem dX9_sorts_3 : decode cX9_sorts 3 = .ok (.invokestatic 57, 3) := by decide +kernel
theorem dX9_sorts_6 : decode cX9_sorts 6 = .ok (.ifCond .ne 8, 3) := by decide +kernel
theorem dX9_sorts_9 : decode cX9_sorts 9 = .ok (.bipush (-102), 2) := by decide +kernel
theorem dX9_sorts_11 : decode cX9_sorts 11 = .ok (.goto 18, 3) := by decide +kernel
theorem dX9_sorts_14 : decode cX9_sorts 14 = .ok (.iload_n 1, 1) := by decide +kernel
theorem dX9_sorts_15 : decode cX9_sorts 15 = .ok (.ifCond .ne 10, 3) := by decide +kernel
theorem dX9_sorts_18 : decode cX9_sorts 18 = .ok (.aload_n 0, 1) := by decide +kernel
theorem dX9_sorts_19 : decode cX9_sorts 19 = .ok (.invokevirtual 283, 3) := by decide +kernel
theorem dX9_sorts_22 : decode cX9_sorts 22 = .ok (.goto 7, 3) := by decide +kernel
theorem dX9_sorts_25 : decode cX9_sorts 25 = .ok (.aload_n 0, 1) := by decide +kernel
theorem dX9_sorts_26 : decode cX9_sorts 26 = .ok (.invokevirtual 290, 3) := by decide +kernel
theorem dX9_sorts_29 : decode cX9_sorts 29 = .ok (.ireturn, 1) := by decide +kernel
theorem dX9_drawOf_0 : decode cX9_drawOf 0 = .ok (.aload_n 0, 1) := by decide +kernel
theorem dX9_drawOf_1 : decode cX9_drawOf 1 = .ok (.ldc2_w 293, 3) := by decide +kernel
theorem dX9_drawOf_4 : decode cX9_drawOf 4 = .ok (.aload_n 0, 1) := by decide +kernel
theorem dX9_drawOf_5 : decode cX9_drawOf 5 = .ok (.getfield 295, 3) := by decide +kernel
theorem dX9_drawOf_8 : decode cX9_drawOf 8 = .ok (.lmul, 1) := by decide +kernel
theorem dX9_drawOf_9 : decode cX9_drawOf 9 = .ok (.ldc2_w 299, 3) := by decide +kernel
theorem dX9_drawOf_12 : decode cX9_drawOf 12 = .ok (.ladd, 1) := by decide +kernel
theorem dX9_drawOf_13 : decode cX9_drawOf 13 = .ok (.ldc2_w 301, 3) := by decide +kernel
theorem dX9_drawOf_16 : decode cX9_drawOf 16 = .ok (.land, 1) := by decide +kernel
theorem dX9_drawOf_17 : decode cX9_drawOf 17 = .ok (.putfield 295, 3) := by decide +kernel
theorem dX9_drawOf_20 : decode cX9_drawOf 20 = .ok (.aload_n 0, 1) := by decide +kernel
theorem dX9_drawOf_21 : decode cX9_drawOf 21 = .ok (.getfield 295, 3) := by decide +kernel
theorem dX9_drawOf_24 : decode cX9_drawOf 24 = .ok (.ldc2_w 303, 3) := by decide +kernel
theorem dX9_drawOf_27 : decode cX9_drawOf 27 = .ok (.ldiv, 1) := by decide +kernel
theorem dX9_drawOf_28 : decode cX9_drawOf 28 = .ok (.iload_n 1, 1) := by decide +kernel
theorem dX9_drawOf_29 : decode cX9_drawOf 29 = .ok (.i2l, 1) := by decide +kernel
theorem dX9_drawOf_30 : decode cX9_drawOf 30 = .ok (.lrem, 1) := by decide +kernel
theorem dX9_drawOf_31 : decode cX9_drawOf 31 = .ok (.l2i, 1) := by decide +kernel
theorem dX9_drawOf_32 : decode cX9_drawOf 32 = .ok (.ireturn, 1) := by decide +kernel
theorem dX9_drawnNow_0 : decode cX9_drawnNow 0 = .ok (.aload_n 0, 1) := by decide +kernel
theorem dX9_drawnNow_1 : decode cX9_drawnNow 1 = .ok (.invokevirtual 184, 3) := by decide +kernel
theorem dX9_drawnNow_4 : decode cX9_drawnNow 4 = .ok (.aload_n 0, 1) := by decide +kernel
theorem dX9_drawnNow_5 : decode cX9_drawnNow 5 = .ok (.iload_n 2, 1) := by decide +kernel
theorem dX9_drawnNow_6 : decode cX9_drawnNow 6 = .ok (.i2l, 1) := by decide +kernel
theorem dX9_drawnNow_7 : decode cX9_drawnNow 7 = .ok (.putfield 295, 3) := by decide +kernel
theorem dX9_drawnNow_10 : decode cX9_drawnNow 10 = .ok (.iconst 0, 1) := by decide +kernel
theorem dX9_drawnNow_11 : decode cX9_drawnNow 11 = .ok (.istore 4, 2) := by decide +kernel
theorem dX9_drawnNow_13 : decode cX9_drawnNow 13 = .ok (.iconst 0, 1) := by decide +kernel
theorem dX9_drawnNow_14 : decode cX9_drawnNow 14 = .ok (.istore 5, 2) := by decide +kernel
theorem dX9_drawnNow_16 : decode cX9_drawnNow 16 = .ok (.iconst 0, 1) := by decide +kernel
theorem dX9_drawnNow_17 : decode cX9_drawnNow 17 = .ok (.istore 6, 2) := by decide +kernel
theorem dX9_drawnNow_19 : decode cX9_drawnNow 19 = .ok (.iload 6, 2) := by decide +kernel
theorem dX9_drawnNow_21 : decode cX9_drawnNow 21 = .ok (.iload_n 1, 1) := by decide +kernel
theorem dX9_drawnNow_22 : decode cX9_drawnNow 22 = .ok (.if_icmp .ge 120, 3) := by decide +kernel
theorem dX9_drawnNow_25 : decode cX9_drawnNow 25 = .ok (.aload_n 0, 1) := by decide +kernel
theorem dX9_drawnNow_26 : decode cX9_drawnNow 26 = .ok (.iconst 0, 1) := by decide +kernel
theorem dX9_drawnNow_27 : decode cX9_drawnNow 27 = .ok (.putfield 139, 3) := by decide +kernel
theorem dX9_drawnNow_30 : decode cX9_drawnNow 30 = .ok (.aload_n 0, 1) := by decide +kernel
theorem dX9_drawnNow_31 : decode cX9_drawnNow 31 = .ok (.iconst 0, 1) := by decide +kernel
theorem dX9_drawnNow_32 : decode cX9_drawnNow 32 = .ok (.putfield 142, 3) := by decide +kernel
theorem dX9_drawnNow_35 : decode cX9_drawnNow 35 = .ok (.iconst 0, 1) := by decide +kernel
theorem dX9_drawnNow_36 : decode cX9_drawnNow 36 = .ok (.istore 7, 2) := by decide +kernel
theorem dX9_drawnNow_38 : decode cX9_drawnNow 38 = .ok (.iload 7, 2) := by decide +kernel
theorem dX9_drawnNow_40 : decode cX9_drawnNow 40 = .ok (.aload_n 0, 1) := by decide +kernel
theorem dX9_drawnNow_41 : decode cX9_drawnNow 41 = .ok (.getfield 121, 3) := by decide +kernel
theorem dX9_drawnNow_44 : decode cX9_drawnNow 44 = .ok (.if_icmp .ge 48, 3) := by decide +kernel
theorem dX9_drawnNow_47 : decode cX9_drawnNow 47 = .ok (.aload_n 0, 1) := by decide +kernel
theorem dX9_drawnNow_48 : decode cX9_drawnNow 48 = .ok (.iconst 4, 1) := by decide +kernel
theorem dX9_drawnNow_49 : decode cX9_drawnNow 49 = .ok (.invokevirtual 305, 3) := by decide +kernel
theorem dX9_drawnNow_52 : decode cX9_drawnNow 52 = .ok (.istore 8, 2) := by decide +kernel
theorem dX9_drawnNow_54 : decode cX9_drawnNow 54 = .ok (.aload_n 0, 1) := by decide +kernel
theorem dX9_drawnNow_55 : decode cX9_drawnNow 55 = .ok (.dup, 1) := by decide +kernel
theorem dX9_drawnNow_56 : decode cX9_drawnNow 56 = .ok (.getfield 139, 3) := by decide +kernel
theorem dX9_drawnNow_59 : decode cX9_drawnNow 59 = .ok (.iload 8, 2) := by decide +kernel
theorem dX9_drawnNow_61 : decode cX9_drawnNow 61 = .ok (.iconst 1, 1) := by decide +kernel
theorem dX9_drawnNow_62 : decode cX9_drawnNow 62 = .ok (.iand, 1) := by decide +kernel
theorem dX9_drawnNow_63 : decode cX9_drawnNow 63 = .ok (.iload 7, 2) := by decide +kernel
theorem dX9_drawnNow_65 : decode cX9_drawnNow 65 = .ok (.ishl, 1) := by decide +kernel
theorem dX9_drawnNow_66 : decode cX9_drawnNow 66 = .ok (.ior, 1) := by decide +kernel
theorem dX9_drawnNow_67 : decode cX9_drawnNow 67 = .ok (.putfield 139, 3) := by decide +kernel
theorem dX9_drawnNow_70 : decode cX9_drawnNow 70 = .ok (.aload_n 0, 1) := by decide +kernel
theorem dX9_drawnNow_71 : decode cX9_drawnNow 71 = .ok (.dup, 1) := by decide +kernel
theorem dX9_drawnNow_72 : decode cX9_drawnNow 72 = .ok (.getfield 142, 3) := by decide +kernel
theorem dX9_drawnNow_75 : decode cX9_drawnNow 75 = .ok (.iload 8, 2) := by decide +kernel
theorem dX9_drawnNow_77 : decode cX9_drawnNow 77 = .ok (.iconst 1, 1) := by decide +kernel
theorem dX9_drawnNow_78 : decode cX9_drawnNow 78 = .ok (.ishr, 1) := by decide +kernel
theorem dX9_drawnNow_79 : decode cX9_drawnNow 79 = .ok (.iload 7, 2) := by decide +kernel
theorem dX9_drawnNow_81 : decode cX9_drawnNow 81 = .ok (.ishl, 1) := by decide +kernel
theorem dX9_drawnNow_82 : decode cX9_drawnNow 82 = .ok (.ior, 1) := by decide +kernel
theorem dX9_drawnNow_83 : decode cX9_drawnNow 83 = .ok (.putfield 142, 3) := by decide +kernel
theorem dX9_drawnNow_86 : decode cX9_drawnNow 86 = .ok (.iinc 7 1, 3) := by decide +kernel
theorem dX9_drawnNow_89 : decode cX9_drawnNow 89 = .ok (.goto (-51), 3) := by decide +kernel
theorem dX9_drawnNow_92 : decode cX9_drawnNow 92 = .ok (.aload_n 0, 1) := by decide +kernel
theorem dX9_drawnNow_93 : decode cX9_drawnNow 93 = .ok (.invokevirtual 158, 3) := by decide +kernel
theorem dX9_drawnNow_96 : decode cX9_drawnNow 96 = .ok (.iload 4, 2) := by decide +kernel
theorem dX9_drawnNow_98 : decode cX9_drawnNow 98 = .ok (.aload_n 0, 1) := by decide +kernel
theorem dX9_drawnNow_99 : decode cX9_drawnNow 99 = .ok (.getfield 39, 3) := by decide +kernel
theorem dX9_drawnNow_102 : decode cX9_drawnNow 102 = .ok (.iconst 0, 1) := by decide +kernel
theorem dX9_drawnNow_103 : decode cX9_drawnNow 103 = .ok (.iaload, 1) := by decide +kernel
theorem dX9_drawnNow_104 : decode cX9_drawnNow 104 = .ok (.invokestatic 287, 3) := by decide +kernel
theorem dX9_drawnNow_107 : decode cX9_drawnNow 107 = .ok (.iadd, 1) := by decide +kernel
theorem dX9_drawnNow_108 : decode cX9_drawnNow 108 = .ok (.istore 4, 2) := by decide +kernel
theorem dX9_drawnNow_110 : decode cX9_drawnNow 110 = .ok (.iload 5, 2) := by decide +kernel
theorem dX9_drawnNow_112 : decode cX9_drawnNow 112 = .ok (.aload_n 0, 1) := by decide +kernel
theorem dX9_drawnNow_113 : decode cX9_drawnNow 113 = .ok (.getfield 39, 3) := by decide +kernel
theorem dX9_drawnNow_116 : decode cX9_drawnNow 116 = .ok (.iconst 0, 1) := by decide +kernel
theorem dX9_drawnNow_117 : decode cX9_drawnNow 117 = .ok (.iaload, 1) := by decide +kernel
theorem dX9_drawnNow_118 : decode cX9_drawnNow 118 = .ok (.invokestatic 287, 3) := by decide +kernel
theorem dX9_drawnNow_121 : decode cX9_drawnNow 121 = .ok (.aload_n 0, 1) := by decide +kernel
theorem dX9_drawnNow_122 : decode cX9_drawnNow 122 = .ok (.getfield 121, 3) := by decide +kernel
theorem dX9_drawnNow_125 : decode cX9_drawnNow 125 = .ok (.if_icmp .ne 7, 3) := by decide +kernel
theorem dX9_drawnNow_128 : decode cX9_drawnNow 128 = .ok (.iconst 1, 1) := by decide +kernel
theorem dX9_drawnNow_129 : decode cX9_drawnNow 129 = .ok (.goto 4, 3) := by decide +kernel
theorem dX9_drawnNow_132 : decode cX9_drawnNow 132 = .ok (.iconst 0, 1) := by decide +kernel
theorem dX9_drawnNow_133 : decode cX9_drawnNow 133 = .ok (.iadd, 1) := by decide +kernel
theorem dX9_drawnNow_134 : decode cX9_drawnNow 134 = .ok (.istore 5, 2) := by decide +kernel
theorem dX9_drawnNow_136 : decode cX9_drawnNow 136 = .ok (.iinc 6 1, 3) := by decide +kernel
theorem dX9_drawnNow_139 : decode cX9_drawnNow 139 = .ok (.goto (-120), 3) := by decide +kernel
theorem dX9_drawnNow_142 : decode cX9_drawnNow 142 = .ok (.iload_n 3, 1) := by decide +kernel
theorem dX9_drawnNow_143 : decode cX9_drawnNow 143 = .ok (.ifCond .ne 8, 3) := by decide +kernel
theorem dX9_drawnNow_146 : decode cX9_drawnNow 146 = .ok (.iload 4, 2) := by decide +kernel
theorem dX9_drawnNow_148 : decode cX9_drawnNow 148 = .ok (.goto 18, 3) := by decide +kernel
theorem dX9_drawnNow_151 : decode cX9_drawnNow 151 = .ok (.iload_n 3, 1) := by decide +kernel
theorem dX9_drawnNow_152 : decode cX9_drawnNow 152 = .ok (.iconst 1, 1) := by decide +kernel
theorem dX9_drawnNow_153 : decode cX9_drawnNow 153 = .ok (.if_icmp .ne 8, 3) := by decide +kernel
theorem dX9_drawnNow_156 : decode cX9_drawnNow 156 = .ok (.iload 5, 2) := by decide +kernel
theorem dX9_drawnNow_158 : decode cX9_drawnNow 158 = .ok (.goto 8, 3) := by decide +kernel
theorem dX9_drawnNow_161 : decode cX9_drawnNow 161 = .ok (.aload_n 0, 1) := by decide +kernel
theorem dX9_drawnNow_162 : decode cX9_drawnNow 162 = .ok (.getfield 295, 3) := by decide +kernel
theorem dX9_drawnNow_165 : decode cX9_drawnNow 165 = .ok (.l2i, 1) := by decide +kernel
theorem dX9_drawnNow_166 : decode cX9_drawnNow 166 = .ok (.ireturn, 1) := by decide +kernel
theorem dX9_drawn_0 : decode cX9_drawn 0 = .ok (.iload_n 1, 1) := by decide +kernel
theorem dX9_drawn_1 : decode cX9_drawn 1 = .ok (.iconst 1, 1) := by decide +kernel
theorem dX9_drawn_2 : decode cX9_drawn 2 = .ok (.bipush 60, 2) := by decide +kernel
theorem dX9_drawn_4 : decode cX9_drawn 4 = .ok (.invokestatic 57, 3) := by decide +kernel
theorem dX9_drawn_7 : decode cX9_drawn 7 = .ok (.ifCond .eq 16, 3) := by decide +kernel
theorem dX9_drawn_10 : decode cX9_drawn 10 = .ok (.iload_n 2, 1) := by decide +kernel
theorem dX9_drawn_11 : decode cX9_drawn 11 = .ok (.ifCond .lt 12, 3) := by decide +kernel
theorem dX9_drawn_14 : decode cX9_drawn 14 = .ok (.iload_n 3, 1) := by decide +kernel
theorem dX9_drawn_15 : decode cX9_drawn 15 = .ok (.iconst 0, 1) := by decide +kernel
theorem dX9_drawn_16 : decode cX9_drawn 16 = .ok (.iconst 2, 1) := by decide +kernel
theorem dX9_drawn_17 : decode cX9_drawn 17 = .ok (.invokestatic 57, 3) := by decide +kernel
theorem dX9_drawn_20 : decode cX9_drawn 20 = .ok (.ifCond .ne 6, 3) := by decide +kernel
theorem dX9_drawn_23 : decode cX9_drawn 23 = .ok (.bipush (-102), 2) := by decide +kernel
theorem dX9_drawn_25 : decode cX9_drawn 25 = .ok (.ireturn, 1) := by decide +kernel
theorem dX9_drawn_26 : decode cX9_drawn 26 = .ok (.aload_n 0, 1) := by decide +kernel
theorem dX9_drawn_27 : decode cX9_drawn 27 = .ok (.invokevirtual 202, 3) := by decide +kernel
theorem dX9_drawn_30 : decode cX9_drawn 30 = .ok (.ifCond .eq 20, 3) := by decide +kernel
theorem dX9_drawn_33 : decode cX9_drawn 33 = .ok (.aload_n 0, 1) := by decide +kernel
theorem dX9_drawn_34 : decode cX9_drawn 34 = .ok (.invokevirtual 218, 3) := by decide +kernel
theorem dX9_drawn_37 : decode cX9_drawn 37 = .ok (.ifCond .eq 13, 3) := by decide +kernel
theorem dX9_drawn_40 : decode cX9_drawn 40 = .ok (.aload_n 0, 1) := by decide +kernel
theorem dX9_drawn_41 : decode cX9_drawn 41 = .ok (.iload_n 1, 1) := by decide +kernel
theorem dX9_drawn_42 : decode cX9_drawn 42 = .ok (.iload_n 2, 1) := by decide +kernel
theorem dX9_drawn_43 : decode cX9_drawn 43 = .ok (.iload_n 3, 1) := by decide +kernel
theorem dX9_drawn_44 : decode cX9_drawn 44 = .ok (.invokevirtual 308, 3) := by decide +kernel
theorem dX9_drawn_47 : decode cX9_drawn 47 = .ok (.goto 5, 3) := by decide +kernel
theorem dX9_drawn_50 : decode cX9_drawn 50 = .ok (.bipush (-103), 2) := by decide +kernel
theorem dX9_drawn_52 : decode cX9_drawn 52 = .ok (.ireturn, 1) := by decide +kernel
theorem dX9_image_0 : decode cX9_image 0 = .ok (.aload_n 0, 1) := by decide +kernel
theorem dX9_image_1 : decode cX9_image 1 = .ok (.invokevirtual 202, 3) := by decide +kernel
theorem dX9_image_4 : decode cX9_image 4 = .ok (.ifCond .ne 6, 3) := by decide +kernel
theorem dX9_image_7 : decode cX9_image 7 = .ok (.bipush (-103), 2) := by decide +kernel
theorem dX9_image_9 : decode cX9_image 9 = .ok (.ireturn, 1) := by decide +kernel
theorem dX9_image_10 : decode cX9_image 10 = .ok (.aload_n 0, 1) := by decide +kernel
theorem dX9_image_11 : decode cX9_image 11 = .ok (.aload_n 0, 1) := by decide +kernel
theorem dX9_image_12 : decode cX9_image 12 = .ok (.getfield 124, 3) := by decide +kernel
theorem dX9_image_15 : decode cX9_image 15 = .ok (.putfield 312, 3) := by decide +kernel
theorem dX9_image_18 : decode cX9_image 18 = .ok (.aload_n 0, 1) := by decide +kernel
theorem dX9_image_19 : decode cX9_image 19 = .ok (.aload_n 0, 1) := by decide +kernel
theorem dX9_image_20 : decode cX9_image 20 = .ok (.getfield 118, 3) := by decide +kernel
theorem dX9_image_23 : decode cX9_image 23 = .ok (.putfield 315, 3) := by decide +kernel
theorem dX9_image_26 : decode cX9_image 26 = .ok (.aload_n 0, 1) := by decide +kernel
theorem dX9_image_27 : decode cX9_image 27 = .ok (.aload_n 0, 1) := by decide +kernel
theorem dX9_image_28 : decode cX9_image 28 = .ok (.getfield 121, 3) := by decide +kernel
theorem dX9_image_31 : decode cX9_image 31 = .ok (.putfield 318, 3) := by decide +kernel
theorem dX9_image_34 : decode cX9_image 34 = .ok (.aload_n 0, 1) := by decide +kernel
theorem dX9_image_35 : decode cX9_image 35 = .ok (.aload_n 0, 1) := by decide +kernel
theorem dX9_image_36 : decode cX9_image 36 = .ok (.getfield 127, 3) := by decide +kernel
theorem dX9_image_39 : decode cX9_image 39 = .ok (.putfield 321, 3) := by decide +kernel
theorem dX9_image_42 : decode cX9_image 42 = .ok (.iconst 0, 1) := by decide +kernel
theorem dX9_image_43 : decode cX9_image 43 = .ok (.istore_n 1, 1) := by decide +kernel
theorem dX9_image_44 : decode cX9_image 44 = .ok (.iload_n 1, 1) := by decide +kernel
theorem dX9_image_45 : decode cX9_image 45 = .ok (.bipush 16, 2) := by decide +kernel
theorem dX9_image_47 : decode cX9_image 47 = .ok (.if_icmp .ge 21, 3) := by decide +kernel
theorem dX9_image_50 : decode cX9_image 50 = .ok (.aload_n 0, 1) := by decide +kernel
theorem dX9_image_51 : decode cX9_image 51 = .ok (.getfield 45, 3) := by decide +kernel
theorem dX9_image_54 : decode cX9_image 54 = .ok (.iload_n 1, 1) := by decide +kernel
theorem dX9_image_55 : decode cX9_image 55 = .ok (.aload_n 0, 1) := by decide +kernel
theorem dX9_image_56 : decode cX9_image 56 = .ok (.getfield 7, 3) := by decide +kernel
theorem dX9_image_59 : decode cX9_image 59 = .ok (.iload_n 1, 1) := by decide +kernel
theorem dX9_image_60 : decode cX9_image 60 = .ok (.baload, 1) := by decide +kernel
theorem dX9_image_61 : decode cX9_image 61 = .ok (.bastore, 1) := by decide +kernel
theorem dX9_image_62 : decode cX9_image 62 = .ok (.iinc 1 1, 3) := by decide +kernel
theorem dX9_image_65 : decode cX9_image 65 = .ok (.goto (-21), 3) := by decide +kernel
theorem dX9_image_68 : decode cX9_image 68 = .ok (.iconst 0, 1) := by decide +kernel
theorem dX9_image_69 : decode cX9_image 69 = .ok (.istore_n 1, 1) := by decide +kernel
theorem dX9_image_70 : decode cX9_image 70 = .ok (.iload_n 1, 1) := by decide +kernel
theorem dX9_image_71 : decode cX9_image 71 = .ok (.iconst 4, 1) := by decide +kernel
theorem dX9_image_72 : decode cX9_image 72 = .ok (.if_icmp .ge 21, 3) := by decide +kernel
theorem dX9_image_75 : decode cX9_image 75 = .ok (.aload_n 0, 1) := by decide +kernel
theorem dX9_image_76 : decode cX9_image 76 = .ok (.getfield 48, 3) := by decide +kernel
theorem dX9_image_79 : decode cX9_image 79 = .ok (.iload_n 1, 1) := by decide +kernel
theorem dX9_image_80 : decode cX9_image 80 = .ok (.aload_n 0, 1) := by decide +kernel
theorem dX9_image_81 : decode cX9_image 81 = .ok (.getfield 13, 3) := by decide +kernel
theorem dX9_image_84 : decode cX9_image 84 = .ok (.iload_n 1, 1) := by decide +kernel
theorem dX9_image_85 : decode cX9_image 85 = .ok (.iaload, 1) := by decide +kernel
theorem dX9_image_86 : decode cX9_image 86 = .ok (.iastore, 1) := by decide +kernel
theorem dX9_image_87 : decode cX9_image 87 = .ok (.iinc 1 1, 3) := by decide +kernel
theorem dX9_image_90 : decode cX9_image 90 = .ok (.goto (-20), 3) := by decide +kernel
theorem dX9_image_93 : decode cX9_image 93 = .ok (.iconst 0, 1) := by decide +kernel
theorem dX9_image_94 : decode cX9_image 94 = .ok (.istore_n 1, 1) := by decide +kernel
theorem dX9_image_95 : decode cX9_image 95 = .ok (.iload_n 1, 1) := by decide +kernel
theorem dX9_image_96 : decode cX9_image 96 = .ok (.bipush 6, 2) := by decide +kernel
theorem dX9_image_98 : decode cX9_image 98 = .ok (.if_icmp .ge 33, 3) := by decide +kernel
theorem dX9_image_101 : decode cX9_image 101 = .ok (.aload_n 0, 1) := by decide +kernel
theorem dX9_image_102 : decode cX9_image 102 = .ok (.getfield 51, 3) := by decide +kernel
theorem dX9_image_105 : decode cX9_image 105 = .ok (.iload_n 1, 1) := by decide +kernel
theorem dX9_image_106 : decode cX9_image 106 = .ok (.aload_n 0, 1) := by decide +kernel
theorem dX9_image_107 : decode cX9_image 107 = .ok (.getfield 24, 3) := by decide +kernel
theorem dX9_image_110 : decode cX9_image 110 = .ok (.iload_n 1, 1) := by decide +kernel
theorem dX9_image_111 : decode cX9_image 111 = .ok (.iaload, 1) := by decide +kernel
theorem dX9_image_112 : decode cX9_image 112 = .ok (.iastore, 1) := by decide +kernel
theorem dX9_image_113 : decode cX9_image 113 = .ok (.aload_n 0, 1) := by decide +kernel
theorem dX9_image_114 : decode cX9_image 114 = .ok (.getfield 54, 3) := by decide +kernel
theorem dX9_image_117 : decode cX9_image 117 = .ok (.iload_n 1, 1) := by decide +kernel
theorem dX9_image_118 : decode cX9_image 118 = .ok (.aload_n 0, 1) := by decide +kernel
theorem dX9_image_119 : decode cX9_image 119 = .ok (.getfield 27, 3) := by decide +kernel
theorem dX9_image_122 : decode cX9_image 122 = .ok (.iload_n 1, 1) := by decide +kernel
theorem dX9_image_123 : decode cX9_image 123 = .ok (.baload, 1) := by decide +kernel
theorem dX9_image_124 : decode cX9_image 124 = .ok (.bastore, 1) := by decide +kernel
theorem dX9_image_125 : decode cX9_image 125 = .ok (.iinc 1 1, 3) := by decide +kernel
theorem dX9_image_128 : decode cX9_image 128 = .ok (.goto (-33), 3) := by decide +kernel
theorem dX9_image_131 : decode cX9_image 131 = .ok (.aload_n 0, 1) := by decide +kernel
theorem dX9_image_132 : decode cX9_image 132 = .ok (.getfield 121, 3) := by decide +kernel
theorem dX9_image_135 : decode cX9_image 135 = .ok (.ireturn, 1) := by decide +kernel
theorem dX9_restore_0 : decode cX9_restore 0 = .ok (.aload_n 0, 1) := by decide +kernel
theorem dX9_restore_1 : decode cX9_restore 1 = .ok (.getfield 312, 3) := by decide +kernel
theorem dX9_restore_4 : decode cX9_restore 4 = .ok (.ifCond .eq 14, 3) := by decide +kernel
theorem dX9_restore_7 : decode cX9_restore 7 = .ok (.aload_n 0, 1) := by decide +kernel
theorem dX9_restore_8 : decode cX9_restore 8 = .ok (.getfield 312, 3) := by decide +kernel
theorem dX9_restore_11 : decode cX9_restore 11 = .ok (.aload_n 0, 1) := by decide +kernel
theorem dX9_restore_12 : decode cX9_restore 12 = .ok (.getfield 124, 3) := by decide +kernel
theorem dX9_restore_15 : decode cX9_restore 15 = .ok (.if_icmp .eq 6, 3) := by decide +kernel
theorem dX9_restore_18 : decode cX9_restore 18 = .ok (.bipush (-103), 2) := by decide +kernel
theorem dX9_restore_20 : decode cX9_restore 20 = .ok (.ireturn, 1) := by decide +kernel
theorem dX9_restore_21 : decode cX9_restore 21 = .ok (.aload_n 0, 1) := by decide +kernel
theorem dX9_restore_22 : decode cX9_restore 22 = .ok (.aload_n 0, 1) := by decide +kernel
theorem dX9_restore_23 : decode cX9_restore 23 = .ok (.getfield 315, 3) := by decide +kernel
theorem dX9_restore_26 : decode cX9_restore 26 = .ok (.putfield 118, 3) := by decide +kernel
theorem dX9_restore_29 : decode cX9_restore 29 = .ok (.aload_n 0, 1) := by decide +kernel
theorem dX9_restore_30 : decode cX9_restore 30 = .ok (.aload_n 0, 1) := by decide +kernel
theorem dX9_restore_31 : decode cX9_restore 31 = .ok (.getfield 318, 3) := by decide +kernel
theorem dX9_restore_34 : decode cX9_restore 34 = .ok (.putfield 121, 3) := by decide +kernel
theorem dX9_restore_37 : decode cX9_restore 37 = .ok (.aload_n 0, 1) := by decide +kernel
theorem dX9_restore_38 : decode cX9_restore 38 = .ok (.aload_n 0, 1) := by decide +kernel
theorem dX9_restore_39 : decode cX9_restore 39 = .ok (.getfield 321, 3) := by decide +kernel
theorem dX9_restore_42 : decode cX9_restore 42 = .ok (.putfield 127, 3) := by decide +kernel
theorem dX9_restore_45 : decode cX9_restore 45 = .ok (.iconst 0, 1) := by decide +kernel
theorem dX9_restore_46 : decode cX9_restore 46 = .ok (.istore_n 1, 1) := by decide +kernel
theorem dX9_restore_47 : decode cX9_restore 47 = .ok (.iload_n 1, 1) := by decide +kernel
theorem dX9_restore_48 : decode cX9_restore 48 = .ok (.bipush 16, 2) := by decide +kernel
theorem dX9_restore_50 : decode cX9_restore 50 = .ok (.if_icmp .ge 21, 3) := by decide +kernel
theorem dX9_restore_53 : decode cX9_restore 53 = .ok (.aload_n 0, 1) := by decide +kernel
theorem dX9_restore_54 : decode cX9_restore 54 = .ok (.getfield 7, 3) := by decide +kernel
theorem dX9_restore_57 : decode cX9_restore 57 = .ok (.iload_n 1, 1) := by decide +kernel
theorem dX9_restore_58 : decode cX9_restore 58 = .ok (.aload_n 0, 1) := by decide +kernel
theorem dX9_restore_59 : decode cX9_restore 59 = .ok (.getfield 45, 3) := by decide +kernel
theorem dX9_restore_62 : decode cX9_restore 62 = .ok (.iload_n 1, 1) := by decide +kernel
theorem dX9_restore_63 : decode cX9_restore 63 = .ok (.baload, 1) := by decide +kernel
theorem dX9_restore_64 : decode cX9_restore 64 = .ok (.bastore, 1) := by decide +kernel
theorem dX9_restore_65 : decode cX9_restore 65 = .ok (.iinc 1 1, 3) := by decide +kernel
theorem dX9_restore_68 : decode cX9_restore 68 = .ok (.goto (-21), 3) := by decide +kernel
theorem dX9_restore_71 : decode cX9_restore 71 = .ok (.iconst 0, 1) := by decide +kernel
theorem dX9_restore_72 : decode cX9_restore 72 = .ok (.istore_n 1, 1) := by decide +kernel
theorem dX9_restore_73 : decode cX9_restore 73 = .ok (.iload_n 1, 1) := by decide +kernel
theorem dX9_restore_74 : decode cX9_restore 74 = .ok (.iconst 4, 1) := by decide +kernel
theorem dX9_restore_75 : decode cX9_restore 75 = .ok (.if_icmp .ge 21, 3) := by decide +kernel
theorem dX9_restore_78 : decode cX9_restore 78 = .ok (.aload_n 0, 1) := by decide +kernel
theorem dX9_restore_79 : decode cX9_restore 79 = .ok (.getfield 13, 3) := by decide +kernel
theorem dX9_restore_82 : decode cX9_restore 82 = .ok (.iload_n 1, 1) := by decide +kernel
theorem dX9_restore_83 : decode cX9_restore 83 = .ok (.aload_n 0, 1) := by decide +kernel
theorem dX9_restore_84 : decode cX9_restore 84 = .ok (.getfield 48, 3) := by decide +kernel
theorem dX9_restore_87 : decode cX9_restore 87 = .ok (.iload_n 1, 1) := by decide +kernel
theorem dX9_restore_88 : decode cX9_restore 88 = .ok (.iaload, 1) := by decide +kernel
theorem dX9_restore_89 : decode cX9_restore 89 = .ok (.iastore, 1) := by decide +kernel
theorem dX9_restore_90 : decode cX9_restore 90 = .ok (.iinc 1 1, 3) := by decide +kernel
theorem dX9_restore_93 : decode cX9_restore 93 = .ok (.goto (-20), 3) := by decide +kernel
theorem dX9_restore_96 : decode cX9_restore 96 = .ok (.iconst 0, 1) := by decide +kernel
theorem dX9_restore_97 : decode cX9_restore 97 = .ok (.istore_n 1, 1) := by decide +kernel
theorem dX9_restore_98 : decode cX9_restore 98 = .ok (.iload_n 1, 1) := by decide +kernel
theorem dX9_restore_99 : decode cX9_restore 99 = .ok (.bipush 6, 2) := by decide +kernel
theorem dX9_restore_101 : decode cX9_restore 101 = .ok (.if_icmp .ge 33, 3) := by decide +kernel
theorem dX9_restore_104 : decode cX9_restore 104 = .ok (.aload_n 0, 1) := by decide +kernel
theorem dX9_restore_105 : decode cX9_restore 105 = .ok (.getfield 24, 3) := by decide +kernel
theorem dX9_restore_108 : decode cX9_restore 108 = .ok (.iload_n 1, 1) := by decide +kernel
theorem dX9_restore_109 : decode cX9_restore 109 = .ok (.aload_n 0, 1) := by decide +kernel
theorem dX9_restore_110 : decode cX9_restore 110 = .ok (.getfield 51, 3) := by decide +kernel
theorem dX9_restore_113 : decode cX9_restore 113 = .ok (.iload_n 1, 1) := by decide +kernel
theorem dX9_restore_114 : decode cX9_restore 114 = .ok (.iaload, 1) := by decide +kernel
theorem dX9_restore_115 : decode cX9_restore 115 = .ok (.iastore, 1) := by decide +kernel
theorem dX9_restore_116 : decode cX9_restore 116 = .ok (.aload_n 0, 1) := by decide +kernel
theorem dX9_restore_117 : decode cX9_restore 117 = .ok (.getfield 27, 3) := by decide +kernel
theorem dX9_restore_120 : decode cX9_restore 120 = .ok (.iload_n 1, 1) := by decide +kernel
theorem dX9_restore_121 : decode cX9_restore 121 = .ok (.aload_n 0, 1) := by decide +kernel
theorem dX9_restore_122 : decode cX9_restore 122 = .ok (.getfield 54, 3) := by decide +kernel
theorem dX9_restore_125 : decode cX9_restore 125 = .ok (.iload_n 1, 1) := by decide +kernel
theorem dX9_restore_126 : decode cX9_restore 126 = .ok (.baload, 1) := by decide +kernel
theorem dX9_restore_127 : decode cX9_restore 127 = .ok (.bastore, 1) := by decide +kernel
theorem dX9_restore_128 : decode cX9_restore 128 = .ok (.iinc 1 1, 3) := by decide +kernel
theorem dX9_restore_131 : decode cX9_restore 131 = .ok (.goto (-33), 3) := by decide +kernel
theorem dX9_restore_134 : decode cX9_restore 134 = .ok (.aload_n 0, 1) := by decide +kernel
theorem dX9_restore_135 : decode cX9_restore 135 = .ok (.getfield 121, 3) := by decide +kernel
theorem dX9_restore_138 : decode cX9_restore 138 = .ok (.ireturn, 1) := by decide +kernel
theorem dX9_lawsKept_0 : decode cX9_lawsKept 0 = .ok (.aload_n 0, 1) := by decide +kernel
theorem dX9_lawsKept_1 : decode cX9_lawsKept 1 = .ok (.invokevirtual 184, 3) := by decide +kernel
theorem dX9_lawsKept_4 : decode cX9_lawsKept 4 = .ok (.iconst 0, 1) := by decide +kernel
theorem dX9_lawsKept_5 : decode cX9_lawsKept 5 = .ok (.istore_n 1, 1) := by decide +kernel
theorem dX9_lawsKept_6 : decode cX9_lawsKept 6 = .ok (.iconst 0, 1) := by decide +kernel
theorem dX9_lawsKept_7 : decode cX9_lawsKept 7 = .ok (.istore_n 2, 1) := by decide +kernel
theorem dX9_lawsKept_8 : decode cX9_lawsKept 8 = .ok (.iload_n 2, 1) := by decide +kernel
theorem dX9_lawsKept_9 : decode cX9_lawsKept 9 = .ok (.iconst 5, 1) := by decide +kernel
theorem dX9_lawsKept_10 : decode cX9_lawsKept 10 = .ok (.if_icmp .ge 32, 3) := by decide +kernel
theorem dX9_lawsKept_13 : decode cX9_lawsKept 13 = .ok (.iload_n 1, 1) := by decide +kernel
theorem dX9_lawsKept_14 : decode cX9_lawsKept 14 = .ok (.aload_n 0, 1) := by decide +kernel
theorem dX9_lawsKept_15 : decode cX9_lawsKept 15 = .ok (.invokevirtual 202, 3) := by decide +kernel
theorem dX9_lawsKept_18 : decode cX9_lawsKept 18 = .ok (.ifCond .eq 15, 3) := by decide +kernel
theorem dX9_lawsKept_21 : decode cX9_lawsKept 21 = .ok (.aload_n 0, 1) := by decide +kernel
theorem dX9_lawsKept_22 : decode cX9_lawsKept 22 = .ok (.iload_n 2, 1) := by decide +kernel
theorem dX9_lawsKept_23 : decode cX9_lawsKept 23 = .ok (.invokevirtual 172, 3) := by decide +kernel
theorem dX9_lawsKept_26 : decode cX9_lawsKept 26 = .ok (.ifCond .eq 7, 3) := by decide +kernel
theorem dX9_lawsKept_29 : decode cX9_lawsKept 29 = .ok (.iconst 1, 1) := by decide +kernel
theorem dX9_lawsKept_30 : decode cX9_lawsKept 30 = .ok (.goto 4, 3) := by decide +kernel
theorem dX9_lawsKept_33 : decode cX9_lawsKept 33 = .ok (.iconst 0, 1) := by decide +kernel
theorem dX9_lawsKept_34 : decode cX9_lawsKept 34 = .ok (.iadd, 1) := by decide +kernel
theorem dX9_lawsKept_35 : decode cX9_lawsKept 35 = .ok (.istore_n 1, 1) := by decide +kernel
theorem dX9_lawsKept_36 : decode cX9_lawsKept 36 = .ok (.iinc 2 1, 3) := by decide +kernel
theorem dX9_lawsKept_39 : decode cX9_lawsKept 39 = .ok (.goto (-31), 3) := by decide +kernel
theorem dX9_lawsKept_42 : decode cX9_lawsKept 42 = .ok (.iload_n 1, 1) := by decide +kernel
theorem dX9_lawsKept_43 : decode cX9_lawsKept 43 = .ok (.ireturn, 1) := by decide +kernel
theorem dX9_howMany_0 : decode cX9_howMany 0 = .ok (.iload_n 1, 1) := by decide +kernel
theorem dX9_howMany_1 : decode cX9_howMany 1 = .ok (.tableswitch 135 0 10 #[59, 64, 69, 74, 100, 105, 110, 115, 120, 125, 130], 59) := by decide +kernel
theorem dX9_howMany_60 : decode cX9_howMany 60 = .ok (.aload_n 0, 1) := by decide +kernel
theorem dX9_howMany_61 : decode cX9_howMany 61 = .ok (.getfield 121, 3) := by decide +kernel
theorem dX9_howMany_64 : decode cX9_howMany 64 = .ok (.ireturn, 1) := by decide +kernel
theorem dX9_howMany_65 : decode cX9_howMany 65 = .ok (.aload_n 0, 1) := by decide +kernel
theorem dX9_howMany_66 : decode cX9_howMany 66 = .ok (.invokevirtual 193, 3) := by decide +kernel
theorem dX9_howMany_69 : decode cX9_howMany 69 = .ok (.ireturn, 1) := by decide +kernel
theorem dX9_howMany_70 : decode cX9_howMany 70 = .ok (.aload_n 0, 1) := by decide +kernel
theorem dX9_howMany_71 : decode cX9_howMany 71 = .ok (.getfield 130, 3) := by decide +kernel
theorem dX9_howMany_74 : decode cX9_howMany 74 = .ok (.ireturn, 1) := by decide +kernel
theorem dX9_howMany_75 : decode cX9_howMany 75 = .ok (.aload_n 0, 1) := by decide +kernel
theorem dX9_howMany_76 : decode cX9_howMany 76 = .ok (.invokevirtual 202, 3) := by decide +kernel
theorem dX9_howMany_79 : decode cX9_howMany 79 = .ok (.ifCond .eq 20, 3) := by decide +kernel
theorem dX9_howMany_82 : decode cX9_howMany 82 = .ok (.aload_n 0, 1) := by decide +kernel
theorem dX9_howMany_83 : decode cX9_howMany 83 = .ok (.invokevirtual 218, 3) := by decide +kernel
theorem dX9_howMany_86 : decode cX9_howMany 86 = .ok (.ifCond .eq 13, 3) := by decide +kernel
theorem dX9_howMany_89 : decode cX9_howMany 89 = .ok (.aload_n 0, 1) := by decide +kernel
theorem dX9_howMany_90 : decode cX9_howMany 90 = .ok (.invokevirtual 224, 3) := by decide +kernel
theorem dX9_howMany_93 : decode cX9_howMany 93 = .ok (.invokestatic 287, 3) := by decide +kernel
theorem dX9_howMany_96 : decode cX9_howMany 96 = .ok (.goto 4, 3) := by decide +kernel
theorem dX9_howMany_99 : decode cX9_howMany 99 = .ok (.iconst 0, 1) := by decide +kernel
theorem dX9_howMany_100 : decode cX9_howMany 100 = .ok (.ireturn, 1) := by decide +kernel
theorem dX9_howMany_101 : decode cX9_howMany 101 = .ok (.aload_n 0, 1) := by decide +kernel
theorem dX9_howMany_102 : decode cX9_howMany 102 = .ok (.invokevirtual 324, 3) := by decide +kernel
theorem dX9_howMany_105 : decode cX9_howMany 105 = .ok (.ireturn, 1) := by decide +kernel
theorem dX9_howMany_106 : decode cX9_howMany 106 = .ok (.aload_n 0, 1) := by decide +kernel
theorem dX9_howMany_107 : decode cX9_howMany 107 = .ok (.getfield 127, 3) := by decide +kernel
theorem dX9_howMany_110 : decode cX9_howMany 110 = .ok (.ireturn, 1) := by decide +kernel
theorem dX9_howMany_111 : decode cX9_howMany 111 = .ok (.aload_n 0, 1) := by decide +kernel
theorem dX9_howMany_112 : decode cX9_howMany 112 = .ok (.getfield 61, 3) := by decide +kernel
theorem dX9_howMany_115 : decode cX9_howMany 115 = .ok (.ireturn, 1) := by decide +kernel
theorem dX9_howMany_116 : decode cX9_howMany 116 = .ok (.aload_n 0, 1) := by decide +kernel
theorem dX9_howMany_117 : decode cX9_howMany 117 = .ok (.getfield 124, 3) := by decide +kernel
theorem dX9_howMany_120 : decode cX9_howMany 120 = .ok (.ireturn, 1) := by decide +kernel
theorem dX9_howMany_121 : decode cX9_howMany 121 = .ok (.aload_n 0, 1) := by decide +kernel
theorem dX9_howMany_122 : decode cX9_howMany 122 = .ok (.getfield 133, 3) := by decide +kernel
theorem dX9_howMany_125 : decode cX9_howMany 125 = .ok (.ireturn, 1) := by decide +kernel
theorem dX9_howMany_126 : decode cX9_howMany 126 = .ok (.aload_n 0, 1) := by decide +kernel
theorem dX9_howMany_127 : decode cX9_howMany 127 = .ok (.getfield 265, 3) := by decide +kernel
theorem dX9_howMany_130 : decode cX9_howMany 130 = .ok (.ireturn, 1) := by decide +kernel
theorem dX9_howMany_131 : decode cX9_howMany 131 = .ok (.aload_n 0, 1) := by decide +kernel
theorem dX9_howMany_132 : decode cX9_howMany 132 = .ok (.getfield 271, 3) := by decide +kernel
theorem dX9_howMany_135 : decode cX9_howMany 135 = .ok (.ireturn, 1) := by decide +kernel
theorem dX9_howMany_136 : decode cX9_howMany 136 = .ok (.bipush (-102), 2) := by decide +kernel
theorem dX9_howMany_138 : decode cX9_howMany 138 = .ok (.ireturn, 1) := by decide +kernel
theorem dX9_count_0 : decode cX9_count 0 = .ok (.aload_n 0, 1) := by decide +kernel
theorem dX9_count_1 : decode cX9_count 1 = .ok (.iload_n 1, 1) := by decide +kernel
theorem dX9_count_2 : decode cX9_count 2 = .ok (.invokevirtual 327, 3) := by decide +kernel
theorem dX9_count_5 : decode cX9_count 5 = .ok (.ireturn, 1) := by decide +kernel
theorem dX9_mix_0 : decode cX9_mix 0 = .ok (.aload_n 0, 1) := by decide +kernel
theorem dX9_mix_1 : decode cX9_mix 1 = .ok (.ldc2_w 330, 3) := by decide +kernel
theorem dX9_mix_4 : decode cX9_mix 4 = .ok (.aload_n 0, 1) := by decide +kernel
theorem dX9_mix_5 : decode cX9_mix 5 = .ok (.getfield 332, 3) := by decide +kernel
theorem dX9_mix_8 : decode cX9_mix 8 = .ok (.lmul, 1) := by decide +kernel
theorem dX9_mix_9 : decode cX9_mix 9 = .ok (.lload_n 1, 1) := by decide +kernel
theorem dX9_mix_10 : decode cX9_mix 10 = .ok (.ladd, 1) := by decide +kernel
theorem dX9_mix_11 : decode cX9_mix 11 = .ok (.putfield 332, 3) := by decide +kernel
theorem dX9_mix_14 : decode cX9_mix 14 = .ok (.return_, 1) := by decide +kernel
theorem dX9_mixWorld_0 : decode cX9_mixWorld 0 = .ok (.iconst 0, 1) := by decide +kernel
theorem dX9_mixWorld_1 : decode cX9_mixWorld 1 = .ok (.istore_n 2, 1) := by decide +kernel
theorem dX9_mixWorld_2 : decode cX9_mixWorld 2 = .ok (.iload_n 2, 1) := by decide +kernel
theorem dX9_mixWorld_3 : decode cX9_mixWorld 3 = .ok (.bipush 6, 2) := by decide +kernel
theorem dX9_mixWorld_5 : decode cX9_mixWorld 5 = .ok (.if_icmp .ge 20, 3) := by decide +kernel
theorem dX9_mixWorld_8 : decode cX9_mixWorld 8 = .ok (.aload_n 0, 1) := by decide +kernel
theorem dX9_mixWorld_9 : decode cX9_mixWorld 9 = .ok (.aload_n 0, 1) := by decide +kernel
theorem dX9_mixWorld_10 : decode cX9_mixWorld 10 = .ok (.iload_n 1, 1) := by decide +kernel
theorem dX9_mixWorld_11 : decode cX9_mixWorld 11 = .ok (.iload_n 2, 1) := by decide +kernel
theorem dX9_mixWorld_12 : decode cX9_mixWorld 12 = .ok (.invokevirtual 230, 3) := by decide +kernel
theorem dX9_mixWorld_15 : decode cX9_mixWorld 15 = .ok (.i2l, 1) := by decide +kernel
theorem dX9_mixWorld_16 : decode cX9_mixWorld 16 = .ok (.invokevirtual 335, 3) := by decide +kernel
theorem dX9_mixWorld_19 : decode cX9_mixWorld 19 = .ok (.iinc 2 1, 3) := by decide +kernel
theorem dX9_mixWorld_22 : decode cX9_mixWorld 22 = .ok (.goto (-20), 3) := by decide +kernel
theorem dX9_mixWorld_25 : decode cX9_mixWorld 25 = .ok (.iconst 0, 1) := by decide +kernel
theorem dX9_mixWorld_26 : decode cX9_mixWorld 26 = .ok (.istore_n 2, 1) := by decide +kernel
theorem dX9_mixWorld_27 : decode cX9_mixWorld 27 = .ok (.iload_n 2, 1) := by decide +kernel
theorem dX9_mixWorld_28 : decode cX9_mixWorld 28 = .ok (.aload_n 0, 1) := by decide +kernel
theorem dX9_mixWorld_29 : decode cX9_mixWorld 29 = .ok (.getfield 121, 3) := by decide +kernel
theorem dX9_mixWorld_32 : decode cX9_mixWorld 32 = .ok (.if_icmp .ge 20, 3) := by decide +kernel
theorem dX9_mixWorld_35 : decode cX9_mixWorld 35 = .ok (.aload_n 0, 1) := by decide +kernel
theorem dX9_mixWorld_36 : decode cX9_mixWorld 36 = .ok (.aload_n 0, 1) := by decide +kernel
theorem dX9_mixWorld_37 : decode cX9_mixWorld 37 = .ok (.iload_n 1, 1) := by decide +kernel
theorem dX9_mixWorld_38 : decode cX9_mixWorld 38 = .ok (.iload_n 2, 1) := by decide +kernel
theorem dX9_mixWorld_39 : decode cX9_mixWorld 39 = .ok (.invokevirtual 234, 3) := by decide +kernel
theorem dX9_mixWorld_42 : decode cX9_mixWorld 42 = .ok (.i2l, 1) := by decide +kernel
theorem dX9_mixWorld_43 : decode cX9_mixWorld 43 = .ok (.invokevirtual 335, 3) := by decide +kernel
theorem dX9_mixWorld_46 : decode cX9_mixWorld 46 = .ok (.iinc 2 1, 3) := by decide +kernel
theorem dX9_mixWorld_49 : decode cX9_mixWorld 49 = .ok (.goto (-22), 3) := by decide +kernel
theorem dX9_mixWorld_52 : decode cX9_mixWorld 52 = .ok (.return_, 1) := by decide +kernel
theorem dX9_mixFrame_0 : decode cX9_mixFrame 0 = .ok (.iconst 0, 1) := by decide +kernel
theorem dX9_mixFrame_1 : decode cX9_mixFrame 1 = .ok (.istore_n 1, 1) := by decide +kernel
theorem dX9_mixFrame_2 : decode cX9_mixFrame 2 = .ok (.iload_n 1, 1) := by decide +kernel
theorem dX9_mixFrame_3 : decode cX9_mixFrame 3 = .ok (.iconst 5, 1) := by decide +kernel
theorem dX9_mixFrame_4 : decode cX9_mixFrame 4 = .ok (.if_icmp .ge 19, 3) := by decide +kernel
theorem dX9_mixFrame_7 : decode cX9_mixFrame 7 = .ok (.aload_n 0, 1) := by decide +kernel
theorem dX9_mixFrame_8 : decode cX9_mixFrame 8 = .ok (.aload_n 0, 1) := by decide +kernel
theorem dX9_mixFrame_9 : decode cX9_mixFrame 9 = .ok (.iload_n 1, 1) := by decide +kernel
theorem dX9_mixFrame_10 : decode cX9_mixFrame 10 = .ok (.invokevirtual 206, 3) := by decide +kernel
theorem dX9_mixFrame_13 : decode cX9_mixFrame 13 = .ok (.i2l, 1) := by decide +kernel
theorem dX9_mixFrame_14 : decode cX9_mixFrame 14 = .ok (.invokevirtual 335, 3) := by decide +kernel
theorem dX9_mixFrame_17 : decode cX9_mixFrame 17 = .ok (.iinc 1 1, 3) := by decide +kernel
theorem dX9_mixFrame_20 : decode cX9_mixFrame 20 = .ok (.goto (-18), 3) := by decide +kernel
theorem dX9_mixFrame_23 : decode cX9_mixFrame 23 = .ok (.iconst 0, 1) := by decide +kernel
theorem dX9_mixFrame_24 : decode cX9_mixFrame 24 = .ok (.istore_n 1, 1) := by decide +kernel
theorem dX9_mixFrame_25 : decode cX9_mixFrame 25 = .ok (.iload_n 1, 1) := by decide +kernel
theorem dX9_mixFrame_26 : decode cX9_mixFrame 26 = .ok (.aload_n 0, 1) := by decide +kernel
theorem dX9_mixFrame_27 : decode cX9_mixFrame 27 = .ok (.getfield 121, 3) := by decide +kernel
theorem dX9_mixFrame_30 : decode cX9_mixFrame 30 = .ok (.if_icmp .ge 14, 3) := by decide +kernel
theorem dX9_mixFrame_33 : decode cX9_mixFrame 33 = .ok (.aload_n 0, 1) := by decide +kernel
theorem dX9_mixFrame_34 : decode cX9_mixFrame 34 = .ok (.iload_n 1, 1) := by decide +kernel
theorem dX9_mixFrame_35 : decode cX9_mixFrame 35 = .ok (.invokevirtual 339, 3) := by decide +kernel
theorem dX9_mixFrame_38 : decode cX9_mixFrame 38 = .ok (.iinc 1 1, 3) := by decide +kernel
theorem dX9_mixFrame_41 : decode cX9_mixFrame 41 = .ok (.goto (-16), 3) := by decide +kernel
theorem dX9_mixFrame_44 : decode cX9_mixFrame 44 = .ok (.iconst 0, 1) := by decide +kernel
theorem dX9_mixFrame_45 : decode cX9_mixFrame 45 = .ok (.istore_n 1, 1) := by decide +kernel
theorem dX9_mixFrame_46 : decode cX9_mixFrame 46 = .ok (.iload_n 1, 1) := by decide +kernel
theorem dX9_mixFrame_47 : decode cX9_mixFrame 47 = .ok (.iconst 5, 1) := by decide +kernel
theorem dX9_mixFrame_48 : decode cX9_mixFrame 48 = .ok (.if_icmp .ge 19, 3) := by decide +kernel
theorem dX9_mixFrame_51 : decode cX9_mixFrame 51 = .ok (.aload_n 0, 1) := by decide +kernel
theorem dX9_mixFrame_52 : decode cX9_mixFrame 52 = .ok (.aload_n 0, 1) := by decide +kernel
theorem dX9_mixFrame_53 : decode cX9_mixFrame 53 = .ok (.iload_n 1, 1) := by decide +kernel
theorem dX9_mixFrame_54 : decode cX9_mixFrame 54 = .ok (.invokevirtual 277, 3) := by decide +kernel
theorem dX9_mixFrame_57 : decode cX9_mixFrame 57 = .ok (.i2l, 1) := by decide +kernel
theorem dX9_mixFrame_58 : decode cX9_mixFrame 58 = .ok (.invokevirtual 335, 3) := by decide +kernel
theorem dX9_mixFrame_61 : decode cX9_mixFrame 61 = .ok (.iinc 1 1, 3) := by decide +kernel
theorem dX9_mixFrame_64 : decode cX9_mixFrame 64 = .ok (.goto (-18), 3) := by decide +kernel
theorem dX9_mixFrame_67 : decode cX9_mixFrame 67 = .ok (.aload_n 0, 1) := by decide +kernel
theorem dX9_mixFrame_68 : decode cX9_mixFrame 68 = .ok (.invokevirtual 218, 3) := by decide +kernel
theorem dX9_mixFrame_71 : decode cX9_mixFrame 71 = .ok (.ifCond .eq 38, 3) := by decide +kernel
theorem dX9_mixFrame_74 : decode cX9_mixFrame 74 = .ok (.aload_n 0, 1) := by decide +kernel
theorem dX9_mixFrame_75 : decode cX9_mixFrame 75 = .ok (.aload_n 0, 1) := by decide +kernel
theorem dX9_mixFrame_76 : decode cX9_mixFrame 76 = .ok (.invokevirtual 258, 3) := by decide +kernel
theorem dX9_mixFrame_79 : decode cX9_mixFrame 79 = .ok (.i2l, 1) := by decide +kernel
theorem dX9_mixFrame_80 : decode cX9_mixFrame 80 = .ok (.invokevirtual 335, 3) := by decide +kernel
theorem dX9_mixFrame_83 : decode cX9_mixFrame 83 = .ok (.iconst 0, 1) := by decide +kernel
theorem dX9_mixFrame_84 : decode cX9_mixFrame 84 = .ok (.istore_n 1, 1) := by decide +kernel
theorem dX9_mixFrame_85 : decode cX9_mixFrame 85 = .ok (.iload_n 1, 1) := by decide +kernel
theorem dX9_mixFrame_86 : decode cX9_mixFrame 86 = .ok (.aload_n 0, 1) := by decide +kernel
theorem dX9_mixFrame_87 : decode cX9_mixFrame 87 = .ok (.getfield 130, 3) := by decide +kernel
theorem dX9_mixFrame_90 : decode cX9_mixFrame 90 = .ok (.if_icmp .ge 19, 3) := by decide +kernel
theorem dX9_mixFrame_93 : decode cX9_mixFrame 93 = .ok (.aload_n 0, 1) := by decide +kernel
theorem dX9_mixFrame_94 : decode cX9_mixFrame 94 = .ok (.aload_n 0, 1) := by decide +kernel
theorem dX9_mixFrame_95 : decode cX9_mixFrame 95 = .ok (.iload_n 1, 1) := by decide +kernel
theorem dX9_mixFrame_96 : decode cX9_mixFrame 96 = .ok (.invokevirtual 237, 3) := by decide +kernel
theorem dX9_mixFrame_99 : decode cX9_mixFrame 99 = .ok (.i2l, 1) := by decide +kernel
theorem dX9_mixFrame_100 : decode cX9_mixFrame 100 = .ok (.invokevirtual 335, 3) := by decide +kernel
theorem dX9_mixFrame_103 : decode cX9_mixFrame 103 = .ok (.iinc 1 1, 3) := by decide +kernel
theorem dX9_mixFrame_106 : decode cX9_mixFrame 106 = .ok (.goto (-21), 3) := by decide +kernel
theorem dX9_mixFrame_109 : decode cX9_mixFrame 109 = .ok (.return_, 1) := by decide +kernel
theorem dX9_digest_0 : decode cX9_digest 0 = .ok (.aload_n 0, 1) := by decide +kernel
theorem dX9_digest_1 : decode cX9_digest 1 = .ok (.ldc2_w 342, 3) := by decide +kernel
theorem dX9_digest_4 : decode cX9_digest 4 = .ok (.putfield 332, 3) := by decide +kernel
theorem dX9_digest_7 : decode cX9_digest 7 = .ok (.aload_n 0, 1) := by decide +kernel
theorem dX9_digest_8 : decode cX9_digest 8 = .ok (.invokevirtual 202, 3) := by decide +kernel
theorem dX9_digest_11 : decode cX9_digest 11 = .ok (.ifCond .eq 7, 3) := by decide +kernel
theorem dX9_digest_14 : decode cX9_digest 14 = .ok (.aload_n 0, 1) := by decide +kernel
theorem dX9_digest_15 : decode cX9_digest 15 = .ok (.invokevirtual 344, 3) := by decide +kernel
theorem dX9_digest_18 : decode cX9_digest 18 = .ok (.iconst 0, 1) := by decide +kernel
theorem dX9_digest_19 : decode cX9_digest 19 = .ok (.istore_n 1, 1) := by decide +kernel
theorem dX9_digest_20 : decode cX9_digest 20 = .ok (.iload_n 1, 1) := by decide +kernel
theorem dX9_digest_21 : decode cX9_digest 21 = .ok (.aload_n 0, 1) := by decide +kernel
theorem dX9_digest_22 : decode cX9_digest 22 = .ok (.getfield 130, 3) := by decide +kernel
theorem dX9_digest_25 : decode cX9_digest 25 = .ok (.if_icmp .ge 20, 3) := by decide +kernel
theorem dX9_digest_28 : decode cX9_digest 28 = .ok (.aload_n 0, 1) := by decide +kernel
theorem dX9_digest_29 : decode cX9_digest 29 = .ok (.aload_n 0, 1) := by decide +kernel
theorem dX9_digest_30 : decode cX9_digest 30 = .ok (.getfield 17, 3) := by decide +kernel
theorem dX9_digest_33 : decode cX9_digest 33 = .ok (.iload_n 1, 1) := by decide +kernel
theorem dX9_digest_34 : decode cX9_digest 34 = .ok (.baload, 1) := by decide +kernel
theorem dX9_digest_35 : decode cX9_digest 35 = .ok (.i2l, 1) := by decide +kernel
theorem dX9_digest_36 : decode cX9_digest 36 = .ok (.invokevirtual 335, 3) := by decide +kernel
theorem dX9_digest_39 : decode cX9_digest 39 = .ok (.iinc 1 1, 3) := by decide +kernel
theorem dX9_digest_42 : decode cX9_digest 42 = .ok (.goto (-22), 3) := by decide +kernel
theorem dX9_digest_45 : decode cX9_digest 45 = .ok (.aload_n 0, 1) := by decide +kernel
theorem dX9_digest_46 : decode cX9_digest 46 = .ok (.aload_n 0, 1) := by decide +kernel
theorem dX9_digest_47 : decode cX9_digest 47 = .ok (.invokevirtual 283, 3) := by decide +kernel
theorem dX9_digest_50 : decode cX9_digest 50 = .ok (.i2l, 1) := by decide +kernel
theorem dX9_digest_51 : decode cX9_digest 51 = .ok (.invokevirtual 335, 3) := by decide +kernel
theorem dX9_digest_54 : decode cX9_digest 54 = .ok (.aload_n 0, 1) := by decide +kernel
theorem dX9_digest_55 : decode cX9_digest 55 = .ok (.aload_n 0, 1) := by decide +kernel
theorem dX9_digest_56 : decode cX9_digest 56 = .ok (.invokevirtual 290, 3) := by decide +kernel
theorem dX9_digest_59 : decode cX9_digest 59 = .ok (.i2l, 1) := by decide +kernel
theorem dX9_digest_60 : decode cX9_digest 60 = .ok (.invokevirtual 335, 3) := by decide +kernel
theorem dX9_digest_63 : decode cX9_digest 63 = .ok (.iconst 0, 1) := by decide +kernel
theorem dX9_digest_64 : decode cX9_digest 64 = .ok (.istore_n 1, 1) := by decide +kernel
theorem dX9_digest_65 : decode cX9_digest 65 = .ok (.iload_n 1, 1) := by decide +kernel
theorem dX9_digest_66 : decode cX9_digest 66 = .ok (.aload_n 0, 1) := by decide +kernel
theorem dX9_digest_67 : decode cX9_digest 67 = .ok (.getfield 61, 3) := by decide +kernel
theorem dX9_digest_70 : decode cX9_digest 70 = .ok (.if_icmp .ge 20, 3) := by decide +kernel
theorem dX9_digest_73 : decode cX9_digest 73 = .ok (.aload_n 0, 1) := by decide +kernel
theorem dX9_digest_74 : decode cX9_digest 74 = .ok (.aload_n 0, 1) := by decide +kernel
theorem dX9_digest_75 : decode cX9_digest 75 = .ok (.getfield 30, 3) := by decide +kernel
theorem dX9_digest_78 : decode cX9_digest 78 = .ok (.iload_n 1, 1) := by decide +kernel
theorem dX9_digest_79 : decode cX9_digest 79 = .ok (.baload, 1) := by decide +kernel
theorem dX9_digest_80 : decode cX9_digest 80 = .ok (.i2l, 1) := by decide +kernel
theorem dX9_digest_81 : decode cX9_digest 81 = .ok (.invokevirtual 335, 3) := by decide +kernel
theorem dX9_digest_84 : decode cX9_digest 84 = .ok (.iinc 1 1, 3) := by decide +kernel
theorem dX9_digest_87 : decode cX9_digest 87 = .ok (.goto (-22), 3) := by decide +kernel
theorem dX9_digest_90 : decode cX9_digest 90 = .ok (.iconst 0, 1) := by decide +kernel
theorem dX9_digest_91 : decode cX9_digest 91 = .ok (.istore_n 1, 1) := by decide +kernel
theorem dX9_digest_92 : decode cX9_digest 92 = .ok (.iload_n 1, 1) := by decide +kernel
theorem dX9_digest_93 : decode cX9_digest 93 = .ok (.bipush 11, 2) := by decide +kernel
theorem dX9_digest_95 : decode cX9_digest 95 = .ok (.if_icmp .ge 19, 3) := by decide +kernel
theorem dX9_digest_98 : decode cX9_digest 98 = .ok (.aload_n 0, 1) := by decide +kernel
theorem dX9_digest_99 : decode cX9_digest 99 = .ok (.aload_n 0, 1) := by decide +kernel
theorem dX9_digest_100 : decode cX9_digest 100 = .ok (.iload_n 1, 1) := by decide +kernel
theorem dX9_digest_101 : decode cX9_digest 101 = .ok (.invokevirtual 327, 3) := by decide +kernel
theorem dX9_digest_104 : decode cX9_digest 104 = .ok (.i2l, 1) := by decide +kernel
theorem dX9_digest_105 : decode cX9_digest 105 = .ok (.invokevirtual 335, 3) := by decide +kernel
theorem dX9_digest_108 : decode cX9_digest 108 = .ok (.iinc 1 1, 3) := by decide +kernel
theorem dX9_digest_111 : decode cX9_digest 111 = .ok (.goto (-19), 3) := by decide +kernel
theorem dX9_digest_114 : decode cX9_digest 114 = .ok (.aload_n 0, 1) := by decide +kernel
theorem dX9_digest_115 : decode cX9_digest 115 = .ok (.getfield 332, 3) := by decide +kernel
theorem dX9_digest_118 : decode cX9_digest 118 = .ok (.lreturn, 1) := by decide +kernel
theorem dJ6_bitCount_0f7a4_0 : decode cJ6_bitCount_0f7a4 0 = .ok (.iload_n 0, 1) := by decide +kernel
theorem dJ6_bitCount_0f7a4_1 : decode cJ6_bitCount_0f7a4 1 = .ok (.iload_n 0, 1) := by decide +kernel
theorem dJ6_bitCount_0f7a4_2 : decode cJ6_bitCount_0f7a4 2 = .ok (.iconst 1, 1) := by decide +kernel
theorem dJ6_bitCount_0f7a4_3 : decode cJ6_bitCount_0f7a4 3 = .ok (.iushr, 1) := by decide +kernel
theorem dJ6_bitCount_0f7a4_4 : decode cJ6_bitCount_0f7a4 4 = .ok (.ldc_w 265, 3) := by decide +kernel
theorem dJ6_bitCount_0f7a4_7 : decode cJ6_bitCount_0f7a4 7 = .ok (.iand, 1) := by decide +kernel
theorem dJ6_bitCount_0f7a4_8 : decode cJ6_bitCount_0f7a4 8 = .ok (.isub, 1) := by decide +kernel
theorem dJ6_bitCount_0f7a4_9 : decode cJ6_bitCount_0f7a4 9 = .ok (.istore_n 0, 1) := by decide +kernel
theorem dJ6_bitCount_0f7a4_10 : decode cJ6_bitCount_0f7a4 10 = .ok (.iload_n 0, 1) := by decide +kernel
theorem dJ6_bitCount_0f7a4_11 : decode cJ6_bitCount_0f7a4 11 = .ok (.ldc_w 266, 3) := by decide +kernel
theorem dJ6_bitCount_0f7a4_14 : decode cJ6_bitCount_0f7a4 14 = .ok (.iand, 1) := by decide +kernel
theorem dJ6_bitCount_0f7a4_15 : decode cJ6_bitCount_0f7a4 15 = .ok (.iload_n 0, 1) := by decide +kernel
theorem dJ6_bitCount_0f7a4_16 : decode cJ6_bitCount_0f7a4 16 = .ok (.iconst 2, 1) := by decide +kernel
theorem dJ6_bitCount_0f7a4_17 : decode cJ6_bitCount_0f7a4 17 = .ok (.iushr, 1) := by decide +kernel
theorem dJ6_bitCount_0f7a4_18 : decode cJ6_bitCount_0f7a4 18 = .ok (.ldc_w 266, 3) := by decide +kernel
theorem dJ6_bitCount_0f7a4_21 : decode cJ6_bitCount_0f7a4 21 = .ok (.iand, 1) := by decide +kernel
theorem dJ6_bitCount_0f7a4_22 : decode cJ6_bitCount_0f7a4 22 = .ok (.iadd, 1) := by decide +kernel
theorem dJ6_bitCount_0f7a4_23 : decode cJ6_bitCount_0f7a4 23 = .ok (.istore_n 0, 1) := by decide +kernel
theorem dJ6_bitCount_0f7a4_24 : decode cJ6_bitCount_0f7a4 24 = .ok (.iload_n 0, 1) := by decide +kernel
theorem dJ6_bitCount_0f7a4_25 : decode cJ6_bitCount_0f7a4 25 = .ok (.iload_n 0, 1) := by decide +kernel
theorem dJ6_bitCount_0f7a4_26 : decode cJ6_bitCount_0f7a4 26 = .ok (.iconst 4, 1) := by decide +kernel
theorem dJ6_bitCount_0f7a4_27 : decode cJ6_bitCount_0f7a4 27 = .ok (.iushr, 1) := by decide +kernel
theorem dJ6_bitCount_0f7a4_28 : decode cJ6_bitCount_0f7a4 28 = .ok (.iadd, 1) := by decide +kernel
theorem dJ6_bitCount_0f7a4_29 : decode cJ6_bitCount_0f7a4 29 = .ok (.ldc_w 267, 3) := by decide +kernel
theorem dJ6_bitCount_0f7a4_32 : decode cJ6_bitCount_0f7a4 32 = .ok (.iand, 1) := by decide +kernel
theorem dJ6_bitCount_0f7a4_33 : decode cJ6_bitCount_0f7a4 33 = .ok (.istore_n 0, 1) := by decide +kernel
theorem dJ6_bitCount_0f7a4_34 : decode cJ6_bitCount_0f7a4 34 = .ok (.iload_n 0, 1) := by decide +kernel
theorem dJ6_bitCount_0f7a4_35 : decode cJ6_bitCount_0f7a4 35 = .ok (.iload_n 0, 1) := by decide +kernel
theorem dJ6_bitCount_0f7a4_36 : decode cJ6_bitCount_0f7a4 36 = .ok (.bipush 8, 2) := by decide +kernel
theorem dJ6_bitCount_0f7a4_38 : decode cJ6_bitCount_0f7a4 38 = .ok (.iushr, 1) := by decide +kernel
theorem dJ6_bitCount_0f7a4_39 : decode cJ6_bitCount_0f7a4 39 = .ok (.iadd, 1) := by decide +kernel
theorem dJ6_bitCount_0f7a4_40 : decode cJ6_bitCount_0f7a4 40 = .ok (.istore_n 0, 1) := by decide +kernel
theorem dJ6_bitCount_0f7a4_41 : decode cJ6_bitCount_0f7a4 41 = .ok (.iload_n 0, 1) := by decide +kernel
theorem dJ6_bitCount_0f7a4_42 : decode cJ6_bitCount_0f7a4 42 = .ok (.iload_n 0, 1) := by decide +kernel
theorem dJ6_bitCount_0f7a4_43 : decode cJ6_bitCount_0f7a4 43 = .ok (.bipush 16, 2) := by decide +kernel
theorem dJ6_bitCount_0f7a4_45 : decode cJ6_bitCount_0f7a4 45 = .ok (.iushr, 1) := by decide +kernel
theorem dJ6_bitCount_0f7a4_46 : decode cJ6_bitCount_0f7a4 46 = .ok (.iadd, 1) := by decide +kernel
theorem dJ6_bitCount_0f7a4_47 : decode cJ6_bitCount_0f7a4 47 = .ok (.istore_n 0, 1) := by decide +kernel
theorem dJ6_bitCount_0f7a4_48 : decode cJ6_bitCount_0f7a4 48 = .ok (.iload_n 0, 1) := by decide +kernel
theorem dJ6_bitCount_0f7a4_49 : decode cJ6_bitCount_0f7a4 49 = .ok (.bipush 63, 2) := by decide +kernel
theorem dJ6_bitCount_0f7a4_51 : decode cJ6_bitCount_0f7a4 51 = .ok (.iand, 1) := by decide +kernel
theorem dJ6_bitCount_0f7a4_52 : decode cJ6_bitCount_0f7a4 52 = .ok (.ireturn, 1) := by decide +kernel
theorem dJ13_bitCount_95d88_0 : decode cJ13_bitCount_95d88 0 = .ok (.lload_n 0, 1) := by decide +kernel
theorem dJ13_bitCount_95d88_1 : decode cJ13_bitCount_95d88 1 = .ok (.lload_n 0, 1) := by decide +kernel
theorem dJ13_bitCount_95d88_2 : decode cJ13_bitCount_95d88 2 = .ok (.iconst 1, 1) := by decide +kernel
theorem dJ13_bitCount_95d88_3 : decode cJ13_bitCount_95d88 3 = .ok (.lushr, 1) := by decide +kernel
theorem dJ13_bitCount_95d88_4 : decode cJ13_bitCount_95d88 4 = .ok (.ldc2_w 314, 3) := by decide +kernel
theorem dJ13_bitCount_95d88_7 : decode cJ13_bitCount_95d88 7 = .ok (.land, 1) := by decide +kernel
theorem dJ13_bitCount_95d88_8 : decode cJ13_bitCount_95d88 8 = .ok (.lsub, 1) := by decide +kernel
theorem dJ13_bitCount_95d88_9 : decode cJ13_bitCount_95d88 9 = .ok (.lstore_n 0, 1) := by decide +kernel
theorem dJ13_bitCount_95d88_10 : decode cJ13_bitCount_95d88 10 = .ok (.lload_n 0, 1) := by decide +kernel
theorem dJ13_bitCount_95d88_11 : decode cJ13_bitCount_95d88 11 = .ok (.ldc2_w 316, 3) := by decide +kernel
theorem dJ13_bitCount_95d88_14 : decode cJ13_bitCount_95d88 14 = .ok (.land, 1) := by decide +kernel
theorem dJ13_bitCount_95d88_15 : decode cJ13_bitCount_95d88 15 = .ok (.lload_n 0, 1) := by decide +kernel
theorem dJ13_bitCount_95d88_16 : decode cJ13_bitCount_95d88 16 = .ok (.iconst 2, 1) := by decide +kernel
theorem dJ13_bitCount_95d88_17 : decode cJ13_bitCount_95d88 17 = .ok (.lushr, 1) := by decide +kernel
theorem dJ13_bitCount_95d88_18 : decode cJ13_bitCount_95d88 18 = .ok (.ldc2_w 316, 3) := by decide +kernel
theorem dJ13_bitCount_95d88_21 : decode cJ13_bitCount_95d88 21 = .ok (.land, 1) := by decide +kernel
theorem dJ13_bitCount_95d88_22 : decode cJ13_bitCount_95d88 22 = .ok (.ladd, 1) := by decide +kernel
theorem dJ13_bitCount_95d88_23 : decode cJ13_bitCount_95d88 23 = .ok (.lstore_n 0, 1) := by decide +kernel
theorem dJ13_bitCount_95d88_24 : decode cJ13_bitCount_95d88 24 = .ok (.lload_n 0, 1) := by decide +kernel
theorem dJ13_bitCount_95d88_25 : decode cJ13_bitCount_95d88 25 = .ok (.lload_n 0, 1) := by decide +kernel
theorem dJ13_bitCount_95d88_26 : decode cJ13_bitCount_95d88 26 = .ok (.iconst 4, 1) := by decide +kernel
theorem dJ13_bitCount_95d88_27 : decode cJ13_bitCount_95d88 27 = .ok (.lushr, 1) := by decide +kernel
theorem dJ13_bitCount_95d88_28 : decode cJ13_bitCount_95d88 28 = .ok (.ladd, 1) := by decide +kernel
theorem dJ13_bitCount_95d88_29 : decode cJ13_bitCount_95d88 29 = .ok (.ldc2_w 318, 3) := by decide +kernel
theorem dJ13_bitCount_95d88_32 : decode cJ13_bitCount_95d88 32 = .ok (.land, 1) := by decide +kernel
theorem dJ13_bitCount_95d88_33 : decode cJ13_bitCount_95d88 33 = .ok (.lstore_n 0, 1) := by decide +kernel
theorem dJ13_bitCount_95d88_34 : decode cJ13_bitCount_95d88 34 = .ok (.lload_n 0, 1) := by decide +kernel
theorem dJ13_bitCount_95d88_35 : decode cJ13_bitCount_95d88 35 = .ok (.lload_n 0, 1) := by decide +kernel
theorem dJ13_bitCount_95d88_36 : decode cJ13_bitCount_95d88 36 = .ok (.bipush 8, 2) := by decide +kernel
theorem dJ13_bitCount_95d88_38 : decode cJ13_bitCount_95d88 38 = .ok (.lushr, 1) := by decide +kernel
theorem dJ13_bitCount_95d88_39 : decode cJ13_bitCount_95d88 39 = .ok (.ladd, 1) := by decide +kernel
theorem dJ13_bitCount_95d88_40 : decode cJ13_bitCount_95d88 40 = .ok (.lstore_n 0, 1) := by decide +kernel
theorem dJ13_bitCount_95d88_41 : decode cJ13_bitCount_95d88 41 = .ok (.lload_n 0, 1) := by decide +kernel
theorem dJ13_bitCount_95d88_42 : decode cJ13_bitCount_95d88 42 = .ok (.lload_n 0, 1) := by decide +kernel
theorem dJ13_bitCount_95d88_43 : decode cJ13_bitCount_95d88 43 = .ok (.bipush 16, 2) := by decide +kernel
theorem dJ13_bitCount_95d88_45 : decode cJ13_bitCount_95d88 45 = .ok (.lushr, 1) := by decide +kernel
theorem dJ13_bitCount_95d88_46 : decode cJ13_bitCount_95d88 46 = .ok (.ladd, 1) := by decide +kernel
theorem dJ13_bitCount_95d88_47 : decode cJ13_bitCount_95d88 47 = .ok (.lstore_n 0, 1) := by decide +kernel
theorem dJ13_bitCount_95d88_48 : decode cJ13_bitCount_95d88 48 = .ok (.lload_n 0, 1) := by decide +kernel
theorem dJ13_bitCount_95d88_49 : decode cJ13_bitCount_95d88 49 = .ok (.lload_n 0, 1) := by decide +kernel
theorem dJ13_bitCount_95d88_50 : decode cJ13_bitCount_95d88 50 = .ok (.bipush 32, 2) := by decide +kernel
theorem dJ13_bitCount_95d88_52 : decode cJ13_bitCount_95d88 52 = .ok (.lushr, 1) := by decide +kernel
theorem dJ13_bitCount_95d88_53 : decode cJ13_bitCount_95d88 53 = .ok (.ladd, 1) := by decide +kernel
theorem dJ13_bitCount_95d88_54 : decode cJ13_bitCount_95d88 54 = .ok (.lstore_n 0, 1) := by decide +kernel
theorem dJ13_bitCount_95d88_55 : decode cJ13_bitCount_95d88 55 = .ok (.lload_n 0, 1) := by decide +kernel
theorem dJ13_bitCount_95d88_56 : decode cJ13_bitCount_95d88 56 = .ok (.l2i, 1) := by decide +kernel
theorem dJ13_bitCount_95d88_57 : decode cJ13_bitCount_95d88 57 = .ok (.bipush 127, 2) := by decide +kernel
theorem dJ13_bitCount_95d88_59 : decode cJ13_bitCount_95d88 59 = .ok (.iand, 1) := by decide +kernel
theorem dJ13_bitCount_95d88_60 : decode cJ13_bitCount_95d88 60 = .ok (.ireturn, 1) := by decide +kernel
theorem dJ9_max_7cf53_0 : decode cJ9_max_7cf53 0 = .ok (.iload_n 0, 1) := by decide +kernel
theorem dJ9_max_7cf53_1 : decode cJ9_max_7cf53 1 = .ok (.iload_n 1, 1) := by decide +kernel
theorem dJ9_max_7cf53_2 : decode cJ9_max_7cf53 2 = .ok (.if_icmp .lt 7, 3) := by decide +kernel
theorem dJ9_max_7cf53_5 : decode cJ9_max_7cf53 5 = .ok (.iload_n 0, 1) := by decide +kernel
theorem dJ9_max_7cf53_6 : decode cJ9_max_7cf53 6 = .ok (.goto 4, 3) := by decide +kernel
theorem dJ9_max_7cf53_9 : decode cJ9_max_7cf53 9 = .ok (.iload_n 1, 1) := by decide +kernel
theorem dJ9_max_7cf53_10 : decode cJ9_max_7cf53 10 = .ok (.ireturn, 1) := by decide +kernel
theorem dL_law_0 : decode cL_law 0 = .ok (.new 7, 3) := by decide +kernel
theorem dL_law_3 : decode cL_law 3 = .ok (.dup, 1) := by decide +kernel
theorem dL_law_4 : decode cL_law 4 = .ok (.invokespecial 9, 3) := by decide +kernel
theorem dL_law_7 : decode cL_law 7 = .ok (.astore_n 1, 1) := by decide +kernel
theorem dL_law_8 : decode cL_law 8 = .ok (.new 10, 3) := by decide +kernel
theorem dL_law_11 : decode cL_law 11 = .ok (.dup, 1) := by decide +kernel
theorem dL_law_12 : decode cL_law 12 = .ok (.invokespecial 12, 3) := by decide +kernel
theorem dL_law_15 : decode cL_law 15 = .ok (.astore_n 2, 1) := by decide +kernel
theorem dL_law_16 : decode cL_law 16 = .ok (.iconst 0, 1) := by decide +kernel
theorem dL_law_17 : decode cL_law 17 = .ok (.istore_n 3, 1) := by decide +kernel
theorem dL_law_18 : decode cL_law 18 = .ok (.iload_n 3, 1) := by decide +kernel
theorem dL_law_19 : decode cL_law 19 = .ok (.aload_n 0, 1) := by decide +kernel
theorem dL_law_20 : decode cL_law 20 = .ok (.arraylength, 1) := by decide +kernel
theorem dL_law_21 : decode cL_law 21 = .ok (.iconst 4, 1) := by decide +kernel
theorem dL_law_22 : decode cL_law 22 = .ok (.isub, 1) := by decide +kernel
theorem dL_law_23 : decode cL_law 23 = .ok (.if_icmp .gt 854, 3) := by decide +kernel
theorem dL_law_26 : decode cL_law 26 = .ok (.aload_n 0, 1) := by decide +kernel
theorem dL_law_27 : decode cL_law 27 = .ok (.iload_n 3, 1) := by decide +kernel
theorem dL_law_28 : decode cL_law 28 = .ok (.iaload, 1) := by decide +kernel
theorem dL_law_29 : decode cL_law 29 = .ok (.bipush 31, 2) := by decide +kernel
theorem dL_law_31 : decode cL_law 31 = .ok (.iand, 1) := by decide +kernel
theorem dL_law_32 : decode cL_law 32 = .ok (.tableswitch 839 0 29 #[136, 159, 172, 195, 208, 221, 244, 267, 300, 333, 356, 379, 438, 471, 484, 507, 530, 543, 556, 569, 602, 625, 648, 697, 710, 733, 776, 789, 802, 825], 136) := by decide +kernel
theorem dL_law_168 : decode cL_law 168 = .ok (.aload_n 1, 1) := by decide +kernel
theorem dL_law_169 : decode cL_law 169 = .ok (.aload_n 0, 1) := by decide +kernel
theorem dL_law_170 : decode cL_law 170 = .ok (.iload_n 3, 1) := by decide +kernel
theorem dL_law_171 : decode cL_law 171 = .ok (.iconst 1, 1) := by decide +kernel
theorem dL_law_172 : decode cL_law 172 = .ok (.iadd, 1) := by decide +kernel
theorem dL_law_173 : decode cL_law 173 = .ok (.iaload, 1) := by decide +kernel
theorem dL_law_174 : decode cL_law 174 = .ok (.invokevirtual 13, 3) := by decide +kernel
theorem dL_law_177 : decode cL_law 177 = .ok (.aload_n 2, 1) := by decide +kernel
theorem dL_law_178 : decode cL_law 178 = .ok (.aload_n 0, 1) := by decide +kernel
theorem dL_law_179 : decode cL_law 179 = .ok (.iload_n 3, 1) := by decide +kernel
theorem dL_law_180 : decode cL_law 180 = .ok (.iconst 1, 1) := by decide +kernel
theorem dL_law_181 : decode cL_law 181 = .ok (.iadd, 1) := by decide +kernel
theorem dL_law_182 : decode cL_law 182 = .ok (.iaload, 1) := by decide +kernel
theorem dL_law_183 : decode cL_law 183 = .ok (.invokevirtual 17, 3) := by decide +kernel
theorem dL_law_186 : decode cL_law 186 = .ok (.if_icmp .eq 685, 3) := by decide +kernel
theorem dL_law_189 : decode cL_law 189 = .ok (.iconst 0, 1) := by decide +kernel
theorem dL_law_190 : decode cL_law 190 = .ok (.ireturn, 1) := by decide +kernel
theorem dL_law_191 : decode cL_law 191 = .ok (.aload_n 1, 1) := by decide +kernel
theorem dL_law_192 : decode cL_law 192 = .ok (.invokevirtual 18, 3) := by decide +kernel
theorem dL_law_195 : decode cL_law 195 = .ok (.aload_n 2, 1) := by decide +kernel
theorem dL_law_196 : decode cL_law 196 = .ok (.invokevirtual 22, 3) := by decide +kernel
theorem dL_law_199 : decode cL_law 199 = .ok (.if_icmp .eq 672, 3) := by decide +kernel
theorem dL_law_202 : decode cL_law 202 = .ok (.iconst 0, 1) := by decide +kernel
theorem dL_law_203 : decode cL_law 203 = .ok (.ireturn, 1) := by decide +kernel
theorem dL_law_204 : decode cL_law 204 = .ok (.aload_n 1, 1) := by decide +kernel
theorem dL_law_205 : decode cL_law 205 = .ok (.aload_n 0, 1) := by decide +kernel
theorem dL_law_206 : decode cL_law 206 = .ok (.iload_n 3, 1) := by decide +kernel
theorem dL_law_207 : decode cL_law 207 = .ok (.iconst 1, 1) := by decide +kernel
theorem dL_law_208 : decode cL_law 208 = .ok (.iadd, 1) := by decide +kernel
theorem dL_law_209 : decode cL_law 209 = .ok (.iaload, 1) := by decide +kernel
theorem dL_law_210 : decode cL_law 210 = .ok (.invokevirtual 23, 3) := by decide +kernel
theorem dL_law_213 : decode cL_law 213 = .ok (.aload_n 2, 1) := by decide +kernel
theorem dL_law_214 : decode cL_law 214 = .ok (.aload_n 0, 1) := by decide +kernel
theorem dL_law_215 : decode cL_law 215 = .ok (.iload_n 3, 1) := by decide +kernel
theorem dL_law_216 : decode cL_law 216 = .ok (.iconst 1, 1) := by decide +kernel
theorem dL_law_217 : decode cL_law 217 = .ok (.iadd, 1) := by decide +kernel
theorem dL_law_218 : decode cL_law 218 = .ok (.iaload, 1) := by decide +kernel
theorem dL_law_219 : decode cL_law 219 = .ok (.invokevirtual 26, 3) := by decide +kernel
theorem dL_law_222 : decode cL_law 222 = .ok (.if_icmp .eq 649, 3) := by decide +kernel
theorem dL_law_225 : decode cL_law 225 = .ok (.iconst 0, 1) := by decide +kernel
theorem dL_law_226 : decode cL_law 226 = .ok (.ireturn, 1) := by decide +kernel
theorem dL_law_227 : decode cL_law 227 = .ok (.aload_n 1, 1) := by decide +kernel
theorem dL_law_228 : decode cL_law 228 = .ok (.invokevirtual 27, 3) := by decide +kernel
theorem dL_law_231 : decode cL_law 231 = .ok (.aload_n 2, 1) := by decide +kernel
theorem dL_law_232 : decode cL_law 232 = .ok (.invokevirtual 30, 3) := by decide +kernel
theorem dL_law_235 : decode cL_law 235 = .ok (.if_icmp .eq 636, 3) := by decide +kernel
theorem dL_law_238 : decode cL_law 238 = .ok (.iconst 0, 1) := by decide +kernel
theorem dL_law_239 : decode cL_law 239 = .ok (.ireturn, 1) := by decide +kernel
theorem dL_law_240 : decode cL_law 240 = .ok (.aload_n 1, 1) := by decide +kernel
theorem dL_law_241 : decode cL_law 241 = .ok (.invokevirtual 31, 3) := by decide +kernel
theorem dL_law_244 : decode cL_law 244 = .ok (.aload_n 2, 1) := by decide +kernel
theorem dL_law_245 : decode cL_law 245 = .ok (.invokevirtual 34, 3) := by decide +kernel
theorem dL_law_248 : decode cL_law 248 = .ok (.if_icmp .eq 623, 3) := by decide +kernel
theorem dL_law_251 : decode cL_law 251 = .ok (.iconst 0, 1) := by decide +kernel
theorem dL_law_252 : decode cL_law 252 = .ok (.ireturn, 1) := by decide +kernel
theorem dL_law_253 : decode cL_law 253 = .ok (.aload_n 1, 1) := by decide +kernel
theorem dL_law_254 : decode cL_law 254 = .ok (.aload_n 0, 1) := by decide +kernel
theorem dL_law_255 : decode cL_law 255 = .ok (.iload_n 3, 1) := by decide +kernel
theorem dL_law_256 : decode cL_law 256 = .ok (.iconst 1, 1) := by decide +kernel
theorem dL_law_257 : decode cL_law 257 = .ok (.iadd, 1) := by decide +kernel
theorem dL_law_258 : decode cL_law 258 = .ok (.iaload, 1) := by decide +kernel
theorem dL_law_259 : decode cL_law 259 = .ok (.invokevirtual 35, 3) := by decide +kernel
theorem dL_law_262 : decode cL_law 262 = .ok (.aload_n 2, 1) := by decide +kernel
theorem dL_law_263 : decode cL_law 263 = .ok (.aload_n 0, 1) := by decide +kernel
theorem dL_law_264 : decode cL_law 264 = .ok (.iload_n 3, 1) := by decide +kernel
theorem dL_law_265 : decode cL_law 265 = .ok (.iconst 1, 1) := by decide +kernel
theorem dL_law_266 : decode cL_law 266 = .ok (.iadd, 1) := by decide +kernel
theorem dL_law_267 : decode cL_law 267 = .ok (.iaload, 1) := by decide +kernel
theorem dL_law_268 : decode cL_law 268 = .ok (.invokevirtual 38, 3) := by decide +kernel
theorem dL_law_271 : decode cL_law 271 = .ok (.if_icmp .eq 600, 3) := by decide +kernel
theorem dL_law_274 : decode cL_law 274 = .ok (.iconst 0, 1) := by decide +kernel
theorem dL_law_275 : decode cL_law 275 = .ok (.ireturn, 1) := by decide +kernel
theorem dL_law_276 : decode cL_law 276 = .ok (.aload_n 1, 1) := by decide +kernel
theorem dL_law_277 : decode cL_law 277 = .ok (.aload_n 0, 1) := by decide +kernel
theorem dL_law_278 : decode cL_law 278 = .ok (.iload_n 3, 1) := by decide +kernel
theorem dL_law_279 : decode cL_law 279 = .ok (.iconst 1, 1) := by decide +kernel
theorem dL_law_280 : decode cL_law 280 = .ok (.iadd, 1) := by decide +kernel
theorem dL_law_281 : decode cL_law 281 = .ok (.iaload, 1) := by decide +kernel
theorem dL_law_282 : decode cL_law 282 = .ok (.invokevirtual 39, 3) := by decide +kernel
theorem dL_law_285 : decode cL_law 285 = .ok (.aload_n 2, 1) := by decide +kernel
theorem dL_law_286 : decode cL_law 286 = .ok (.aload_n 0, 1) := by decide +kernel
theorem dL_law_287 : decode cL_law 287 = .ok (.iload_n 3, 1) := by decide +kernel
theorem dL_law_288 : decode cL_law 288 = .ok (.iconst 1, 1) := by decide +kernel
theorem dL_law_289 : decode cL_law 289 = .ok (.iadd, 1) := by decide +kernel
theorem dL_law_290 : decode cL_law 290 = .ok (.iaload, 1) := by decide +kernel
theorem dL_law_291 : decode cL_law 291 = .ok (.invokevirtual 42, 3) := by decide +kernel
theorem dL_law_294 : decode cL_law 294 = .ok (.if_icmp .eq 577, 3) := by decide +kernel
theorem dL_law_297 : decode cL_law 297 = .ok (.iconst 0, 1) := by decide +kernel
theorem dL_law_298 : decode cL_law 298 = .ok (.ireturn, 1) := by decide +kernel
theorem dL_law_299 : decode cL_law 299 = .ok (.aload_n 1, 1) := by decide +kernel
theorem dL_law_300 : decode cL_law 300 = .ok (.aload_n 0, 1) := by decide +kernel
theorem dL_law_301 : decode cL_law 301 = .ok (.iload_n 3, 1) := by decide +kernel
theorem dL_law_302 : decode cL_law 302 = .ok (.iconst 1, 1) := by decide +kernel
theorem dL_law_303 : decode cL_law 303 = .ok (.iadd, 1) := by decide +kernel
theorem dL_law_304 : decode cL_law 304 = .ok (.iaload, 1) := by decide +kernel
theorem dL_law_305 : decode cL_law 305 = .ok (.aload_n 0, 1) := by decide +kernel
theorem dL_law_306 : decode cL_law 306 = .ok (.iload_n 3, 1) := by decide +kernel
theorem dL_law_307 : decode cL_law 307 = .ok (.iconst 2, 1) := by decide +kernel
theorem dL_law_308 : decode cL_law 308 = .ok (.iadd, 1) := by decide +kernel
theorem dL_law_309 : decode cL_law 309 = .ok (.iaload, 1) := by decide +kernel
theorem dL_law_310 : decode cL_law 310 = .ok (.invokevirtual 43, 3) := by decide +kernel
theorem dL_law_313 : decode cL_law 313 = .ok (.aload_n 2, 1) := by decide +kernel
theorem dL_law_314 : decode cL_law 314 = .ok (.aload_n 0, 1) := by decide +kernel
theorem dL_law_315 : decode cL_law 315 = .ok (.iload_n 3, 1) := by decide +kernel
theorem dL_law_316 : decode cL_law 316 = .ok (.iconst 1, 1) := by decide +kernel
theorem dL_law_317 : decode cL_law 317 = .ok (.iadd, 1) := by decide +kernel
theorem dL_law_318 : decode cL_law 318 = .ok (.iaload, 1) := by decide +kernel
theorem dL_law_319 : decode cL_law 319 = .ok (.aload_n 0, 1) := by decide +kernel
theorem dL_law_320 : decode cL_law 320 = .ok (.iload_n 3, 1) := by decide +kernel
theorem dL_law_321 : decode cL_law 321 = .ok (.iconst 2, 1) := by decide +kernel
theorem dL_law_322 : decode cL_law 322 = .ok (.iadd, 1) := by decide +kernel
theorem dL_law_323 : decode cL_law 323 = .ok (.iaload, 1) := by decide +kernel
theorem dL_law_324 : decode cL_law 324 = .ok (.invokevirtual 47, 3) := by decide +kernel
theorem dL_law_327 : decode cL_law 327 = .ok (.if_icmp .eq 544, 3) := by decide +kernel
theorem dL_law_330 : decode cL_law 330 = .ok (.iconst 0, 1) := by decide +kernel
theorem dL_law_331 : decode cL_law 331 = .ok (.ireturn, 1) := by decide +kernel
theorem dL_law_332 : decode cL_law 332 = .ok (.aload_n 1, 1) := by decide +kernel
theorem dL_law_333 : decode cL_law 333 = .ok (.aload_n 0, 1) := by decide +kernel
theorem dL_law_334 : decode cL_law 334 = .ok (.iload_n 3, 1) := by decide +kernel
theorem dL_law_335 : decode cL_law 335 = .ok (.iconst 1, 1) := by decide +kernel
theorem dL_law_336 : decode cL_law 336 = .ok (.iadd, 1) := by decide +kernel
theorem dL_law_337 : decode cL_law 337 = .ok (.iaload, 1) := by decide +kernel
theorem dL_law_338 : decode cL_law 338 = .ok (.aload_n 0, 1) := by decide +kernel
theorem dL_law_339 : decode cL_law 339 = .ok (.iload_n 3, 1) := by decide +kernel
theorem dL_law_340 : decode cL_law 340 = .ok (.iconst 2, 1) := by decide +kernel
theorem dL_law_341 : decode cL_law 341 = .ok (.iadd, 1) := by decide +kernel
theorem dL_law_342 : decode cL_law 342 = .ok (.iaload, 1) := by decide +kernel
theorem dL_law_343 : decode cL_law 343 = .ok (.invokevirtual 48, 3) := by decide +kernel
theorem dL_law_346 : decode cL_law 346 = .ok (.aload_n 2, 1) := by decide +kernel
theorem dL_law_347 : decode cL_law 347 = .ok (.aload_n 0, 1) := by decide +kernel
theorem dL_law_348 : decode cL_law 348 = .ok (.iload_n 3, 1) := by decide +kernel
theorem dL_law_349 : decode cL_law 349 = .ok (.iconst 1, 1) := by decide +kernel
theorem dL_law_350 : decode cL_law 350 = .ok (.iadd, 1) := by decide +kernel
theorem dL_law_351 : decode cL_law 351 = .ok (.iaload, 1) := by decide +kernel
theorem dL_law_352 : decode cL_law 352 = .ok (.aload_n 0, 1) := by decide +kernel
theorem dL_law_353 : decode cL_law 353 = .ok (.iload_n 3, 1) := by decide +kernel
theorem dL_law_354 : decode cL_law 354 = .ok (.iconst 2, 1) := by decide +kernel
theorem dL_law_355 : decode cL_law 355 = .ok (.iadd, 1) := by decide +kernel
theorem dL_law_356 : decode cL_law 356 = .ok (.iaload, 1) := by decide +kernel
theorem dL_law_357 : decode cL_law 357 = .ok (.invokevirtual 51, 3) := by decide +kernel
theorem dL_law_360 : decode cL_law 360 = .ok (.if_icmp .eq 511, 3) := by decide +kernel
theorem dL_law_363 : decode cL_law 363 = .ok (.iconst 0, 1) := by decide +kernel
theorem dL_law_364 : decode cL_law 364 = .ok (.ireturn, 1) := by decide +kernel
theorem dL_law_365 : decode cL_law 365 = .ok (.aload_n 1, 1) := by decide +kernel
theorem dL_law_366 : decode cL_law 366 = .ok (.aload_n 0, 1) := by decide +kernel
theorem dL_law_367 : decode cL_law 367 = .ok (.iload_n 3, 1) := by decide +kernel
theorem dL_law_368 : decode cL_law 368 = .ok (.iconst 1, 1) := by decide +kernel
theorem dL_law_369 : decode cL_law 369 = .ok (.iadd, 1) := by decide +kernel
theorem dL_law_370 : decode cL_law 370 = .ok (.iaload, 1) := by decide +kernel
theorem dL_law_371 : decode cL_law 371 = .ok (.invokevirtual 52, 3) := by decide +kernel
theorem dL_law_374 : decode cL_law 374 = .ok (.aload_n 2, 1) := by decide +kernel
theorem dL_law_375 : decode cL_law 375 = .ok (.aload_n 0, 1) := by decide +kernel
theorem dL_law_376 : decode cL_law 376 = .ok (.iload_n 3, 1) := by decide +kernel
theorem dL_law_377 : decode cL_law 377 = .ok (.iconst 1, 1) := by decide +kernel
theorem dL_law_378 : decode cL_law 378 = .ok (.iadd, 1) := by decide +kernel
theorem dL_law_379 : decode cL_law 379 = .ok (.iaload, 1) := by decide +kernel
theorem dL_law_380 : decode cL_law 380 = .ok (.invokevirtual 55, 3) := by decide +kernel
theorem dL_law_383 : decode cL_law 383 = .ok (.if_icmp .eq 488, 3) := by decide +kernel
theorem dL_law_386 : decode cL_law 386 = .ok (.iconst 0, 1) := by decide +kernel
theorem dL_law_387 : decode cL_law 387 = .ok (.ireturn, 1) := by decide +kernel
theorem dL_law_388 : decode cL_law 388 = .ok (.aload_n 1, 1) := by decide +kernel
theorem dL_law_389 : decode cL_law 389 = .ok (.aload_n 0, 1) := by decide +kernel
theorem dL_law_390 : decode cL_law 390 = .ok (.iload_n 3, 1) := by decide +kernel
theorem dL_law_391 : decode cL_law 391 = .ok (.iconst 1, 1) := by decide +kernel
theorem dL_law_392 : decode cL_law 392 = .ok (.iadd, 1) := by decide +kernel
theorem dL_law_393 : decode cL_law 393 = .ok (.iaload, 1) := by decide +kernel
theorem dL_law_394 : decode cL_law 394 = .ok (.invokevirtual 56, 3) := by decide +kernel
theorem dL_law_397 : decode cL_law 397 = .ok (.aload_n 2, 1) := by decide +kernel
theorem dL_law_398 : decode cL_law 398 = .ok (.aload_n 0, 1) := by decide +kernel
theorem dL_law_399 : decode cL_law 399 = .ok (.iload_n 3, 1) := by decide +kernel
theorem dL_law_400 : decode cL_law 400 = .ok (.iconst 1, 1) := by decide +kernel
theorem dL_law_401 : decode cL_law 401 = .ok (.iadd, 1) := by decide +kernel
theorem dL_law_402 : decode cL_law 402 = .ok (.iaload, 1) := by decide +kernel
theorem dL_law_403 : decode cL_law 403 = .ok (.invokevirtual 59, 3) := by decide +kernel
theorem dL_law_406 : decode cL_law 406 = .ok (.if_icmp .eq 465, 3) := by decide +kernel
theorem dL_law_409 : decode cL_law 409 = .ok (.iconst 0, 1) := by decide +kernel
theorem dL_law_410 : decode cL_law 410 = .ok (.ireturn, 1) := by decide +kernel
theorem dL_law_411 : decode cL_law 411 = .ok (.aload_n 1, 1) := by decide +kernel
theorem dL_law_412 : decode cL_law 412 = .ok (.aload_n 0, 1) := by decide +kernel
theorem dL_law_413 : decode cL_law 413 = .ok (.iload_n 3, 1) := by decide +kernel
theorem dL_law_414 : decode cL_law 414 = .ok (.iconst 1, 1) := by decide +kernel
theorem dL_law_415 : decode cL_law 415 = .ok (.iadd, 1) := by decide +kernel
theorem dL_law_416 : decode cL_law 416 = .ok (.iaload, 1) := by decide +kernel
theorem dL_law_417 : decode cL_law 417 = .ok (.aload_n 0, 1) := by decide +kernel
theorem dL_law_418 : decode cL_law 418 = .ok (.iload_n 3, 1) := by decide +kernel
theorem dL_law_419 : decode cL_law 419 = .ok (.iconst 2, 1) := by decide +kernel
theorem dL_law_420 : decode cL_law 420 = .ok (.iadd, 1) := by decide +kernel
theorem dL_law_421 : decode cL_law 421 = .ok (.iaload, 1) := by decide +kernel
theorem dL_law_422 : decode cL_law 422 = .ok (.aload_n 0, 1) := by decide +kernel
theorem dL_law_423 : decode cL_law 423 = .ok (.iload_n 3, 1) := by decide +kernel
theorem dL_law_424 : decode cL_law 424 = .ok (.iconst 3, 1) := by decide +kernel
theorem dL_law_425 : decode cL_law 425 = .ok (.iadd, 1) := by decide +kernel
theorem dL_law_426 : decode cL_law 426 = .ok (.iaload, 1) := by decide +kernel
theorem dL_law_427 : decode cL_law 427 = .ok (.ifCond .eq 7, 3) := by decide +kernel
theorem dL_law_430 : decode cL_law 430 = .ok (.iconst 1, 1) := by decide +kernel
theorem dL_law_431 : decode cL_law 431 = .ok (.goto 4, 3) := by decide +kernel
theorem dL_law_434 : decode cL_law 434 = .ok (.iconst 0, 1) := by decide +kernel
theorem dL_law_435 : decode cL_law 435 = .ok (.invokevirtual 60, 3) := by decide +kernel
theorem dL_law_438 : decode cL_law 438 = .ok (.aload_n 2, 1) := by decide +kernel
theorem dL_law_439 : decode cL_law 439 = .ok (.aload_n 0, 1) := by decide +kernel
theorem dL_law_440 : decode cL_law 440 = .ok (.iload_n 3, 1) := by decide +kernel
theorem dL_law_441 : decode cL_law 441 = .ok (.iconst 1, 1) := by decide +kernel
theorem dL_law_442 : decode cL_law 442 = .ok (.iadd, 1) := by decide +kernel
theorem dL_law_443 : decode cL_law 443 = .ok (.iaload, 1) := by decide +kernel
theorem dL_law_444 : decode cL_law 444 = .ok (.aload_n 0, 1) := by decide +kernel
theorem dL_law_445 : decode cL_law 445 = .ok (.iload_n 3, 1) := by decide +kernel
theorem dL_law_446 : decode cL_law 446 = .ok (.iconst 2, 1) := by decide +kernel
theorem dL_law_447 : decode cL_law 447 = .ok (.iadd, 1) := by decide +kernel
theorem dL_law_448 : decode cL_law 448 = .ok (.iaload, 1) := by decide +kernel
theorem dL_law_449 : decode cL_law 449 = .ok (.aload_n 0, 1) := by decide +kernel
theorem dL_law_450 : decode cL_law 450 = .ok (.iload_n 3, 1) := by decide +kernel
theorem dL_law_451 : decode cL_law 451 = .ok (.iconst 3, 1) := by decide +kernel
theorem dL_law_452 : decode cL_law 452 = .ok (.iadd, 1) := by decide +kernel
theorem dL_law_453 : decode cL_law 453 = .ok (.iaload, 1) := by decide +kernel
theorem dL_law_454 : decode cL_law 454 = .ok (.ifCond .eq 7, 3) := by decide +kernel
theorem dL_law_457 : decode cL_law 457 = .ok (.iconst 1, 1) := by decide +kernel
theorem dL_law_458 : decode cL_law 458 = .ok (.goto 4, 3) := by decide +kernel
theorem dL_law_461 : decode cL_law 461 = .ok (.iconst 0, 1) := by decide +kernel
theorem dL_law_462 : decode cL_law 462 = .ok (.invokevirtual 64, 3) := by decide +kernel
theorem dL_law_465 : decode cL_law 465 = .ok (.if_icmp .eq 406, 3) := by decide +kernel
theorem dL_law_468 : decode cL_law 468 = .ok (.iconst 0, 1) := by decide +kernel
theorem dL_law_469 : decode cL_law 469 = .ok (.ireturn, 1) := by decide +kernel
theorem dL_law_470 : decode cL_law 470 = .ok (.aload_n 1, 1) := by decide +kernel
theorem dL_law_471 : decode cL_law 471 = .ok (.aload_n 0, 1) := by decide +kernel
theorem dL_law_472 : decode cL_law 472 = .ok (.iload_n 3, 1) := by decide +kernel
theorem dL_law_473 : decode cL_law 473 = .ok (.iconst 1, 1) := by decide +kernel
theorem dL_law_474 : decode cL_law 474 = .ok (.iadd, 1) := by decide +kernel
theorem dL_law_475 : decode cL_law 475 = .ok (.iaload, 1) := by decide +kernel
theorem dL_law_476 : decode cL_law 476 = .ok (.aload_n 0, 1) := by decide +kernel
theorem dL_law_477 : decode cL_law 477 = .ok (.iload_n 3, 1) := by decide +kernel
theorem dL_law_478 : decode cL_law 478 = .ok (.iconst 2, 1) := by decide +kernel
theorem dL_law_479 : decode cL_law 479 = .ok (.iadd, 1) := by decide +kernel
theorem dL_law_480 : decode cL_law 480 = .ok (.iaload, 1) := by decide +kernel
theorem dL_law_481 : decode cL_law 481 = .ok (.invokevirtual 65, 3) := by decide +kernel
theorem dL_law_484 : decode cL_law 484 = .ok (.aload_n 2, 1) := by decide +kernel
theorem dL_law_485 : decode cL_law 485 = .ok (.aload_n 0, 1) := by decide +kernel
theorem dL_law_486 : decode cL_law 486 = .ok (.iload_n 3, 1) := by decide +kernel
theorem dL_law_487 : decode cL_law 487 = .ok (.iconst 1, 1) := by decide +kernel
theorem dL_law_488 : decode cL_law 488 = .ok (.iadd, 1) := by decide +kernel
theorem dL_law_489 : decode cL_law 489 = .ok (.iaload, 1) := by decide +kernel
theorem dL_law_490 : decode cL_law 490 = .ok (.aload_n 0, 1) := by decide +kernel
theorem dL_law_491 : decode cL_law 491 = .ok (.iload_n 3, 1) := by decide +kernel
theorem dL_law_492 : decode cL_law 492 = .ok (.iconst 2, 1) := by decide +kernel
theorem dL_law_493 : decode cL_law 493 = .ok (.iadd, 1) := by decide +kernel
theorem dL_law_494 : decode cL_law 494 = .ok (.iaload, 1) := by decide +kernel
theorem dL_law_495 : decode cL_law 495 = .ok (.invokevirtual 68, 3) := by decide +kernel
theorem dL_law_498 : decode cL_law 498 = .ok (.if_icmp .eq 373, 3) := by decide +kernel
theorem dL_law_501 : decode cL_law 501 = .ok (.iconst 0, 1) := by decide +kernel
theorem dL_law_502 : decode cL_law 502 = .ok (.ireturn, 1) := by decide +kernel
theorem dL_law_503 : decode cL_law 503 = .ok (.aload_n 1, 1) := by decide +kernel
theorem dL_law_504 : decode cL_law 504 = .ok (.invokevirtual 69, 3) := by decide +kernel
theorem dL_law_507 : decode cL_law 507 = .ok (.aload_n 2, 1) := by decide +kernel
theorem dL_law_508 : decode cL_law 508 = .ok (.invokevirtual 72, 3) := by decide +kernel
theorem dL_law_511 : decode cL_law 511 = .ok (.if_icmp .eq 360, 3) := by decide +kernel
theorem dL_law_514 : decode cL_law 514 = .ok (.iconst 0, 1) := by decide +kernel
theorem dL_law_515 : decode cL_law 515 = .ok (.ireturn, 1) := by decide +kernel
theorem dL_law_516 : decode cL_law 516 = .ok (.aload_n 1, 1) := by decide +kernel
theorem dL_law_517 : decode cL_law 517 = .ok (.aload_n 0, 1) := by decide +kernel
theorem dL_law_518 : decode cL_law 518 = .ok (.iload_n 3, 1) := by decide +kernel
theorem dL_law_519 : decode cL_law 519 = .ok (.iconst 1, 1) := by decide +kernel
theorem dL_law_520 : decode cL_law 520 = .ok (.iadd, 1) := by decide +kernel
theorem dL_law_521 : decode cL_law 521 = .ok (.iaload, 1) := by decide +kernel
theorem dL_law_522 : decode cL_law 522 = .ok (.invokevirtual 73, 3) := by decide +kernel
theorem dL_law_525 : decode cL_law 525 = .ok (.aload_n 2, 1) := by decide +kernel
theorem dL_law_526 : decode cL_law 526 = .ok (.aload_n 0, 1) := by decide +kernel
theorem dL_law_527 : decode cL_law 527 = .ok (.iload_n 3, 1) := by decide +kernel
theorem dL_law_528 : decode cL_law 528 = .ok (.iconst 1, 1) := by decide +kernel
theorem dL_law_529 : decode cL_law 529 = .ok (.iadd, 1) := by decide +kernel
theorem dL_law_530 : decode cL_law 530 = .ok (.iaload, 1) := by decide +kernel
theorem dL_law_531 : decode cL_law 531 = .ok (.invokevirtual 76, 3) := by decide +kernel
theorem dL_law_534 : decode cL_law 534 = .ok (.if_icmp .eq 337, 3) := by decide +kernel
theorem dL_law_537 : decode cL_law 537 = .ok (.iconst 0, 1) := by decide +kernel
theorem dL_law_538 : decode cL_law 538 = .ok (.ireturn, 1) := by decide +kernel
theorem dL_law_539 : decode cL_law 539 = .ok (.aload_n 1, 1) := by decide +kernel
theorem dL_law_540 : decode cL_law 540 = .ok (.aload_n 0, 1) := by decide +kernel
theorem dL_law_541 : decode cL_law 541 = .ok (.iload_n 3, 1) := by decide +kernel
theorem dL_law_542 : decode cL_law 542 = .ok (.iconst 1, 1) := by decide +kernel
theorem dL_law_543 : decode cL_law 543 = .ok (.iadd, 1) := by decide +kernel
theorem dL_law_544 : decode cL_law 544 = .ok (.iaload, 1) := by decide +kernel
theorem dL_law_545 : decode cL_law 545 = .ok (.invokevirtual 77, 3) := by decide +kernel
theorem dL_law_548 : decode cL_law 548 = .ok (.aload_n 2, 1) := by decide +kernel
theorem dL_law_549 : decode cL_law 549 = .ok (.aload_n 0, 1) := by decide +kernel
theorem dL_law_550 : decode cL_law 550 = .ok (.iload_n 3, 1) := by decide +kernel
theorem dL_law_551 : decode cL_law 551 = .ok (.iconst 1, 1) := by decide +kernel
theorem dL_law_552 : decode cL_law 552 = .ok (.iadd, 1) := by decide +kernel
theorem dL_law_553 : decode cL_law 553 = .ok (.iaload, 1) := by decide +kernel
theorem dL_law_554 : decode cL_law 554 = .ok (.invokevirtual 80, 3) := by decide +kernel
theorem dL_law_557 : decode cL_law 557 = .ok (.if_icmp .eq 314, 3) := by decide +kernel
theorem dL_law_560 : decode cL_law 560 = .ok (.iconst 0, 1) := by decide +kernel
theorem dL_law_561 : decode cL_law 561 = .ok (.ireturn, 1) := by decide +kernel
theorem dL_law_562 : decode cL_law 562 = .ok (.aload_n 1, 1) := by decide +kernel
theorem dL_law_563 : decode cL_law 563 = .ok (.invokevirtual 81, 3) := by decide +kernel
theorem dL_law_566 : decode cL_law 566 = .ok (.aload_n 2, 1) := by decide +kernel
theorem dL_law_567 : decode cL_law 567 = .ok (.invokevirtual 84, 3) := by decide +kernel
theorem dL_law_570 : decode cL_law 570 = .ok (.if_icmp .eq 301, 3) := by decide +kernel
theorem dL_law_573 : decode cL_law 573 = .ok (.iconst 0, 1) := by decide +kernel
theorem dL_law_574 : decode cL_law 574 = .ok (.ireturn, 1) := by decide +kernel
theorem dL_law_575 : decode cL_law 575 = .ok (.aload_n 1, 1) := by decide +kernel
theorem dL_law_576 : decode cL_law 576 = .ok (.invokevirtual 85, 3) := by decide +kernel
theorem dL_law_579 : decode cL_law 579 = .ok (.aload_n 2, 1) := by decide +kernel
theorem dL_law_580 : decode cL_law 580 = .ok (.invokevirtual 88, 3) := by decide +kernel
theorem dL_law_583 : decode cL_law 583 = .ok (.if_icmp .eq 288, 3) := by decide +kernel
theorem dL_law_586 : decode cL_law 586 = .ok (.iconst 0, 1) := by decide +kernel
theorem dL_law_587 : decode cL_law 587 = .ok (.ireturn, 1) := by decide +kernel
theorem dL_law_588 : decode cL_law 588 = .ok (.aload_n 1, 1) := by decide +kernel
theorem dL_law_589 : decode cL_law 589 = .ok (.invokevirtual 89, 3) := by decide +kernel
theorem dL_law_592 : decode cL_law 592 = .ok (.aload_n 2, 1) := by decide +kernel
theorem dL_law_593 : decode cL_law 593 = .ok (.invokevirtual 92, 3) := by decide +kernel
theorem dL_law_596 : decode cL_law 596 = .ok (.if_icmp .eq 275, 3) := by decide +kernel
theorem dL_law_599 : decode cL_law 599 = .ok (.iconst 0, 1) := by decide +kernel
theorem dL_law_600 : decode cL_law 600 = .ok (.ireturn, 1) := by decide +kernel
theorem dL_law_601 : decode cL_law 601 = .ok (.aload_n 1, 1) := by decide +kernel
theorem dL_law_602 : decode cL_law 602 = .ok (.aload_n 0, 1) := by decide +kernel
theorem dL_law_603 : decode cL_law 603 = .ok (.iload_n 3, 1) := by decide +kernel
theorem dL_law_604 : decode cL_law 604 = .ok (.iconst 1, 1) := by decide +kernel
theorem dL_law_605 : decode cL_law 605 = .ok (.iadd, 1) := by decide +kernel
theorem dL_law_606 : decode cL_law 606 = .ok (.iaload, 1) := by decide +kernel
theorem dL_law_607 : decode cL_law 607 = .ok (.aload_n 0, 1) := by decide +kernel
theorem dL_law_608 : decode cL_law 608 = .ok (.iload_n 3, 1) := by decide +kernel
theorem dL_law_609 : decode cL_law 609 = .ok (.iconst 2, 1) := by decide +kernel
theorem dL_law_610 : decode cL_law 610 = .ok (.iadd, 1) := by decide +kernel
theorem dL_law_611 : decode cL_law 611 = .ok (.iaload, 1) := by decide +kernel
theorem dL_law_612 : decode cL_law 612 = .ok (.invokevirtual 93, 3) := by decide +kernel
theorem dL_law_615 : decode cL_law 615 = .ok (.aload_n 2, 1) := by decide +kernel
theorem dL_law_616 : decode cL_law 616 = .ok (.aload_n 0, 1) := by decide +kernel
theorem dL_law_617 : decode cL_law 617 = .ok (.iload_n 3, 1) := by decide +kernel
theorem dL_law_618 : decode cL_law 618 = .ok (.iconst 1, 1) := by decide +kernel
theorem dL_law_619 : decode cL_law 619 = .ok (.iadd, 1) := by decide +kernel
theorem dL_law_620 : decode cL_law 620 = .ok (.iaload, 1) := by decide +kernel
theorem dL_law_621 : decode cL_law 621 = .ok (.aload_n 0, 1) := by decide +kernel
theorem dL_law_622 : decode cL_law 622 = .ok (.iload_n 3, 1) := by decide +kernel
theorem dL_law_623 : decode cL_law 623 = .ok (.iconst 2, 1) := by decide +kernel
theorem dL_law_624 : decode cL_law 624 = .ok (.iadd, 1) := by decide +kernel
theorem dL_law_625 : decode cL_law 625 = .ok (.iaload, 1) := by decide +kernel
theorem dL_law_626 : decode cL_law 626 = .ok (.invokevirtual 96, 3) := by decide +kernel
theorem dL_law_629 : decode cL_law 629 = .ok (.if_icmp .eq 242, 3) := by decide +kernel
theorem dL_law_632 : decode cL_law 632 = .ok (.iconst 0, 1) := by decide +kernel
theorem dL_law_633 : decode cL_law 633 = .ok (.ireturn, 1) := by decide +kernel
theorem dL_law_634 : decode cL_law 634 = .ok (.aload_n 1, 1) := by decide +kernel
theorem dL_law_635 : decode cL_law 635 = .ok (.aload_n 0, 1) := by decide +kernel
theorem dL_law_636 : decode cL_law 636 = .ok (.iload_n 3, 1) := by decide +kernel
theorem dL_law_637 : decode cL_law 637 = .ok (.iconst 1, 1) := by decide +kernel
theorem dL_law_638 : decode cL_law 638 = .ok (.iadd, 1) := by decide +kernel
theorem dL_law_639 : decode cL_law 639 = .ok (.iaload, 1) := by decide +kernel
theorem dL_law_640 : decode cL_law 640 = .ok (.invokevirtual 97, 3) := by decide +kernel
theorem dL_law_643 : decode cL_law 643 = .ok (.aload_n 2, 1) := by decide +kernel
theorem dL_law_644 : decode cL_law 644 = .ok (.aload_n 0, 1) := by decide +kernel
theorem dL_law_645 : decode cL_law 645 = .ok (.iload_n 3, 1) := by decide +kernel
theorem dL_law_646 : decode cL_law 646 = .ok (.iconst 1, 1) := by decide +kernel
theorem dL_law_647 : decode cL_law 647 = .ok (.iadd, 1) := by decide +kernel
theorem dL_law_648 : decode cL_law 648 = .ok (.iaload, 1) := by decide +kernel
theorem dL_law_649 : decode cL_law 649 = .ok (.invokevirtual 100, 3) := by decide +kernel
theorem dL_law_652 : decode cL_law 652 = .ok (.if_icmp .eq 219, 3) := by decide +kernel
theorem dL_law_655 : decode cL_law 655 = .ok (.iconst 0, 1) := by decide +kernel
theorem dL_law_656 : decode cL_law 656 = .ok (.ireturn, 1) := by decide +kernel
theorem dL_law_657 : decode cL_law 657 = .ok (.aload_n 1, 1) := by decide +kernel
theorem dL_law_658 : decode cL_law 658 = .ok (.aload_n 0, 1) := by decide +kernel
theorem dL_law_659 : decode cL_law 659 = .ok (.iload_n 3, 1) := by decide +kernel
theorem dL_law_660 : decode cL_law 660 = .ok (.iconst 1, 1) := by decide +kernel
theorem dL_law_661 : decode cL_law 661 = .ok (.iadd, 1) := by decide +kernel
theorem dL_law_662 : decode cL_law 662 = .ok (.iaload, 1) := by decide +kernel
theorem dL_law_663 : decode cL_law 663 = .ok (.invokevirtual 101, 3) := by decide +kernel
theorem dL_law_666 : decode cL_law 666 = .ok (.aload_n 2, 1) := by decide +kernel
theorem dL_law_667 : decode cL_law 667 = .ok (.aload_n 0, 1) := by decide +kernel
theorem dL_law_668 : decode cL_law 668 = .ok (.iload_n 3, 1) := by decide +kernel
theorem dL_law_669 : decode cL_law 669 = .ok (.iconst 1, 1) := by decide +kernel
theorem dL_law_670 : decode cL_law 670 = .ok (.iadd, 1) := by decide +kernel
theorem dL_law_671 : decode cL_law 671 = .ok (.iaload, 1) := by decide +kernel
theorem dL_law_672 : decode cL_law 672 = .ok (.invokevirtual 104, 3) := by decide +kernel
theorem dL_law_675 : decode cL_law 675 = .ok (.if_icmp .eq 196, 3) := by decide +kernel
theorem dL_law_678 : decode cL_law 678 = .ok (.iconst 0, 1) := by decide +kernel
theorem dL_law_679 : decode cL_law 679 = .ok (.ireturn, 1) := by decide +kernel
theorem dL_law_680 : decode cL_law 680 = .ok (.aload_n 1, 1) := by decide +kernel
theorem dL_law_681 : decode cL_law 681 = .ok (.aload_n 0, 1) := by decide +kernel
theorem dL_law_682 : decode cL_law 682 = .ok (.iload_n 3, 1) := by decide +kernel
theorem dL_law_683 : decode cL_law 683 = .ok (.iconst 1, 1) := by decide +kernel
theorem dL_law_684 : decode cL_law 684 = .ok (.iadd, 1) := by decide +kernel
theorem dL_law_685 : decode cL_law 685 = .ok (.iaload, 1) := by decide +kernel
theorem dL_law_686 : decode cL_law 686 = .ok (.aload_n 0, 1) := by decide +kernel
theorem dL_law_687 : decode cL_law 687 = .ok (.iload_n 3, 1) := by decide +kernel
theorem dL_law_688 : decode cL_law 688 = .ok (.iconst 2, 1) := by decide +kernel
theorem dL_law_689 : decode cL_law 689 = .ok (.iadd, 1) := by decide +kernel
theorem dL_law_690 : decode cL_law 690 = .ok (.iaload, 1) := by decide +kernel
theorem dL_law_691 : decode cL_law 691 = .ok (.ifCond .eq 7, 3) := by decide +kernel
theorem dL_law_694 : decode cL_law 694 = .ok (.iconst 1, 1) := by decide +kernel
theorem dL_law_695 : decode cL_law 695 = .ok (.goto 4, 3) := by decide +kernel
theorem dL_law_698 : decode cL_law 698 = .ok (.iconst 0, 1) := by decide +kernel
theorem dL_law_699 : decode cL_law 699 = .ok (.invokevirtual 105, 3) := by decide +kernel
theorem dL_law_702 : decode cL_law 702 = .ok (.aload_n 2, 1) := by decide +kernel
theorem dL_law_703 : decode cL_law 703 = .ok (.aload_n 0, 1) := by decide +kernel
theorem dL_law_704 : decode cL_law 704 = .ok (.iload_n 3, 1) := by decide +kernel
theorem dL_law_705 : decode cL_law 705 = .ok (.iconst 1, 1) := by decide +kernel
theorem dL_law_706 : decode cL_law 706 = .ok (.iadd, 1) := by decide +kernel
theorem dL_law_707 : decode cL_law 707 = .ok (.iaload, 1) := by decide +kernel
theorem dL_law_708 : decode cL_law 708 = .ok (.aload_n 0, 1) := by decide +kernel
theorem dL_law_709 : decode cL_law 709 = .ok (.iload_n 3, 1) := by decide +kernel
theorem dL_law_710 : decode cL_law 710 = .ok (.iconst 2, 1) := by decide +kernel
theorem dL_law_711 : decode cL_law 711 = .ok (.iadd, 1) := by decide +kernel
theorem dL_law_712 : decode cL_law 712 = .ok (.iaload, 1) := by decide +kernel
theorem dL_law_713 : decode cL_law 713 = .ok (.ifCond .eq 7, 3) := by decide +kernel
theorem dL_law_716 : decode cL_law 716 = .ok (.iconst 1, 1) := by decide +kernel
theorem dL_law_717 : decode cL_law 717 = .ok (.goto 4, 3) := by decide +kernel
theorem dL_law_720 : decode cL_law 720 = .ok (.iconst 0, 1) := by decide +kernel
theorem dL_law_721 : decode cL_law 721 = .ok (.invokevirtual 109, 3) := by decide +kernel
theorem dL_law_724 : decode cL_law 724 = .ok (.if_icmp .eq 147, 3) := by decide +kernel
theorem dL_law_727 : decode cL_law 727 = .ok (.iconst 0, 1) := by decide +kernel
theorem dL_law_728 : decode cL_law 728 = .ok (.ireturn, 1) := by decide +kernel
theorem dL_law_729 : decode cL_law 729 = .ok (.aload_n 1, 1) := by decide +kernel
theorem dL_law_730 : decode cL_law 730 = .ok (.invokevirtual 110, 3) := by decide +kernel
theorem dL_law_733 : decode cL_law 733 = .ok (.aload_n 2, 1) := by decide +kernel
theorem dL_law_734 : decode cL_law 734 = .ok (.invokevirtual 113, 3) := by decide +kernel
theorem dL_law_737 : decode cL_law 737 = .ok (.if_icmp .eq 134, 3) := by decide +kernel
theorem dL_law_740 : decode cL_law 740 = .ok (.iconst 0, 1) := by decide +kernel
theorem dL_law_741 : decode cL_law 741 = .ok (.ireturn, 1) := by decide +kernel
theorem dL_law_742 : decode cL_law 742 = .ok (.aload_n 1, 1) := by decide +kernel
theorem dL_law_743 : decode cL_law 743 = .ok (.aload_n 0, 1) := by decide +kernel
theorem dL_law_744 : decode cL_law 744 = .ok (.iload_n 3, 1) := by decide +kernel
theorem dL_law_745 : decode cL_law 745 = .ok (.iconst 1, 1) := by decide +kernel
theorem dL_law_746 : decode cL_law 746 = .ok (.iadd, 1) := by decide +kernel
theorem dL_law_747 : decode cL_law 747 = .ok (.iaload, 1) := by decide +kernel
theorem dL_law_748 : decode cL_law 748 = .ok (.invokevirtual 114, 3) := by decide +kernel
theorem dL_law_751 : decode cL_law 751 = .ok (.aload_n 2, 1) := by decide +kernel
theorem dL_law_752 : decode cL_law 752 = .ok (.aload_n 0, 1) := by decide +kernel
theorem dL_law_753 : decode cL_law 753 = .ok (.iload_n 3, 1) := by decide +kernel
theorem dL_law_754 : decode cL_law 754 = .ok (.iconst 1, 1) := by decide +kernel
theorem dL_law_755 : decode cL_law 755 = .ok (.iadd, 1) := by decide +kernel
theorem dL_law_756 : decode cL_law 756 = .ok (.iaload, 1) := by decide +kernel
theorem dL_law_757 : decode cL_law 757 = .ok (.invokevirtual 117, 3) := by decide +kernel
theorem dL_law_760 : decode cL_law 760 = .ok (.if_icmp .eq 111, 3) := by decide +kernel
theorem dL_law_763 : decode cL_law 763 = .ok (.iconst 0, 1) := by decide +kernel
theorem dL_law_764 : decode cL_law 764 = .ok (.ireturn, 1) := by decide +kernel
theorem dL_law_765 : decode cL_law 765 = .ok (.aload_n 1, 1) := by decide +kernel
theorem dL_law_766 : decode cL_law 766 = .ok (.aload_n 0, 1) := by decide +kernel
theorem dL_law_767 : decode cL_law 767 = .ok (.iload_n 3, 1) := by decide +kernel
theorem dL_law_768 : decode cL_law 768 = .ok (.iconst 1, 1) := by decide +kernel
theorem dL_law_769 : decode cL_law 769 = .ok (.iadd, 1) := by decide +kernel
theorem dL_law_770 : decode cL_law 770 = .ok (.iaload, 1) := by decide +kernel
theorem dL_law_771 : decode cL_law 771 = .ok (.aload_n 0, 1) := by decide +kernel
theorem dL_law_772 : decode cL_law 772 = .ok (.iload_n 3, 1) := by decide +kernel
theorem dL_law_773 : decode cL_law 773 = .ok (.iconst 2, 1) := by decide +kernel
theorem dL_law_774 : decode cL_law 774 = .ok (.iadd, 1) := by decide +kernel
theorem dL_law_775 : decode cL_law 775 = .ok (.iaload, 1) := by decide +kernel
theorem dL_law_776 : decode cL_law 776 = .ok (.aload_n 0, 1) := by decide +kernel
theorem dL_law_777 : decode cL_law 777 = .ok (.iload_n 3, 1) := by decide +kernel
theorem dL_law_778 : decode cL_law 778 = .ok (.iconst 3, 1) := by decide +kernel
theorem dL_law_779 : decode cL_law 779 = .ok (.iadd, 1) := by decide +kernel
theorem dL_law_780 : decode cL_law 780 = .ok (.iaload, 1) := by decide +kernel
theorem dL_law_781 : decode cL_law 781 = .ok (.invokevirtual 118, 3) := by decide +kernel
theorem dL_law_784 : decode cL_law 784 = .ok (.aload_n 2, 1) := by decide +kernel
theorem dL_law_785 : decode cL_law 785 = .ok (.aload_n 0, 1) := by decide +kernel
theorem dL_law_786 : decode cL_law 786 = .ok (.iload_n 3, 1) := by decide +kernel
theorem dL_law_787 : decode cL_law 787 = .ok (.iconst 1, 1) := by decide +kernel
theorem dL_law_788 : decode cL_law 788 = .ok (.iadd, 1) := by decide +kernel
theorem dL_law_789 : decode cL_law 789 = .ok (.iaload, 1) := by decide +kernel
theorem dL_law_790 : decode cL_law 790 = .ok (.aload_n 0, 1) := by decide +kernel
theorem dL_law_791 : decode cL_law 791 = .ok (.iload_n 3, 1) := by decide +kernel
theorem dL_law_792 : decode cL_law 792 = .ok (.iconst 2, 1) := by decide +kernel
theorem dL_law_793 : decode cL_law 793 = .ok (.iadd, 1) := by decide +kernel
theorem dL_law_794 : decode cL_law 794 = .ok (.iaload, 1) := by decide +kernel
theorem dL_law_795 : decode cL_law 795 = .ok (.aload_n 0, 1) := by decide +kernel
theorem dL_law_796 : decode cL_law 796 = .ok (.iload_n 3, 1) := by decide +kernel
theorem dL_law_797 : decode cL_law 797 = .ok (.iconst 3, 1) := by decide +kernel
theorem dL_law_798 : decode cL_law 798 = .ok (.iadd, 1) := by decide +kernel
theorem dL_law_799 : decode cL_law 799 = .ok (.iaload, 1) := by decide +kernel
theorem dL_law_800 : decode cL_law 800 = .ok (.invokevirtual 122, 3) := by decide +kernel
theorem dL_law_803 : decode cL_law 803 = .ok (.if_icmp .eq 68, 3) := by decide +kernel
theorem dL_law_806 : decode cL_law 806 = .ok (.iconst 0, 1) := by decide +kernel
theorem dL_law_807 : decode cL_law 807 = .ok (.ireturn, 1) := by decide +kernel
theorem dL_law_808 : decode cL_law 808 = .ok (.aload_n 1, 1) := by decide +kernel
theorem dL_law_809 : decode cL_law 809 = .ok (.invokevirtual 123, 3) := by decide +kernel
theorem dL_law_812 : decode cL_law 812 = .ok (.aload_n 2, 1) := by decide +kernel
theorem dL_law_813 : decode cL_law 813 = .ok (.invokevirtual 126, 3) := by decide +kernel
theorem dL_law_816 : decode cL_law 816 = .ok (.if_icmp .eq 55, 3) := by decide +kernel
theorem dL_law_819 : decode cL_law 819 = .ok (.iconst 0, 1) := by decide +kernel
theorem dL_law_820 : decode cL_law 820 = .ok (.ireturn, 1) := by decide +kernel
theorem dL_law_821 : decode cL_law 821 = .ok (.aload_n 1, 1) := by decide +kernel
theorem dL_law_822 : decode cL_law 822 = .ok (.invokevirtual 127, 3) := by decide +kernel
theorem dL_law_825 : decode cL_law 825 = .ok (.aload_n 2, 1) := by decide +kernel
theorem dL_law_826 : decode cL_law 826 = .ok (.invokevirtual 130, 3) := by decide +kernel
theorem dL_law_829 : decode cL_law 829 = .ok (.if_icmp .eq 42, 3) := by decide +kernel
theorem dL_law_832 : decode cL_law 832 = .ok (.iconst 0, 1) := by decide +kernel
theorem dL_law_833 : decode cL_law 833 = .ok (.ireturn, 1) := by decide +kernel
theorem dL_law_834 : decode cL_law 834 = .ok (.aload_n 1, 1) := by decide +kernel
theorem dL_law_835 : decode cL_law 835 = .ok (.aload_n 0, 1) := by decide +kernel
theorem dL_law_836 : decode cL_law 836 = .ok (.iload_n 3, 1) := by decide +kernel
theorem dL_law_837 : decode cL_law 837 = .ok (.iconst 1, 1) := by decide +kernel
theorem dL_law_838 : decode cL_law 838 = .ok (.iadd, 1) := by decide +kernel
theorem dL_law_839 : decode cL_law 839 = .ok (.iaload, 1) := by decide +kernel
theorem dL_law_840 : decode cL_law 840 = .ok (.invokevirtual 131, 3) := by decide +kernel
theorem dL_law_843 : decode cL_law 843 = .ok (.aload_n 2, 1) := by decide +kernel
theorem dL_law_844 : decode cL_law 844 = .ok (.aload_n 0, 1) := by decide +kernel
theorem dL_law_845 : decode cL_law 845 = .ok (.iload_n 3, 1) := by decide +kernel
theorem dL_law_846 : decode cL_law 846 = .ok (.iconst 1, 1) := by decide +kernel
theorem dL_law_847 : decode cL_law 847 = .ok (.iadd, 1) := by decide +kernel
theorem dL_law_848 : decode cL_law 848 = .ok (.iaload, 1) := by decide +kernel
theorem dL_law_849 : decode cL_law 849 = .ok (.invokevirtual 134, 3) := by decide +kernel
theorem dL_law_852 : decode cL_law 852 = .ok (.if_icmp .eq 19, 3) := by decide +kernel
theorem dL_law_855 : decode cL_law 855 = .ok (.iconst 0, 1) := by decide +kernel
theorem dL_law_856 : decode cL_law 856 = .ok (.ireturn, 1) := by decide +kernel
theorem dL_law_857 : decode cL_law 857 = .ok (.aload_n 1, 1) := by decide +kernel
theorem dL_law_858 : decode cL_law 858 = .ok (.invokevirtual 135, 3) := by decide +kernel
theorem dL_law_861 : decode cL_law 861 = .ok (.aload_n 2, 1) := by decide +kernel
theorem dL_law_862 : decode cL_law 862 = .ok (.invokevirtual 139, 3) := by decide +kernel
theorem dL_law_865 : decode cL_law 865 = .ok (.lcmp, 1) := by decide +kernel
theorem dL_law_866 : decode cL_law 866 = .ok (.ifCond .eq 5, 3) := by decide +kernel
theorem dL_law_869 : decode cL_law 869 = .ok (.iconst 0, 1) := by decide +kernel
theorem dL_law_870 : decode cL_law 870 = .ok (.ireturn, 1) := by decide +kernel
theorem dL_law_871 : decode cL_law 871 = .ok (.iinc 3 4, 3) := by decide +kernel
theorem dL_law_874 : decode cL_law 874 = .ok (.goto (-856), 3) := by decide +kernel
theorem dL_law_877 : decode cL_law 877 = .ok (.iconst 1, 1) := by decide +kernel
theorem dL_law_878 : decode cL_law 878 = .ok (.ireturn, 1) := by decide +kernel
