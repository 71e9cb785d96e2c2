theorem dX7_inSome_26 : decode cX7_inSome 26 = .ok (.invokevirtual 90, 3) := by decide +kernel
theorem dX7_inSome_29 : decode cX7_inSome 29 = .ok (.lor, 1) := by decide +kernel
theorem dX7_inSome_30 : decode cX7_inSome 30 = .ok (.lstore_n 3, 1) := by decide +kernel
theorem dX7_inSome_31 : decode cX7_inSome 31 = .ok (.iinc 5 1, 3) := by decide +kernel
theorem dX7_inSome_34 : decode cX7_inSome 34 = .ok (.goto (-29), 3) := by decide +kernel
theorem dX7_inSome_37 : decode cX7_inSome 37 = .ok (.lload_n 3, 1) := by decide +kernel
theorem dX7_inSome_38 : decode cX7_inSome 38 = .ok (.lreturn, 1) := by decide +kernel
theorem dX7_at_0 : decode cX7_at 0 = .ok (.iconst 4, 1) := by decide +kernel
theorem dX7_at_1 : decode cX7_at 1 = .ok (.iload_n 1, 1) := by decide +kernel
theorem dX7_at_2 : decode cX7_at 2 = .ok (.imul, 1) := by decide +kernel
theorem dX7_at_3 : decode cX7_at 3 = .ok (.iload_n 2, 1) := by decide +kernel
theorem dX7_at_4 : decode cX7_at 4 = .ok (.iadd, 1) := by decide +kernel
theorem dX7_at_5 : decode cX7_at 5 = .ok (.istore_n 3, 1) := by decide +kernel
theorem dX7_at_6 : decode cX7_at 6 = .ok (.iload_n 3, 1) := by decide +kernel
theorem dX7_at_7 : decode cX7_at 7 = .ok (.ifCond .lt 21, 3) := by decide +kernel
theorem dX7_at_10 : decode cX7_at 10 = .ok (.iload_n 3, 1) := by decide +kernel
theorem dX7_at_11 : decode cX7_at 11 = .ok (.aload_n 0, 1) := by decide +kernel
theorem dX7_at_12 : decode cX7_at 12 = .ok (.getfield 18, 3) := by decide +kernel
theorem dX7_at_15 : decode cX7_at 15 = .ok (.arraylength, 1) := by decide +kernel
theorem dX7_at_16 : decode cX7_at 16 = .ok (.if_icmp .ge 12, 3) := by decide +kernel
theorem dX7_at_19 : decode cX7_at 19 = .ok (.aload_n 0, 1) := by decide +kernel
theorem dX7_at_20 : decode cX7_at 20 = .ok (.getfield 18, 3) := by decide +kernel
theorem dX7_at_23 : decode cX7_at 23 = .ok (.iload_n 3, 1) := by decide +kernel
theorem dX7_at_24 : decode cX7_at 24 = .ok (.laload, 1) := by decide +kernel
theorem dX7_at_25 : decode cX7_at 25 = .ok (.goto 4, 3) := by decide +kernel
theorem dX7_at_28 : decode cX7_at 28 = .ok (.lconst 0, 1) := by decide +kernel
theorem dX7_at_29 : decode cX7_at 29 = .ok (.lreturn, 1) := by decide +kernel
theorem dX7_set_0 : decode cX7_set 0 = .ok (.iconst 4, 1) := by decide +kernel
theorem dX7_set_1 : decode cX7_set 1 = .ok (.iload_n 1, 1) := by decide +kernel
theorem dX7_set_2 : decode cX7_set 2 = .ok (.imul, 1) := by decide +kernel
theorem dX7_set_3 : decode cX7_set 3 = .ok (.iload_n 2, 1) := by decide +kernel
theorem dX7_set_4 : decode cX7_set 4 = .ok (.iadd, 1) := by decide +kernel
theorem dX7_set_5 : decode cX7_set 5 = .ok (.istore 5, 2) := by decide +kernel
theorem dX7_set_7 : decode cX7_set 7 = .ok (.iload 5, 2) := by decide +kernel
theorem dX7_set_9 : decode cX7_set 9 = .ok (.aload_n 0, 1) := by decide +kernel
theorem dX7_set_10 : decode cX7_set 10 = .ok (.getfield 18, 3) := by decide +kernel
theorem dX7_set_13 : decode cX7_set 13 = .ok (.arraylength, 1) := by decide +kernel
theorem dX7_set_14 : decode cX7_set 14 = .ok (.invokestatic 54, 3) := by decide +kernel
theorem dX7_set_17 : decode cX7_set 17 = .ok (.ifCond .eq 11, 3) := by decide +kernel
theorem dX7_set_20 : decode cX7_set 20 = .ok (.aload_n 0, 1) := by decide +kernel
theorem dX7_set_21 : decode cX7_set 21 = .ok (.getfield 18, 3) := by decide +kernel
theorem dX7_set_24 : decode cX7_set 24 = .ok (.iload 5, 2) := by decide +kernel
theorem dX7_set_26 : decode cX7_set 26 = .ok (.lload_n 3, 1) := by decide +kernel
theorem dX7_set_27 : decode cX7_set 27 = .ok (.lastore, 1) := by decide +kernel
theorem dX7_set_28 : decode cX7_set 28 = .ok (.return_, 1) := by decide +kernel
theorem dX7_refuting_0 : decode cX7_refuting 0 = .ok (.lconst 0, 1) := by decide +kernel
theorem dX7_refuting_1 : decode cX7_refuting 1 = .ok (.lstore_n 2, 1) := by decide +kernel
theorem dX7_refuting_2 : decode cX7_refuting 2 = .ok (.iconst 0, 1) := by decide +kernel
theorem dX7_refuting_3 : decode cX7_refuting 3 = .ok (.istore 4, 2) := by decide +kernel
theorem dX7_refuting_5 : decode cX7_refuting 5 = .ok (.iload 4, 2) := by decide +kernel
theorem dX7_refuting_7 : decode cX7_refuting 7 = .ok (.iload_n 1, 1) := by decide +kernel
theorem dX7_refuting_8 : decode cX7_refuting 8 = .ok (.if_icmp .ge 23, 3) := by decide +kernel
theorem dX7_refuting_11 : decode cX7_refuting 11 = .ok (.lload_n 2, 1) := by decide +kernel
theorem dX7_refuting_12 : decode cX7_refuting 12 = .ok (.aload_n 0, 1) := by decide +kernel
theorem dX7_refuting_13 : decode cX7_refuting 13 = .ok (.iconst 0, 1) := by decide +kernel
theorem dX7_refuting_14 : decode cX7_refuting 14 = .ok (.iload 4, 2) := by decide +kernel
theorem dX7_refuting_16 : decode cX7_refuting 16 = .ok (.invokevirtual 90, 3) := by decide +kernel
theorem dX7_refuting_19 : decode cX7_refuting 19 = .ok (.ldc2_w 49, 3) := by decide +kernel
theorem dX7_refuting_22 : decode cX7_refuting 22 = .ok (.lxor, 1) := by decide +kernel
theorem dX7_refuting_23 : decode cX7_refuting 23 = .ok (.lor, 1) := by decide +kernel
theorem dX7_refuting_24 : decode cX7_refuting 24 = .ok (.lstore_n 2, 1) := by decide +kernel
theorem dX7_refuting_25 : decode cX7_refuting 25 = .ok (.iinc 4 1, 3) := by decide +kernel
theorem dX7_refuting_28 : decode cX7_refuting 28 = .ok (.goto (-23), 3) := by decide +kernel
theorem dX7_refuting_31 : decode cX7_refuting 31 = .ok (.lload_n 2, 1) := by decide +kernel
theorem dX7_refuting_32 : decode cX7_refuting 32 = .ok (.lreturn, 1) := by decide +kernel
theorem dX7_lowestWithout_0 : decode cX7_lowestWithout 0 = .ok (.iconst 0, 1) := by decide +kernel
theorem dX7_lowestWithout_1 : decode cX7_lowestWithout 1 = .ok (.istore_n 3, 1) := by decide +kernel
theorem dX7_lowestWithout_2 : decode cX7_lowestWithout 2 = .ok (.iload_n 3, 1) := by decide +kernel
theorem dX7_lowestWithout_3 : decode cX7_lowestWithout 3 = .ok (.iload_n 2, 1) := by decide +kernel
theorem dX7_lowestWithout_4 : decode cX7_lowestWithout 4 = .ok (.if_icmp .ge 26, 3) := by decide +kernel
theorem dX7_lowestWithout_7 : decode cX7_lowestWithout 7 = .ok (.aload_n 0, 1) := by decide +kernel
theorem dX7_lowestWithout_8 : decode cX7_lowestWithout 8 = .ok (.iconst 0, 1) := by decide +kernel
theorem dX7_lowestWithout_9 : decode cX7_lowestWithout 9 = .ok (.iload_n 3, 1) := by decide +kernel
theorem dX7_lowestWithout_10 : decode cX7_lowestWithout 10 = .ok (.invokevirtual 90, 3) := by decide +kernel
theorem dX7_lowestWithout_13 : decode cX7_lowestWithout 13 = .ok (.iload_n 1, 1) := by decide +kernel
theorem dX7_lowestWithout_14 : decode cX7_lowestWithout 14 = .ok (.lshr, 1) := by decide +kernel
theorem dX7_lowestWithout_15 : decode cX7_lowestWithout 15 = .ok (.lconst 1, 1) := by decide +kernel
theorem dX7_lowestWithout_16 : decode cX7_lowestWithout 16 = .ok (.land, 1) := by decide +kernel
theorem dX7_lowestWithout_17 : decode cX7_lowestWithout 17 = .ok (.lconst 0, 1) := by decide +kernel
theorem dX7_lowestWithout_18 : decode cX7_lowestWithout 18 = .ok (.lcmp, 1) := by decide +kernel
theorem dX7_lowestWithout_19 : decode cX7_lowestWithout 19 = .ok (.ifCond .ne 5, 3) := by decide +kernel
theorem dX7_lowestWithout_22 : decode cX7_lowestWithout 22 = .ok (.iload_n 3, 1) := by decide +kernel
theorem dX7_lowestWithout_23 : decode cX7_lowestWithout 23 = .ok (.ireturn, 1) := by decide +kernel
theorem dX7_lowestWithout_24 : decode cX7_lowestWithout 24 = .ok (.iinc 3 1, 3) := by decide +kernel
theorem dX7_lowestWithout_27 : decode cX7_lowestWithout 27 = .ok (.goto (-25), 3) := by decide +kernel
theorem dX7_lowestWithout_30 : decode cX7_lowestWithout 30 = .ok (.iconst (-1), 1) := by decide +kernel
theorem dX7_lowestWithout_31 : decode cX7_lowestWithout 31 = .ok (.ireturn, 1) := by decide +kernel
theorem dX7_heldIn_0 : decode cX7_heldIn 0 = .ok (.iconst 0, 1) := by decide +kernel
theorem dX7_heldIn_1 : decode cX7_heldIn 1 = .ok (.istore 4, 2) := by decide +kernel
theorem dX7_heldIn_3 : decode cX7_heldIn 3 = .ok (.iconst 0, 1) := by decide +kernel
theorem dX7_heldIn_4 : decode cX7_heldIn 4 = .ok (.istore 5, 2) := by decide +kernel
theorem dX7_heldIn_6 : decode cX7_heldIn 6 = .ok (.iload 5, 2) := by decide +kernel
theorem dX7_heldIn_8 : decode cX7_heldIn 8 = .ok (.iload_n 3, 1) := by decide +kernel
theorem dX7_heldIn_9 : decode cX7_heldIn 9 = .ok (.if_icmp .ge 26, 3) := by decide +kernel
theorem dX7_heldIn_12 : decode cX7_heldIn 12 = .ok (.iload 4, 2) := by decide +kernel
theorem dX7_heldIn_14 : decode cX7_heldIn 14 = .ok (.aload_n 0, 1) := by decide +kernel
theorem dX7_heldIn_15 : decode cX7_heldIn 15 = .ok (.iconst 0, 1) := by decide +kernel
theorem dX7_heldIn_16 : decode cX7_heldIn 16 = .ok (.iload 5, 2) := by decide +kernel
theorem dX7_heldIn_18 : decode cX7_heldIn 18 = .ok (.invokevirtual 90, 3) := by decide +kernel
theorem dX7_heldIn_21 : decode cX7_heldIn 21 = .ok (.lload_n 1, 1) := by decide +kernel
theorem dX7_heldIn_22 : decode cX7_heldIn 22 = .ok (.land, 1) := by decide +kernel
theorem dX7_heldIn_23 : decode cX7_heldIn 23 = .ok (.invokestatic 105, 3) := by decide +kernel
theorem dX7_heldIn_26 : decode cX7_heldIn 26 = .ok (.iadd, 1) := by decide +kernel
theorem dX7_heldIn_27 : decode cX7_heldIn 27 = .ok (.istore 4, 2) := by decide +kernel
theorem dX7_heldIn_29 : decode cX7_heldIn 29 = .ok (.iinc 5 1, 3) := by decide +kernel
theorem dX7_heldIn_32 : decode cX7_heldIn 32 = .ok (.goto (-26), 3) := by decide +kernel
theorem dX7_heldIn_35 : decode cX7_heldIn 35 = .ok (.iload 4, 2) := by decide +kernel
theorem dX7_heldIn_37 : decode cX7_heldIn 37 = .ok (.ireturn, 1) := by decide +kernel
theorem dX7_agree_0 : decode cX7_agree 0 = .ok (.iconst 0, 1) := by decide +kernel
theorem dX7_agree_1 : decode cX7_agree 1 = .ok (.istore 4, 2) := by decide +kernel
theorem dX7_agree_3 : decode cX7_agree 3 = .ok (.iload 4, 2) := by decide +kernel
theorem dX7_agree_5 : decode cX7_agree 5 = .ok (.aload_n 1, 1) := by decide +kernel
theorem dX7_agree_6 : decode cX7_agree 6 = .ok (.invokevirtual 73, 3) := by decide +kernel
theorem dX7_agree_9 : decode cX7_agree 9 = .ok (.if_icmp .ge 29, 3) := by decide +kernel
theorem dX7_agree_12 : decode cX7_agree 12 = .ok (.aload_n 0, 1) := by decide +kernel
theorem dX7_agree_13 : decode cX7_agree 13 = .ok (.iload 4, 2) := by decide +kernel
theorem dX7_agree_15 : decode cX7_agree 15 = .ok (.iload_n 2, 1) := by decide +kernel
theorem dX7_agree_16 : decode cX7_agree 16 = .ok (.invokevirtual 90, 3) := by decide +kernel
theorem dX7_agree_19 : decode cX7_agree 19 = .ok (.aload_n 0, 1) := by decide +kernel
theorem dX7_agree_20 : decode cX7_agree 20 = .ok (.iload 4, 2) := by decide +kernel
theorem dX7_agree_22 : decode cX7_agree 22 = .ok (.iload_n 3, 1) := by decide +kernel
theorem dX7_agree_23 : decode cX7_agree 23 = .ok (.invokevirtual 90, 3) := by decide +kernel
theorem dX7_agree_26 : decode cX7_agree 26 = .ok (.lcmp, 1) := by decide +kernel
theorem dX7_agree_27 : decode cX7_agree 27 = .ok (.ifCond .eq 5, 3) := by decide +kernel
theorem dX7_agree_30 : decode cX7_agree 30 = .ok (.iconst 0, 1) := by decide +kernel
theorem dX7_agree_31 : decode cX7_agree 31 = .ok (.ireturn, 1) := by decide +kernel
theorem dX7_agree_32 : decode cX7_agree 32 = .ok (.iinc 4 1, 3) := by decide +kernel
theorem dX7_agree_35 : decode cX7_agree 35 = .ok (.goto (-32), 3) := by decide +kernel
theorem dX7_agree_38 : decode cX7_agree 38 = .ok (.iconst 1, 1) := by decide +kernel
theorem dX7_agree_39 : decode cX7_agree 39 = .ok (.ireturn, 1) := by decide +kernel
theorem dX8_init_0 : decode cX8_init 0 = .ok (.aload_n 0, 1) := by decide +kernel
theorem dX8_init_1 : decode cX8_init 1 = .ok (.invokespecial 1, 3) := by decide +kernel
theorem dX8_init_4 : decode cX8_init 4 = .ok (.aload_n 0, 1) := by decide +kernel
theorem dX8_init_5 : decode cX8_init 5 = .ok (.new 7, 3) := by decide +kernel
theorem dX8_init_8 : decode cX8_init 8 = .ok (.dup, 1) := by decide +kernel
theorem dX8_init_9 : decode cX8_init 9 = .ok (.invokespecial 9, 3) := by decide +kernel
theorem dX8_init_12 : decode cX8_init 12 = .ok (.putfield 10, 3) := by decide +kernel
theorem dX8_init_15 : decode cX8_init 15 = .ok (.aload_n 0, 1) := by decide +kernel
theorem dX8_init_16 : decode cX8_init 16 = .ok (.new 16, 3) := by decide +kernel
theorem dX8_init_19 : decode cX8_init 19 = .ok (.dup, 1) := by decide +kernel
theorem dX8_init_20 : decode cX8_init 20 = .ok (.invokespecial 18, 3) := by decide +kernel
theorem dX8_init_23 : decode cX8_init 23 = .ok (.putfield 19, 3) := by decide +kernel
theorem dX8_init_26 : decode cX8_init 26 = .ok (.aload_n 0, 1) := by decide +kernel
theorem dX8_init_27 : decode cX8_init 27 = .ok (.new 23, 3) := by decide +kernel
theorem dX8_init_30 : decode cX8_init 30 = .ok (.dup, 1) := by decide +kernel
theorem dX8_init_31 : decode cX8_init 31 = .ok (.invokespecial 25, 3) := by decide +kernel
theorem dX8_init_34 : decode cX8_init 34 = .ok (.putfield 26, 3) := by decide +kernel
theorem dX8_init_37 : decode cX8_init 37 = .ok (.aload_n 0, 1) := by decide +kernel
theorem dX8_init_38 : decode cX8_init 38 = .ok (.new 30, 3) := by decide +kernel
theorem dX8_init_41 : decode cX8_init 41 = .ok (.dup, 1) := by decide +kernel
theorem dX8_init_42 : decode cX8_init 42 = .ok (.invokespecial 32, 3) := by decide +kernel
theorem dX8_init_45 : decode cX8_init 45 = .ok (.putfield 33, 3) := by decide +kernel
theorem dX8_init_48 : decode cX8_init 48 = .ok (.aload_n 0, 1) := by decide +kernel
theorem dX8_init_49 : decode cX8_init 49 = .ok (.new 37, 3) := by decide +kernel
theorem dX8_init_52 : decode cX8_init 52 = .ok (.dup, 1) := by decide +kernel
theorem dX8_init_53 : decode cX8_init 53 = .ok (.invokespecial 39, 3) := by decide +kernel
theorem dX8_init_56 : decode cX8_init 56 = .ok (.putfield 40, 3) := by decide +kernel
theorem dX8_init_59 : decode cX8_init 59 = .ok (.aload_n 0, 1) := by decide +kernel
theorem dX8_init_60 : decode cX8_init 60 = .ok (.new 44, 3) := by decide +kernel
theorem dX8_init_63 : decode cX8_init 63 = .ok (.dup, 1) := by decide +kernel
theorem dX8_init_64 : decode cX8_init 64 = .ok (.invokespecial 46, 3) := by decide +kernel
theorem dX8_init_67 : decode cX8_init 67 = .ok (.putfield 47, 3) := by decide +kernel
theorem dX8_init_70 : decode cX8_init 70 = .ok (.aload_n 0, 1) := by decide +kernel
theorem dX8_init_71 : decode cX8_init 71 = .ok (.new 30, 3) := by decide +kernel
theorem dX8_init_74 : decode cX8_init 74 = .ok (.dup, 1) := by decide +kernel
theorem dX8_init_75 : decode cX8_init 75 = .ok (.invokespecial 32, 3) := by decide +kernel
theorem dX8_init_78 : decode cX8_init 78 = .ok (.putfield 51, 3) := by decide +kernel
theorem dX8_init_81 : decode cX8_init 81 = .ok (.aload_n 0, 1) := by decide +kernel
theorem dX8_init_82 : decode cX8_init 82 = .ok (.new 44, 3) := by decide +kernel
theorem dX8_init_85 : decode cX8_init 85 = .ok (.dup, 1) := by decide +kernel
theorem dX8_init_86 : decode cX8_init 86 = .ok (.invokespecial 46, 3) := by decide +kernel
theorem dX8_init_89 : decode cX8_init 89 = .ok (.putfield 54, 3) := by decide +kernel
theorem dX8_init_92 : decode cX8_init 92 = .ok (.aload_n 0, 1) := by decide +kernel
theorem dX8_init_93 : decode cX8_init 93 = .ok (.new 30, 3) := by decide +kernel
theorem dX8_init_96 : decode cX8_init 96 = .ok (.dup, 1) := by decide +kernel
theorem dX8_init_97 : decode cX8_init 97 = .ok (.invokespecial 32, 3) := by decide +kernel
theorem dX8_init_100 : decode cX8_init 100 = .ok (.putfield 57, 3) := by decide +kernel
theorem dX8_init_103 : decode cX8_init 103 = .ok (.aload_n 0, 1) := by decide +kernel
theorem dX8_init_104 : decode cX8_init 104 = .ok (.new 60, 3) := by decide +kernel
theorem dX8_init_107 : decode cX8_init 107 = .ok (.dup, 1) := by decide +kernel
theorem dX8_init_108 : decode cX8_init 108 = .ok (.invokespecial 62, 3) := by decide +kernel
theorem dX8_init_111 : decode cX8_init 111 = .ok (.putfield 63, 3) := by decide +kernel
theorem dX8_init_114 : decode cX8_init 114 = .ok (.return_, 1) := by decide +kernel
theorem dX8_letter_0 : decode cX8_letter 0 = .ok (.iload_n 1, 1) := by decide +kernel
theorem dX8_letter_1 : decode cX8_letter 1 = .ok (.bipush 32, 2) := by decide +kernel
theorem dX8_letter_3 : decode cX8_letter 3 = .ok (.if_icmp .lt 9, 3) := by decide +kernel
theorem dX8_letter_6 : decode cX8_letter 6 = .ok (.iload_n 1, 1) := by decide +kernel
theorem dX8_letter_7 : decode cX8_letter 7 = .ok (.bipush 126, 2) := by decide +kernel
theorem dX8_letter_9 : decode cX8_letter 9 = .ok (.if_icmp .le 6, 3) := by decide +kernel
theorem dX8_letter_12 : decode cX8_letter 12 = .ok (.bipush (-102), 2) := by decide +kernel
theorem dX8_letter_14 : decode cX8_letter 14 = .ok (.ireturn, 1) := by decide +kernel
theorem dX8_letter_15 : decode cX8_letter 15 = .ok (.aload_n 0, 1) := by decide +kernel
theorem dX8_letter_16 : decode cX8_letter 16 = .ok (.getfield 10, 3) := by decide +kernel
theorem dX8_letter_19 : decode cX8_letter 19 = .ok (.invokevirtual 67, 3) := by decide +kernel
theorem dX8_letter_22 : decode cX8_letter 22 = .ok (.bipush 66, 2) := by decide +kernel
theorem dX8_letter_24 : decode cX8_letter 24 = .ok (.if_icmp .lt 6, 3) := by decide +kernel
theorem dX8_letter_27 : decode cX8_letter 27 = .ok (.bipush (-104), 2) := by decide +kernel
theorem dX8_letter_29 : decode cX8_letter 29 = .ok (.ireturn, 1) := by decide +kernel
theorem dX8_letter_30 : decode cX8_letter 30 = .ok (.aload_n 0, 1) := by decide +kernel
theorem dX8_letter_31 : decode cX8_letter 31 = .ok (.getfield 10, 3) := by decide +kernel
theorem dX8_letter_34 : decode cX8_letter 34 = .ok (.iload_n 1, 1) := by decide +kernel
theorem dX8_letter_35 : decode cX8_letter 35 = .ok (.invokevirtual 71, 3) := by decide +kernel
theorem dX8_letter_38 : decode cX8_letter 38 = .ok (.aload_n 0, 1) := by decide +kernel
theorem dX8_letter_39 : decode cX8_letter 39 = .ok (.getfield 10, 3) := by decide +kernel
theorem dX8_letter_42 : decode cX8_letter 42 = .ok (.invokevirtual 67, 3) := by decide +kernel
theorem dX8_letter_45 : decode cX8_letter 45 = .ok (.ireturn, 1) := by decide +kernel
theorem dX8_blank_0 : decode cX8_blank 0 = .ok (.aload_n 0, 1) := by decide +kernel
theorem dX8_blank_1 : decode cX8_blank 1 = .ok (.getfield 10, 3) := by decide +kernel
theorem dX8_blank_4 : decode cX8_blank 4 = .ok (.invokevirtual 67, 3) := by decide +kernel
theorem dX8_blank_7 : decode cX8_blank 7 = .ok (.istore_n 1, 1) := by decide +kernel
theorem dX8_blank_8 : decode cX8_blank 8 = .ok (.aload_n 0, 1) := by decide +kernel
theorem dX8_blank_9 : decode cX8_blank 9 = .ok (.getfield 10, 3) := by decide +kernel
theorem dX8_blank_12 : decode cX8_blank 12 = .ok (.invokevirtual 75, 3) := by decide +kernel
theorem dX8_blank_15 : decode cX8_blank 15 = .ok (.iload_n 1, 1) := by decide +kernel
theorem dX8_blank_16 : decode cX8_blank 16 = .ok (.ireturn, 1) := by decide +kernel
theorem dX8_fault_0 : decode cX8_fault 0 = .ok (.iload_n 1, 1) := by decide +kernel
theorem dX8_fault_1 : decode cX8_fault 1 = .ok (.iconst 2, 1) := by decide +kernel
theorem dX8_fault_2 : decode cX8_fault 2 = .ok (.invokestatic 78, 3) := by decide +kernel
theorem dX8_fault_5 : decode cX8_fault 5 = .ok (.ifCond .ne 6, 3) := by decide +kernel
theorem dX8_fault_8 : decode cX8_fault 8 = .ok (.bipush (-102), 2) := by decide +kernel
theorem dX8_fault_10 : decode cX8_fault 10 = .ok (.ireturn, 1) := by decide +kernel
theorem dX8_fault_11 : decode cX8_fault 11 = .ok (.iload_n 1, 1) := by decide +kernel
theorem dX8_fault_12 : decode cX8_fault 12 = .ok (.ifCond .ne 17, 3) := by decide +kernel
theorem dX8_fault_15 : decode cX8_fault 15 = .ok (.aload_n 0, 1) := by decide +kernel
theorem dX8_fault_16 : decode cX8_fault 16 = .ok (.getfield 19, 3) := by decide +kernel
theorem dX8_fault_19 : decode cX8_fault 19 = .ok (.aload_n 0, 1) := by decide +kernel
theorem dX8_fault_20 : decode cX8_fault 20 = .ok (.getfield 10, 3) := by decide +kernel
theorem dX8_fault_23 : decode cX8_fault 23 = .ok (.invokevirtual 82, 3) := by decide +kernel
theorem dX8_fault_26 : decode cX8_fault 26 = .ok (.goto 14, 3) := by decide +kernel
theorem dX8_fault_29 : decode cX8_fault 29 = .ok (.aload_n 0, 1) := by decide +kernel
theorem dX8_fault_30 : decode cX8_fault 30 = .ok (.getfield 26, 3) := by decide +kernel
theorem dX8_fault_33 : decode cX8_fault 33 = .ok (.aload_n 0, 1) := by decide +kernel
theorem dX8_fault_34 : decode cX8_fault 34 = .ok (.getfield 10, 3) := by decide +kernel
theorem dX8_fault_37 : decode cX8_fault 37 = .ok (.invokevirtual 86, 3) := by decide +kernel
theorem dX8_fault_40 : decode cX8_fault 40 = .ok (.ireturn, 1) := by decide +kernel
theorem dX8_frame_0 : decode cX8_frame 0 = .ok (.aload_n 0, 1) := by decide +kernel
theorem dX8_frame_1 : decode cX8_frame 1 = .ok (.getfield 19, 3) := by decide +kernel
theorem dX8_frame_4 : decode cX8_frame 4 = .ok (.aload_n 0, 1) := by decide +kernel
theorem dX8_frame_5 : decode cX8_frame 5 = .ok (.getfield 10, 3) := by decide +kernel
theorem dX8_frame_8 : decode cX8_frame 8 = .ok (.invokevirtual 87, 3) := by decide +kernel
theorem dX8_frame_11 : decode cX8_frame 11 = .ok (.ifCond .ne 6, 3) := by decide +kernel
theorem dX8_frame_14 : decode cX8_frame 14 = .ok (.bipush (-103), 2) := by decide +kernel
theorem dX8_frame_16 : decode cX8_frame 16 = .ok (.ireturn, 1) := by decide +kernel
theorem dX8_frame_17 : decode cX8_frame 17 = .ok (.aload_n 0, 1) := by decide +kernel
theorem dX8_frame_18 : decode cX8_frame 18 = .ok (.getfield 33, 3) := by decide +kernel
theorem dX8_frame_21 : decode cX8_frame 21 = .ok (.aload_n 0, 1) := by decide +kernel
theorem dX8_frame_22 : decode cX8_frame 22 = .ok (.getfield 19, 3) := by decide +kernel
theorem dX8_frame_25 : decode cX8_frame 25 = .ok (.getfield 91, 3) := by decide +kernel
theorem dX8_frame_28 : decode cX8_frame 28 = .ok (.invokevirtual 94, 3) := by decide +kernel
theorem dX8_frame_31 : decode cX8_frame 31 = .ok (.aload_n 0, 1) := by decide +kernel
theorem dX8_frame_32 : decode cX8_frame 32 = .ok (.getfield 47, 3) := by decide +kernel
theorem dX8_frame_35 : decode cX8_frame 35 = .ok (.invokevirtual 98, 3) := by decide +kernel
theorem dX8_frame_38 : decode cX8_frame 38 = .ok (.aload_n 0, 1) := by decide +kernel
theorem dX8_frame_39 : decode cX8_frame 39 = .ok (.getfield 10, 3) := by decide +kernel
theorem dX8_frame_42 : decode cX8_frame 42 = .ok (.invokevirtual 75, 3) := by decide +kernel
theorem dX8_frame_45 : decode cX8_frame 45 = .ok (.aload_n 0, 1) := by decide +kernel
theorem dX8_frame_46 : decode cX8_frame 46 = .ok (.iconst 0, 1) := by decide +kernel
theorem dX8_frame_47 : decode cX8_frame 47 = .ok (.putfield 99, 3) := by decide +kernel
theorem dX8_frame_50 : decode cX8_frame 50 = .ok (.aload_n 0, 1) := by decide +kernel
theorem dX8_frame_51 : decode cX8_frame 51 = .ok (.dup, 1) := by decide +kernel
theorem dX8_frame_52 : decode cX8_frame 52 = .ok (.getfield 103, 3) := by decide +kernel
theorem dX8_frame_55 : decode cX8_frame 55 = .ok (.iconst 1, 1) := by decide +kernel
theorem dX8_frame_56 : decode cX8_frame 56 = .ok (.iadd, 1) := by decide +kernel
theorem dX8_frame_57 : decode cX8_frame 57 = .ok (.putfield 103, 3) := by decide +kernel
theorem dX8_frame_60 : decode cX8_frame 60 = .ok (.aload_n 0, 1) := by decide +kernel
theorem dX8_frame_61 : decode cX8_frame 61 = .ok (.getfield 33, 3) := by decide +kernel
theorem dX8_frame_64 : decode cX8_frame 64 = .ok (.getfield 107, 3) := by decide +kernel
theorem dX8_frame_67 : decode cX8_frame 67 = .ok (.ireturn, 1) := by decide +kernel
theorem dX8_formula_0 : decode cX8_formula 0 = .ok (.aload_n 0, 1) := by decide +kernel
theorem dX8_formula_1 : decode cX8_formula 1 = .ok (.getfield 26, 3) := by decide +kernel
theorem dX8_formula_4 : decode cX8_formula 4 = .ok (.aload_n 0, 1) := by decide +kernel
theorem dX8_formula_5 : decode cX8_formula 5 = .ok (.getfield 10, 3) := by decide +kernel
theorem dX8_formula_8 : decode cX8_formula 8 = .ok (.invokevirtual 110, 3) := by decide +kernel
theorem dX8_formula_11 : decode cX8_formula 11 = .ok (.ifCond .ne 6, 3) := by decide +kernel
theorem dX8_formula_14 : decode cX8_formula 14 = .ok (.bipush (-103), 2) := by decide +kernel
theorem dX8_formula_16 : decode cX8_formula 16 = .ok (.ireturn, 1) := by decide +kernel
theorem dX8_formula_17 : decode cX8_formula 17 = .ok (.aload_n 0, 1) := by decide +kernel
theorem dX8_formula_18 : decode cX8_formula 18 = .ok (.getfield 40, 3) := by decide +kernel
theorem dX8_formula_21 : decode cX8_formula 21 = .ok (.aload_n 0, 1) := by decide +kernel
theorem dX8_formula_22 : decode cX8_formula 22 = .ok (.getfield 10, 3) := by decide +kernel
theorem dX8_formula_25 : decode cX8_formula 25 = .ok (.invokevirtual 111, 3) := by decide +kernel
theorem dX8_formula_28 : decode cX8_formula 28 = .ok (.aload_n 0, 1) := by decide +kernel
theorem dX8_formula_29 : decode cX8_formula 29 = .ok (.getfield 10, 3) := by decide +kernel
theorem dX8_formula_32 : decode cX8_formula 32 = .ok (.invokevirtual 75, 3) := by decide +kernel
theorem dX8_formula_35 : decode cX8_formula 35 = .ok (.aload_n 0, 1) := by decide +kernel
theorem dX8_formula_36 : decode cX8_formula 36 = .ok (.dup, 1) := by decide +kernel
theorem dX8_formula_37 : decode cX8_formula 37 = .ok (.getfield 115, 3) := by decide +kernel
theorem dX8_formula_40 : decode cX8_formula 40 = .ok (.iconst 1, 1) := by decide +kernel
theorem dX8_formula_41 : decode cX8_formula 41 = .ok (.iadd, 1) := by decide +kernel
theorem dX8_formula_42 : decode cX8_formula 42 = .ok (.putfield 115, 3) := by decide +kernel
theorem dX8_formula_45 : decode cX8_formula 45 = .ok (.aload_n 0, 1) := by decide +kernel
theorem dX8_formula_46 : decode cX8_formula 46 = .ok (.getfield 40, 3) := by decide +kernel
theorem dX8_formula_49 : decode cX8_formula 49 = .ok (.invokevirtual 118, 3) := by decide +kernel
theorem dX8_formula_52 : decode cX8_formula 52 = .ok (.ireturn, 1) := by decide +kernel
theorem dX8_about_0 : decode cX8_about 0 = .ok (.iload_n 1, 1) := by decide +kernel
theorem dX8_about_1 : decode cX8_about 1 = .ok (.iconst 5, 1) := by decide +kernel
theorem dX8_about_2 : decode cX8_about 2 = .ok (.invokestatic 78, 3) := by decide +kernel
theorem dX8_about_5 : decode cX8_about 5 = .ok (.ifCond .ne 6, 3) := by decide +kernel
theorem dX8_about_8 : decode cX8_about 8 = .ok (.bipush (-102), 2) := by decide +kernel
theorem dX8_about_10 : decode cX8_about 10 = .ok (.ireturn, 1) := by decide +kernel
theorem dX8_about_11 : decode cX8_about 11 = .ok (.aload_n 0, 1) := by decide +kernel
theorem dX8_about_12 : decode cX8_about 12 = .ok (.invokevirtual 119, 3) := by decide +kernel
theorem dX8_about_15 : decode cX8_about 15 = .ok (.ifCond .ne 6, 3) := by decide +kernel
theorem dX8_about_18 : decode cX8_about 18 = .ok (.bipush (-103), 2) := by decide +kernel
theorem dX8_about_20 : decode cX8_about 20 = .ok (.ireturn, 1) := by decide +kernel
theorem dX8_about_21 : decode cX8_about 21 = .ok (.iload_n 1, 1) := by decide +kernel
theorem dX8_about_22 : decode cX8_about 22 = .ok (.tableswitch 72 0 3 #[30, 38, 46, 54], 30) := by decide +kernel
theorem dX8_about_52 : decode cX8_about 52 = .ok (.aload_n 0, 1) := by decide +kernel
theorem dX8_about_53 : decode cX8_about 53 = .ok (.getfield 33, 3) := by decide +kernel
theorem dX8_about_56 : decode cX8_about 56 = .ok (.getfield 123, 3) := by decide +kernel
theorem dX8_about_59 : decode cX8_about 59 = .ok (.ireturn, 1) := by decide +kernel
theorem dX8_about_60 : decode cX8_about 60 = .ok (.aload_n 0, 1) := by decide +kernel
theorem dX8_about_61 : decode cX8_about 61 = .ok (.getfield 33, 3) := by decide +kernel
theorem dX8_about_64 : decode cX8_about 64 = .ok (.getfield 107, 3) := by decide +kernel
theorem dX8_about_67 : decode cX8_about 67 = .ok (.ireturn, 1) := by decide +kernel
theorem dX8_about_68 : decode cX8_about 68 = .ok (.aload_n 0, 1) := by decide +kernel
theorem dX8_about_69 : decode cX8_about 69 = .ok (.getfield 33, 3) := by decide +kernel
theorem dX8_about_72 : decode cX8_about 72 = .ok (.invokevirtual 126, 3) := by decide +kernel
theorem dX8_about_75 : decode cX8_about 75 = .ok (.ireturn, 1) := by decide +kernel
theorem dX8_about_76 : decode cX8_about 76 = .ok (.aload_n 0, 1) := by decide +kernel
theorem dX8_about_77 : decode cX8_about 77 = .ok (.getfield 33, 3) := by decide +kernel
theorem dX8_about_80 : decode cX8_about 80 = .ok (.aload_n 0, 1) := by decide +kernel
theorem dX8_about_81 : decode cX8_about 81 = .ok (.getfield 33, 3) := by decide +kernel
theorem dX8_about_84 : decode cX8_about 84 = .ok (.getfield 123, 3) := by decide +kernel
theorem dX8_about_87 : decode cX8_about 87 = .ok (.invokevirtual 129, 3) := by decide +kernel
theorem dX8_about_90 : decode cX8_about 90 = .ok (.invokestatic 133, 3) := by decide +kernel
theorem dX8_about_93 : decode cX8_about 93 = .ok (.ireturn, 1) := by decide +kernel
theorem dX8_about_94 : decode cX8_about 94 = .ok (.aload_n 0, 1) := by decide +kernel
theorem dX8_about_95 : decode cX8_about 95 = .ok (.getfield 33, 3) := by decide +kernel
theorem dX8_about_98 : decode cX8_about 98 = .ok (.invokevirtual 137, 3) := by decide +kernel
theorem dX8_about_101 : decode cX8_about 101 = .ok (.ireturn, 1) := by decide +kernel
theorem dX8_as_0 : decode cX8_as 0 = .ok (.iload_n 1, 1) := by decide +kernel
theorem dX8_as_1 : decode cX8_as 1 = .ok (.iconst 5, 1) := by decide +kernel
theorem dX8_as_2 : decode cX8_as 2 = .ok (.invokestatic 78, 3) := by decide +kernel
theorem dX8_as_5 : decode cX8_as 5 = .ok (.ifCond .ne 6, 3) := by decide +kernel
theorem dX8_as_8 : decode cX8_as 8 = .ok (.bipush (-102), 2) := by decide +kernel
theorem dX8_as_10 : decode cX8_as 10 = .ok (.ireturn, 1) := by decide +kernel
theorem dX8_as_11 : decode cX8_as 11 = .ok (.aload_n 0, 1) := by decide +kernel
theorem dX8_as_12 : decode cX8_as 12 = .ok (.invokevirtual 119, 3) := by decide +kernel
theorem dX8_as_15 : decode cX8_as 15 = .ok (.ifCond .ne 6, 3) := by decide +kernel
theorem dX8_as_18 : decode cX8_as 18 = .ok (.bipush (-103), 2) := by decide +kernel
theorem dX8_as_20 : decode cX8_as 20 = .ok (.ireturn, 1) := by decide +kernel
theorem dX8_as_21 : decode cX8_as 21 = .ok (.aload_n 0, 1) := by decide +kernel
theorem dX8_as_22 : decode cX8_as 22 = .ok (.getfield 33, 3) := by decide +kernel
theorem dX8_as_25 : decode cX8_as 25 = .ok (.getfield 123, 3) := by decide +kernel
theorem dX8_as_28 : decode cX8_as 28 = .ok (.iload_n 1, 1) := by decide +kernel
theorem dX8_as_29 : decode cX8_as 29 = .ok (.invokestatic 140, 3) := by decide +kernel
theorem dX8_as_32 : decode cX8_as 32 = .ok (.ifCond .eq 13, 3) := by decide +kernel
theorem dX8_as_35 : decode cX8_as 35 = .ok (.aload_n 0, 1) := by decide +kernel
theorem dX8_as_36 : decode cX8_as 36 = .ok (.getfield 33, 3) := by decide +kernel
theorem dX8_as_39 : decode cX8_as 39 = .ok (.getfield 123, 3) := by decide +kernel
theorem dX8_as_42 : decode cX8_as 42 = .ok (.goto 4, 3) := by decide +kernel
theorem dX8_as_45 : decode cX8_as 45 = .ok (.iconst (-1), 1) := by decide +kernel
theorem dX8_as_46 : decode cX8_as 46 = .ok (.ireturn, 1) := by decide +kernel
theorem dX8_world_0 : decode cX8_world 0 = .ok (.iload_n 1, 1) := by decide +kernel
theorem dX8_world_1 : decode cX8_world 1 = .ok (.aload_n 0, 1) := by decide +kernel
theorem dX8_world_2 : decode cX8_world 2 = .ok (.getfield 33, 3) := by decide +kernel
theorem dX8_world_5 : decode cX8_world 5 = .ok (.getfield 107, 3) := by decide +kernel
theorem dX8_world_8 : decode cX8_world 8 = .ok (.invokestatic 78, 3) := by decide +kernel
theorem dX8_world_11 : decode cX8_world 11 = .ok (.ifCond .ne 6, 3) := by decide +kernel
theorem dX8_world_14 : decode cX8_world 14 = .ok (.bipush (-101), 2) := by decide +kernel
theorem dX8_world_16 : decode cX8_world 16 = .ok (.ireturn, 1) := by decide +kernel
theorem dX8_world_17 : decode cX8_world 17 = .ok (.iload_n 2, 1) := by decide +kernel
theorem dX8_world_18 : decode cX8_world 18 = .ok (.bipush 6, 2) := by decide +kernel
theorem dX8_world_20 : decode cX8_world 20 = .ok (.invokestatic 78, 3) := by decide +kernel
theorem dX8_world_23 : decode cX8_world 23 = .ok (.ifCond .ne 6, 3) := by decide +kernel
theorem dX8_world_26 : decode cX8_world 26 = .ok (.bipush (-102), 2) := by decide +kernel
theorem dX8_world_28 : decode cX8_world 28 = .ok (.ireturn, 1) := by decide +kernel
theorem dX8_world_29 : decode cX8_world 29 = .ok (.iload_n 2, 1) := by decide +kernel
theorem dX8_world_30 : decode cX8_world 30 = .ok (.tableswitch 79 0 4 #[34, 46, 55, 64, 73], 34) := by decide +kernel
theorem dX8_world_64 : decode cX8_world 64 = .ok (.aload_n 0, 1) := by decide +kernel
theorem dX8_world_65 : decode cX8_world 65 = .ok (.getfield 33, 3) := by decide +kernel
theorem dX8_world_68 : decode cX8_world 68 = .ok (.iload_n 1, 1) := by decide +kernel
theorem dX8_world_69 : decode cX8_world 69 = .ok (.invokevirtual 143, 3) := by decide +kernel
theorem dX8_world_72 : decode cX8_world 72 = .ok (.invokestatic 147, 3) := by decide +kernel
theorem dX8_world_75 : decode cX8_world 75 = .ok (.ireturn, 1) := by decide +kernel
theorem dX8_world_76 : decode cX8_world 76 = .ok (.aload_n 0, 1) := by decide +kernel
theorem dX8_world_77 : decode cX8_world 77 = .ok (.getfield 33, 3) := by decide +kernel
theorem dX8_world_80 : decode cX8_world 80 = .ok (.iload_n 1, 1) := by decide +kernel
theorem dX8_world_81 : decode cX8_world 81 = .ok (.invokevirtual 152, 3) := by decide +kernel
theorem dX8_world_84 : decode cX8_world 84 = .ok (.ireturn, 1) := by decide +kernel
theorem dX8_world_85 : decode cX8_world 85 = .ok (.aload_n 0, 1) := by decide +kernel
theorem dX8_world_86 : decode cX8_world 86 = .ok (.getfield 33, 3) := by decide +kernel
theorem dX8_world_89 : decode cX8_world 89 = .ok (.iload_n 1, 1) := by decide +kernel
theorem dX8_world_90 : decode cX8_world 90 = .ok (.invokevirtual 155, 3) := by decide +kernel
theorem dX8_world_93 : decode cX8_world 93 = .ok (.ireturn, 1) := by decide +kernel
theorem dX8_world_94 : decode cX8_world 94 = .ok (.aload_n 0, 1) := by decide +kernel
theorem dX8_world_95 : decode cX8_world 95 = .ok (.getfield 33, 3) := by decide +kernel
theorem dX8_world_98 : decode cX8_world 98 = .ok (.iload_n 1, 1) := by decide +kernel
theorem dX8_world_99 : decode cX8_world 99 = .ok (.invokevirtual 158, 3) := by decide +kernel
theorem dX8_world_102 : decode cX8_world 102 = .ok (.ireturn, 1) := by decide +kernel
theorem dX8_world_103 : decode cX8_world 103 = .ok (.aload_n 0, 1) := by decide +kernel
theorem dX8_world_104 : decode cX8_world 104 = .ok (.iload_n 1, 1) := by decide +kernel
theorem dX8_world_105 : decode cX8_world 105 = .ok (.invokevirtual 161, 3) := by decide +kernel
theorem dX8_world_108 : decode cX8_world 108 = .ok (.ireturn, 1) := by decide +kernel
theorem dX8_world_109 : decode cX8_world 109 = .ok (.aload_n 0, 1) := by decide +kernel
theorem dX8_world_110 : decode cX8_world 110 = .ok (.invokevirtual 164, 3) := by decide +kernel
theorem dX8_world_113 : decode cX8_world 113 = .ok (.ifCond .eq 15, 3) := by decide +kernel
theorem dX8_world_116 : decode cX8_world 116 = .ok (.aload_n 0, 1) := by decide +kernel
theorem dX8_world_117 : decode cX8_world 117 = .ok (.iconst 0, 1) := by decide +kernel
theorem dX8_world_118 : decode cX8_world 118 = .ok (.invokevirtual 167, 3) := by decide +kernel
theorem dX8_world_121 : decode cX8_world 121 = .ok (.iload_n 1, 1) := by decide +kernel
theorem dX8_world_122 : decode cX8_world 122 = .ok (.invokestatic 170, 3) := by decide +kernel
theorem dX8_world_125 : decode cX8_world 125 = .ok (.goto 4, 3) := by decide +kernel
theorem dX8_world_128 : decode cX8_world 128 = .ok (.iconst (-1), 1) := by decide +kernel
theorem dX8_world_129 : decode cX8_world 129 = .ok (.ireturn, 1) := by decide +kernel
theorem dX8_arrow_0 : decode cX8_arrow 0 = .ok (.iload_n 1, 1) := by decide +kernel
theorem dX8_arrow_1 : decode cX8_arrow 1 = .ok (.aload_n 0, 1) := by decide +kernel
theorem dX8_arrow_2 : decode cX8_arrow 2 = .ok (.getfield 33, 3) := by decide +kernel
theorem dX8_arrow_5 : decode cX8_arrow 5 = .ok (.getfield 107, 3) := by decide +kernel
theorem dX8_arrow_8 : decode cX8_arrow 8 = .ok (.invokestatic 78, 3) := by decide +kernel
theorem dX8_arrow_11 : decode cX8_arrow 11 = .ok (.ifCond .eq 17, 3) := by decide +kernel
theorem dX8_arrow_14 : decode cX8_arrow 14 = .ok (.iload_n 2, 1) := by decide +kernel
theorem dX8_arrow_15 : decode cX8_arrow 15 = .ok (.aload_n 0, 1) := by decide +kernel
theorem dX8_arrow_16 : decode cX8_arrow 16 = .ok (.getfield 33, 3) := by decide +kernel
theorem dX8_arrow_19 : decode cX8_arrow 19 = .ok (.getfield 107, 3) := by decide +kernel
theorem dX8_arrow_22 : decode cX8_arrow 22 = .ok (.invokestatic 78, 3) := by decide +kernel
theorem dX8_arrow_25 : decode cX8_arrow 25 = .ok (.ifCond .ne 6, 3) := by decide +kernel
theorem dX8_arrow_28 : decode cX8_arrow 28 = .ok (.bipush (-101), 2) := by decide +kernel
theorem dX8_arrow_30 : decode cX8_arrow 30 = .ok (.ireturn, 1) := by decide +kernel
theorem dX8_arrow_31 : decode cX8_arrow 31 = .ok (.aload_n 0, 1) := by decide +kernel
theorem dX8_arrow_32 : decode cX8_arrow 32 = .ok (.getfield 33, 3) := by decide +kernel
theorem dX8_arrow_35 : decode cX8_arrow 35 = .ok (.iload_n 1, 1) := by decide +kernel
theorem dX8_arrow_36 : decode cX8_arrow 36 = .ok (.iload_n 2, 1) := by decide +kernel
theorem dX8_arrow_37 : decode cX8_arrow 37 = .ok (.invokevirtual 174, 3) := by decide +kernel
theorem dX8_arrow_40 : decode cX8_arrow 40 = .ok (.invokestatic 133, 3) := by decide +kernel
theorem dX8_arrow_43 : decode cX8_arrow 43 = .ok (.ireturn, 1) := by decide +kernel
theorem dX8_part_0 : decode cX8_part 0 = .ok (.iload_n 1, 1) := by decide +kernel
theorem dX8_part_1 : decode cX8_part 1 = .ok (.aload_n 0, 1) := by decide +kernel
theorem dX8_part_2 : decode cX8_part 2 = .ok (.getfield 40, 3) := by decide +kernel
theorem dX8_part_5 : decode cX8_part 5 = .ok (.invokevirtual 118, 3) := by decide +kernel
theorem dX8_part_8 : decode cX8_part 8 = .ok (.invokestatic 78, 3) := by decide +kernel
theorem dX8_part_11 : decode cX8_part 11 = .ok (.ifCond .ne 6, 3) := by decide +kernel
theorem dX8_part_14 : decode cX8_part 14 = .ok (.bipush (-101), 2) := by decide +kernel
theorem dX8_part_16 : decode cX8_part 16 = .ok (.ireturn, 1) := by decide +kernel
theorem dX8_part_17 : decode cX8_part 17 = .ok (.aload_n 0, 1) := by decide +kernel
theorem dX8_part_18 : decode cX8_part 18 = .ok (.invokevirtual 119, 3) := by decide +kernel
theorem dX8_part_21 : decode cX8_part 21 = .ok (.ifCond .ne 6, 3) := by decide +kernel
theorem dX8_part_24 : decode cX8_part 24 = .ok (.bipush (-103), 2) := by decide +kernel
theorem dX8_part_26 : decode cX8_part 26 = .ok (.ireturn, 1) := by decide +kernel
theorem dX8_part_27 : decode cX8_part 27 = .ok (.aload_n 0, 1) := by decide +kernel
theorem dX8_part_28 : decode cX8_part 28 = .ok (.iload_n 1, 1) := by decide +kernel
theorem dX8_part_29 : decode cX8_part 29 = .ok (.invokevirtual 167, 3) := by decide +kernel
theorem dX8_part_32 : decode cX8_part 32 = .ok (.ireturn, 1) := by decide +kernel
theorem dX8_sign_0 : decode cX8_sign 0 = .ok (.iload_n 1, 1) := by decide +kernel
theorem dX8_sign_1 : decode cX8_sign 1 = .ok (.aload_n 0, 1) := by decide +kernel
theorem dX8_sign_2 : decode cX8_sign 2 = .ok (.getfield 40, 3) := by decide +kernel
theorem dX8_sign_5 : decode cX8_sign 5 = .ok (.invokevirtual 118, 3) := by decide +kernel
theorem dX8_sign_8 : decode cX8_sign 8 = .ok (.invokestatic 78, 3) := by decide +kernel
theorem dX8_sign_11 : decode cX8_sign 11 = .ok (.ifCond .ne 6, 3) := by decide +kernel
theorem dX8_sign_14 : decode cX8_sign 14 = .ok (.bipush (-101), 2) := by decide +kernel
theorem dX8_sign_16 : decode cX8_sign 16 = .ok (.ireturn, 1) := by decide +kernel
theorem dX8_sign_17 : decode cX8_sign 17 = .ok (.aload_n 0, 1) := by decide +kernel
theorem dX8_sign_18 : decode cX8_sign 18 = .ok (.getfield 40, 3) := by decide +kernel
theorem dX8_sign_21 : decode cX8_sign 21 = .ok (.iload_n 1, 1) := by decide +kernel
theorem dX8_sign_22 : decode cX8_sign 22 = .ok (.invokevirtual 177, 3) := by decide +kernel
theorem dX8_sign_25 : decode cX8_sign 25 = .ok (.ireturn, 1) := by decide +kernel
theorem dX8_draw_0 : decode cX8_draw 0 = .ok (.iload_n 1, 1) := by decide +kernel
theorem dX8_draw_1 : decode cX8_draw 1 = .ok (.aload_n 0, 1) := by decide +kernel
theorem dX8_draw_2 : decode cX8_draw 2 = .ok (.getfield 33, 3) := by decide +kernel
theorem dX8_draw_5 : decode cX8_draw 5 = .ok (.getfield 107, 3) := by decide +kernel
theorem dX8_draw_8 : decode cX8_draw 8 = .ok (.invokestatic 78, 3) := by decide +kernel
theorem dX8_draw_11 : decode cX8_draw 11 = .ok (.ifCond .eq 17, 3) := by decide +kernel
theorem dX8_draw_14 : decode cX8_draw 14 = .ok (.iload_n 2, 1) := by decide +kernel
theorem dX8_draw_15 : decode cX8_draw 15 = .ok (.aload_n 0, 1) := by decide +kernel
theorem dX8_draw_16 : decode cX8_draw 16 = .ok (.getfield 33, 3) := by decide +kernel
theorem dX8_draw_19 : decode cX8_draw 19 = .ok (.getfield 107, 3) := by decide +kernel
theorem dX8_draw_22 : decode cX8_draw 22 = .ok (.invokestatic 78, 3) := by decide +kernel
theorem dX8_draw_25 : decode cX8_draw 25 = .ok (.ifCond .ne 6, 3) := by decide +kernel
theorem dX8_draw_28 : decode cX8_draw 28 = .ok (.bipush (-101), 2) := by decide +kernel
theorem dX8_draw_30 : decode cX8_draw 30 = .ok (.ireturn, 1) := by decide +kernel
theorem dX8_draw_31 : decode cX8_draw 31 = .ok (.aload_n 0, 1) := by decide +kernel
theorem dX8_draw_32 : decode cX8_draw 32 = .ok (.getfield 33, 3) := by decide +kernel
theorem dX8_draw_35 : decode cX8_draw 35 = .ok (.iload_n 1, 1) := by decide +kernel
theorem dX8_draw_36 : decode cX8_draw 36 = .ok (.iload_n 2, 1) := by decide +kernel
theorem dX8_draw_37 : decode cX8_draw 37 = .ok (.invokevirtual 174, 3) := by decide +kernel
theorem dX8_draw_40 : decode cX8_draw 40 = .ok (.iload_n 3, 1) := by decide +kernel
theorem dX8_draw_41 : decode cX8_draw 41 = .ok (.if_icmp .ne 6, 3) := by decide +kernel
theorem dX8_draw_44 : decode cX8_draw 44 = .ok (.bipush (-103), 2) := by decide +kernel
theorem dX8_draw_46 : decode cX8_draw 46 = .ok (.ireturn, 1) := by decide +kernel
theorem dX8_draw_47 : decode cX8_draw 47 = .ok (.aload_n 0, 1) := by decide +kernel
theorem dX8_draw_48 : decode cX8_draw 48 = .ok (.getfield 33, 3) := by decide +kernel
theorem dX8_draw_51 : decode cX8_draw 51 = .ok (.iload_n 1, 1) := by decide +kernel
theorem dX8_draw_52 : decode cX8_draw 52 = .ok (.iload_n 2, 1) := by decide +kernel
theorem dX8_draw_53 : decode cX8_draw 53 = .ok (.invokevirtual 180, 3) := by decide +kernel
theorem dX8_draw_56 : decode cX8_draw 56 = .ok (.aload_n 0, 1) := by decide +kernel
theorem dX8_draw_57 : decode cX8_draw 57 = .ok (.getfield 33, 3) := by decide +kernel
theorem dX8_draw_60 : decode cX8_draw 60 = .ok (.invokevirtual 126, 3) := by decide +kernel
theorem dX8_draw_63 : decode cX8_draw 63 = .ok (.ireturn, 1) := by decide +kernel
theorem dX8_mark_0 : decode cX8_mark 0 = .ok (.iload_n 1, 1) := by decide +kernel
theorem dX8_mark_1 : decode cX8_mark 1 = .ok (.aload_n 0, 1) := by decide +kernel
theorem dX8_mark_2 : decode cX8_mark 2 = .ok (.getfield 33, 3) := by decide +kernel
theorem dX8_mark_5 : decode cX8_mark 5 = .ok (.getfield 107, 3) := by decide +kernel
theorem dX8_mark_8 : decode cX8_mark 8 = .ok (.invokestatic 78, 3) := by decide +kernel
theorem dX8_mark_11 : decode cX8_mark 11 = .ok (.ifCond .ne 6, 3) := by decide +kernel
theorem dX8_mark_14 : decode cX8_mark 14 = .ok (.bipush (-101), 2) := by decide +kernel
theorem dX8_mark_16 : decode cX8_mark 16 = .ok (.ireturn, 1) := by decide +kernel
theorem dX8_mark_17 : decode cX8_mark 17 = .ok (.iload_n 2, 1) := by decide +kernel
theorem dX8_mark_18 : decode cX8_mark 18 = .ok (.iconst 4, 1) := by decide +kernel
theorem dX8_mark_19 : decode cX8_mark 19 = .ok (.invokestatic 78, 3) := by decide +kernel
theorem dX8_mark_22 : decode cX8_mark 22 = .ok (.ifCond .ne 6, 3) := by decide +kernel
theorem dX8_mark_25 : decode cX8_mark 25 = .ok (.bipush (-102), 2) := by decide +kernel
theorem dX8_mark_27 : decode cX8_mark 27 = .ok (.ireturn, 1) := by decide +kernel
theorem dX8_mark_28 : decode cX8_mark 28 = .ok (.aload_n 0, 1) := by decide +kernel
theorem dX8_mark_29 : decode cX8_mark 29 = .ok (.getfield 33, 3) := by decide +kernel
theorem dX8_mark_32 : decode cX8_mark 32 = .ok (.iload_n 1, 1) := by decide +kernel
theorem dX8_mark_33 : decode cX8_mark 33 = .ok (.invokevirtual 155, 3) := by decide +kernel
theorem dX8_mark_36 : decode cX8_mark 36 = .ok (.istore_n 3, 1) := by decide +kernel
theorem dX8_mark_37 : decode cX8_mark 37 = .ok (.aload_n 0, 1) := by decide +kernel
theorem dX8_mark_38 : decode cX8_mark 38 = .ok (.getfield 33, 3) := by decide +kernel
theorem dX8_mark_41 : decode cX8_mark 41 = .ok (.iload_n 1, 1) := by decide +kernel
theorem dX8_mark_42 : decode cX8_mark 42 = .ok (.iload_n 2, 1) := by decide +kernel
theorem dX8_mark_43 : decode cX8_mark 43 = .ok (.invokevirtual 184, 3) := by decide +kernel
theorem dX8_mark_46 : decode cX8_mark 46 = .ok (.iload_n 3, 1) := by decide +kernel
theorem dX8_mark_47 : decode cX8_mark 47 = .ok (.ireturn, 1) := by decide +kernel
theorem dX8_add_0 : decode cX8_add 0 = .ok (.aload_n 0, 1) := by decide +kernel
theorem dX8_add_1 : decode cX8_add 1 = .ok (.invokevirtual 119, 3) := by decide +kernel
theorem dX8_add_4 : decode cX8_add 4 = .ok (.ifCond .ne 6, 3) := by decide +kernel
theorem dX8_add_7 : decode cX8_add 7 = .ok (.bipush (-103), 2) := by decide +kernel
theorem dX8_add_9 : decode cX8_add 9 = .ok (.ireturn, 1) := by decide +kernel
theorem dX8_add_10 : decode cX8_add 10 = .ok (.aload_n 0, 1) := by decide +kernel
theorem dX8_add_11 : decode cX8_add 11 = .ok (.getfield 33, 3) := by decide +kernel
theorem dX8_add_14 : decode cX8_add 14 = .ok (.getfield 107, 3) := by decide +kernel
theorem dX8_add_17 : decode cX8_add 17 = .ok (.iconst 4, 1) := by decide +kernel
theorem dX8_add_18 : decode cX8_add 18 = .ok (.if_icmp .lt 6, 3) := by decide +kernel
theorem dX8_add_21 : decode cX8_add 21 = .ok (.bipush (-104), 2) := by decide +kernel
theorem dX8_add_23 : decode cX8_add 23 = .ok (.ireturn, 1) := by decide +kernel
theorem dX8_add_24 : decode cX8_add 24 = .ok (.aload_n 0, 1) := by decide +kernel
theorem dX8_add_25 : decode cX8_add 25 = .ok (.getfield 33, 3) := by decide +kernel
theorem dX8_add_28 : decode cX8_add 28 = .ok (.dup, 1) := by decide +kernel
theorem dX8_add_29 : decode cX8_add 29 = .ok (.getfield 107, 3) := by decide +kernel
theorem dX8_add_32 : decode cX8_add 32 = .ok (.iconst 1, 1) := by decide +kernel
theorem dX8_add_33 : decode cX8_add 33 = .ok (.iadd, 1) := by decide +kernel
theorem dX8_add_34 : decode cX8_add 34 = .ok (.putfield 107, 3) := by decide +kernel
theorem dX8_add_37 : decode cX8_add 37 = .ok (.aload_n 0, 1) := by decide +kernel
theorem dX8_add_38 : decode cX8_add 38 = .ok (.getfield 33, 3) := by decide +kernel
theorem dX8_add_41 : decode cX8_add 41 = .ok (.getfield 107, 3) := by decide +kernel
theorem dX8_add_44 : decode cX8_add 44 = .ok (.iconst 1, 1) := by decide +kernel
theorem dX8_add_45 : decode cX8_add 45 = .ok (.isub, 1) := by decide +kernel
theorem dX8_add_46 : decode cX8_add 46 = .ok (.ireturn, 1) := by decide +kernel
theorem dX8_take_0 : decode cX8_take 0 = .ok (.iload_n 1, 1) := by decide +kernel
theorem dX8_take_1 : decode cX8_take 1 = .ok (.aload_n 0, 1) := by decide +kernel
theorem dX8_take_2 : decode cX8_take 2 = .ok (.getfield 33, 3) := by decide +kernel
theorem dX8_take_5 : decode cX8_take 5 = .ok (.getfield 107, 3) := by decide +kernel
theorem dX8_take_8 : decode cX8_take 8 = .ok (.invokestatic 78, 3) := by decide +kernel
theorem dX8_take_11 : decode cX8_take 11 = .ok (.ifCond .ne 6, 3) := by decide +kernel
theorem dX8_take_14 : decode cX8_take 14 = .ok (.bipush (-101), 2) := by decide +kernel
theorem dX8_take_16 : decode cX8_take 16 = .ok (.ireturn, 1) := by decide +kernel
theorem dX8_take_17 : decode cX8_take 17 = .ok (.aload_n 0, 1) := by decide +kernel
theorem dX8_take_18 : decode cX8_take 18 = .ok (.getfield 33, 3) := by decide +kernel
theorem dX8_take_21 : decode cX8_take 21 = .ok (.getfield 107, 3) := by decide +kernel
theorem dX8_take_24 : decode cX8_take 24 = .ok (.iconst 1, 1) := by decide +kernel
theorem dX8_take_25 : decode cX8_take 25 = .ok (.if_icmp .ne 6, 3) := by decide +kernel
theorem dX8_take_28 : decode cX8_take 28 = .ok (.bipush (-103), 2) := by decide +kernel
theorem dX8_take_30 : decode cX8_take 30 = .ok (.ireturn, 1) := by decide +kernel
theorem dX8_take_31 : decode cX8_take 31 = .ok (.aload_n 0, 1) := by decide +kernel
theorem dX8_take_32 : decode cX8_take 32 = .ok (.getfield 33, 3) := by decide +kernel
theorem dX8_take_35 : decode cX8_take 35 = .ok (.iload_n 1, 1) := by decide +kernel
theorem dX8_take_36 : decode cX8_take 36 = .ok (.invokevirtual 187, 3) := by decide +kernel
theorem dX8_take_39 : decode cX8_take 39 = .ok (.aload_n 0, 1) := by decide +kernel
theorem dX8_take_40 : decode cX8_take 40 = .ok (.getfield 33, 3) := by decide +kernel
theorem dX8_take_43 : decode cX8_take 43 = .ok (.getfield 107, 3) := by decide +kernel
theorem dX8_take_46 : decode cX8_take 46 = .ok (.ireturn, 1) := by decide +kernel
theorem dX8_be_0 : decode cX8_be 0 = .ok (.iload_n 1, 1) := by decide +kernel
theorem dX8_be_1 : decode cX8_be 1 = .ok (.iconst 5, 1) := by decide +kernel
theorem dX8_be_2 : decode cX8_be 2 = .ok (.invokestatic 78, 3) := by decide +kernel
theorem dX8_be_5 : decode cX8_be 5 = .ok (.ifCond .ne 6, 3) := by decide +kernel
theorem dX8_be_8 : decode cX8_be 8 = .ok (.bipush (-102), 2) := by decide +kernel
theorem dX8_be_10 : decode cX8_be 10 = .ok (.ireturn, 1) := by decide +kernel
theorem dX8_be_11 : decode cX8_be 11 = .ok (.aload_n 0, 1) := by decide +kernel
theorem dX8_be_12 : decode cX8_be 12 = .ok (.invokevirtual 119, 3) := by decide +kernel
theorem dX8_be_15 : decode cX8_be 15 = .ok (.ifCond .ne 6, 3) := by decide +kernel
theorem dX8_be_18 : decode cX8_be 18 = .ok (.bipush (-103), 2) := by decide +kernel
theorem dX8_be_20 : decode cX8_be 20 = .ok (.ireturn, 1) := by decide +kernel
theorem dX8_be_21 : decode cX8_be 21 = .ok (.aload_n 0, 1) := by decide +kernel
theorem dX8_be_22 : decode cX8_be 22 = .ok (.getfield 33, 3) := by decide +kernel
theorem dX8_be_25 : decode cX8_be 25 = .ok (.getfield 123, 3) := by decide +kernel
theorem dX8_be_28 : decode cX8_be 28 = .ok (.istore_n 2, 1) := by decide +kernel
theorem dX8_be_29 : decode cX8_be 29 = .ok (.aload_n 0, 1) := by decide +kernel
theorem dX8_be_30 : decode cX8_be 30 = .ok (.getfield 33, 3) := by decide +kernel
theorem dX8_be_33 : decode cX8_be 33 = .ok (.iload_n 1, 1) := by decide +kernel
theorem dX8_be_34 : decode cX8_be 34 = .ok (.putfield 123, 3) := by decide +kernel
theorem dX8_be_37 : decode cX8_be 37 = .ok (.iload_n 2, 1) := by decide +kernel
theorem dX8_be_38 : decode cX8_be 38 = .ok (.ireturn, 1) := by decide +kernel
theorem dX8_close_0 : decode cX8_close 0 = .ok (.aload_n 0, 1) := by decide +kernel
theorem dX8_close_1 : decode cX8_close 1 = .ok (.invokevirtual 119, 3) := by decide +kernel
theorem dX8_close_4 : decode cX8_close 4 = .ok (.ifCond .ne 6, 3) := by decide +kernel
theorem dX8_close_7 : decode cX8_close 7 = .ok (.bipush (-103), 2) := by decide +kernel
theorem dX8_close_9 : decode cX8_close 9 = .ok (.ireturn, 1) := by decide +kernel
theorem dX8_close_10 : decode cX8_close 10 = .ok (.aload_n 0, 1) := by decide +kernel
theorem dX8_close_11 : decode cX8_close 11 = .ok (.getfield 33, 3) := by decide +kernel
theorem dX8_close_14 : decode cX8_close 14 = .ok (.invokevirtual 126, 3) := by decide +kernel
theorem dX8_close_17 : decode cX8_close 17 = .ok (.istore_n 1, 1) := by decide +kernel
theorem dX8_close_18 : decode cX8_close 18 = .ok (.aload_n 0, 1) := by decide +kernel
theorem dX8_close_19 : decode cX8_close 19 = .ok (.getfield 33, 3) := by decide +kernel
theorem dX8_close_22 : decode cX8_close 22 = .ok (.invokevirtual 190, 3) := by decide +kernel
theorem dX8_close_25 : decode cX8_close 25 = .ok (.aload_n 0, 1) := by decide +kernel
theorem dX8_close_26 : decode cX8_close 26 = .ok (.getfield 33, 3) := by decide +kernel
theorem dX8_close_29 : decode cX8_close 29 = .ok (.invokevirtual 126, 3) := by decide +kernel
theorem dX8_close_32 : decode cX8_close 32 = .ok (.iload_n 1, 1) := by decide +kernel
theorem dX8_close_33 : decode cX8_close 33 = .ok (.isub, 1) := by decide +kernel
theorem dX8_close_34 : decode cX8_close 34 = .ok (.ireturn, 1) := by decide +kernel
theorem dX8_shrink_0 : decode cX8_shrink 0 = .ok (.aload_n 0, 1) := by decide +kernel
theorem dX8_shrink_1 : decode cX8_shrink 1 = .ok (.invokevirtual 119, 3) := by decide +kernel
theorem dX8_shrink_4 : decode cX8_shrink 4 = .ok (.ifCond .ne 6, 3) := by decide +kernel
theorem dX8_shrink_7 : decode cX8_shrink 7 = .ok (.bipush (-103), 2) := by decide +kernel
theorem dX8_shrink_9 : decode cX8_shrink 9 = .ok (.ireturn, 1) := by decide +kernel
theorem dX8_shrink_10 : decode cX8_shrink 10 = .ok (.aload_n 0, 1) := by decide +kernel
theorem dX8_shrink_11 : decode cX8_shrink 11 = .ok (.getfield 33, 3) := by decide +kernel
theorem dX8_shrink_14 : decode cX8_shrink 14 = .ok (.invokevirtual 193, 3) := by decide +kernel
theorem dX8_shrink_17 : decode cX8_shrink 17 = .ok (.aload_n 0, 1) := by decide +kernel
theorem dX8_shrink_18 : decode cX8_shrink 18 = .ok (.getfield 33, 3) := by decide +kernel
theorem dX8_shrink_21 : decode cX8_shrink 21 = .ok (.getfield 107, 3) := by decide +kernel
theorem dX8_shrink_24 : decode cX8_shrink 24 = .ok (.ireturn, 1) := by decide +kernel
theorem dX8_valid_0 : decode cX8_valid 0 = .ok (.aload_n 0, 1) := by decide +kernel
theorem dX8_valid_1 : decode cX8_valid 1 = .ok (.invokevirtual 119, 3) := by decide +kernel
theorem dX8_valid_4 : decode cX8_valid 4 = .ok (.ifCond .eq 10, 3) := by decide +kernel
theorem dX8_valid_7 : decode cX8_valid 7 = .ok (.aload_n 0, 1) := by decide +kernel
theorem dX8_valid_8 : decode cX8_valid 8 = .ok (.invokevirtual 164, 3) := by decide +kernel
theorem dX8_valid_11 : decode cX8_valid 11 = .ok (.ifCond .ne 6, 3) := by decide +kernel
theorem dX8_valid_14 : decode cX8_valid 14 = .ok (.bipush (-103), 2) := by decide +kernel
theorem dX8_valid_16 : decode cX8_valid 16 = .ok (.ireturn, 1) := by decide +kernel
theorem dX8_valid_17 : decode cX8_valid 17 = .ok (.aload_n 0, 1) := by decide +kernel
theorem dX8_valid_18 : decode cX8_valid 18 = .ok (.getfield 63, 3) := by decide +kernel
theorem dX8_valid_21 : decode cX8_valid 21 = .ok (.aload_n 0, 1) := by decide +kernel
theorem dX8_valid_22 : decode cX8_valid 22 = .ok (.getfield 40, 3) := by decide +kernel
theorem dX8_valid_25 : decode cX8_valid 25 = .ok (.aload_n 0, 1) := by decide +kernel
theorem dX8_valid_26 : decode cX8_valid 26 = .ok (.getfield 33, 3) := by decide +kernel
theorem dX8_valid_29 : decode cX8_valid 29 = .ok (.invokevirtual 196, 3) := by decide +kernel
theorem dX8_valid_32 : decode cX8_valid 32 = .ok (.invokestatic 133, 3) := by decide +kernel
theorem dX8_valid_35 : decode cX8_valid 35 = .ok (.ireturn, 1) := by decide +kernel
theorem dX8_fail_0 : decode cX8_fail 0 = .ok (.iload_n 1, 1) := by decide +kernel
theorem dX8_fail_1 : decode cX8_fail 1 = .ok (.iconst 1, 1) := by decide +kernel
theorem dX8_fail_2 : decode cX8_fail 2 = .ok (.if_icmp .lt 16, 3) := by decide +kernel
theorem dX8_fail_5 : decode cX8_fail 5 = .ok (.iload_n 1, 1) := by decide +kernel
theorem dX8_fail_6 : decode cX8_fail 6 = .ok (.iconst 3, 1) := by decide +kernel
theorem dX8_fail_7 : decode cX8_fail 7 = .ok (.if_icmp .gt 11, 3) := by decide +kernel
theorem dX8_fail_10 : decode cX8_fail 10 = .ok (.iload_n 2, 1) := by decide +kernel
theorem dX8_fail_11 : decode cX8_fail 11 = .ok (.iconst 3, 1) := by decide +kernel
theorem dX8_fail_12 : decode cX8_fail 12 = .ok (.invokestatic 78, 3) := by decide +kernel
theorem dX8_fail_15 : decode cX8_fail 15 = .ok (.ifCond .ne 6, 3) := by decide +kernel
theorem dX8_fail_18 : decode cX8_fail 18 = .ok (.bipush (-102), 2) := by decide +kernel
theorem dX8_fail_20 : decode cX8_fail 20 = .ok (.ireturn, 1) := by decide +kernel
theorem dX8_fail_21 : decode cX8_fail 21 = .ok (.aload_n 0, 1) := by decide +kernel
theorem dX8_fail_22 : decode cX8_fail 22 = .ok (.invokevirtual 119, 3) := by decide +kernel
theorem dX8_fail_25 : decode cX8_fail 25 = .ok (.ifCond .eq 19, 3) := by decide +kernel
theorem dX8_fail_28 : decode cX8_fail 28 = .ok (.aload_n 0, 1) := by decide +kernel
theorem dX8_fail_29 : decode cX8_fail 29 = .ok (.invokevirtual 164, 3) := by decide +kernel
theorem dX8_fail_32 : decode cX8_fail 32 = .ok (.ifCond .eq 12, 3) := by decide +kernel
theorem dX8_fail_35 : decode cX8_fail 35 = .ok (.aload_n 0, 1) := by decide +kernel
theorem dX8_fail_36 : decode cX8_fail 36 = .ok (.getfield 200, 3) := by decide +kernel
theorem dX8_fail_39 : decode cX8_fail 39 = .ok (.bipush 12, 2) := by decide +kernel
theorem dX8_fail_41 : decode cX8_fail 41 = .ok (.if_icmp .lt 6, 3) := by decide +kernel
theorem dX8_fail_44 : decode cX8_fail 44 = .ok (.bipush (-103), 2) := by decide +kernel
theorem dX8_fail_46 : decode cX8_fail 46 = .ok (.ireturn, 1) := by decide +kernel
theorem dX8_fail_47 : decode cX8_fail 47 = .ok (.aload_n 0, 1) := by decide +kernel
theorem dX8_fail_48 : decode cX8_fail 48 = .ok (.dup, 1) := by decide +kernel
theorem dX8_fail_49 : decode cX8_fail 49 = .ok (.getfield 200, 3) := by decide +kernel
theorem dX8_fail_52 : decode cX8_fail 52 = .ok (.iconst 1, 1) := by decide +kernel
theorem dX8_fail_53 : decode cX8_fail 53 = .ok (.iadd, 1) := by decide +kernel
theorem dX8_fail_54 : decode cX8_fail 54 = .ok (.putfield 200, 3) := by decide +kernel
theorem dX8_fail_57 : decode cX8_fail 57 = .ok (.aload_n 0, 1) := by decide +kernel
theorem dX8_fail_58 : decode cX8_fail 58 = .ok (.iload_n 1, 1) := by decide +kernel
theorem dX8_fail_59 : decode cX8_fail 59 = .ok (.invokevirtual 203, 3) := by decide +kernel
theorem dX8_fail_62 : decode cX8_fail 62 = .ok (.istore_n 3, 1) := by decide +kernel
theorem dX8_fail_63 : decode cX8_fail 63 = .ok (.iload_n 3, 1) := by decide +kernel
theorem dX8_fail_64 : decode cX8_fail 64 = .ok (.iconst (-1), 1) := by decide +kernel
theorem dX8_fail_65 : decode cX8_fail 65 = .ok (.if_icmp .eq 7, 3) := by decide +kernel
theorem dX8_fail_68 : decode cX8_fail 68 = .ok (.iload_n 2, 1) := by decide +kernel
theorem dX8_fail_69 : decode cX8_fail 69 = .ok (.ifCond .ne 5, 3) := by decide +kernel
theorem dX8_fail_72 : decode cX8_fail 72 = .ok (.iload_n 3, 1) := by decide +kernel
theorem dX8_fail_73 : decode cX8_fail 73 = .ok (.ireturn, 1) := by decide +kernel
theorem dX8_fail_74 : decode cX8_fail 74 = .ok (.aload_n 0, 1) := by decide +kernel
theorem dX8_fail_75 : decode cX8_fail 75 = .ok (.getfield 63, 3) := by decide +kernel
theorem dX8_fail_78 : decode cX8_fail 78 = .ok (.iload_n 1, 1) := by decide +kernel
theorem dX8_fail_79 : decode cX8_fail 79 = .ok (.invokevirtual 206, 3) := by decide +kernel
theorem dX8_fail_82 : decode cX8_fail 82 = .ok (.invokestatic 210, 3) := by decide +kernel
theorem dX8_fail_85 : decode cX8_fail 85 = .ok (.istore 4, 2) := by decide +kernel
theorem dX8_fail_87 : decode cX8_fail 87 = .ok (.iload_n 2, 1) := by decide +kernel
theorem dX8_fail_88 : decode cX8_fail 88 = .ok (.iconst 1, 1) := by decide +kernel
theorem dX8_fail_89 : decode cX8_fail 89 = .ok (.if_icmp .ne 8, 3) := by decide +kernel
theorem dX8_fail_92 : decode cX8_fail 92 = .ok (.iload 4, 2) := by decide +kernel
theorem dX8_fail_94 : decode cX8_fail 94 = .ok (.goto 13, 3) := by decide +kernel
theorem dX8_fail_97 : decode cX8_fail 97 = .ok (.aload_n 0, 1) := by decide +kernel
theorem dX8_fail_98 : decode cX8_fail 98 = .ok (.getfield 63, 3) := by decide +kernel
theorem dX8_fail_101 : decode cX8_fail 101 = .ok (.iload 4, 2) := by decide +kernel
theorem dX8_fail_103 : decode cX8_fail 103 = .ok (.iload_n 1, 1) := by decide +kernel
theorem dX8_fail_104 : decode cX8_fail 104 = .ok (.invokevirtual 214, 3) := by decide +kernel
theorem dX8_fail_107 : decode cX8_fail 107 = .ok (.ireturn, 1) := by decide +kernel
theorem dX8_tells_0 : decode cX8_tells 0 = .ok (.iload_n 1, 1) := by decide +kernel
theorem dX8_tells_1 : decode cX8_tells 1 = .ok (.iconst 5, 1) := by decide +kernel
theorem dX8_tells_2 : decode cX8_tells 2 = .ok (.invokestatic 78, 3) := by decide +kernel
theorem dX8_tells_5 : decode cX8_tells 5 = .ok (.ifCond .ne 6, 3) := by decide +kernel
theorem dX8_tells_8 : decode cX8_tells 8 = .ok (.bipush (-102), 2) := by decide +kernel
theorem dX8_tells_10 : decode cX8_tells 10 = .ok (.ireturn, 1) := by decide +kernel
theorem dX8_tells_11 : decode cX8_tells 11 = .ok (.aload_n 0, 1) := by decide +kernel
theorem dX8_tells_12 : decode cX8_tells 12 = .ok (.invokevirtual 164, 3) := by decide +kernel
theorem dX8_tells_15 : decode cX8_tells 15 = .ok (.ifCond .eq 12, 3) := by decide +kernel
theorem dX8_tells_18 : decode cX8_tells 18 = .ok (.aload_n 0, 1) := by decide +kernel
theorem dX8_tells_19 : decode cX8_tells 19 = .ok (.getfield 217, 3) := by decide +kernel
theorem dX8_tells_22 : decode cX8_tells 22 = .ok (.bipush 12, 2) := by decide +kernel
theorem dX8_tells_24 : decode cX8_tells 24 = .ok (.if_icmp .lt 6, 3) := by decide +kernel
theorem dX8_tells_27 : decode cX8_tells 27 = .ok (.bipush (-103), 2) := by decide +kernel
theorem dX8_tells_29 : decode cX8_tells 29 = .ok (.ireturn, 1) := by decide +kernel
theorem dX8_tells_30 : decode cX8_tells 30 = .ok (.aload_n 0, 1) := by decide +kernel
theorem dX8_tells_31 : decode cX8_tells 31 = .ok (.dup, 1) := by decide +kernel
theorem dX8_tells_32 : decode cX8_tells 32 = .ok (.getfield 217, 3) := by decide +kernel
theorem dX8_tells_35 : decode cX8_tells 35 = .ok (.iconst 1, 1) := by decide +kernel
theorem dX8_tells_36 : decode cX8_tells 36 = .ok (.iadd, 1) := by decide +kernel
theorem dX8_tells_37 : decode cX8_tells 37 = .ok (.putfield 217, 3) := by decide +kernel
theorem dX8_tells_40 : decode cX8_tells 40 = .ok (.aload_n 0, 1) := by decide +kernel
theorem dX8_tells_41 : decode cX8_tells 41 = .ok (.iload_n 1, 1) := by decide +kernel
theorem dX8_tells_42 : decode cX8_tells 42 = .ok (.invokevirtual 220, 3) := by decide +kernel
theorem dX8_tells_45 : decode cX8_tells 45 = .ok (.invokestatic 133, 3) := by decide +kernel
theorem dX8_tells_48 : decode cX8_tells 48 = .ok (.ireturn, 1) := by decide +kernel
theorem dX8_keeps_0 : decode cX8_keeps 0 = .ok (.iload_n 1, 1) := by decide +kernel
theorem dX8_keeps_1 : decode cX8_keeps 1 = .ok (.iconst 5, 1) := by decide +kernel
theorem dX8_keeps_2 : decode cX8_keeps 2 = .ok (.invokestatic 78, 3) := by decide +kernel
theorem dX8_keeps_5 : decode cX8_keeps 5 = .ok (.ifCond .ne 6, 3) := by decide +kernel
theorem dX8_keeps_8 : decode cX8_keeps 8 = .ok (.bipush (-102), 2) := by decide +kernel
theorem dX8_keeps_10 : decode cX8_keeps 10 = .ok (.ireturn, 1) := by decide +kernel
theorem dX8_keeps_11 : decode cX8_keeps 11 = .ok (.aload_n 0, 1) := by decide +kernel
theorem dX8_keeps_12 : decode cX8_keeps 12 = .ok (.invokevirtual 119, 3) := by decide +kernel
theorem dX8_keeps_15 : decode cX8_keeps 15 = .ok (.ifCond .ne 6, 3) := by decide +kernel
theorem dX8_keeps_18 : decode cX8_keeps 18 = .ok (.bipush (-103), 2) := by decide +kernel
theorem dX8_keeps_20 : decode cX8_keeps 20 = .ok (.ireturn, 1) := by decide +kernel
theorem dX8_keeps_21 : decode cX8_keeps 21 = .ok (.aload_n 0, 1) := by decide +kernel
theorem dX8_keeps_22 : decode cX8_keeps 22 = .ok (.getfield 33, 3) := by decide +kernel
theorem dX8_keeps_25 : decode cX8_keeps 25 = .ok (.iload_n 1, 1) := by decide +kernel
theorem dX8_keeps_26 : decode cX8_keeps 26 = .ok (.invokevirtual 223, 3) := by decide +kernel
theorem dX8_keeps_29 : decode cX8_keeps 29 = .ok (.invokestatic 133, 3) := by decide +kernel
theorem dX8_keeps_32 : decode cX8_keeps 32 = .ok (.ireturn, 1) := by decide +kernel
theorem dX8_see_0 : decode cX8_see 0 = .ok (.iload_n 1, 1) := by decide +kernel
theorem dX8_see_1 : decode cX8_see 1 = .ok (.iconst 4, 1) := by decide +kernel
theorem dX8_see_2 : decode cX8_see 2 = .ok (.invokestatic 78, 3) := by decide +kernel
theorem dX8_see_5 : decode cX8_see 5 = .ok (.ifCond .ne 6, 3) := by decide +kernel
theorem dX8_see_8 : decode cX8_see 8 = .ok (.bipush (-102), 2) := by decide +kernel
theorem dX8_see_10 : decode cX8_see 10 = .ok (.ireturn, 1) := by decide +kernel
theorem dX8_see_11 : decode cX8_see 11 = .ok (.aload_n 0, 1) := by decide +kernel
theorem dX8_see_12 : decode cX8_see 12 = .ok (.invokevirtual 119, 3) := by decide +kernel
theorem dX8_see_15 : decode cX8_see 15 = .ok (.ifCond .ne 6, 3) := by decide +kernel
theorem dX8_see_18 : decode cX8_see 18 = .ok (.bipush (-103), 2) := by decide +kernel
theorem dX8_see_20 : decode cX8_see 20 = .ok (.ireturn, 1) := by decide +kernel
theorem dX8_see_21 : decode cX8_see 21 = .ok (.aload_n 0, 1) := by decide +kernel
theorem dX8_see_22 : decode cX8_see 22 = .ok (.getfield 47, 3) := by decide +kernel
theorem dX8_see_25 : decode cX8_see 25 = .ok (.getfield 226, 3) := by decide +kernel
theorem dX8_see_28 : decode cX8_see 28 = .ok (.bipush 6, 2) := by decide +kernel
theorem dX8_see_30 : decode cX8_see 30 = .ok (.if_icmp .lt 6, 3) := by decide +kernel
theorem dX8_see_33 : decode cX8_see 33 = .ok (.bipush (-104), 2) := by decide +kernel
theorem dX8_see_35 : decode cX8_see 35 = .ok (.ireturn, 1) := by decide +kernel
theorem dX8_see_36 : decode cX8_see 36 = .ok (.aload_n 0, 1) := by decide +kernel
theorem dX8_see_37 : decode cX8_see 37 = .ok (.getfield 47, 3) := by decide +kernel
theorem dX8_see_40 : decode cX8_see 40 = .ok (.iload_n 1, 1) := by decide +kernel
theorem dX8_see_41 : decode cX8_see 41 = .ok (.iload_n 2, 1) := by decide +kernel
theorem dX8_see_42 : decode cX8_see 42 = .ok (.invokevirtual 229, 3) := by decide +kernel
theorem dX8_see_45 : decode cX8_see 45 = .ok (.aload_n 0, 1) := by decide +kernel
theorem dX8_see_46 : decode cX8_see 46 = .ok (.getfield 47, 3) := by decide +kernel
theorem dX8_see_49 : decode cX8_see 49 = .ok (.getfield 226, 3) := by decide +kernel
theorem dX8_see_52 : decode cX8_see 52 = .ok (.ireturn, 1) := by decide +kernel
theorem dX8_forget_0 : decode cX8_forget 0 = .ok (.aload_n 0, 1) := by decide +kernel
theorem dX8_forget_1 : decode cX8_forget 1 = .ok (.getfield 47, 3) := by decide +kernel
theorem dX8_forget_4 : decode cX8_forget 4 = .ok (.getfield 226, 3) := by decide +kernel
theorem dX8_forget_7 : decode cX8_forget 7 = .ok (.istore_n 1, 1) := by decide +kernel
theorem dX8_forget_8 : decode cX8_forget 8 = .ok (.aload_n 0, 1) := by decide +kernel
theorem dX8_forget_9 : decode cX8_forget 9 = .ok (.getfield 47, 3) := by decide +kernel
theorem dX8_forget_12 : decode cX8_forget 12 = .ok (.invokevirtual 98, 3) := by decide +kernel
theorem dX8_forget_15 : decode cX8_forget 15 = .ok (.iload_n 1, 1) := by decide +kernel
theorem dX8_forget_16 : decode cX8_forget 16 = .ok (.ireturn, 1) := by decide +kernel
theorem dX8_sorts_0 : decode cX8_sorts 0 = .ok (.iload_n 1, 1) := by decide +kernel
theorem dX8_sorts_1 : decode cX8_sorts 1 = .ok (.iconst 2, 1) := by decide +kernel
theorem dX8_sorts_2 : decode cX8_sorts 2 = .ok (.invokestatic 78, 3) := by decide +kernel
theorem dX8_sorts_5 : decode cX8_sorts 5 = .ok (.ifCond .ne 6, 3) := by decide +kernel
theorem dX8_sorts_8 : decode cX8_sorts 8 = .ok (.bipush (-102), 2) := by decide +kernel
theorem dX8_sorts_10 : decode cX8_sorts 10 = .ok (.ireturn, 1) := by decide +kernel
theorem dX8_sorts_11 : decode cX8_sorts 11 = .ok (.iload_n 1, 1) := by decide +kernel
theorem dX8_sorts_12 : decode cX8_sorts 12 = .ok (.ifCond .ne 13, 3) := by decide +kernel
theorem dX8_sorts_15 : decode cX8_sorts 15 = .ok (.aload_n 0, 1) := by decide +kernel
theorem dX8_sorts_16 : decode cX8_sorts 16 = .ok (.getfield 47, 3) := by decide +kernel
theorem dX8_sorts_19 : decode cX8_sorts 19 = .ok (.getfield 233, 3) := by decide +kernel
theorem dX8_sorts_22 : decode cX8_sorts 22 = .ok (.goto 10, 3) := by decide +kernel
theorem dX8_sorts_25 : decode cX8_sorts 25 = .ok (.aload_n 0, 1) := by decide +kernel
theorem dX8_sorts_26 : decode cX8_sorts 26 = .ok (.getfield 47, 3) := by decide +kernel
theorem dX8_sorts_29 : decode cX8_sorts 29 = .ok (.invokevirtual 236, 3) := by decide +kernel
theorem dX8_sorts_32 : decode cX8_sorts 32 = .ok (.ireturn, 1) := by decide +kernel
theorem dX8_drawn_0 : decode cX8_drawn 0 = .ok (.iload_n 1, 1) := by decide +kernel
theorem dX8_drawn_1 : decode cX8_drawn 1 = .ok (.iconst 1, 1) := by decide +kernel
theorem dX8_drawn_2 : decode cX8_drawn 2 = .ok (.if_icmp .lt 21, 3) := by decide +kernel
theorem dX8_drawn_5 : decode cX8_drawn 5 = .ok (.iload_n 1, 1) := by decide +kernel
theorem dX8_drawn_6 : decode cX8_drawn 6 = .ok (.bipush 60, 2) := by decide +kernel
theorem dX8_drawn_8 : decode cX8_drawn 8 = .ok (.if_icmp .gt 15, 3) := by decide +kernel
theorem dX8_drawn_11 : decode cX8_drawn 11 = .ok (.iload_n 2, 1) := by decide +kernel
theorem dX8_drawn_12 : decode cX8_drawn 12 = .ok (.ifCond .lt 11, 3) := by decide +kernel
theorem dX8_drawn_15 : decode cX8_drawn 15 = .ok (.iload_n 3, 1) := by decide +kernel
theorem dX8_drawn_16 : decode cX8_drawn 16 = .ok (.iconst 3, 1) := by decide +kernel
theorem dX8_drawn_17 : decode cX8_drawn 17 = .ok (.invokestatic 78, 3) := by decide +kernel
theorem dX8_drawn_20 : decode cX8_drawn 20 = .ok (.ifCond .ne 6, 3) := by decide +kernel
theorem dX8_drawn_23 : decode cX8_drawn 23 = .ok (.bipush (-102), 2) := by decide +kernel
theorem dX8_drawn_25 : decode cX8_drawn 25 = .ok (.ireturn, 1) := by decide +kernel
theorem dX8_drawn_26 : decode cX8_drawn 26 = .ok (.aload_n 0, 1) := by decide +kernel
theorem dX8_drawn_27 : decode cX8_drawn 27 = .ok (.invokevirtual 119, 3) := by decide +kernel
theorem dX8_drawn_30 : decode cX8_drawn 30 = .ok (.ifCond .eq 10, 3) := by decide +kernel
theorem dX8_drawn_33 : decode cX8_drawn 33 = .ok (.aload_n 0, 1) := by decide +kernel
theorem dX8_drawn_34 : decode cX8_drawn 34 = .ok (.invokevirtual 164, 3) := by decide +kernel
theorem dX8_drawn_37 : decode cX8_drawn 37 = .ok (.ifCond .ne 6, 3) := by decide +kernel
theorem dX8_drawn_40 : decode cX8_drawn 40 = .ok (.bipush (-103), 2) := by decide +kernel
theorem dX8_drawn_42 : decode cX8_drawn 42 = .ok (.ireturn, 1) := by decide +kernel
theorem dX8_drawn_43 : decode cX8_drawn 43 = .ok (.aload_n 0, 1) := by decide +kernel
theorem dX8_drawn_44 : decode cX8_drawn 44 = .ok (.getfield 63, 3) := by decide +kernel
theorem dX8_drawn_47 : decode cX8_drawn 47 = .ok (.iload_n 1, 1) := by decide +kernel
theorem dX8_drawn_48 : decode cX8_drawn 48 = .ok (.iload_n 2, 1) := by decide +kernel
theorem dX8_drawn_49 : decode cX8_drawn 49 = .ok (.aload_n 0, 1) := by decide +kernel
theorem dX8_drawn_50 : decode cX8_drawn 50 = .ok (.getfield 33, 3) := by decide +kernel
theorem dX8_drawn_53 : decode cX8_drawn 53 = .ok (.getfield 107, 3) := by decide +kernel
theorem dX8_drawn_56 : decode cX8_drawn 56 = .ok (.invokevirtual 239, 3) := by decide +kernel
theorem dX8_drawn_59 : decode cX8_drawn 59 = .ok (.istore 4, 2) := by decide +kernel
theorem dX8_drawn_61 : decode cX8_drawn 61 = .ok (.iload_n 3, 1) := by decide +kernel
theorem dX8_drawn_62 : decode cX8_drawn 62 = .ok (.iconst 2, 1) := by decide +kernel
theorem dX8_drawn_63 : decode cX8_drawn 63 = .ok (.if_icmp .ne 6, 3) := by decide +kernel
theorem dX8_drawn_66 : decode cX8_drawn 66 = .ok (.iload 4, 2) := by decide +kernel
theorem dX8_drawn_68 : decode cX8_drawn 68 = .ok (.ireturn, 1) := by decide +kernel
theorem dX8_drawn_69 : decode cX8_drawn 69 = .ok (.aload_n 0, 1) := by decide +kernel
theorem dX8_drawn_70 : decode cX8_drawn 70 = .ok (.getfield 63, 3) := by decide +kernel
theorem dX8_drawn_73 : decode cX8_drawn 73 = .ok (.aload_n 0, 1) := by decide +kernel
theorem dX8_drawn_74 : decode cX8_drawn 74 = .ok (.getfield 40, 3) := by decide +kernel
theorem dX8_drawn_77 : decode cX8_drawn 77 = .ok (.aload_n 0, 1) := by decide +kernel
theorem dX8_drawn_78 : decode cX8_drawn 78 = .ok (.getfield 33, 3) := by decide +kernel
theorem dX8_drawn_81 : decode cX8_drawn 81 = .ok (.invokevirtual 243, 3) := by decide +kernel
theorem dX8_drawn_84 : decode cX8_drawn 84 = .ok (.lconst 1, 1) := by decide +kernel
theorem dX8_drawn_85 : decode cX8_drawn 85 = .ok (.iload_n 1, 1) := by decide +kernel
theorem dX8_drawn_86 : decode cX8_drawn 86 = .ok (.lshl, 1) := by decide +kernel
theorem dX8_drawn_87 : decode cX8_drawn 87 = .ok (.lconst 1, 1) := by decide +kernel
theorem dX8_drawn_88 : decode cX8_drawn 88 = .ok (.lsub, 1) := by decide +kernel
theorem dX8_drawn_89 : decode cX8_drawn 89 = .ok (.lstore 5, 2) := by decide +kernel
theorem dX8_drawn_91 : decode cX8_drawn 91 = .ok (.iload_n 3, 1) := by decide +kernel
theorem dX8_drawn_92 : decode cX8_drawn 92 = .ok (.iconst 1, 1) := by decide +kernel
theorem dX8_drawn_93 : decode cX8_drawn 93 = .ok (.if_icmp .ne 28, 3) := by decide +kernel
theorem dX8_drawn_96 : decode cX8_drawn 96 = .ok (.lload 5, 2) := by decide +kernel
theorem dX8_drawn_98 : decode cX8_drawn 98 = .ok (.aload_n 0, 1) := by decide +kernel
theorem dX8_drawn_99 : decode cX8_drawn 99 = .ok (.getfield 63, 3) := by decide +kernel
theorem dX8_drawn_102 : decode cX8_drawn 102 = .ok (.aload_n 0, 1) := by decide +kernel
theorem dX8_drawn_103 : decode cX8_drawn 103 = .ok (.getfield 33, 3) := by decide +kernel
theorem dX8_drawn_106 : decode cX8_drawn 106 = .ok (.getfield 107, 3) := by decide +kernel
theorem dX8_drawn_109 : decode cX8_drawn 109 = .ok (.invokevirtual 206, 3) := by decide +kernel
theorem dX8_drawn_112 : decode cX8_drawn 112 = .ok (.ldc2_w 247, 3) := by decide +kernel
theorem dX8_drawn_115 : decode cX8_drawn 115 = .ok (.lxor, 1) := by decide +kernel
theorem dX8_drawn_116 : decode cX8_drawn 116 = .ok (.land, 1) := by decide +kernel
theorem dX8_drawn_117 : decode cX8_drawn 117 = .ok (.invokestatic 249, 3) := by decide +kernel
theorem dX8_drawn_120 : decode cX8_drawn 120 = .ok (.ireturn, 1) := by decide +kernel
theorem dX8_drawn_121 : decode cX8_drawn 121 = .ok (.aload_n 0, 1) := by decide +kernel
theorem dX8_drawn_122 : decode cX8_drawn 122 = .ok (.getfield 63, 3) := by decide +kernel
theorem dX8_drawn_125 : decode cX8_drawn 125 = .ok (.lload 5, 2) := by decide +kernel
theorem dX8_drawn_127 : decode cX8_drawn 127 = .ok (.aload_n 0, 1) := by decide +kernel
theorem dX8_drawn_128 : decode cX8_drawn 128 = .ok (.getfield 33, 3) := by decide +kernel
theorem dX8_drawn_131 : decode cX8_drawn 131 = .ok (.getfield 107, 3) := by decide +kernel
theorem dX8_drawn_134 : decode cX8_drawn 134 = .ok (.invokevirtual 253, 3) := by decide +kernel
theorem dX8_drawn_137 : decode cX8_drawn 137 = .ok (.ireturn, 1) := by decide +kernel
theorem dX8_image_0 : decode cX8_image 0 = .ok (.aload_n 0, 1) := by decide +kernel
theorem dX8_image_1 : decode cX8_image 1 = .ok (.invokevirtual 119, 3) := by decide +kernel
theorem dX8_image_4 : decode cX8_image 4 = .ok (.ifCond .ne 6, 3) := by decide +kernel
theorem dX8_image_7 : decode cX8_image 7 = .ok (.bipush (-103), 2) := by decide +kernel
theorem dX8_image_9 : decode cX8_image 9 = .ok (.ireturn, 1) := by decide +kernel
theorem dX8_image_10 : decode cX8_image 10 = .ok (.aload_n 0, 1) := by decide +kernel
theorem dX8_image_11 : decode cX8_image 11 = .ok (.getfield 51, 3) := by decide +kernel
theorem dX8_image_14 : decode cX8_image 14 = .ok (.aload_n 0, 1) := by decide +kernel
theorem dX8_image_15 : decode cX8_image 15 = .ok (.getfield 33, 3) := by decide +kernel
theorem dX8_image_18 : decode cX8_image 18 = .ok (.invokevirtual 94, 3) := by decide +kernel
theorem dX8_image_21 : decode cX8_image 21 = .ok (.aload_n 0, 1) := by decide +kernel
theorem dX8_image_22 : decode cX8_image 22 = .ok (.getfield 54, 3) := by decide +kernel
theorem dX8_image_25 : decode cX8_image 25 = .ok (.aload_n 0, 1) := by decide +kernel
theorem dX8_image_26 : decode cX8_image 26 = .ok (.getfield 47, 3) := by decide +kernel
theorem dX8_image_29 : decode cX8_image 29 = .ok (.invokevirtual 257, 3) := by decide +kernel
theorem dX8_image_32 : decode cX8_image 32 = .ok (.aload_n 0, 1) := by decide +kernel
theorem dX8_image_33 : decode cX8_image 33 = .ok (.iconst 1, 1) := by decide +kernel
theorem dX8_image_34 : decode cX8_image 34 = .ok (.putfield 99, 3) := by decide +kernel
theorem dX8_image_37 : decode cX8_image 37 = .ok (.aload_n 0, 1) := by decide +kernel
theorem dX8_image_38 : decode cX8_image 38 = .ok (.getfield 33, 3) := by decide +kernel
theorem dX8_image_41 : decode cX8_image 41 = .ok (.getfield 107, 3) := by decide +kernel
theorem dX8_image_44 : decode cX8_image 44 = .ok (.ireturn, 1) := by decide +kernel
theorem dX8_restore_0 : decode cX8_restore 0 = .ok (.aload_n 0, 1) := by decide +kernel
theorem dX8_restore_1 : decode cX8_restore 1 = .ok (.getfield 99, 3) := by decide +kernel
theorem dX8_restore_4 : decode cX8_restore 4 = .ok (.ifCond .ne 6, 3) := by decide +kernel
theorem dX8_restore_7 : decode cX8_restore 7 = .ok (.bipush (-103), 2) := by decide +kernel
theorem dX8_restore_9 : decode cX8_restore 9 = .ok (.ireturn, 1) := by decide +kernel
theorem dX8_restore_10 : decode cX8_restore 10 = .ok (.aload_n 0, 1) := by decide +kernel
theorem dX8_restore_11 : decode cX8_restore 11 = .ok (.getfield 33, 3) := by decide +kernel
theorem dX8_restore_14 : decode cX8_restore 14 = .ok (.aload_n 0, 1) := by decide +kernel
theorem dX8_restore_15 : decode cX8_restore 15 = .ok (.getfield 51, 3) := by decide +kernel
theorem dX8_restore_18 : decode cX8_restore 18 = .ok (.invokevirtual 94, 3) := by decide +kernel
theorem dX8_restore_21 : decode cX8_restore 21 = .ok (.aload_n 0, 1) := by decide +kernel
theorem dX8_restore_22 : decode cX8_restore 22 = .ok (.getfield 47, 3) := by decide +kernel
theorem dX8_restore_25 : decode cX8_restore 25 = .ok (.aload_n 0, 1) := by decide +kernel
theorem dX8_restore_26 : decode cX8_restore 26 = .ok (.getfield 54, 3) := by decide +kernel
theorem dX8_restore_29 : decode cX8_restore 29 = .ok (.invokevirtual 257, 3) := by decide +kernel
theorem dX8_restore_32 : decode cX8_restore 32 = .ok (.aload_n 0, 1) := by decide +kernel
theorem dX8_restore_33 : decode cX8_restore 33 = .ok (.getfield 33, 3) := by decide +kernel
theorem dX8_restore_36 : decode cX8_restore 36 = .ok (.getfield 107, 3) := by decide +kernel
theorem dX8_restore_39 : decode cX8_restore 39 = .ok (.ireturn, 1) := by decide +kernel
theorem dX8_count_0 : decode cX8_count 0 = .ok (.iload_n 1, 1) := by decide +kernel
theorem dX8_count_1 : decode cX8_count 1 = .ok (.tableswitch 155 0 10 #[59, 67, 75, 83, 103, 119, 127, 135, 140, 145, 150], 59) := by decide +kernel
theorem dX8_count_60 : decode cX8_count 60 = .ok (.aload_n 0, 1) := by decide +kernel
theorem dX8_count_61 : decode cX8_count 61 = .ok (.getfield 33, 3) := by decide +kernel
theorem dX8_count_64 : decode cX8_count 64 = .ok (.getfield 107, 3) := by decide +kernel
theorem dX8_count_67 : decode cX8_count 67 = .ok (.ireturn, 1) := by decide +kernel
theorem dX8_count_68 : decode cX8_count 68 = .ok (.aload_n 0, 1) := by decide +kernel
theorem dX8_count_69 : decode cX8_count 69 = .ok (.getfield 33, 3) := by decide +kernel
theorem dX8_count_72 : decode cX8_count 72 = .ok (.invokevirtual 126, 3) := by decide +kernel
theorem dX8_count_75 : decode cX8_count 75 = .ok (.ireturn, 1) := by decide +kernel
theorem dX8_count_76 : decode cX8_count 76 = .ok (.aload_n 0, 1) := by decide +kernel
theorem dX8_count_77 : decode cX8_count 77 = .ok (.getfield 40, 3) := by decide +kernel
theorem dX8_count_80 : decode cX8_count 80 = .ok (.invokevirtual 118, 3) := by decide +kernel
theorem dX8_count_83 : decode cX8_count 83 = .ok (.ireturn, 1) := by decide +kernel
theorem dX8_count_84 : decode cX8_count 84 = .ok (.aload_n 0, 1) := by decide +kernel
theorem dX8_count_85 : decode cX8_count 85 = .ok (.invokevirtual 164, 3) := by decide +kernel
theorem dX8_count_88 : decode cX8_count 88 = .ok (.ifCond .eq 14, 3) := by decide +kernel
theorem dX8_count_91 : decode cX8_count 91 = .ok (.aload_n 0, 1) := by decide +kernel
theorem dX8_count_92 : decode cX8_count 92 = .ok (.iconst 0, 1) := by decide +kernel
theorem dX8_count_93 : decode cX8_count 93 = .ok (.invokevirtual 167, 3) := by decide +kernel
theorem dX8_count_96 : decode cX8_count 96 = .ok (.invokestatic 147, 3) := by decide +kernel
theorem dX8_count_99 : decode cX8_count 99 = .ok (.goto 4, 3) := by decide +kernel
theorem dX8_count_102 : decode cX8_count 102 = .ok (.iconst 0, 1) := by decide +kernel
theorem dX8_count_103 : decode cX8_count 103 = .ok (.ireturn, 1) := by decide +kernel
theorem dX8_count_104 : decode cX8_count 104 = .ok (.aload_n 0, 1) := by decide +kernel
theorem dX8_count_105 : decode cX8_count 105 = .ok (.invokevirtual 119, 3) := by decide +kernel
theorem dX8_count_108 : decode cX8_count 108 = .ok (.ifCond .eq 10, 3) := by decide +kernel
theorem dX8_count_111 : decode cX8_count 111 = .ok (.aload_n 0, 1) := by decide +kernel
theorem dX8_count_112 : decode cX8_count 112 = .ok (.invokevirtual 260, 3) := by decide +kernel
theorem dX8_count_115 : decode cX8_count 115 = .ok (.goto 4, 3) := by decide +kernel
theorem dX8_count_118 : decode cX8_count 118 = .ok (.iconst 0, 1) := by decide +kernel
theorem dX8_count_119 : decode cX8_count 119 = .ok (.ireturn, 1) := by decide +kernel
theorem dX8_count_120 : decode cX8_count 120 = .ok (.aload_n 0, 1) := by decide +kernel
theorem dX8_count_121 : decode cX8_count 121 = .ok (.getfield 47, 3) := by decide +kernel
theorem dX8_count_124 : decode cX8_count 124 = .ok (.getfield 226, 3) := by decide +kernel
theorem dX8_count_127 : decode cX8_count 127 = .ok (.ireturn, 1) := by decide +kernel
theorem dX8_count_128 : decode cX8_count 128 = .ok (.aload_n 0, 1) := by decide +kernel
theorem dX8_count_129 : decode cX8_count 129 = .ok (.getfield 10, 3) := by decide +kernel
theorem dX8_count_132 : decode cX8_count 132 = .ok (.invokevirtual 67, 3) := by decide +kernel
theorem dX8_count_135 : decode cX8_count 135 = .ok (.ireturn, 1) := by decide +kernel
theorem dX8_count_136 : decode cX8_count 136 = .ok (.aload_n 0, 1) := by decide +kernel
theorem dX8_count_137 : decode cX8_count 137 = .ok (.getfield 103, 3) := by decide +kernel
theorem dX8_count_140 : decode cX8_count 140 = .ok (.ireturn, 1) := by decide +kernel
theorem dX8_count_141 : decode cX8_count 141 = .ok (.aload_n 0, 1) := by decide +kernel
theorem dX8_count_142 : decode cX8_count 142 = .ok (.getfield 115, 3) := by decide +kernel
theorem dX8_count_145 : decode cX8_count 145 = .ok (.ireturn, 1) := by decide +kernel
theorem dX8_count_146 : decode cX8_count 146 = .ok (.aload_n 0, 1) := by decide +kernel
theorem dX8_count_147 : decode cX8_count 147 = .ok (.getfield 200, 3) := by decide +kernel
theorem dX8_count_150 : decode cX8_count 150 = .ok (.ireturn, 1) := by decide +kernel
theorem dX8_count_151 : decode cX8_count 151 = .ok (.aload_n 0, 1) := by decide +kernel
theorem dX8_count_152 : decode cX8_count 152 = .ok (.getfield 217, 3) := by decide +kernel
theorem dX8_count_155 : decode cX8_count 155 = .ok (.ireturn, 1) := by decide +kernel
theorem dX8_count_156 : decode cX8_count 156 = .ok (.bipush (-102), 2) := by decide +kernel
theorem dX8_count_158 : decode cX8_count 158 = .ok (.ireturn, 1) := by decide +kernel
theorem dX8_digest_0 : decode cX8_digest 0 = .ok (.ldc2_w 263, 3) := by decide +kernel
theorem dX8_digest_3 : decode cX8_digest 3 = .ok (.lstore_n 1, 1) := by decide +kernel
theorem dX8_digest_4 : decode cX8_digest 4 = .ok (.iconst 0, 1) := by decide +kernel
theorem dX8_digest_5 : decode cX8_digest 5 = .ok (.istore_n 3, 1) := by decide +kernel
theorem dX8_digest_6 : decode cX8_digest 6 = .ok (.aload_n 0, 1) := by decide +kernel
theorem dX8_digest_7 : decode cX8_digest 7 = .ok (.invokevirtual 119, 3) := by decide +kernel
theorem dX8_digest_10 : decode cX8_digest 10 = .ok (.ifCond .eq 27, 3) := by decide +kernel
theorem dX8_digest_13 : decode cX8_digest 13 = .ok (.iload_n 3, 1) := by decide +kernel
theorem dX8_digest_14 : decode cX8_digest 14 = .ok (.iconst 5, 1) := by decide +kernel
theorem dX8_digest_15 : decode cX8_digest 15 = .ok (.if_icmp .ge 22, 3) := by decide +kernel
theorem dX8_digest_18 : decode cX8_digest 18 = .ok (.ldc2_w 265, 3) := by decide +kernel
theorem dX8_digest_21 : decode cX8_digest 21 = .ok (.lload_n 1, 1) := by decide +kernel
theorem dX8_digest_22 : decode cX8_digest 22 = .ok (.lmul, 1) := by decide +kernel
theorem dX8_digest_23 : decode cX8_digest 23 = .ok (.aload_n 0, 1) := by decide +kernel
theorem dX8_digest_24 : decode cX8_digest 24 = .ok (.iload_n 3, 1) := by decide +kernel
theorem dX8_digest_25 : decode cX8_digest 25 = .ok (.invokevirtual 267, 3) := by decide +kernel
theorem dX8_digest_28 : decode cX8_digest 28 = .ok (.i2l, 1) := by decide +kernel
theorem dX8_digest_29 : decode cX8_digest 29 = .ok (.ladd, 1) := by decide +kernel
theorem dX8_digest_30 : decode cX8_digest 30 = .ok (.lstore_n 1, 1) := by decide +kernel
theorem dX8_digest_31 : decode cX8_digest 31 = .ok (.iinc 3 1, 3) := by decide +kernel
theorem dX8_digest_34 : decode cX8_digest 34 = .ok (.goto (-28), 3) := by decide +kernel
theorem dX8_digest_37 : decode cX8_digest 37 = .ok (.iconst 0, 1) := by decide +kernel
theorem dX8_digest_38 : decode cX8_digest 38 = .ok (.istore_n 3, 1) := by decide +kernel
theorem dX8_digest_39 : decode cX8_digest 39 = .ok (.iload_n 3, 1) := by decide +kernel
theorem dX8_digest_40 : decode cX8_digest 40 = .ok (.aload_n 0, 1) := by decide +kernel
theorem dX8_digest_41 : decode cX8_digest 41 = .ok (.getfield 33, 3) := by decide +kernel
theorem dX8_digest_44 : decode cX8_digest 44 = .ok (.getfield 107, 3) := by decide +kernel
theorem dX8_digest_47 : decode cX8_digest 47 = .ok (.if_icmp .ge 76, 3) := by decide +kernel
theorem dX8_digest_50 : decode cX8_digest 50 = .ok (.iconst 0, 1) := by decide +kernel
theorem dX8_digest_51 : decode cX8_digest 51 = .ok (.istore 4, 2) := by decide +kernel
theorem dX8_digest_53 : decode cX8_digest 53 = .ok (.iload 4, 2) := by decide +kernel
theorem dX8_digest_55 : decode cX8_digest 55 = .ok (.bipush 6, 2) := by decide +kernel
theorem dX8_digest_57 : decode cX8_digest 57 = .ok (.if_icmp .ge 24, 3) := by decide +kernel
theorem dX8_digest_60 : decode cX8_digest 60 = .ok (.ldc2_w 265, 3) := by decide +kernel
theorem dX8_digest_63 : decode cX8_digest 63 = .ok (.lload_n 1, 1) := by decide +kernel
theorem dX8_digest_64 : decode cX8_digest 64 = .ok (.lmul, 1) := by decide +kernel
theorem dX8_digest_65 : decode cX8_digest 65 = .ok (.aload_n 0, 1) := by decide +kernel
theorem dX8_digest_66 : decode cX8_digest 66 = .ok (.iload_n 3, 1) := by decide +kernel
theorem dX8_digest_67 : decode cX8_digest 67 = .ok (.iload 4, 2) := by decide +kernel
theorem dX8_digest_69 : decode cX8_digest 69 = .ok (.invokevirtual 270, 3) := by decide +kernel
theorem dX8_digest_72 : decode cX8_digest 72 = .ok (.i2l, 1) := by decide +kernel
theorem dX8_digest_73 : decode cX8_digest 73 = .ok (.ladd, 1) := by decide +kernel
theorem dX8_digest_74 : decode cX8_digest 74 = .ok (.lstore_n 1, 1) := by decide +kernel
theorem dX8_digest_75 : decode cX8_digest 75 = .ok (.iinc 4 1, 3) := by decide +kernel
theorem dX8_digest_78 : decode cX8_digest 78 = .ok (.goto (-25), 3) := by decide +kernel
theorem dX8_digest_81 : decode cX8_digest 81 = .ok (.iconst 0, 1) := by decide +kernel
theorem dX8_digest_82 : decode cX8_digest 82 = .ok (.istore 4, 2) := by decide +kernel
theorem dX8_digest_84 : decode cX8_digest 84 = .ok (.iload 4, 2) := by decide +kernel
theorem dX8_digest_86 : decode cX8_digest 86 = .ok (.aload_n 0, 1) := by decide +kernel
theorem dX8_digest_87 : decode cX8_digest 87 = .ok (.getfield 33, 3) := by decide +kernel
theorem dX8_digest_90 : decode cX8_digest 90 = .ok (.getfield 107, 3) := by decide +kernel
theorem dX8_digest_93 : decode cX8_digest 93 = .ok (.if_icmp .ge 24, 3) := by decide +kernel
theorem dX8_digest_96 : decode cX8_digest 96 = .ok (.ldc2_w 265, 3) := by decide +kernel
theorem dX8_digest_99 : decode cX8_digest 99 = .ok (.lload_n 1, 1) := by decide +kernel
theorem dX8_digest_100 : decode cX8_digest 100 = .ok (.lmul, 1) := by decide +kernel
theorem dX8_digest_101 : decode cX8_digest 101 = .ok (.aload_n 0, 1) := by decide +kernel
theorem dX8_digest_102 : decode cX8_digest 102 = .ok (.iload_n 3, 1) := by decide +kernel
theorem dX8_digest_103 : decode cX8_digest 103 = .ok (.iload 4, 2) := by decide +kernel
theorem dX8_digest_105 : decode cX8_digest 105 = .ok (.invokevirtual 273, 3) := by decide +kernel
theorem dX8_digest_108 : decode cX8_digest 108 = .ok (.i2l, 1) := by decide +kernel
theorem dX8_digest_109 : decode cX8_digest 109 = .ok (.ladd, 1) := by decide +kernel
theorem dX8_digest_110 : decode cX8_digest 110 = .ok (.lstore_n 1, 1) := by decide +kernel
theorem dX8_digest_111 : decode cX8_digest 111 = .ok (.iinc 4 1, 3) := by decide +kernel
theorem dX8_digest_114 : decode cX8_digest 114 = .ok (.goto (-30), 3) := by decide +kernel
theorem dX8_digest_117 : decode cX8_digest 117 = .ok (.iinc 3 1, 3) := by decide +kernel
theorem dX8_digest_120 : decode cX8_digest 120 = .ok (.goto (-81), 3) := by decide +kernel
theorem dX8_digest_123 : decode cX8_digest 123 = .ok (.iconst 0, 1) := by decide +kernel
theorem dX8_digest_124 : decode cX8_digest 124 = .ok (.istore_n 3, 1) := by decide +kernel
theorem dX8_digest_125 : decode cX8_digest 125 = .ok (.aload_n 0, 1) := by decide +kernel
theorem dX8_digest_126 : decode cX8_digest 126 = .ok (.invokevirtual 119, 3) := by decide +kernel
theorem dX8_digest_129 : decode cX8_digest 129 = .ok (.ifCond .eq 27, 3) := by decide +kernel
theorem dX8_digest_132 : decode cX8_digest 132 = .ok (.iload_n 3, 1) := by decide +kernel
theorem dX8_digest_133 : decode cX8_digest 133 = .ok (.iconst 5, 1) := by decide +kernel
theorem dX8_digest_134 : decode cX8_digest 134 = .ok (.if_icmp .ge 22, 3) := by decide +kernel
theorem dX8_digest_137 : decode cX8_digest 137 = .ok (.ldc2_w 265, 3) := by decide +kernel
theorem dX8_digest_140 : decode cX8_digest 140 = .ok (.lload_n 1, 1) := by decide +kernel
theorem dX8_digest_141 : decode cX8_digest 141 = .ok (.lmul, 1) := by decide +kernel
theorem dX8_digest_142 : decode cX8_digest 142 = .ok (.aload_n 0, 1) := by decide +kernel
theorem dX8_digest_143 : decode cX8_digest 143 = .ok (.iload_n 3, 1) := by decide +kernel
theorem dX8_digest_144 : decode cX8_digest 144 = .ok (.invokevirtual 276, 3) := by decide +kernel
theorem dX8_digest_147 : decode cX8_digest 147 = .ok (.i2l, 1) := by decide +kernel
theorem dX8_digest_148 : decode cX8_digest 148 = .ok (.ladd, 1) := by decide +kernel
theorem dX8_digest_149 : decode cX8_digest 149 = .ok (.lstore_n 1, 1) := by decide +kernel
theorem dX8_digest_150 : decode cX8_digest 150 = .ok (.iinc 3 1, 3) := by decide +kernel
theorem dX8_digest_153 : decode cX8_digest 153 = .ok (.goto (-28), 3) := by decide +kernel
theorem dX8_digest_156 : decode cX8_digest 156 = .ok (.aload_n 0, 1) := by decide +kernel
theorem dX8_digest_157 : decode cX8_digest 157 = .ok (.invokevirtual 119, 3) := by decide +kernel
theorem dX8_digest_160 : decode cX8_digest 160 = .ok (.ifCond .eq 22, 3) := by decide +kernel
theorem dX8_digest_163 : decode cX8_digest 163 = .ok (.aload_n 0, 1) := by decide +kernel
theorem dX8_digest_164 : decode cX8_digest 164 = .ok (.invokevirtual 164, 3) := by decide +kernel
theorem dX8_digest_167 : decode cX8_digest 167 = .ok (.ifCond .eq 15, 3) := by decide +kernel
theorem dX8_digest_170 : decode cX8_digest 170 = .ok (.ldc2_w 265, 3) := by decide +kernel
theorem dX8_digest_173 : decode cX8_digest 173 = .ok (.lload_n 1, 1) := by decide +kernel
theorem dX8_digest_174 : decode cX8_digest 174 = .ok (.lmul, 1) := by decide +kernel
theorem dX8_digest_175 : decode cX8_digest 175 = .ok (.aload_n 0, 1) := by decide +kernel
theorem dX8_digest_176 : decode cX8_digest 176 = .ok (.invokevirtual 279, 3) := by decide +kernel
theorem dX8_digest_179 : decode cX8_digest 179 = .ok (.i2l, 1) := by decide +kernel
theorem dX8_digest_180 : decode cX8_digest 180 = .ok (.ladd, 1) := by decide +kernel
theorem dX8_digest_181 : decode cX8_digest 181 = .ok (.lstore_n 1, 1) := by decide +kernel
theorem dX8_digest_182 : decode cX8_digest 182 = .ok (.iconst 0, 1) := by decide +kernel
theorem dX8_digest_183 : decode cX8_digest 183 = .ok (.istore_n 3, 1) := by decide +kernel
theorem dX8_digest_184 : decode cX8_digest 184 = .ok (.aload_n 0, 1) := by decide +kernel
theorem dX8_digest_185 : decode cX8_digest 185 = .ok (.invokevirtual 119, 3) := by decide +kernel
theorem dX8_digest_188 : decode cX8_digest 188 = .ok (.ifCond .eq 33, 3) := by decide +kernel
theorem dX8_digest_191 : decode cX8_digest 191 = .ok (.iload_n 3, 1) := by decide +kernel
theorem dX8_digest_192 : decode cX8_digest 192 = .ok (.aload_n 0, 1) := by decide +kernel
theorem dX8_digest_193 : decode cX8_digest 193 = .ok (.getfield 40, 3) := by decide +kernel
theorem dX8_digest_196 : decode cX8_digest 196 = .ok (.invokevirtual 118, 3) := by decide +kernel
theorem dX8_digest_199 : decode cX8_digest 199 = .ok (.if_icmp .ge 22, 3) := by decide +kernel
theorem dX8_digest_202 : decode cX8_digest 202 = .ok (.ldc2_w 265, 3) := by decide +kernel
theorem dX8_digest_205 : decode cX8_digest 205 = .ok (.lload_n 1, 1) := by decide +kernel
theorem dX8_digest_206 : decode cX8_digest 206 = .ok (.lmul, 1) := by decide +kernel
theorem dX8_digest_207 : decode cX8_digest 207 = .ok (.aload_n 0, 1) := by decide +kernel
theorem dX8_digest_208 : decode cX8_digest 208 = .ok (.iload_n 3, 1) := by decide +kernel
theorem dX8_digest_209 : decode cX8_digest 209 = .ok (.invokevirtual 282, 3) := by decide +kernel
theorem dX8_digest_212 : decode cX8_digest 212 = .ok (.i2l, 1) := by decide +kernel
theorem dX8_digest_213 : decode cX8_digest 213 = .ok (.ladd, 1) := by decide +kernel
theorem dX8_digest_214 : decode cX8_digest 214 = .ok (.lstore_n 1, 1) := by decide +kernel
theorem dX8_digest_215 : decode cX8_digest 215 = .ok (.iinc 3 1, 3) := by decide +kernel
theorem dX8_digest_218 : decode cX8_digest 218 = .ok (.goto (-34), 3) := by decide +kernel
theorem dX8_digest_221 : decode cX8_digest 221 = .ok (.iconst 0, 1) := by decide +kernel
theorem dX8_digest_222 : decode cX8_digest 222 = .ok (.istore_n 3, 1) := by decide +kernel
theorem dX8_digest_223 : decode cX8_digest 223 = .ok (.iload_n 3, 1) := by decide +kernel
theorem dX8_digest_224 : decode cX8_digest 224 = .ok (.aload_n 0, 1) := by decide +kernel
theorem dX8_digest_225 : decode cX8_digest 225 = .ok (.getfield 40, 3) := by decide +kernel
theorem dX8_digest_228 : decode cX8_digest 228 = .ok (.invokevirtual 118, 3) := by decide +kernel
theorem dX8_digest_231 : decode cX8_digest 231 = .ok (.if_icmp .ge 22, 3) := by decide +kernel
theorem dX8_digest_234 : decode cX8_digest 234 = .ok (.ldc2_w 265, 3) := by decide +kernel
theorem dX8_digest_237 : decode cX8_digest 237 = .ok (.lload_n 1, 1) := by decide +kernel
theorem dX8_digest_238 : decode cX8_digest 238 = .ok (.lmul, 1) := by decide +kernel
theorem dX8_digest_239 : decode cX8_digest 239 = .ok (.aload_n 0, 1) := by decide +kernel
theorem dX8_digest_240 : decode cX8_digest 240 = .ok (.iload_n 3, 1) := by decide +kernel
theorem dX8_digest_241 : decode cX8_digest 241 = .ok (.invokevirtual 285, 3) := by decide +kernel
theorem dX8_digest_244 : decode cX8_digest 244 = .ok (.i2l, 1) := by decide +kernel
theorem dX8_digest_245 : decode cX8_digest 245 = .ok (.ladd, 1) := by decide +kernel
theorem dX8_digest_246 : decode cX8_digest 246 = .ok (.lstore_n 1, 1) := by decide +kernel
theorem dX8_digest_247 : decode cX8_digest 247 = .ok (.iinc 3 1, 3) := by decide +kernel
theorem dX8_digest_250 : decode cX8_digest 250 = .ok (.goto (-27), 3) := by decide +kernel
theorem dX8_digest_253 : decode cX8_digest 253 = .ok (.ldc2_w 265, 3) := by decide +kernel
theorem dX8_digest_256 : decode cX8_digest 256 = .ok (.lload_n 1, 1) := by decide +kernel
theorem dX8_digest_257 : decode cX8_digest 257 = .ok (.lmul, 1) := by decide +kernel
theorem dX8_digest_258 : decode cX8_digest 258 = .ok (.aload_n 0, 1) := by decide +kernel
theorem dX8_digest_259 : decode cX8_digest 259 = .ok (.iconst 0, 1) := by decide +kernel
theorem dX8_digest_260 : decode cX8_digest 260 = .ok (.invokevirtual 288, 3) := by decide +kernel
theorem dX8_digest_263 : decode cX8_digest 263 = .ok (.i2l, 1) := by decide +kernel
theorem dX8_digest_264 : decode cX8_digest 264 = .ok (.ladd, 1) := by decide +kernel
theorem dX8_digest_265 : decode cX8_digest 265 = .ok (.lstore_n 1, 1) := by decide +kernel
theorem dX8_digest_266 : decode cX8_digest 266 = .ok (.ldc2_w 265, 3) := by decide +kernel
theorem dX8_digest_269 : decode cX8_digest 269 = .ok (.lload_n 1, 1) := by decide +kernel
theorem dX8_digest_270 : decode cX8_digest 270 = .ok (.lmul, 1) := by decide +kernel
theorem dX8_digest_271 : decode cX8_digest 271 = .ok (.aload_n 0, 1) := by decide +kernel
theorem dX8_digest_272 : decode cX8_digest 272 = .ok (.iconst 1, 1) := by decide +kernel
theorem dX8_digest_273 : decode cX8_digest 273 = .ok (.invokevirtual 288, 3) := by decide +kernel
theorem dX8_digest_276 : decode cX8_digest 276 = .ok (.i2l, 1) := by decide +kernel
theorem dX8_digest_277 : decode cX8_digest 277 = .ok (.ladd, 1) := by decide +kernel
theorem dX8_digest_278 : decode cX8_digest 278 = .ok (.lstore_n 1, 1) := by decide +kernel
theorem dX8_digest_279 : decode cX8_digest 279 = .ok (.iconst 0, 1) := by decide +kernel
theorem dX8_digest_280 : decode cX8_digest 280 = .ok (.istore_n 3, 1) := by decide +kernel
theorem dX8_digest_281 : decode cX8_digest 281 = .ok (.iload_n 3, 1) := by decide +kernel
theorem dX8_digest_282 : decode cX8_digest 282 = .ok (.aload_n 0, 1) := by decide +kernel
theorem dX8_digest_283 : decode cX8_digest 283 = .ok (.getfield 10, 3) := by decide +kernel
theorem dX8_digest_286 : decode cX8_digest 286 = .ok (.invokevirtual 67, 3) := by decide +kernel
theorem dX8_digest_289 : decode cX8_digest 289 = .ok (.if_icmp .ge 25, 3) := by decide +kernel
theorem dX8_digest_292 : decode cX8_digest 292 = .ok (.ldc2_w 265, 3) := by decide +kernel
theorem dX8_digest_295 : decode cX8_digest 295 = .ok (.lload_n 1, 1) := by decide +kernel
theorem dX8_digest_296 : decode cX8_digest 296 = .ok (.lmul, 1) := by decide +kernel
theorem dX8_digest_297 : decode cX8_digest 297 = .ok (.aload_n 0, 1) := by decide +kernel
theorem dX8_digest_298 : decode cX8_digest 298 = .ok (.getfield 10, 3) := by decide +kernel
theorem dX8_digest_301 : decode cX8_digest 301 = .ok (.iload_n 3, 1) := by decide +kernel
theorem dX8_digest_302 : decode cX8_digest 302 = .ok (.invokevirtual 291, 3) := by decide +kernel
theorem dX8_digest_305 : decode cX8_digest 305 = .ok (.i2l, 1) := by decide +kernel
theorem dX8_digest_306 : decode cX8_digest 306 = .ok (.ladd, 1) := by decide +kernel
theorem dX8_digest_307 : decode cX8_digest 307 = .ok (.lstore_n 1, 1) := by decide +kernel
theorem dX8_digest_308 : decode cX8_digest 308 = .ok (.iinc 3 1, 3) := by decide +kernel
theorem dX8_digest_311 : decode cX8_digest 311 = .ok (.goto (-30), 3) := by decide +kernel
theorem dX8_digest_314 : decode cX8_digest 314 = .ok (.iconst 0, 1) := by decide +kernel
theorem dX8_digest_315 : decode cX8_digest 315 = .ok (.istore_n 3, 1) := by decide +kernel
theorem dX8_digest_316 : decode cX8_digest 316 = .ok (.iload_n 3, 1) := by decide +kernel
theorem dX8_digest_317 : decode cX8_digest 317 = .ok (.bipush 11, 2) := by decide +kernel
theorem dX8_digest_319 : decode cX8_digest 319 = .ok (.if_icmp .ge 22, 3) := by decide +kernel
theorem dX8_digest_322 : decode cX8_digest 322 = .ok (.ldc2_w 265, 3) := by decide +kernel
theorem dX8_digest_325 : decode cX8_digest 325 = .ok (.lload_n 1, 1) := by decide +kernel
theorem dX8_digest_326 : decode cX8_digest 326 = .ok (.lmul, 1) := by decide +kernel
theorem dX8_digest_327 : decode cX8_digest 327 = .ok (.aload_n 0, 1) := by decide +kernel
theorem dX8_digest_328 : decode cX8_digest 328 = .ok (.iload_n 3, 1) := by decide +kernel
theorem dX8_digest_329 : decode cX8_digest 329 = .ok (.invokevirtual 294, 3) := by decide +kernel
theorem dX8_digest_332 : decode cX8_digest 332 = .ok (.i2l, 1) := by decide +kernel
theorem dX8_digest_333 : decode cX8_digest 333 = .ok (.ladd, 1) := by decide +kernel
theorem dX8_digest_334 : decode cX8_digest 334 = .ok (.lstore_n 1, 1) := by decide +kernel
theorem dX8_digest_335 : decode cX8_digest 335 = .ok (.iinc 3 1, 3) := by decide +kernel
theorem dX8_digest_338 : decode cX8_digest 338 = .ok (.goto (-22), 3) := by decide +kernel
theorem dX8_digest_341 : decode cX8_digest 341 = .ok (.lload_n 1, 1) := by decide +kernel
theorem dX8_digest_342 : decode cX8_digest 342 = .ok (.lreturn, 1) := by decide +kernel
theorem dX8_hasFrame_0 : decode cX8_hasFrame 0 = .ok (.aload_n 0, 1) := by decide +kernel
theorem dX8_hasFrame_1 : decode cX8_hasFrame 1 = .ok (.getfield 33, 3) := by decide +kernel
theorem dX8_hasFrame_4 : decode cX8_hasFrame 4 = .ok (.getfield 107, 3) := by decide +kernel
theorem dX8_hasFrame_7 : decode cX8_hasFrame 7 = .ok (.ifCond .le 7, 3) := by decide +kernel
theorem dX8_hasFrame_10 : decode cX8_hasFrame 10 = .ok (.iconst 1, 1) := by decide +kernel
theorem dX8_hasFrame_11 : decode cX8_hasFrame 11 = .ok (.goto 4, 3) := by decide +kernel
theorem dX8_hasFrame_14 : decode cX8_hasFrame 14 = .ok (.iconst 0, 1) := by decide +kernel
theorem dX8_hasFrame_15 : decode cX8_hasFrame 15 = .ok (.ireturn, 1) := by decide +kernel
theorem dX8_hasFormula_0 : decode cX8_hasFormula 0 = .ok (.aload_n 0, 1) := by decide +kernel
theorem dX8_hasFormula_1 : decode cX8_hasFormula 1 = .ok (.getfield 40, 3) := by decide +kernel
theorem dX8_hasFormula_4 : decode cX8_hasFormula 4 = .ok (.invokevirtual 118, 3) := by decide +kernel
theorem dX8_hasFormula_7 : decode cX8_hasFormula 7 = .ok (.ifCond .le 7, 3) := by decide +kernel
theorem dX8_hasFormula_10 : decode cX8_hasFormula 10 = .ok (.iconst 1, 1) := by decide +kernel
theorem dX8_hasFormula_11 : decode cX8_hasFormula 11 = .ok (.goto 4, 3) := by decide +kernel
theorem dX8_hasFormula_14 : decode cX8_hasFormula 14 = .ok (.iconst 0, 1) := by decide +kernel
theorem dX8_hasFormula_15 : decode cX8_hasFormula 15 = .ok (.ireturn, 1) := by decide +kernel
theorem dX8_worldsOf_0 : decode cX8_worldsOf 0 = .ok (.aload_n 0, 1) := by decide +kernel
theorem dX8_worldsOf_1 : decode cX8_worldsOf 1 = .ok (.getfield 63, 3) := by decide +kernel
theorem dX8_worldsOf_4 : decode cX8_worldsOf 4 = .ok (.aload_n 0, 1) := by decide +kernel
theorem dX8_worldsOf_5 : decode cX8_worldsOf 5 = .ok (.getfield 33, 3) := by decide +kernel
theorem dX8_worldsOf_8 : decode cX8_worldsOf 8 = .ok (.invokevirtual 297, 3) := by decide +kernel
theorem dX8_worldsOf_11 : decode cX8_worldsOf 11 = .ok (.aload_n 0, 1) := by decide +kernel
theorem dX8_worldsOf_12 : decode cX8_worldsOf 12 = .ok (.getfield 63, 3) := by decide +kernel
theorem dX8_worldsOf_15 : decode cX8_worldsOf 15 = .ok (.aload_n 0, 1) := by decide +kernel
theorem dX8_worldsOf_16 : decode cX8_worldsOf 16 = .ok (.getfield 40, 3) := by decide +kernel
theorem dX8_worldsOf_19 : decode cX8_worldsOf 19 = .ok (.aload_n 0, 1) := by decide +kernel
theorem dX8_worldsOf_20 : decode cX8_worldsOf 20 = .ok (.getfield 33, 3) := by decide +kernel
theorem dX8_worldsOf_23 : decode cX8_worldsOf 23 = .ok (.invokevirtual 243, 3) := by decide +kernel
theorem dX8_worldsOf_26 : decode cX8_worldsOf 26 = .ok (.iconst 0, 1) := by decide +kernel
theorem dX8_worldsOf_27 : decode cX8_worldsOf 27 = .ok (.istore_n 2, 1) := by decide +kernel
theorem dX8_worldsOf_28 : decode cX8_worldsOf 28 = .ok (.iconst 0, 1) := by decide +kernel
theorem dX8_worldsOf_29 : decode cX8_worldsOf 29 = .ok (.istore_n 3, 1) := by decide +kernel
theorem dX8_worldsOf_30 : decode cX8_worldsOf 30 = .ok (.iload_n 3, 1) := by decide +kernel
theorem dX8_worldsOf_31 : decode cX8_worldsOf 31 = .ok (.aload_n 0, 1) := by decide +kernel
theorem dX8_worldsOf_32 : decode cX8_worldsOf 32 = .ok (.getfield 33, 3) := by decide +kernel
theorem dX8_worldsOf_35 : decode cX8_worldsOf 35 = .ok (.getfield 107, 3) := by decide +kernel
theorem dX8_worldsOf_38 : decode cX8_worldsOf 38 = .ok (.if_icmp .ge 29, 3) := by decide +kernel
theorem dX8_worldsOf_41 : decode cX8_worldsOf 41 = .ok (.aload_n 0, 1) := by decide +kernel
theorem dX8_worldsOf_42 : decode cX8_worldsOf 42 = .ok (.getfield 63, 3) := by decide +kernel
theorem dX8_worldsOf_45 : decode cX8_worldsOf 45 = .ok (.iload_n 1, 1) := by decide +kernel
theorem dX8_worldsOf_46 : decode cX8_worldsOf 46 = .ok (.iload_n 3, 1) := by decide +kernel
theorem dX8_worldsOf_47 : decode cX8_worldsOf 47 = .ok (.invokevirtual 300, 3) := by decide +kernel
theorem dX8_worldsOf_50 : decode cX8_worldsOf 50 = .ok (.lconst 0, 1) := by decide +kernel
theorem dX8_worldsOf_51 : decode cX8_worldsOf 51 = .ok (.lcmp, 1) := by decide +kernel
theorem dX8_worldsOf_52 : decode cX8_worldsOf 52 = .ok (.ifCond .eq 9, 3) := by decide +kernel
theorem dX8_worldsOf_55 : decode cX8_worldsOf 55 = .ok (.iload_n 2, 1) := by decide +kernel
theorem dX8_worldsOf_56 : decode cX8_worldsOf 56 = .ok (.iconst 1, 1) := by decide +kernel
theorem dX8_worldsOf_57 : decode cX8_worldsOf 57 = .ok (.iload_n 3, 1) := by decide +kernel
theorem dX8_worldsOf_58 : decode cX8_worldsOf 58 = .ok (.ishl, 1) := by decide +kernel
theorem dX8_worldsOf_59 : decode cX8_worldsOf 59 = .ok (.ior, 1) := by decide +kernel
theorem dX8_worldsOf_60 : decode cX8_worldsOf 60 = .ok (.istore_n 2, 1) := by decide +kernel
theorem dX8_worldsOf_61 : decode cX8_worldsOf 61 = .ok (.iinc 3 1, 3) := by decide +kernel
theorem dX8_worldsOf_64 : decode cX8_worldsOf 64 = .ok (.goto (-34), 3) := by decide +kernel
theorem dX8_worldsOf_67 : decode cX8_worldsOf 67 = .ok (.iload_n 2, 1) := by decide +kernel
theorem dX8_worldsOf_68 : decode cX8_worldsOf 68 = .ok (.ireturn, 1) := by decide +kernel
theorem dX8_lowestSimilar_0 : decode cX8_lowestSimilar 0 = .ok (.aload_n 0, 1) := by decide +kernel
theorem dX8_lowestSimilar_1 : decode cX8_lowestSimilar 1 = .ok (.invokevirtual 164, 3) := by decide +kernel
theorem dX8_lowestSimilar_4 : decode cX8_lowestSimilar 4 = .ok (.ifCond .ne 5, 3) := by decide +kernel
theorem dX8_lowestSimilar_7 : decode cX8_lowestSimilar 7 = .ok (.iconst (-1), 1) := by decide +kernel
theorem dX8_lowestSimilar_8 : decode cX8_lowestSimilar 8 = .ok (.ireturn, 1) := by decide +kernel
theorem dX8_lowestSimilar_9 : decode cX8_lowestSimilar 9 = .ok (.aload_n 0, 1) := by decide +kernel
theorem dX8_lowestSimilar_10 : decode cX8_lowestSimilar 10 = .ok (.getfield 63, 3) := by decide +kernel
theorem dX8_lowestSimilar_13 : decode cX8_lowestSimilar 13 = .ok (.aload_n 0, 1) := by decide +kernel
theorem dX8_lowestSimilar_14 : decode cX8_lowestSimilar 14 = .ok (.getfield 33, 3) := by decide +kernel
theorem dX8_lowestSimilar_17 : decode cX8_lowestSimilar 17 = .ok (.invokevirtual 297, 3) := by decide +kernel
theorem dX8_lowestSimilar_20 : decode cX8_lowestSimilar 20 = .ok (.aload_n 0, 1) := by decide +kernel
theorem dX8_lowestSimilar_21 : decode cX8_lowestSimilar 21 = .ok (.getfield 63, 3) := by decide +kernel
theorem dX8_lowestSimilar_24 : decode cX8_lowestSimilar 24 = .ok (.aload_n 0, 1) := by decide +kernel
theorem dX8_lowestSimilar_25 : decode cX8_lowestSimilar 25 = .ok (.getfield 40, 3) := by decide +kernel
theorem dX8_lowestSimilar_28 : decode cX8_lowestSimilar 28 = .ok (.aload_n 0, 1) := by decide +kernel
theorem dX8_lowestSimilar_29 : decode cX8_lowestSimilar 29 = .ok (.getfield 33, 3) := by decide +kernel
theorem dX8_lowestSimilar_32 : decode cX8_lowestSimilar 32 = .ok (.invokevirtual 243, 3) := by decide +kernel
theorem dX8_lowestSimilar_35 : decode cX8_lowestSimilar 35 = .ok (.iconst 0, 1) := by decide +kernel
theorem dX8_lowestSimilar_36 : decode cX8_lowestSimilar 36 = .ok (.istore_n 2, 1) := by decide +kernel
theorem dX8_lowestSimilar_37 : decode cX8_lowestSimilar 37 = .ok (.iload_n 2, 1) := by decide +kernel
theorem dX8_lowestSimilar_38 : decode cX8_lowestSimilar 38 = .ok (.iload_n 1, 1) := by decide +kernel
theorem dX8_lowestSimilar_39 : decode cX8_lowestSimilar 39 = .ok (.if_icmp .ge 27, 3) := by decide +kernel
theorem dX8_lowestSimilar_42 : decode cX8_lowestSimilar 42 = .ok (.aload_n 0, 1) := by decide +kernel
theorem dX8_lowestSimilar_43 : decode cX8_lowestSimilar 43 = .ok (.getfield 63, 3) := by decide +kernel
theorem dX8_lowestSimilar_46 : decode cX8_lowestSimilar 46 = .ok (.aload_n 0, 1) := by decide +kernel
theorem dX8_lowestSimilar_47 : decode cX8_lowestSimilar 47 = .ok (.getfield 40, 3) := by decide +kernel
theorem dX8_lowestSimilar_50 : decode cX8_lowestSimilar 50 = .ok (.iload_n 2, 1) := by decide +kernel
theorem dX8_lowestSimilar_51 : decode cX8_lowestSimilar 51 = .ok (.iload_n 1, 1) := by decide +kernel
theorem dX8_lowestSimilar_52 : decode cX8_lowestSimilar 52 = .ok (.invokevirtual 303, 3) := by decide +kernel
theorem dX8_lowestSimilar_55 : decode cX8_lowestSimilar 55 = .ok (.ifCond .eq 5, 3) := by decide +kernel
theorem dX8_lowestSimilar_58 : decode cX8_lowestSimilar 58 = .ok (.iload_n 2, 1) := by decide +kernel
theorem dX8_lowestSimilar_59 : decode cX8_lowestSimilar 59 = .ok (.ireturn, 1) := by decide +kernel
theorem dX8_lowestSimilar_60 : decode cX8_lowestSimilar 60 = .ok (.iinc 2 1, 3) := by decide +kernel
theorem dX8_lowestSimilar_63 : decode cX8_lowestSimilar 63 = .ok (.goto (-26), 3) := by decide +kernel
theorem dX8_lowestSimilar_66 : decode cX8_lowestSimilar 66 = .ok (.iload_n 1, 1) := by decide +kernel
theorem dX8_lowestSimilar_67 : decode cX8_lowestSimilar 67 = .ok (.ireturn, 1) := by decide +kernel
theorem dX8_firstRefuting_0 : decode cX8_firstRefuting 0 = .ok (.iconst 1, 1) := by decide +kernel
theorem dX8_firstRefuting_1 : decode cX8_firstRefuting 1 = .ok (.iload_n 1, 1) := by decide +kernel
theorem dX8_firstRefuting_2 : decode cX8_firstRefuting 2 = .ok (.iload_n 1, 1) := by decide +kernel
theorem dX8_firstRefuting_3 : decode cX8_firstRefuting 3 = .ok (.imul, 1) := by decide +kernel
theorem dX8_firstRefuting_4 : decode cX8_firstRefuting 4 = .ok (.ishl, 1) := by decide +kernel
theorem dX8_firstRefuting_5 : decode cX8_firstRefuting 5 = .ok (.istore_n 2, 1) := by decide +kernel
theorem dX8_firstRefuting_6 : decode cX8_firstRefuting 6 = .ok (.iconst 0, 1) := by decide +kernel
theorem dX8_firstRefuting_7 : decode cX8_firstRefuting 7 = .ok (.istore_n 3, 1) := by decide +kernel
theorem dX8_firstRefuting_8 : decode cX8_firstRefuting 8 = .ok (.iload_n 3, 1) := by decide +kernel
theorem dX8_firstRefuting_9 : decode cX8_firstRefuting 9 = .ok (.iload_n 2, 1) := by decide +kernel
theorem dX8_firstRefuting_10 : decode cX8_firstRefuting 10 = .ok (.if_icmp .ge 55, 3) := by decide +kernel
theorem dX8_firstRefuting_13 : decode cX8_firstRefuting 13 = .ok (.aload_n 0, 1) := by decide +kernel
theorem dX8_firstRefuting_14 : decode cX8_firstRefuting 14 = .ok (.getfield 57, 3) := by decide +kernel
theorem dX8_firstRefuting_17 : decode cX8_firstRefuting 17 = .ok (.iload_n 1, 1) := by decide +kernel
theorem dX8_firstRefuting_18 : decode cX8_firstRefuting 18 = .ok (.iload_n 3, 1) := by decide +kernel
theorem dX8_firstRefuting_19 : decode cX8_firstRefuting 19 = .ok (.invokevirtual 307, 3) := by decide +kernel
theorem dX8_firstRefuting_22 : decode cX8_firstRefuting 22 = .ok (.aload_n 0, 1) := by decide +kernel
theorem dX8_firstRefuting_23 : decode cX8_firstRefuting 23 = .ok (.getfield 57, 3) := by decide +kernel
theorem dX8_firstRefuting_26 : decode cX8_firstRefuting 26 = .ok (.aload_n 0, 1) := by decide +kernel
theorem dX8_firstRefuting_27 : decode cX8_firstRefuting 27 = .ok (.getfield 33, 3) := by decide +kernel
theorem dX8_firstRefuting_30 : decode cX8_firstRefuting 30 = .ok (.getfield 123, 3) := by decide +kernel
theorem dX8_firstRefuting_33 : decode cX8_firstRefuting 33 = .ok (.invokevirtual 129, 3) := by decide +kernel
theorem dX8_firstRefuting_36 : decode cX8_firstRefuting 36 = .ok (.ifCond .eq 23, 3) := by decide +kernel
theorem dX8_firstRefuting_39 : decode cX8_firstRefuting 39 = .ok (.aload_n 0, 1) := by decide +kernel
theorem dX8_firstRefuting_40 : decode cX8_firstRefuting 40 = .ok (.getfield 63, 3) := by decide +kernel
theorem dX8_firstRefuting_43 : decode cX8_firstRefuting 43 = .ok (.aload_n 0, 1) := by decide +kernel
theorem dX8_firstRefuting_44 : decode cX8_firstRefuting 44 = .ok (.getfield 40, 3) := by decide +kernel
theorem dX8_firstRefuting_47 : decode cX8_firstRefuting 47 = .ok (.aload_n 0, 1) := by decide +kernel
theorem dX8_firstRefuting_48 : decode cX8_firstRefuting 48 = .ok (.getfield 57, 3) := by decide +kernel
theorem dX8_firstRefuting_51 : decode cX8_firstRefuting 51 = .ok (.invokevirtual 196, 3) := by decide +kernel
theorem dX8_firstRefuting_54 : decode cX8_firstRefuting 54 = .ok (.ifCond .ne 5, 3) := by decide +kernel
theorem dX8_firstRefuting_57 : decode cX8_firstRefuting 57 = .ok (.iload_n 3, 1) := by decide +kernel
theorem dX8_firstRefuting_58 : decode cX8_firstRefuting 58 = .ok (.ireturn, 1) := by decide +kernel
theorem dX8_firstRefuting_59 : decode cX8_firstRefuting 59 = .ok (.iinc 3 1, 3) := by decide +kernel
theorem dX8_firstRefuting_62 : decode cX8_firstRefuting 62 = .ok (.goto (-54), 3) := by decide +kernel
theorem dX8_firstRefuting_65 : decode cX8_firstRefuting 65 = .ok (.iconst (-1), 1) := by decide +kernel
theorem dX8_firstRefuting_66 : decode cX8_firstRefuting 66 = .ok (.ireturn, 1) := by decide +kernel
theorem dX8_defines_0 : decode cX8_defines 0 = .ok (.sipush 512, 3) := by decide +kernel
theorem dX8_defines_3 : decode cX8_defines 3 = .ok (.istore_n 2, 1) := by decide +kernel
theorem dX8_defines_4 : decode cX8_defines 4 = .ok (.iconst 0, 1) := by decide +kernel
theorem dX8_defines_5 : decode cX8_defines 5 = .ok (.istore_n 3, 1) := by decide +kernel
theorem dX8_defines_6 : decode cX8_defines 6 = .ok (.iload_n 3, 1) := by decide +kernel
theorem dX8_defines_7 : decode cX8_defines 7 = .ok (.iload_n 2, 1) := by decide +kernel
theorem dX8_defines_8 : decode cX8_defines 8 = .ok (.if_icmp .ge 46, 3) := by decide +kernel
theorem dX8_defines_11 : decode cX8_defines 11 = .ok (.aload_n 0, 1) := by decide +kernel
theorem dX8_defines_12 : decode cX8_defines 12 = .ok (.getfield 57, 3) := by decide +kernel
theorem dX8_defines_15 : decode cX8_defines 15 = .ok (.iconst 3, 1) := by decide +kernel
theorem dX8_defines_16 : decode cX8_defines 16 = .ok (.iload_n 3, 1) := by decide +kernel
theorem dX8_defines_17 : decode cX8_defines 17 = .ok (.invokevirtual 307, 3) := by decide +kernel
theorem dX8_defines_20 : decode cX8_defines 20 = .ok (.aload_n 0, 1) := by decide +kernel
theorem dX8_defines_21 : decode cX8_defines 21 = .ok (.getfield 57, 3) := by decide +kernel
theorem dX8_defines_24 : decode cX8_defines 24 = .ok (.iload_n 1, 1) := by decide +kernel
theorem dX8_defines_25 : decode cX8_defines 25 = .ok (.invokevirtual 223, 3) := by decide +kernel
theorem dX8_defines_28 : decode cX8_defines 28 = .ok (.aload_n 0, 1) := by decide +kernel
theorem dX8_defines_29 : decode cX8_defines 29 = .ok (.getfield 63, 3) := by decide +kernel
theorem dX8_defines_32 : decode cX8_defines 32 = .ok (.aload_n 0, 1) := by decide +kernel
theorem dX8_defines_33 : decode cX8_defines 33 = .ok (.getfield 40, 3) := by decide +kernel
theorem dX8_defines_36 : decode cX8_defines 36 = .ok (.aload_n 0, 1) := by decide +kernel
theorem dX8_defines_37 : decode cX8_defines 37 = .ok (.getfield 57, 3) := by decide +kernel
theorem dX8_defines_40 : decode cX8_defines 40 = .ok (.invokevirtual 196, 3) := by decide +kernel
theorem dX8_defines_43 : decode cX8_defines 43 = .ok (.if_icmp .eq 5, 3) := by decide +kernel
theorem dX8_defines_46 : decode cX8_defines 46 = .ok (.iconst 0, 1) := by decide +kernel
theorem dX8_defines_47 : decode cX8_defines 47 = .ok (.ireturn, 1) := by decide +kernel
theorem dX8_defines_48 : decode cX8_defines 48 = .ok (.iinc 3 1, 3) := by decide +kernel
theorem dX8_defines_51 : decode cX8_defines 51 = .ok (.goto (-45), 3) := by decide +kernel
theorem dX8_defines_54 : decode cX8_defines 54 = .ok (.iconst 1, 1) := by decide +kernel
theorem dX8_defines_55 : decode cX8_defines 55 = .ok (.ireturn, 1) := by decide +kernel
theorem dX8_lawsObeyed_0 : decode cX8_lawsObeyed 0 = .ok (.iconst 0, 1) := by decide +kernel
theorem dX8_lawsObeyed_1 : decode cX8_lawsObeyed 1 = .ok (.istore_n 1, 1) := by decide +kernel
theorem dX8_lawsObeyed_2 : decode cX8_lawsObeyed 2 = .ok (.iconst 0, 1) := by decide +kernel
theorem dX8_lawsObeyed_3 : decode cX8_lawsObeyed 3 = .ok (.istore_n 2, 1) := by decide +kernel
theorem dX8_lawsObeyed_4 : decode cX8_lawsObeyed 4 = .ok (.iload_n 2, 1) := by decide +kernel
theorem dX8_lawsObeyed_5 : decode cX8_lawsObeyed 5 = .ok (.iconst 5, 1) := by decide +kernel
theorem dX8_lawsObeyed_6 : decode cX8_lawsObeyed 6 = .ok (.if_icmp .ge 23, 3) := by decide +kernel
theorem dX8_lawsObeyed_9 : decode cX8_lawsObeyed 9 = .ok (.aload_n 0, 1) := by decide +kernel
theorem dX8_lawsObeyed_10 : decode cX8_lawsObeyed 10 = .ok (.getfield 33, 3) := by decide +kernel
theorem dX8_lawsObeyed_13 : decode cX8_lawsObeyed 13 = .ok (.iload_n 2, 1) := by decide +kernel
theorem dX8_lawsObeyed_14 : decode cX8_lawsObeyed 14 = .ok (.invokevirtual 223, 3) := by decide +kernel
theorem dX8_lawsObeyed_17 : decode cX8_lawsObeyed 17 = .ok (.ifCond .eq 6, 3) := by decide +kernel
theorem dX8_lawsObeyed_20 : decode cX8_lawsObeyed 20 = .ok (.iinc 1 1, 3) := by decide +kernel
theorem dX8_lawsObeyed_23 : decode cX8_lawsObeyed 23 = .ok (.iinc 2 1, 3) := by decide +kernel
theorem dX8_lawsObeyed_26 : decode cX8_lawsObeyed 26 = .ok (.goto (-22), 3) := by decide +kernel
theorem dX8_lawsObeyed_29 : decode cX8_lawsObeyed 29 = .ok (.iload_n 1, 1) := by decide +kernel
theorem dX8_lawsObeyed_30 : decode cX8_lawsObeyed 30 = .ok (.ireturn, 1) := by decide +kernel
theorem dX8_isType_0 : decode cX8_isType 0 = .ok (.iload_n 1, 1) := by decide +kernel
theorem dX8_isType_1 : decode cX8_isType 1 = .ok (.ifCond .eq 18, 3) := by decide +kernel
theorem dX8_isType_4 : decode cX8_isType 4 = .ok (.iload_n 1, 1) := by decide +kernel
theorem dX8_isType_5 : decode cX8_isType 5 = .ok (.iload_n 0, 1) := by decide +kernel
theorem dX8_isType_6 : decode cX8_isType 6 = .ok (.if_icmp .eq 13, 3) := by decide +kernel
theorem dX8_isType_9 : decode cX8_isType 9 = .ok (.iload_n 0, 1) := by decide +kernel
theorem dX8_isType_10 : decode cX8_isType 10 = .ok (.iconst 2, 1) := by decide +kernel
theorem dX8_isType_11 : decode cX8_isType 11 = .ok (.if_icmp .ne 12, 3) := by decide +kernel
theorem dX8_isType_14 : decode cX8_isType 14 = .ok (.iload_n 1, 1) := by decide +kernel
theorem dX8_isType_15 : decode cX8_isType 15 = .ok (.iconst 1, 1) := by decide +kernel
theorem dX8_isType_16 : decode cX8_isType 16 = .ok (.if_icmp .ne 7, 3) := by decide +kernel
theorem dX8_isType_19 : decode cX8_isType 19 = .ok (.iconst 1, 1) := by decide +kernel
theorem dX8_isType_20 : decode cX8_isType 20 = .ok (.goto 4, 3) := by decide +kernel
theorem dX8_isType_23 : decode cX8_isType 23 = .ok (.iconst 0, 1) := by decide +kernel
theorem dX8_isType_24 : decode cX8_isType 24 = .ok (.ireturn, 1) := by decide +kernel
theorem dX8_isBelow_0 : decode cX8_isBelow 0 = .ok (.iload_n 0, 1) := by decide +kernel
theorem dX8_isBelow_1 : decode cX8_isBelow 1 = .ok (.ifCond .lt 12, 3) := by decide +kernel
theorem dX8_isBelow_4 : decode cX8_isBelow 4 = .ok (.iload_n 0, 1) := by decide +kernel
theorem dX8_isBelow_5 : decode cX8_isBelow 5 = .ok (.iload_n 1, 1) := by decide +kernel
theorem dX8_isBelow_6 : decode cX8_isBelow 6 = .ok (.if_icmp .ge 7, 3) := by decide +kernel
theorem dX8_isBelow_9 : decode cX8_isBelow 9 = .ok (.iconst 1, 1) := by decide +kernel
theorem dX8_isBelow_10 : decode cX8_isBelow 10 = .ok (.goto 4, 3) := by decide +kernel
theorem dX8_isBelow_13 : decode cX8_isBelow 13 = .ok (.iconst 0, 1) := by decide +kernel
theorem dX8_isBelow_14 : decode cX8_isBelow 14 = .ok (.ireturn, 1) := by decide +kernel
theorem dX8_toInt_0 : decode cX8_toInt 0 = .ok (.iload_n 0, 1) := by decide +kernel
theorem dX8_toInt_1 : decode cX8_toInt 1 = .ok (.ifCond .eq 7, 3) := by decide +kernel
theorem dX8_toInt_4 : decode cX8_toInt 4 = .ok (.iconst 1, 1) := by decide +kernel
theorem dX8_toInt_5 : decode cX8_toInt 5 = .ok (.goto 4, 3) := by decide +kernel
theorem dX8_toInt_8 : decode cX8_toInt 8 = .ok (.iconst 0, 1) := by decide +kernel
theorem dX8_toInt_9 : decode cX8_toInt 9 = .ok (.ireturn, 1) := by decide +kernel
theorem dX8_bit_0 : decode cX8_bit 0 = .ok (.iload_n 0, 1) := by decide +kernel
theorem dX8_bit_1 : decode cX8_bit 1 = .ok (.iload_n 1, 1) := by decide +kernel
theorem dX8_bit_2 : decode cX8_bit 2 = .ok (.ishr, 1) := by decide +kernel
theorem dX8_bit_3 : decode cX8_bit 3 = .ok (.iconst 1, 1) := by decide +kernel
theorem dX8_bit_4 : decode cX8_bit 4 = .ok (.iand, 1) := by decide +kernel
theorem dX8_bit_5 : decode cX8_bit 5 = .ok (.ireturn, 1) := by decide +kernel
theorem dX8_lowest_0 : decode cX8_lowest 0 = .ok (.lload_n 0, 1) := by decide +kernel
theorem dX8_lowest_1 : decode cX8_lowest 1 = .ok (.lload_n 0, 1) := by decide +kernel
theorem dX8_lowest_2 : decode cX8_lowest 2 = .ok (.lneg, 1) := by decide +kernel
theorem dX8_lowest_3 : decode cX8_lowest 3 = .ok (.land, 1) := by decide +kernel
theorem dX8_lowest_4 : decode cX8_lowest 4 = .ok (.lconst 1, 1) := by decide +kernel
theorem dX8_lowest_5 : decode cX8_lowest 5 = .ok (.lsub, 1) := by decide +kernel
theorem dX8_lowest_6 : decode cX8_lowest 6 = .ok (.invokestatic 249, 3) := by decide +kernel
theorem dX8_lowest_9 : decode cX8_lowest 9 = .ok (.ireturn, 1) := by decide +kernel
theorem dX9_init_0 : decode cX9_init 0 = .ok (.aload_n 0, 1) := by decide +kernel
theorem dX9_init_1 : decode cX9_init 1 = .ok (.invokespecial 1, 3) := by decide +kernel
theorem dX9_init_4 : decode cX9_init 4 = .ok (.aload_n 0, 1) := by decide +kernel
theorem dX9_init_5 : decode cX9_init 5 = .ok (.bipush 16, 2) := by decide +kernel
theorem dX9_init_7 : decode cX9_init 7 = .ok (.newarray .boolean, 2) := by decide +kernel
theorem dX9_init_9 : decode cX9_init 9 = .ok (.putfield 7, 3) := by decide +kernel
theorem dX9_init_12 : decode cX9_init 12 = .ok (.aload_n 0, 1) := by decide +kernel
theorem dX9_init_13 : decode cX9_init 13 = .ok (.iconst 4, 1) := by decide +kernel
theorem dX9_init_14 : decode cX9_init 14 = .ok (.newarray .int, 2) := by decide +kernel
theorem dX9_init_16 : decode cX9_init 16 = .ok (.putfield 13, 3) := by decide +kernel
theorem dX9_init_19 : decode cX9_init 19 = .ok (.aload_n 0, 1) := by decide +kernel
theorem dX9_init_20 : decode cX9_init 20 = .ok (.bipush 16, 2) := by decide +kernel
theorem dX9_init_22 : decode cX9_init 22 = .ok (.newarray .byte, 2) := by decide +kernel
theorem dX9_init_24 : decode cX9_init 24 = .ok (.putfield 17, 3) := by decide +kernel
theorem dX9_init_27 : decode cX9_init 27 = .ok (.aload_n 0, 1) := by decide +kernel
theorem dX9_init_28 : decode cX9_init 28 = .ok (.bipush 17, 2) := by decide +kernel
theorem dX9_init_30 : decode cX9_init 30 = .ok (.newarray .int, 2) := by decide +kernel
theorem dX9_init_32 : decode cX9_init 32 = .ok (.putfield 21, 3) := by decide +kernel
theorem dX9_init_35 : decode cX9_init 35 = .ok (.aload_n 0, 1) := by decide +kernel
theorem dX9_init_36 : decode cX9_init 36 = .ok (.bipush 6, 2) := by decide +kernel
theorem dX9_init_38 : decode cX9_init 38 = .ok (.newarray .int, 2) := by decide +kernel
theorem dX9_init_40 : decode cX9_init 40 = .ok (.putfield 24, 3) := by decide +kernel
theorem dX9_init_43 : decode cX9_init 43 = .ok (.aload_n 0, 1) := by decide +kernel
theorem dX9_init_44 : decode cX9_init 44 = .ok (.bipush 6, 2) := by decide +kernel
theorem dX9_init_46 : decode cX9_init 46 = .ok (.newarray .boolean, 2) := by decide +kernel
theorem dX9_init_48 : decode cX9_init 48 = .ok (.putfield 27, 3) := by decide +kernel
theorem dX9_init_51 : decode cX9_init 51 = .ok (.aload_n 0, 1) := by decide +kernel
theorem dX9_init_52 : decode cX9_init 52 = .ok (.bipush 66, 2) := by decide +kernel
theorem dX9_init_54 : decode cX9_init 54 = .ok (.newarray .byte, 2) := by decide +kernel
theorem dX9_init_56 : decode cX9_init 56 = .ok (.putfield 30, 3) := by decide +kernel
theorem dX9_init_59 : decode cX9_init 59 = .ok (.aload_n 0, 1) := by decide +kernel
theorem dX9_init_60 : decode cX9_init 60 = .ok (.bipush 16, 2) := by decide +kernel
theorem dX9_init_62 : decode cX9_init 62 = .ok (.newarray .boolean, 2) := by decide +kernel
theorem dX9_init_64 : decode cX9_init 64 = .ok (.putfield 33, 3) := by decide +kernel
theorem dX9_init_67 : decode cX9_init 67 = .ok (.aload_n 0, 1) := by decide +kernel
theorem dX9_init_68 : decode cX9_init 68 = .ok (.iconst 4, 1) := by decide +kernel
theorem dX9_init_69 : decode cX9_init 69 = .ok (.newarray .int, 2) := by decide +kernel
theorem dX9_init_71 : decode cX9_init 71 = .ok (.putfield 36, 3) := by decide +kernel
theorem dX9_init_74 : decode cX9_init 74 = .ok (.aload_n 0, 1) := by decide +kernel
theorem dX9_init_75 : decode cX9_init 75 = .ok (.bipush 16, 2) := by decide +kernel
theorem dX9_init_77 : decode cX9_init 77 = .ok (.newarray .int, 2) := by decide +kernel
theorem dX9_init_79 : decode cX9_init 79 = .ok (.putfield 39, 3) := by decide +kernel
theorem dX9_init_82 : decode cX9_init 82 = .ok (.aload_n 0, 1) := by decide +kernel
theorem dX9_init_83 : decode cX9_init 83 = .ok (.bipush 16, 2) := by decide +kernel
theorem dX9_init_85 : decode cX9_init 85 = .ok (.newarray .boolean, 2) := by decide +kernel
theorem dX9_init_87 : decode cX9_init 87 = .ok (.putfield 42, 3) := by decide +kernel
theorem dX9_init_90 : decode cX9_init 90 = .ok (.aload_n 0, 1) := by decide +kernel
theorem dX9_init_91 : decode cX9_init 91 = .ok (.bipush 16, 2) := by decide +kernel
theorem dX9_init_93 : decode cX9_init 93 = .ok (.newarray .boolean, 2) := by decide +kernel
theorem dX9_init_95 : decode cX9_init 95 = .ok (.putfield 45, 3) := by decide +kernel
theorem dX9_init_98 : decode cX9_init 98 = .ok (.aload_n 0, 1) := by decide +kernel
theorem dX9_init_99 : decode cX9_init 99 = .ok (.iconst 4, 1) := by decide +kernel
theorem dX9_init_100 : decode cX9_init 100 = .ok (.newarray .int, 2) := by decide +kernel
theorem dX9_init_102 : decode cX9_init 102 = .ok (.putfield 48, 3) := by decide +kernel
theorem dX9_init_105 : decode cX9_init 105 = .ok (.aload_n 0, 1) := by decide +kernel
theorem dX9_init_106 : decode cX9_init 106 = .ok (.bipush 6, 2) := by decide +kernel
theorem dX9_init_108 : decode cX9_init 108 = .ok (.newarray .int, 2) := by decide +kernel
theorem dX9_init_110 : decode cX9_init 110 = .ok (.putfield 51, 3) := by decide +kernel
theorem dX9_init_113 : decode cX9_init 113 = .ok (.aload_n 0, 1) := by decide +kernel
theorem dX9_init_114 : decode cX9_init 114 = .ok (.bipush 6, 2) := by decide +kernel
theorem dX9_init_116 : decode cX9_init 116 = .ok (.newarray .boolean, 2) := by decide +kernel
theorem dX9_init_118 : decode cX9_init 118 = .ok (.putfield 54, 3) := by decide +kernel
theorem dX9_init_121 : decode cX9_init 121 = .ok (.return_, 1) := by decide +kernel
theorem dX9_within_0 : decode cX9_within 0 = .ok (.iload_n 0, 1) := by decide +kernel
theorem dX9_within_1 : decode cX9_within 1 = .ok (.iload_n 1, 1) := by decide +kernel
theorem dX9_within_2 : decode cX9_within 2 = .ok (.if_icmp .lt 12, 3) := by decide +kernel
theorem dX9_within_5 : decode cX9_within 5 = .ok (.iload_n 0, 1) := by decide +kernel
theorem dX9_within_6 : decode cX9_within 6 = .ok (.iload_n 2, 1) := by decide +kernel
theorem dX9_within_7 : decode cX9_within 7 = .ok (.if_icmp .gt 7, 3) := by decide +kernel
theorem dX9_within_10 : decode cX9_within 10 = .ok (.iconst 1, 1) := by decide +kernel
theorem dX9_within_11 : decode cX9_within 11 = .ok (.goto 4, 3) := by decide +kernel
theorem dX9_within_14 : decode cX9_within 14 = .ok (.iconst 0, 1) := by decide +kernel
theorem dX9_within_15 : decode cX9_within 15 = .ok (.ireturn, 1) := by decide +kernel
theorem dX9_isIn_0 : decode cX9_isIn 0 = .ok (.iload_n 0, 1) := by decide +kernel
theorem dX9_isIn_1 : decode cX9_isIn 1 = .ok (.iload_n 1, 1) := by decide +kernel
theorem dX9_isIn_2 : decode cX9_isIn 2 = .ok (.ishr, 1) := by decide +kernel
theorem dX9_isIn_3 : decode cX9_isIn 3 = .ok (.iconst 1, 1) := by decide +kernel
theorem dX9_isIn_4 : decode cX9_isIn 4 = .ok (.iand, 1) := by decide +kernel
theorem dX9_isIn_5 : decode cX9_isIn 5 = .ok (.iconst 1, 1) := by decide +kernel
theorem dX9_isIn_6 : decode cX9_isIn 6 = .ok (.if_icmp .ne 7, 3) := by decide +kernel
theorem dX9_isIn_9 : decode cX9_isIn 9 = .ok (.iconst 1, 1) := by decide +kernel
theorem dX9_isIn_10 : decode cX9_isIn 10 = .ok (.goto 4, 3) := by decide +kernel
theorem dX9_isIn_13 : decode cX9_isIn 13 = .ok (.iconst 0, 1) := by decide +kernel
theorem dX9_isIn_14 : decode cX9_isIn 14 = .ok (.ireturn, 1) := by decide +kernel
theorem dX9_size_0 : decode cX9_size 0 = .ok (.iconst 0, 1) := by decide +kernel
theorem dX9_size_1 : decode cX9_size 1 = .ok (.istore_n 1, 1) := by decide +kernel
theorem dX9_size_2 : decode cX9_size 2 = .ok (.iconst 0, 1) := by decide +kernel
theorem dX9_size_3 : decode cX9_size 3 = .ok (.istore_n 2, 1) := by decide +kernel
theorem dX9_size_4 : decode cX9_size 4 = .ok (.iload_n 2, 1) := by decide +kernel
theorem dX9_size_5 : decode cX9_size 5 = .ok (.bipush 16, 2) := by decide +kernel
theorem dX9_size_7 : decode cX9_size 7 = .ok (.if_icmp .ge 17, 3) := by decide +kernel
theorem dX9_size_10 : decode cX9_size 10 = .ok (.iload_n 1, 1) := by decide +kernel
theorem dX9_size_11 : decode cX9_size 11 = .ok (.iload_n 0, 1) := by decide +kernel
theorem dX9_size_12 : decode cX9_size 12 = .ok (.iload_n 2, 1) := by decide +kernel
theorem dX9_size_13 : decode cX9_size 13 = .ok (.ishr, 1) := by decide +kernel
theorem dX9_size_14 : decode cX9_size 14 = .ok (.iconst 1, 1) := by decide +kernel
theorem dX9_size_15 : decode cX9_size 15 = .ok (.iand, 1) := by decide +kernel
theorem dX9_size_16 : decode cX9_size 16 = .ok (.iadd, 1) := by decide +kernel
theorem dX9_size_17 : decode cX9_size 17 = .ok (.istore_n 1, 1) := by decide +kernel
theorem dX9_size_18 : decode cX9_size 18 = .ok (.iinc 2 1, 3) := by decide +kernel
theorem dX9_size_21 : decode cX9_size 21 = .ok (.goto (-17), 3) := by decide +kernel
theorem dX9_size_24 : decode cX9_size 24 = .ok (.iload_n 1, 1) := by decide +kernel
theorem dX9_size_25 : decode cX9_size 25 = .ok (.ireturn, 1) := by decide +kernel
theorem dX9_letter_0 : decode cX9_letter 0 = .ok (.iload_n 1, 1) := by decide +kernel
theorem dX9_letter_1 : decode cX9_letter 1 = .ok (.bipush 32, 2) := by decide +kernel
theorem dX9_letter_3 : decode cX9_letter 3 = .ok (.bipush 126, 2) := by decide +kernel
theorem dX9_letter_5 : decode cX9_letter 5 = .ok (.invokestatic 57, 3) := by decide +kernel
theorem dX9_letter_8 : decode cX9_letter 8 = .ok (.ifCond .ne 6, 3) := by decide +kernel
theorem dX9_letter_11 : decode cX9_letter 11 = .ok (.bipush (-102), 2) := by decide +kernel
theorem dX9_letter_13 : decode cX9_letter 13 = .ok (.ireturn, 1) := by decide +kernel
theorem dX9_letter_14 : decode cX9_letter 14 = .ok (.aload_n 0, 1) := by decide +kernel
theorem dX9_letter_15 : decode cX9_letter 15 = .ok (.getfield 61, 3) := by decide +kernel
theorem dX9_letter_18 : decode cX9_letter 18 = .ok (.bipush 66, 2) := by decide +kernel
theorem dX9_letter_20 : decode cX9_letter 20 = .ok (.if_icmp .ne 6, 3) := by decide +kernel
theorem dX9_letter_23 : decode cX9_letter 23 = .ok (.bipush (-104), 2) := by decide +kernel
theorem dX9_letter_25 : decode cX9_letter 25 = .ok (.ireturn, 1) := by decide +kernel
theorem dX9_letter_26 : decode cX9_letter 26 = .ok (.aload_n 0, 1) := by decide +kernel
theorem dX9_letter_27 : decode cX9_letter 27 = .ok (.getfield 30, 3) := by decide +kernel
theorem dX9_letter_30 : decode cX9_letter 30 = .ok (.aload_n 0, 1) := by decide +kernel
theorem dX9_letter_31 : decode cX9_letter 31 = .ok (.getfield 61, 3) := by decide +kernel
theorem dX9_letter_34 : decode cX9_letter 34 = .ok (.iload_n 1, 1) := by decide +kernel
theorem dX9_letter_35 : decode cX9_letter 35 = .ok (.i2b, 1) := by decide +kernel
theorem dX9_letter_36 : decode cX9_letter 36 = .ok (.bastore, 1) := by decide +kernel
theorem dX9_letter_37 : decode cX9_letter 37 = .ok (.aload_n 0, 1) := by decide +kernel
theorem dX9_letter_38 : decode cX9_letter 38 = .ok (.dup, 1) := by decide +kernel
theorem dX9_letter_39 : decode cX9_letter 39 = .ok (.getfield 61, 3) := by decide +kernel
theorem dX9_letter_42 : decode cX9_letter 42 = .ok (.iconst 1, 1) := by decide +kernel
theorem dX9_letter_43 : decode cX9_letter 43 = .ok (.iadd, 1) := by decide +kernel
theorem dX9_letter_44 : decode cX9_letter 44 = .ok (.putfield 61, 3) := by decide +kernel
theorem dX9_letter_47 : decode cX9_letter 47 = .ok (.aload_n 0, 1) := by decide +kernel
theorem dX9_letter_48 : decode cX9_letter 48 = .ok (.getfield 61, 3) := by decide +kernel
theorem dX9_letter_51 : decode cX9_letter 51 = .ok (.ireturn, 1) := by decide +kernel
theorem dX9_blank_0 : decode cX9_blank 0 = .ok (.aload_n 0, 1) := by decide +kernel
theorem dX9_blank_1 : decode cX9_blank 1 = .ok (.getfield 61, 3) := by decide +kernel
theorem dX9_blank_4 : decode cX9_blank 4 = .ok (.istore_n 1, 1) := by decide +kernel
theorem dX9_blank_5 : decode cX9_blank 5 = .ok (.aload_n 0, 1) := by decide +kernel
theorem dX9_blank_6 : decode cX9_blank 6 = .ok (.iconst 0, 1) := by decide +kernel
theorem dX9_blank_7 : decode cX9_blank 7 = .ok (.putfield 61, 3) := by decide +kernel
theorem dX9_blank_10 : decode cX9_blank 10 = .ok (.iload_n 1, 1) := by decide +kernel
theorem dX9_blank_11 : decode cX9_blank 11 = .ok (.ireturn, 1) := by decide +kernel
theorem dX9_kindBy_0 : decode cX9_kindBy 0 = .ok (.iload_n 0, 1) := by decide +kernel
theorem dX9_kindBy_1 : decode cX9_kindBy 1 = .ok (.lookupswitch 61 #[(100, 59), (107, 51), (115, 55), (116, 53), (121, 57)], 51) := by decide +kernel
theorem dX9_kindBy_52 : decode cX9_kindBy 52 = .ok (.iconst 0, 1) := by decide +kernel
theorem dX9_kindBy_53 : decode cX9_kindBy 53 = .ok (.ireturn, 1) := by decide +kernel
theorem dX9_kindBy_54 : decode cX9_kindBy 54 = .ok (.iconst 1, 1) := by decide +kernel
theorem dX9_kindBy_55 : decode cX9_kindBy 55 = .ok (.ireturn, 1) := by decide +kernel
theorem dX9_kindBy_56 : decode cX9_kindBy 56 = .ok (.iconst 2, 1) := by decide +kernel
theorem dX9_kindBy_57 : decode cX9_kindBy 57 = .ok (.ireturn, 1) := by decide +kernel
theorem dX9_kindBy_58 : decode cX9_kindBy 58 = .ok (.iconst 3, 1) := by decide +kernel
theorem dX9_kindBy_59 : decode cX9_kindBy 59 = .ok (.ireturn, 1) := by decide +kernel
theorem dX9_kindBy_60 : decode cX9_kindBy 60 = .ok (.iconst 4, 1) := by decide +kernel
theorem dX9_kindBy_61 : decode cX9_kindBy 61 = .ok (.ireturn, 1) := by decide +kernel
theorem dX9_kindBy_62 : decode cX9_kindBy 62 = .ok (.iconst (-1), 1) := by decide +kernel
theorem dX9_kindBy_63 : decode cX9_kindBy 63 = .ok (.ireturn, 1) := by decide +kernel
theorem dX9_goes_0 : decode cX9_goes 0 = .ok (.iload_n 1, 1) := by decide +kernel
theorem dX9_goes_1 : decode cX9_goes 1 = .ok (.ifCond .eq 8, 3) := by decide +kernel
theorem dX9_goes_4 : decode cX9_goes 4 = .ok (.aload_n 0, 1) := by decide +kernel
theorem dX9_goes_5 : decode cX9_goes 5 = .ok (.iload_n 2, 1) := by decide +kernel
theorem dX9_goes_6 : decode cX9_goes 6 = .ok (.putfield 65, 3) := by decide +kernel
theorem dX9_goes_9 : decode cX9_goes 9 = .ok (.iload_n 1, 1) := by decide +kernel
theorem dX9_goes_10 : decode cX9_goes 10 = .ok (.ireturn, 1) := by decide +kernel
theorem dX9_takes_0 : decode cX9_takes 0 = .ok (.iload_n 1, 1) := by decide +kernel
theorem dX9_takes_1 : decode cX9_takes 1 = .ok (.bipush 48, 2) := by decide +kernel
theorem dX9_takes_3 : decode cX9_takes 3 = .ok (.isub, 1) := by decide +kernel
theorem dX9_takes_4 : decode cX9_takes 4 = .ok (.istore_n 2, 1) := by decide +kernel
theorem dX9_takes_5 : decode cX9_takes 5 = .ok (.iload_n 2, 1) := by decide +kernel
theorem dX9_takes_6 : decode cX9_takes 6 = .ok (.iconst 0, 1) := by decide +kernel
theorem dX9_takes_7 : decode cX9_takes 7 = .ok (.aload_n 0, 1) := by decide +kernel
theorem dX9_takes_8 : decode cX9_takes 8 = .ok (.getfield 68, 3) := by decide +kernel
theorem dX9_takes_11 : decode cX9_takes 11 = .ok (.iconst 1, 1) := by decide +kernel
theorem dX9_takes_12 : decode cX9_takes 12 = .ok (.isub, 1) := by decide +kernel
theorem dX9_takes_13 : decode cX9_takes 13 = .ok (.invokestatic 57, 3) := by decide +kernel
theorem dX9_takes_16 : decode cX9_takes 16 = .ok (.istore_n 3, 1) := by decide +kernel
theorem dX9_takes_17 : decode cX9_takes 17 = .ok (.aload_n 0, 1) := by decide +kernel
theorem dX9_takes_18 : decode cX9_takes 18 = .ok (.getfield 65, 3) := by decide +kernel
theorem dX9_takes_21 : decode cX9_takes 21 = .ok (.tableswitch 207 0 7 #[47, 74, 91, 108, 136, 143, 177, 189], 47) := by decide +kernel
theorem dX9_takes_68 : decode cX9_takes 68 = .ok (.aload_n 0, 1) := by decide +kernel
theorem dX9_takes_69 : decode cX9_takes 69 = .ok (.iload_n 1, 1) := by decide +kernel
theorem dX9_takes_70 : decode cX9_takes 70 = .ok (.invokestatic 71, 3) := by decide +kernel
theorem dX9_takes_73 : decode cX9_takes 73 = .ok (.putfield 75, 3) := by decide +kernel
theorem dX9_takes_76 : decode cX9_takes 76 = .ok (.aload_n 0, 1) := by decide +kernel
theorem dX9_takes_77 : decode cX9_takes 77 = .ok (.aload_n 0, 1) := by decide +kernel
theorem dX9_takes_78 : decode cX9_takes 78 = .ok (.getfield 75, 3) := by decide +kernel
theorem dX9_takes_81 : decode cX9_takes 81 = .ok (.iconst (-1), 1) := by decide +kernel
theorem dX9_takes_82 : decode cX9_takes 82 = .ok (.if_icmp .eq 7, 3) := by decide +kernel
theorem dX9_takes_85 : decode cX9_takes 85 = .ok (.iconst 1, 1) := by decide +kernel
theorem dX9_takes_86 : decode cX9_takes 86 = .ok (.goto 4, 3) := by decide +kernel
theorem dX9_takes_89 : decode cX9_takes 89 = .ok (.iconst 0, 1) := by decide +kernel
theorem dX9_takes_90 : decode cX9_takes 90 = .ok (.iconst 1, 1) := by decide +kernel
theorem dX9_takes_91 : decode cX9_takes 91 = .ok (.invokevirtual 78, 3) := by decide +kernel
theorem dX9_takes_94 : decode cX9_takes 94 = .ok (.ireturn, 1) := by decide +kernel
theorem dX9_takes_95 : decode cX9_takes 95 = .ok (.aload_n 0, 1) := by decide +kernel
theorem dX9_takes_96 : decode cX9_takes 96 = .ok (.iload_n 2, 1) := by decide +kernel
theorem dX9_takes_97 : decode cX9_takes 97 = .ok (.putfield 68, 3) := by decide +kernel
theorem dX9_takes_100 : decode cX9_takes 100 = .ok (.aload_n 0, 1) := by decide +kernel
theorem dX9_takes_101 : decode cX9_takes 101 = .ok (.iload_n 2, 1) := by decide +kernel
theorem dX9_takes_102 : decode cX9_takes 102 = .ok (.iconst 1, 1) := by decide +kernel
theorem dX9_takes_103 : decode cX9_takes 103 = .ok (.iconst 4, 1) := by decide +kernel
theorem dX9_takes_104 : decode cX9_takes 104 = .ok (.invokestatic 57, 3) := by decide +kernel
theorem dX9_takes_107 : decode cX9_takes 107 = .ok (.iconst 2, 1) := by decide +kernel
theorem dX9_takes_108 : decode cX9_takes 108 = .ok (.invokevirtual 78, 3) := by decide +kernel
theorem dX9_takes_111 : decode cX9_takes 111 = .ok (.ireturn, 1) := by decide +kernel
theorem dX9_takes_112 : decode cX9_takes 112 = .ok (.aload_n 0, 1) := by decide +kernel
theorem dX9_takes_113 : decode cX9_takes 113 = .ok (.iload_n 1, 1) := by decide +kernel
theorem dX9_takes_114 : decode cX9_takes 114 = .ok (.bipush 58, 2) := by decide +kernel
theorem dX9_takes_116 : decode cX9_takes 116 = .ok (.if_icmp .ne 7, 3) := by decide +kernel
theorem dX9_takes_119 : decode cX9_takes 119 = .ok (.iconst 1, 1) := by decide +kernel
theorem dX9_takes_120 : decode cX9_takes 120 = .ok (.goto 4, 3) := by decide +kernel
theorem dX9_takes_123 : decode cX9_takes 123 = .ok (.iconst 0, 1) := by decide +kernel
theorem dX9_takes_124 : decode cX9_takes 124 = .ok (.iconst 3, 1) := by decide +kernel
theorem dX9_takes_125 : decode cX9_takes 125 = .ok (.invokevirtual 78, 3) := by decide +kernel
theorem dX9_takes_128 : decode cX9_takes 128 = .ok (.ireturn, 1) := by decide +kernel
theorem dX9_takes_129 : decode cX9_takes 129 = .ok (.aload_n 0, 1) := by decide +kernel
theorem dX9_takes_130 : decode cX9_takes 130 = .ok (.iload_n 2, 1) := by decide +kernel
theorem dX9_takes_131 : decode cX9_takes 131 = .ok (.putfield 82, 3) := by decide +kernel
theorem dX9_takes_134 : decode cX9_takes 134 = .ok (.iload_n 1, 1) := by decide +kernel
theorem dX9_takes_135 : decode cX9_takes 135 = .ok (.bipush 59, 2) := by decide +kernel
theorem dX9_takes_137 : decode cX9_takes 137 = .ok (.if_icmp .ne 13, 3) := by decide +kernel
theorem dX9_takes_140 : decode cX9_takes 140 = .ok (.aload_n 0, 1) := by decide +kernel
theorem dX9_takes_141 : decode cX9_takes 141 = .ok (.iconst 1, 1) := by decide +kernel
theorem dX9_takes_142 : decode cX9_takes 142 = .ok (.bipush 7, 2) := by decide +kernel
theorem dX9_takes_144 : decode cX9_takes 144 = .ok (.invokevirtual 78, 3) := by decide +kernel
theorem dX9_takes_147 : decode cX9_takes 147 = .ok (.goto 9, 3) := by decide +kernel
theorem dX9_takes_150 : decode cX9_takes 150 = .ok (.aload_n 0, 1) := by decide +kernel
theorem dX9_takes_151 : decode cX9_takes 151 = .ok (.iload_n 3, 1) := by decide +kernel
theorem dX9_takes_152 : decode cX9_takes 152 = .ok (.iconst 4, 1) := by decide +kernel
theorem dX9_takes_153 : decode cX9_takes 153 = .ok (.invokevirtual 78, 3) := by decide +kernel
theorem dX9_takes_156 : decode cX9_takes 156 = .ok (.ireturn, 1) := by decide +kernel
theorem dX9_takes_157 : decode cX9_takes 157 = .ok (.aload_n 0, 1) := by decide +kernel
theorem dX9_takes_158 : decode cX9_takes 158 = .ok (.iload_n 3, 1) := by decide +kernel
theorem dX9_takes_159 : decode cX9_takes 159 = .ok (.iload_n 2, 1) := by decide +kernel
theorem dX9_takes_160 : decode cX9_takes 160 = .ok (.invokevirtual 85, 3) := by decide +kernel
theorem dX9_takes_163 : decode cX9_takes 163 = .ok (.ireturn, 1) := by decide +kernel
theorem dX9_takes_164 : decode cX9_takes 164 = .ok (.iload_n 1, 1) := by decide +kernel
theorem dX9_takes_165 : decode cX9_takes 165 = .ok (.bipush 59, 2) := by decide +kernel
theorem dX9_takes_167 : decode cX9_takes 167 = .ok (.if_icmp .ne 13, 3) := by decide +kernel
theorem dX9_takes_170 : decode cX9_takes 170 = .ok (.aload_n 0, 1) := by decide +kernel
theorem dX9_takes_171 : decode cX9_takes 171 = .ok (.iconst 1, 1) := by decide +kernel
theorem dX9_takes_172 : decode cX9_takes 172 = .ok (.bipush 7, 2) := by decide +kernel
theorem dX9_takes_174 : decode cX9_takes 174 = .ok (.invokevirtual 78, 3) := by decide +kernel
theorem dX9_takes_177 : decode cX9_takes 177 = .ok (.goto 20, 3) := by decide +kernel
theorem dX9_takes_180 : decode cX9_takes 180 = .ok (.aload_n 0, 1) := by decide +kernel
theorem dX9_takes_181 : decode cX9_takes 181 = .ok (.iload_n 1, 1) := by decide +kernel
theorem dX9_takes_182 : decode cX9_takes 182 = .ok (.bipush 44, 2) := by decide +kernel
theorem dX9_takes_184 : decode cX9_takes 184 = .ok (.if_icmp .ne 7, 3) := by decide +kernel
theorem dX9_takes_187 : decode cX9_takes 187 = .ok (.iconst 1, 1) := by decide +kernel
theorem dX9_takes_188 : decode cX9_takes 188 = .ok (.goto 4, 3) := by decide +kernel
theorem dX9_takes_191 : decode cX9_takes 191 = .ok (.iconst 0, 1) := by decide +kernel
theorem dX9_takes_192 : decode cX9_takes 192 = .ok (.bipush 6, 2) := by decide +kernel
theorem dX9_takes_194 : decode cX9_takes 194 = .ok (.invokevirtual 78, 3) := by decide +kernel
theorem dX9_takes_197 : decode cX9_takes 197 = .ok (.ireturn, 1) := by decide +kernel
theorem dX9_takes_198 : decode cX9_takes 198 = .ok (.aload_n 0, 1) := by decide +kernel
theorem dX9_takes_199 : decode cX9_takes 199 = .ok (.iload_n 2, 1) := by decide +kernel
theorem dX9_takes_200 : decode cX9_takes 200 = .ok (.putfield 82, 3) := by decide +kernel
theorem dX9_takes_203 : decode cX9_takes 203 = .ok (.aload_n 0, 1) := by decide +kernel
theorem dX9_takes_204 : decode cX9_takes 204 = .ok (.iload_n 3, 1) := by decide +kernel
theorem dX9_takes_205 : decode cX9_takes 205 = .ok (.iconst 4, 1) := by decide +kernel
theorem dX9_takes_206 : decode cX9_takes 206 = .ok (.invokevirtual 78, 3) := by decide +kernel
theorem dX9_takes_209 : decode cX9_takes 209 = .ok (.ireturn, 1) := by decide +kernel
theorem dX9_takes_210 : decode cX9_takes 210 = .ok (.aload_n 0, 1) := by decide +kernel
theorem dX9_takes_211 : decode cX9_takes 211 = .ok (.iload_n 1, 1) := by decide +kernel
theorem dX9_takes_212 : decode cX9_takes 212 = .ok (.bipush 112, 2) := by decide +kernel
theorem dX9_takes_214 : decode cX9_takes 214 = .ok (.if_icmp .ne 7, 3) := by decide +kernel
theorem dX9_takes_217 : decode cX9_takes 217 = .ok (.iconst 1, 1) := by decide +kernel
theorem dX9_takes_218 : decode cX9_takes 218 = .ok (.goto 4, 3) := by decide +kernel
theorem dX9_takes_221 : decode cX9_takes 221 = .ok (.iconst 0, 1) := by decide +kernel
theorem dX9_takes_222 : decode cX9_takes 222 = .ok (.bipush 8, 2) := by decide +kernel
theorem dX9_takes_224 : decode cX9_takes 224 = .ok (.invokevirtual 78, 3) := by decide +kernel
theorem dX9_takes_227 : decode cX9_takes 227 = .ok (.ireturn, 1) := by decide +kernel
theorem dX9_takes_228 : decode cX9_takes 228 = .ok (.aload_n 0, 1) := by decide +kernel
theorem dX9_takes_229 : decode cX9_takes 229 = .ok (.iload_n 1, 1) := by decide +kernel
theorem dX9_takes_230 : decode cX9_takes 230 = .ok (.iload_n 3, 1) := by decide +kernel
theorem dX9_takes_231 : decode cX9_takes 231 = .ok (.ifCond .eq 15, 3) := by decide +kernel
theorem dX9_takes_234 : decode cX9_takes 234 = .ok (.iload_n 2, 1) := by decide +kernel
theorem dX9_takes_235 : decode cX9_takes 235 = .ok (.aload_n 0, 1) := by decide +kernel
theorem dX9_takes_236 : decode cX9_takes 236 = .ok (.getfield 88, 3) := by decide +kernel
theorem dX9_takes_239 : decode cX9_takes 239 = .ok (.if_icmp .le 7, 3) := by decide +kernel
theorem dX9_takes_242 : decode cX9_takes 242 = .ok (.iconst 1, 1) := by decide +kernel
theorem dX9_takes_243 : decode cX9_takes 243 = .ok (.goto 4, 3) := by decide +kernel
theorem dX9_takes_246 : decode cX9_takes 246 = .ok (.iconst 0, 1) := by decide +kernel
theorem dX9_takes_247 : decode cX9_takes 247 = .ok (.iload_n 2, 1) := by decide +kernel
theorem dX9_takes_248 : decode cX9_takes 248 = .ok (.invokevirtual 91, 3) := by decide +kernel
theorem dX9_takes_251 : decode cX9_takes 251 = .ok (.ireturn, 1) := by decide +kernel
theorem dX9_takesArrow_0 : decode cX9_takesArrow 0 = .ok (.iload_n 1, 1) := by decide +kernel
theorem dX9_takesArrow_1 : decode cX9_takesArrow 1 = .ok (.ifCond .eq 23, 3) := by decide +kernel
theorem dX9_takesArrow_4 : decode cX9_takesArrow 4 = .ok (.aload_n 0, 1) := by decide +kernel
theorem dX9_takesArrow_5 : decode cX9_takesArrow 5 = .ok (.getfield 33, 3) := by decide +kernel
theorem dX9_takesArrow_8 : decode cX9_takesArrow 8 = .ok (.iconst 4, 1) := by decide +kernel
theorem dX9_takesArrow_9 : decode cX9_takesArrow 9 = .ok (.aload_n 0, 1) := by decide +kernel
theorem dX9_takesArrow_10 : decode cX9_takesArrow 10 = .ok (.getfield 82, 3) := by decide +kernel
theorem dX9_takesArrow_13 : decode cX9_takesArrow 13 = .ok (.imul, 1) := by decide +kernel
theorem dX9_takesArrow_14 : decode cX9_takesArrow 14 = .ok (.iload_n 2, 1) := by decide +kernel
theorem dX9_takesArrow_15 : decode cX9_takesArrow 15 = .ok (.iadd, 1) := by decide +kernel
theorem dX9_takesArrow_16 : decode cX9_takesArrow 16 = .ok (.baload, 1) := by decide +kernel
theorem dX9_takesArrow_17 : decode cX9_takesArrow 17 = .ok (.ifCond .ne 7, 3) := by decide +kernel
theorem dX9_takesArrow_20 : decode cX9_takesArrow 20 = .ok (.iconst 1, 1) := by decide +kernel
theorem dX9_takesArrow_21 : decode cX9_takesArrow 21 = .ok (.goto 4, 3) := by decide +kernel
theorem dX9_takesArrow_24 : decode cX9_takesArrow 24 = .ok (.iconst 0, 1) := by decide +kernel
theorem dX9_takesArrow_25 : decode cX9_takesArrow 25 = .ok (.istore_n 3, 1) := by decide +kernel
theorem dX9_takesArrow_26 : decode cX9_takesArrow 26 = .ok (.iload_n 3, 1) := by decide +kernel
theorem dX9_takesArrow_27 : decode cX9_takesArrow 27 = .ok (.ifCond .eq 22, 3) := by decide +kernel
theorem dX9_takesArrow_30 : decode cX9_takesArrow 30 = .ok (.aload_n 0, 1) := by decide +kernel
theorem dX9_takesArrow_31 : decode cX9_takesArrow 31 = .ok (.getfield 33, 3) := by decide +kernel
theorem dX9_takesArrow_34 : decode cX9_takesArrow 34 = .ok (.iconst 4, 1) := by decide +kernel
theorem dX9_takesArrow_35 : decode cX9_takesArrow 35 = .ok (.aload_n 0, 1) := by decide +kernel
theorem dX9_takesArrow_36 : decode cX9_takesArrow 36 = .ok (.getfield 82, 3) := by decide +kernel
theorem dX9_takesArrow_39 : decode cX9_takesArrow 39 = .ok (.imul, 1) := by decide +kernel
theorem dX9_takesArrow_40 : decode cX9_takesArrow 40 = .ok (.iload_n 2, 1) := by decide +kernel
theorem dX9_takesArrow_41 : decode cX9_takesArrow 41 = .ok (.iadd, 1) := by decide +kernel
theorem dX9_takesArrow_42 : decode cX9_takesArrow 42 = .ok (.iconst 1, 1) := by decide +kernel
theorem dX9_takesArrow_43 : decode cX9_takesArrow 43 = .ok (.bastore, 1) := by decide +kernel
theorem dX9_takesArrow_44 : decode cX9_takesArrow 44 = .ok (.aload_n 0, 1) := by decide +kernel
theorem dX9_takesArrow_45 : decode cX9_takesArrow 45 = .ok (.iconst 5, 1) := by decide +kernel
theorem dX9_takesArrow_46 : decode cX9_takesArrow 46 = .ok (.putfield 65, 3) := by decide +kernel
theorem dX9_takesArrow_49 : decode cX9_takesArrow 49 = .ok (.iload_n 3, 1) := by decide +kernel
theorem dX9_takesArrow_50 : decode cX9_takesArrow 50 = .ok (.ireturn, 1) := by decide +kernel
theorem dX9_takesMark_0 : decode cX9_takesMark 0 = .ok (.aload_n 0, 1) := by decide +kernel
theorem dX9_takesMark_1 : decode cX9_takesMark 1 = .ok (.getfield 65, 3) := by decide +kernel
