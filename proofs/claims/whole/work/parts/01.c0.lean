theorem dX0_init_0 : decode cX0_init 0 = .ok (.aload_n 0, 1) := by decide +kernel
theorem dX0_init_1 : decode cX0_init 1 = .ok (.invokespecial 3, 3) := by decide +kernel
theorem dX0_init_4 : decode cX0_init 4 = .ok (.aload_n 0, 1) := by decide +kernel
theorem dX0_init_5 : decode cX0_init 5 = .ok (.bipush 16, 2) := by decide +kernel
theorem dX0_init_7 : decode cX0_init 7 = .ok (.newarray .int, 2) := by decide +kernel
theorem dX0_init_9 : decode cX0_init 9 = .ok (.putfield 9, 3) := by decide +kernel
theorem dX0_init_12 : decode cX0_init 12 = .ok (.aload_n 0, 1) := by decide +kernel
theorem dX0_init_13 : decode cX0_init 13 = .ok (.bipush 16, 2) := by decide +kernel
theorem dX0_init_15 : decode cX0_init 15 = .ok (.newarray .int, 2) := by decide +kernel
theorem dX0_init_17 : decode cX0_init 17 = .ok (.putfield 15, 3) := by decide +kernel
theorem dX0_init_20 : decode cX0_init 20 = .ok (.return_, 1) := by decide +kernel
theorem dX0_operands_0 : decode cX0_operands 0 = .ok (.iload_n 0, 1) := by decide +kernel
theorem dX0_operands_1 : decode cX0_operands 1 = .ok (.lookupswitch 81 #[(38, 79), (62, 79), (77, 77), (78, 77), (112, 75), (113, 75), (124, 79), (126, 77)], 75) := by decide +kernel
theorem dX0_operands_76 : decode cX0_operands 76 = .ok (.iconst 0, 1) := by decide +kernel
theorem dX0_operands_77 : decode cX0_operands 77 = .ok (.ireturn, 1) := by decide +kernel
theorem dX0_operands_78 : decode cX0_operands 78 = .ok (.iconst 1, 1) := by decide +kernel
theorem dX0_operands_79 : decode cX0_operands 79 = .ok (.ireturn, 1) := by decide +kernel
theorem dX0_operands_80 : decode cX0_operands 80 = .ok (.iconst 2, 1) := by decide +kernel
theorem dX0_operands_81 : decode cX0_operands 81 = .ok (.ireturn, 1) := by decide +kernel
theorem dX0_operands_82 : decode cX0_operands 82 = .ok (.iconst (-1), 1) := by decide +kernel
theorem dX0_operands_83 : decode cX0_operands 83 = .ok (.ireturn, 1) := by decide +kernel
theorem dX0_length_0 : decode cX0_length 0 = .ok (.aload_n 0, 1) := by decide +kernel
theorem dX0_length_1 : decode cX0_length 1 = .ok (.getfield 18, 3) := by decide +kernel
theorem dX0_length_4 : decode cX0_length 4 = .ok (.ireturn, 1) := by decide +kernel
theorem dX0_signAt_0 : decode cX0_signAt 0 = .ok (.iload_n 1, 1) := by decide +kernel
theorem dX0_signAt_1 : decode cX0_signAt 1 = .ok (.aload_n 0, 1) := by decide +kernel
theorem dX0_signAt_2 : decode cX0_signAt 2 = .ok (.getfield 9, 3) := by decide +kernel
theorem dX0_signAt_5 : decode cX0_signAt 5 = .ok (.arraylength, 1) := by decide +kernel
theorem dX0_signAt_6 : decode cX0_signAt 6 = .ok (.invokestatic 22, 3) := by decide +kernel
theorem dX0_signAt_9 : decode cX0_signAt 9 = .ok (.ifCond .eq 12, 3) := by decide +kernel
theorem dX0_signAt_12 : decode cX0_signAt 12 = .ok (.aload_n 0, 1) := by decide +kernel
theorem dX0_signAt_13 : decode cX0_signAt 13 = .ok (.getfield 9, 3) := by decide +kernel
theorem dX0_signAt_16 : decode cX0_signAt 16 = .ok (.iload_n 1, 1) := by decide +kernel
theorem dX0_signAt_17 : decode cX0_signAt 17 = .ok (.iaload, 1) := by decide +kernel
theorem dX0_signAt_18 : decode cX0_signAt 18 = .ok (.goto 4, 3) := by decide +kernel
theorem dX0_signAt_21 : decode cX0_signAt 21 = .ok (.iconst (-1), 1) := by decide +kernel
theorem dX0_signAt_22 : decode cX0_signAt 22 = .ok (.ireturn, 1) := by decide +kernel
theorem dX0_end_0 : decode cX0_end 0 = .ok (.iload_n 1, 1) := by decide +kernel
theorem dX0_end_1 : decode cX0_end 1 = .ok (.aload_n 0, 1) := by decide +kernel
theorem dX0_end_2 : decode cX0_end 2 = .ok (.getfield 15, 3) := by decide +kernel
theorem dX0_end_5 : decode cX0_end 5 = .ok (.arraylength, 1) := by decide +kernel
theorem dX0_end_6 : decode cX0_end 6 = .ok (.invokestatic 22, 3) := by decide +kernel
theorem dX0_end_9 : decode cX0_end 9 = .ok (.ifCond .eq 12, 3) := by decide +kernel
theorem dX0_end_12 : decode cX0_end 12 = .ok (.aload_n 0, 1) := by decide +kernel
theorem dX0_end_13 : decode cX0_end 13 = .ok (.getfield 15, 3) := by decide +kernel
theorem dX0_end_16 : decode cX0_end 16 = .ok (.iload_n 1, 1) := by decide +kernel
theorem dX0_end_17 : decode cX0_end 17 = .ok (.iaload, 1) := by decide +kernel
theorem dX0_end_18 : decode cX0_end 18 = .ok (.goto 7, 3) := by decide +kernel
theorem dX0_end_21 : decode cX0_end 21 = .ok (.aload_n 0, 1) := by decide +kernel
theorem dX0_end_22 : decode cX0_end 22 = .ok (.getfield 18, 3) := by decide +kernel
theorem dX0_end_25 : decode cX0_end 25 = .ok (.ireturn, 1) := by decide +kernel
theorem dX0_read_0 : decode cX0_read 0 = .ok (.aload_n 0, 1) := by decide +kernel
theorem dX0_read_1 : decode cX0_read 1 = .ok (.aload_n 1, 1) := by decide +kernel
theorem dX0_read_2 : decode cX0_read 2 = .ok (.invokevirtual 26, 3) := by decide +kernel
theorem dX0_read_5 : decode cX0_read 5 = .ok (.putfield 18, 3) := by decide +kernel
theorem dX0_read_8 : decode cX0_read 8 = .ok (.iconst 0, 1) := by decide +kernel
theorem dX0_read_9 : decode cX0_read 9 = .ok (.istore_n 2, 1) := by decide +kernel
theorem dX0_read_10 : decode cX0_read 10 = .ok (.iload_n 2, 1) := by decide +kernel
theorem dX0_read_11 : decode cX0_read 11 = .ok (.aload_n 0, 1) := by decide +kernel
theorem dX0_read_12 : decode cX0_read 12 = .ok (.getfield 9, 3) := by decide +kernel
theorem dX0_read_15 : decode cX0_read 15 = .ok (.arraylength, 1) := by decide +kernel
theorem dX0_read_16 : decode cX0_read 16 = .ok (.if_icmp .ge 20, 3) := by decide +kernel
theorem dX0_read_19 : decode cX0_read 19 = .ok (.aload_n 0, 1) := by decide +kernel
theorem dX0_read_20 : decode cX0_read 20 = .ok (.getfield 9, 3) := by decide +kernel
theorem dX0_read_23 : decode cX0_read 23 = .ok (.iload_n 2, 1) := by decide +kernel
theorem dX0_read_24 : decode cX0_read 24 = .ok (.aload_n 1, 1) := by decide +kernel
theorem dX0_read_25 : decode cX0_read 25 = .ok (.iload_n 2, 1) := by decide +kernel
theorem dX0_read_26 : decode cX0_read 26 = .ok (.invokevirtual 31, 3) := by decide +kernel
theorem dX0_read_29 : decode cX0_read 29 = .ok (.iastore, 1) := by decide +kernel
theorem dX0_read_30 : decode cX0_read 30 = .ok (.iinc 2 1, 3) := by decide +kernel
theorem dX0_read_33 : decode cX0_read 33 = .ok (.goto (-23), 3) := by decide +kernel
theorem dX0_read_36 : decode cX0_read 36 = .ok (.aload_n 0, 1) := by decide +kernel
theorem dX0_read_37 : decode cX0_read 37 = .ok (.getfield 15, 3) := by decide +kernel
theorem dX0_read_40 : decode cX0_read 40 = .ok (.arraylength, 1) := by decide +kernel
theorem dX0_read_41 : decode cX0_read 41 = .ok (.iconst 1, 1) := by decide +kernel
theorem dX0_read_42 : decode cX0_read 42 = .ok (.isub, 1) := by decide +kernel
theorem dX0_read_43 : decode cX0_read 43 = .ok (.istore_n 2, 1) := by decide +kernel
theorem dX0_read_44 : decode cX0_read 44 = .ok (.iload_n 2, 1) := by decide +kernel
theorem dX0_read_45 : decode cX0_read 45 = .ok (.ifCond .lt 20, 3) := by decide +kernel
theorem dX0_read_48 : decode cX0_read 48 = .ok (.aload_n 0, 1) := by decide +kernel
theorem dX0_read_49 : decode cX0_read 49 = .ok (.getfield 15, 3) := by decide +kernel
theorem dX0_read_52 : decode cX0_read 52 = .ok (.iload_n 2, 1) := by decide +kernel
theorem dX0_read_53 : decode cX0_read 53 = .ok (.aload_n 0, 1) := by decide +kernel
theorem dX0_read_54 : decode cX0_read 54 = .ok (.iload_n 2, 1) := by decide +kernel
theorem dX0_read_55 : decode cX0_read 55 = .ok (.invokevirtual 35, 3) := by decide +kernel
theorem dX0_read_58 : decode cX0_read 58 = .ok (.iastore, 1) := by decide +kernel
theorem dX0_read_59 : decode cX0_read 59 = .ok (.iinc 2 (-1), 3) := by decide +kernel
theorem dX0_read_62 : decode cX0_read 62 = .ok (.goto (-18), 3) := by decide +kernel
theorem dX0_read_65 : decode cX0_read 65 = .ok (.return_, 1) := by decide +kernel
theorem dX0_endFrom_0 : decode cX0_endFrom 0 = .ok (.iload_n 1, 1) := by decide +kernel
theorem dX0_endFrom_1 : decode cX0_endFrom 1 = .ok (.iconst 1, 1) := by decide +kernel
theorem dX0_endFrom_2 : decode cX0_endFrom 2 = .ok (.iadd, 1) := by decide +kernel
theorem dX0_endFrom_3 : decode cX0_endFrom 3 = .ok (.istore_n 2, 1) := by decide +kernel
theorem dX0_endFrom_4 : decode cX0_endFrom 4 = .ok (.aload_n 0, 1) := by decide +kernel
theorem dX0_endFrom_5 : decode cX0_endFrom 5 = .ok (.iload_n 1, 1) := by decide +kernel
theorem dX0_endFrom_6 : decode cX0_endFrom 6 = .ok (.invokevirtual 38, 3) := by decide +kernel
theorem dX0_endFrom_9 : decode cX0_endFrom 9 = .ok (.invokestatic 41, 3) := by decide +kernel
theorem dX0_endFrom_12 : decode cX0_endFrom 12 = .ok (.istore_n 3, 1) := by decide +kernel
theorem dX0_endFrom_13 : decode cX0_endFrom 13 = .ok (.iconst 0, 1) := by decide +kernel
theorem dX0_endFrom_14 : decode cX0_endFrom 14 = .ok (.istore 4, 2) := by decide +kernel
theorem dX0_endFrom_16 : decode cX0_endFrom 16 = .ok (.iload 4, 2) := by decide +kernel
theorem dX0_endFrom_18 : decode cX0_endFrom 18 = .ok (.iload_n 3, 1) := by decide +kernel
theorem dX0_endFrom_19 : decode cX0_endFrom 19 = .ok (.if_icmp .ge 15, 3) := by decide +kernel
theorem dX0_endFrom_22 : decode cX0_endFrom 22 = .ok (.aload_n 0, 1) := by decide +kernel
theorem dX0_endFrom_23 : decode cX0_endFrom 23 = .ok (.iload_n 2, 1) := by decide +kernel
theorem dX0_endFrom_24 : decode cX0_endFrom 24 = .ok (.invokevirtual 44, 3) := by decide +kernel
theorem dX0_endFrom_27 : decode cX0_endFrom 27 = .ok (.istore_n 2, 1) := by decide +kernel
theorem dX0_endFrom_28 : decode cX0_endFrom 28 = .ok (.iinc 4 1, 3) := by decide +kernel
theorem dX0_endFrom_31 : decode cX0_endFrom 31 = .ok (.goto (-15), 3) := by decide +kernel
theorem dX0_endFrom_34 : decode cX0_endFrom 34 = .ok (.iload_n 2, 1) := by decide +kernel
theorem dX0_endFrom_35 : decode cX0_endFrom 35 = .ok (.ireturn, 1) := by decide +kernel
theorem dX1_init_0 : decode cX1_init 0 = .ok (.aload_n 0, 1) := by decide +kernel
theorem dX1_init_1 : decode cX1_init 1 = .ok (.invokespecial 3, 3) := by decide +kernel
theorem dX1_init_4 : decode cX1_init 4 = .ok (.return_, 1) := by decide +kernel
theorem dX1_begin_0 : decode cX1_begin 0 = .ok (.aload_n 0, 1) := by decide +kernel
theorem dX1_begin_1 : decode cX1_begin 1 = .ok (.iconst 0, 1) := by decide +kernel
theorem dX1_begin_2 : decode cX1_begin 2 = .ok (.putfield 9, 3) := by decide +kernel
theorem dX1_begin_5 : decode cX1_begin 5 = .ok (.aload_n 0, 1) := by decide +kernel
theorem dX1_begin_6 : decode cX1_begin 6 = .ok (.iconst 1, 1) := by decide +kernel
theorem dX1_begin_7 : decode cX1_begin 7 = .ok (.putfield 15, 3) := by decide +kernel
theorem dX1_begin_10 : decode cX1_begin 10 = .ok (.return_, 1) := by decide +kernel
theorem dX1_isComplete_0 : decode cX1_isComplete 0 = .ok (.aload_n 0, 1) := by decide +kernel
theorem dX1_isComplete_1 : decode cX1_isComplete 1 = .ok (.getfield 15, 3) := by decide +kernel
theorem dX1_isComplete_4 : decode cX1_isComplete 4 = .ok (.ifCond .ne 7, 3) := by decide +kernel
theorem dX1_isComplete_7 : decode cX1_isComplete 7 = .ok (.iconst 1, 1) := by decide +kernel
theorem dX1_isComplete_8 : decode cX1_isComplete 8 = .ok (.goto 4, 3) := by decide +kernel
theorem dX1_isComplete_11 : decode cX1_isComplete 11 = .ok (.iconst 0, 1) := by decide +kernel
theorem dX1_isComplete_12 : decode cX1_isComplete 12 = .ok (.ireturn, 1) := by decide +kernel
theorem dX1_reads_0 : decode cX1_reads 0 = .ok (.iload_n 1, 1) := by decide +kernel
theorem dX1_reads_1 : decode cX1_reads 1 = .ok (.invokestatic 18, 3) := by decide +kernel
theorem dX1_reads_4 : decode cX1_reads 4 = .ok (.istore_n 2, 1) := by decide +kernel
theorem dX1_reads_5 : decode cX1_reads 5 = .ok (.iload_n 2, 1) := by decide +kernel
theorem dX1_reads_6 : decode cX1_reads 6 = .ok (.iconst (-1), 1) := by decide +kernel
theorem dX1_reads_7 : decode cX1_reads 7 = .ok (.if_icmp .eq 10, 3) := by decide +kernel
theorem dX1_reads_10 : decode cX1_reads 10 = .ok (.aload_n 0, 1) := by decide +kernel
theorem dX1_reads_11 : decode cX1_reads 11 = .ok (.getfield 15, 3) := by decide +kernel
theorem dX1_reads_14 : decode cX1_reads 14 = .ok (.ifCond .ne 5, 3) := by decide +kernel
theorem dX1_reads_17 : decode cX1_reads 17 = .ok (.iconst 0, 1) := by decide +kernel
theorem dX1_reads_18 : decode cX1_reads 18 = .ok (.ireturn, 1) := by decide +kernel
theorem dX1_reads_19 : decode cX1_reads 19 = .ok (.aload_n 0, 1) := by decide +kernel
theorem dX1_reads_20 : decode cX1_reads 20 = .ok (.getfield 15, 3) := by decide +kernel
theorem dX1_reads_23 : decode cX1_reads 23 = .ok (.iconst 1, 1) := by decide +kernel
theorem dX1_reads_24 : decode cX1_reads 24 = .ok (.isub, 1) := by decide +kernel
theorem dX1_reads_25 : decode cX1_reads 25 = .ok (.iload_n 2, 1) := by decide +kernel
theorem dX1_reads_26 : decode cX1_reads 26 = .ok (.iadd, 1) := by decide +kernel
theorem dX1_reads_27 : decode cX1_reads 27 = .ok (.istore_n 3, 1) := by decide +kernel
theorem dX1_reads_28 : decode cX1_reads 28 = .ok (.aload_n 0, 1) := by decide +kernel
theorem dX1_reads_29 : decode cX1_reads 29 = .ok (.getfield 9, 3) := by decide +kernel
theorem dX1_reads_32 : decode cX1_reads 32 = .ok (.iconst 1, 1) := by decide +kernel
theorem dX1_reads_33 : decode cX1_reads 33 = .ok (.iadd, 1) := by decide +kernel
theorem dX1_reads_34 : decode cX1_reads 34 = .ok (.iload_n 3, 1) := by decide +kernel
theorem dX1_reads_35 : decode cX1_reads 35 = .ok (.iadd, 1) := by decide +kernel
theorem dX1_reads_36 : decode cX1_reads 36 = .ok (.bipush 16, 2) := by decide +kernel
theorem dX1_reads_38 : decode cX1_reads 38 = .ok (.if_icmp .le 5, 3) := by decide +kernel
theorem dX1_reads_41 : decode cX1_reads 41 = .ok (.iconst 0, 1) := by decide +kernel
theorem dX1_reads_42 : decode cX1_reads 42 = .ok (.ireturn, 1) := by decide +kernel
theorem dX1_reads_43 : decode cX1_reads 43 = .ok (.aload_n 0, 1) := by decide +kernel
theorem dX1_reads_44 : decode cX1_reads 44 = .ok (.dup, 1) := by decide +kernel
theorem dX1_reads_45 : decode cX1_reads 45 = .ok (.getfield 9, 3) := by decide +kernel
theorem dX1_reads_48 : decode cX1_reads 48 = .ok (.iconst 1, 1) := by decide +kernel
theorem dX1_reads_49 : decode cX1_reads 49 = .ok (.iadd, 1) := by decide +kernel
theorem dX1_reads_50 : decode cX1_reads 50 = .ok (.putfield 9, 3) := by decide +kernel
theorem dX1_reads_53 : decode cX1_reads 53 = .ok (.aload_n 0, 1) := by decide +kernel
theorem dX1_reads_54 : decode cX1_reads 54 = .ok (.iload_n 3, 1) := by decide +kernel
theorem dX1_reads_55 : decode cX1_reads 55 = .ok (.putfield 15, 3) := by decide +kernel
theorem dX1_reads_58 : decode cX1_reads 58 = .ok (.iconst 1, 1) := by decide +kernel
theorem dX1_reads_59 : decode cX1_reads 59 = .ok (.ireturn, 1) := by decide +kernel
theorem dX2_init_0 : decode cX2_init 0 = .ok (.aload_n 0, 1) := by decide +kernel
theorem dX2_init_1 : decode cX2_init 1 = .ok (.invokespecial 3, 3) := by decide +kernel
theorem dX2_init_4 : decode cX2_init 4 = .ok (.return_, 1) := by decide +kernel
theorem dX2_copy_0 : decode cX2_copy 0 = .ok (.aload_n 0, 1) := by decide +kernel
theorem dX2_copy_1 : decode cX2_copy 1 = .ok (.aload_n 1, 1) := by decide +kernel
theorem dX2_copy_2 : decode cX2_copy 2 = .ok (.getfield 9, 3) := by decide +kernel
theorem dX2_copy_5 : decode cX2_copy 5 = .ok (.putfield 9, 3) := by decide +kernel
theorem dX2_copy_8 : decode cX2_copy 8 = .ok (.aload_n 0, 1) := by decide +kernel
theorem dX2_copy_9 : decode cX2_copy 9 = .ok (.aload_n 1, 1) := by decide +kernel
theorem dX2_copy_10 : decode cX2_copy 10 = .ok (.getfield 15, 3) := by decide +kernel
theorem dX2_copy_13 : decode cX2_copy 13 = .ok (.putfield 15, 3) := by decide +kernel
theorem dX2_copy_16 : decode cX2_copy 16 = .ok (.aload_n 0, 1) := by decide +kernel
theorem dX2_copy_17 : decode cX2_copy 17 = .ok (.aload_n 1, 1) := by decide +kernel
theorem dX2_copy_18 : decode cX2_copy 18 = .ok (.getfield 18, 3) := by decide +kernel
theorem dX2_copy_21 : decode cX2_copy 21 = .ok (.putfield 18, 3) := by decide +kernel
theorem dX2_copy_24 : decode cX2_copy 24 = .ok (.aload_n 0, 1) := by decide +kernel
theorem dX2_copy_25 : decode cX2_copy 25 = .ok (.aload_n 1, 1) := by decide +kernel
theorem dX2_copy_26 : decode cX2_copy 26 = .ok (.getfield 21, 3) := by decide +kernel
theorem dX2_copy_29 : decode cX2_copy 29 = .ok (.putfield 21, 3) := by decide +kernel
theorem dX2_copy_32 : decode cX2_copy 32 = .ok (.aload_n 0, 1) := by decide +kernel
theorem dX2_copy_33 : decode cX2_copy 33 = .ok (.aload_n 1, 1) := by decide +kernel
theorem dX2_copy_34 : decode cX2_copy 34 = .ok (.getfield 24, 3) := by decide +kernel
theorem dX2_copy_37 : decode cX2_copy 37 = .ok (.putfield 24, 3) := by decide +kernel
theorem dX2_copy_40 : decode cX2_copy 40 = .ok (.return_, 1) := by decide +kernel
theorem dX2_build_0 : decode cX2_build 0 = .ok (.aload_n 0, 1) := by decide +kernel
theorem dX2_build_1 : decode cX2_build 1 = .ok (.iconst 0, 1) := by decide +kernel
theorem dX2_build_2 : decode cX2_build 2 = .ok (.putfield 9, 3) := by decide +kernel
theorem dX2_build_5 : decode cX2_build 5 = .ok (.aload_n 0, 1) := by decide +kernel
theorem dX2_build_6 : decode cX2_build 6 = .ok (.iload_n 1, 1) := by decide +kernel
theorem dX2_build_7 : decode cX2_build 7 = .ok (.putfield 15, 3) := by decide +kernel
theorem dX2_build_10 : decode cX2_build 10 = .ok (.aload_n 0, 1) := by decide +kernel
theorem dX2_build_11 : decode cX2_build 11 = .ok (.iconst 0, 1) := by decide +kernel
theorem dX2_build_12 : decode cX2_build 12 = .ok (.putfield 18, 3) := by decide +kernel
theorem dX2_build_15 : decode cX2_build 15 = .ok (.aload_n 0, 1) := by decide +kernel
theorem dX2_build_16 : decode cX2_build 16 = .ok (.iconst 0, 1) := by decide +kernel
theorem dX2_build_17 : decode cX2_build 17 = .ok (.putfield 21, 3) := by decide +kernel
theorem dX2_build_20 : decode cX2_build 20 = .ok (.aload_n 0, 1) := by decide +kernel
theorem dX2_build_21 : decode cX2_build 21 = .ok (.iconst 0, 1) := by decide +kernel
theorem dX2_build_22 : decode cX2_build 22 = .ok (.putfield 24, 3) := by decide +kernel
theorem dX2_build_25 : decode cX2_build 25 = .ok (.iconst 0, 1) := by decide +kernel
theorem dX2_build_26 : decode cX2_build 26 = .ok (.istore_n 3, 1) := by decide +kernel
theorem dX2_build_27 : decode cX2_build 27 = .ok (.iload_n 3, 1) := by decide +kernel
theorem dX2_build_28 : decode cX2_build 28 = .ok (.iload_n 1, 1) := by decide +kernel
theorem dX2_build_29 : decode cX2_build 29 = .ok (.if_icmp .ge 25, 3) := by decide +kernel
theorem dX2_build_32 : decode cX2_build 32 = .ok (.aload_n 0, 1) := by decide +kernel
theorem dX2_build_33 : decode cX2_build 33 = .ok (.iload_n 3, 1) := by decide +kernel
theorem dX2_build_34 : decode cX2_build 34 = .ok (.iload_n 2, 1) := by decide +kernel
theorem dX2_build_35 : decode cX2_build 35 = .ok (.iload_n 1, 1) := by decide +kernel
theorem dX2_build_36 : decode cX2_build 36 = .ok (.iload_n 3, 1) := by decide +kernel
theorem dX2_build_37 : decode cX2_build 37 = .ok (.imul, 1) := by decide +kernel
theorem dX2_build_38 : decode cX2_build 38 = .ok (.ishr, 1) := by decide +kernel
theorem dX2_build_39 : decode cX2_build 39 = .ok (.iconst 1, 1) := by decide +kernel
theorem dX2_build_40 : decode cX2_build 40 = .ok (.iload_n 1, 1) := by decide +kernel
theorem dX2_build_41 : decode cX2_build 41 = .ok (.ishl, 1) := by decide +kernel
theorem dX2_build_42 : decode cX2_build 42 = .ok (.iconst 1, 1) := by decide +kernel
theorem dX2_build_43 : decode cX2_build 43 = .ok (.isub, 1) := by decide +kernel
theorem dX2_build_44 : decode cX2_build 44 = .ok (.iand, 1) := by decide +kernel
theorem dX2_build_45 : decode cX2_build 45 = .ok (.invokevirtual 27, 3) := by decide +kernel
theorem dX2_build_48 : decode cX2_build 48 = .ok (.iinc 3 1, 3) := by decide +kernel
theorem dX2_build_51 : decode cX2_build 51 = .ok (.goto (-24), 3) := by decide +kernel
theorem dX2_build_54 : decode cX2_build 54 = .ok (.return_, 1) := by decide +kernel
theorem dX2_row_0 : decode cX2_row 0 = .ok (.aload_n 0, 1) := by decide +kernel
theorem dX2_row_1 : decode cX2_row 1 = .ok (.getfield 18, 3) := by decide +kernel
theorem dX2_row_4 : decode cX2_row 4 = .ok (.iconst 4, 1) := by decide +kernel
theorem dX2_row_5 : decode cX2_row 5 = .ok (.iload_n 1, 1) := by decide +kernel
theorem dX2_row_6 : decode cX2_row 6 = .ok (.imul, 1) := by decide +kernel
theorem dX2_row_7 : decode cX2_row 7 = .ok (.ishr, 1) := by decide +kernel
theorem dX2_row_8 : decode cX2_row 8 = .ok (.bipush 15, 2) := by decide +kernel
theorem dX2_row_10 : decode cX2_row 10 = .ok (.iand, 1) := by decide +kernel
theorem dX2_row_11 : decode cX2_row 11 = .ok (.ireturn, 1) := by decide +kernel
theorem dX2_rowOf_0 : decode cX2_rowOf 0 = .ok (.iload_n 0, 1) := by decide +kernel
theorem dX2_rowOf_1 : decode cX2_rowOf 1 = .ok (.iconst 4, 1) := by decide +kernel
theorem dX2_rowOf_2 : decode cX2_rowOf 2 = .ok (.iload_n 1, 1) := by decide +kernel
theorem dX2_rowOf_3 : decode cX2_rowOf 3 = .ok (.imul, 1) := by decide +kernel
theorem dX2_rowOf_4 : decode cX2_rowOf 4 = .ok (.ishr, 1) := by decide +kernel
theorem dX2_rowOf_5 : decode cX2_rowOf 5 = .ok (.bipush 15, 2) := by decide +kernel
theorem dX2_rowOf_7 : decode cX2_rowOf 7 = .ok (.iand, 1) := by decide +kernel
theorem dX2_rowOf_8 : decode cX2_rowOf 8 = .ok (.ireturn, 1) := by decide +kernel
theorem dX2_pair_0 : decode cX2_pair 0 = .ok (.iconst 1, 1) := by decide +kernel
theorem dX2_pair_1 : decode cX2_pair 1 = .ok (.iconst 4, 1) := by decide +kernel
theorem dX2_pair_2 : decode cX2_pair 2 = .ok (.iload_n 0, 1) := by decide +kernel
theorem dX2_pair_3 : decode cX2_pair 3 = .ok (.imul, 1) := by decide +kernel
theorem dX2_pair_4 : decode cX2_pair 4 = .ok (.iload_n 1, 1) := by decide +kernel
theorem dX2_pair_5 : decode cX2_pair 5 = .ok (.iadd, 1) := by decide +kernel
theorem dX2_pair_6 : decode cX2_pair 6 = .ok (.ishl, 1) := by decide +kernel
theorem dX2_pair_7 : decode cX2_pair 7 = .ok (.ireturn, 1) := by decide +kernel
theorem dX2_has_0 : decode cX2_has 0 = .ok (.aload_n 0, 1) := by decide +kernel
theorem dX2_has_1 : decode cX2_has 1 = .ok (.getfield 18, 3) := by decide +kernel
theorem dX2_has_4 : decode cX2_has 4 = .ok (.iconst 4, 1) := by decide +kernel
theorem dX2_has_5 : decode cX2_has 5 = .ok (.iload_n 1, 1) := by decide +kernel
theorem dX2_has_6 : decode cX2_has 6 = .ok (.imul, 1) := by decide +kernel
theorem dX2_has_7 : decode cX2_has 7 = .ok (.iload_n 2, 1) := by decide +kernel
theorem dX2_has_8 : decode cX2_has 8 = .ok (.iadd, 1) := by decide +kernel
theorem dX2_has_9 : decode cX2_has 9 = .ok (.ishr, 1) := by decide +kernel
theorem dX2_has_10 : decode cX2_has 10 = .ok (.iconst 1, 1) := by decide +kernel
theorem dX2_has_11 : decode cX2_has 11 = .ok (.iand, 1) := by decide +kernel
theorem dX2_has_12 : decode cX2_has 12 = .ok (.iconst 1, 1) := by decide +kernel
theorem dX2_has_13 : decode cX2_has 13 = .ok (.if_icmp .ne 7, 3) := by decide +kernel
theorem dX2_has_16 : decode cX2_has 16 = .ok (.iconst 1, 1) := by decide +kernel
theorem dX2_has_17 : decode cX2_has 17 = .ok (.goto 4, 3) := by decide +kernel
theorem dX2_has_20 : decode cX2_has 20 = .ok (.iconst 0, 1) := by decide +kernel
theorem dX2_has_21 : decode cX2_has 21 = .ok (.ireturn, 1) := by decide +kernel
theorem dX2_turn_0 : decode cX2_turn 0 = .ok (.aload_n 0, 1) := by decide +kernel
theorem dX2_turn_1 : decode cX2_turn 1 = .ok (.dup, 1) := by decide +kernel
theorem dX2_turn_2 : decode cX2_turn 2 = .ok (.getfield 18, 3) := by decide +kernel
theorem dX2_turn_5 : decode cX2_turn 5 = .ok (.iload_n 1, 1) := by decide +kernel
theorem dX2_turn_6 : decode cX2_turn 6 = .ok (.iload_n 2, 1) := by decide +kernel
theorem dX2_turn_7 : decode cX2_turn 7 = .ok (.invokestatic 31, 3) := by decide +kernel
theorem dX2_turn_10 : decode cX2_turn 10 = .ok (.ixor, 1) := by decide +kernel
theorem dX2_turn_11 : decode cX2_turn 11 = .ok (.putfield 18, 3) := by decide +kernel
theorem dX2_turn_14 : decode cX2_turn 14 = .ok (.return_, 1) := by decide +kernel
theorem dX2_join_0 : decode cX2_join 0 = .ok (.aload_n 0, 1) := by decide +kernel
theorem dX2_join_1 : decode cX2_join 1 = .ok (.dup, 1) := by decide +kernel
theorem dX2_join_2 : decode cX2_join 2 = .ok (.getfield 18, 3) := by decide +kernel
theorem dX2_join_5 : decode cX2_join 5 = .ok (.iload_n 2, 1) := by decide +kernel
theorem dX2_join_6 : decode cX2_join 6 = .ok (.iconst 4, 1) := by decide +kernel
theorem dX2_join_7 : decode cX2_join 7 = .ok (.iload_n 1, 1) := by decide +kernel
theorem dX2_join_8 : decode cX2_join 8 = .ok (.imul, 1) := by decide +kernel
theorem dX2_join_9 : decode cX2_join 9 = .ok (.ishl, 1) := by decide +kernel
theorem dX2_join_10 : decode cX2_join 10 = .ok (.ior, 1) := by decide +kernel
theorem dX2_join_11 : decode cX2_join 11 = .ok (.putfield 18, 3) := by decide +kernel
theorem dX2_join_14 : decode cX2_join 14 = .ok (.return_, 1) := by decide +kernel
theorem dX2_arrowCount_0 : decode cX2_arrowCount 0 = .ok (.aload_n 0, 1) := by decide +kernel
theorem dX2_arrowCount_1 : decode cX2_arrowCount 1 = .ok (.getfield 18, 3) := by decide +kernel
theorem dX2_arrowCount_4 : decode cX2_arrowCount 4 = .ok (.invokestatic 35, 3) := by decide +kernel
theorem dX2_arrowCount_7 : decode cX2_arrowCount 7 = .ok (.ireturn, 1) := by decide +kernel
theorem dX2_arrowsTo_0 : decode cX2_arrowsTo 0 = .ok (.iconst 0, 1) := by decide +kernel
theorem dX2_arrowsTo_1 : decode cX2_arrowsTo 1 = .ok (.istore_n 2, 1) := by decide +kernel
theorem dX2_arrowsTo_2 : decode cX2_arrowsTo 2 = .ok (.iconst 0, 1) := by decide +kernel
theorem dX2_arrowsTo_3 : decode cX2_arrowsTo 3 = .ok (.istore_n 3, 1) := by decide +kernel
theorem dX2_arrowsTo_4 : decode cX2_arrowsTo 4 = .ok (.iload_n 3, 1) := by decide +kernel
theorem dX2_arrowsTo_5 : decode cX2_arrowsTo 5 = .ok (.aload_n 0, 1) := by decide +kernel
theorem dX2_arrowsTo_6 : decode cX2_arrowsTo 6 = .ok (.getfield 15, 3) := by decide +kernel
theorem dX2_arrowsTo_9 : decode cX2_arrowsTo 9 = .ok (.if_icmp .ge 21, 3) := by decide +kernel
theorem dX2_arrowsTo_12 : decode cX2_arrowsTo 12 = .ok (.iload_n 2, 1) := by decide +kernel
theorem dX2_arrowsTo_13 : decode cX2_arrowsTo 13 = .ok (.aload_n 0, 1) := by decide +kernel
theorem dX2_arrowsTo_14 : decode cX2_arrowsTo 14 = .ok (.iload_n 3, 1) := by decide +kernel
theorem dX2_arrowsTo_15 : decode cX2_arrowsTo 15 = .ok (.invokevirtual 41, 3) := by decide +kernel
theorem dX2_arrowsTo_18 : decode cX2_arrowsTo 18 = .ok (.iload_n 1, 1) := by decide +kernel
theorem dX2_arrowsTo_19 : decode cX2_arrowsTo 19 = .ok (.invokestatic 44, 3) := by decide +kernel
theorem dX2_arrowsTo_22 : decode cX2_arrowsTo 22 = .ok (.iadd, 1) := by decide +kernel
theorem dX2_arrowsTo_23 : decode cX2_arrowsTo 23 = .ok (.istore_n 2, 1) := by decide +kernel
theorem dX2_arrowsTo_24 : decode cX2_arrowsTo 24 = .ok (.iinc 3 1, 3) := by decide +kernel
theorem dX2_arrowsTo_27 : decode cX2_arrowsTo 27 = .ok (.goto (-23), 3) := by decide +kernel
theorem dX2_arrowsTo_30 : decode cX2_arrowsTo 30 = .ok (.iload_n 2, 1) := by decide +kernel
theorem dX2_arrowsTo_31 : decode cX2_arrowsTo 31 = .ok (.ireturn, 1) := by decide +kernel
theorem dX2_marks_0 : decode cX2_marks 0 = .ok (.aload_n 0, 1) := by decide +kernel
theorem dX2_marks_1 : decode cX2_marks 1 = .ok (.getfield 21, 3) := by decide +kernel
theorem dX2_marks_4 : decode cX2_marks 4 = .ok (.iload_n 1, 1) := by decide +kernel
theorem dX2_marks_5 : decode cX2_marks 5 = .ok (.invokestatic 44, 3) := by decide +kernel
theorem dX2_marks_8 : decode cX2_marks 8 = .ok (.iconst 2, 1) := by decide +kernel
theorem dX2_marks_9 : decode cX2_marks 9 = .ok (.aload_n 0, 1) := by decide +kernel
theorem dX2_marks_10 : decode cX2_marks 10 = .ok (.getfield 24, 3) := by decide +kernel
theorem dX2_marks_13 : decode cX2_marks 13 = .ok (.iload_n 1, 1) := by decide +kernel
theorem dX2_marks_14 : decode cX2_marks 14 = .ok (.invokestatic 44, 3) := by decide +kernel
theorem dX2_marks_17 : decode cX2_marks 17 = .ok (.imul, 1) := by decide +kernel
theorem dX2_marks_18 : decode cX2_marks 18 = .ok (.iadd, 1) := by decide +kernel
theorem dX2_marks_19 : decode cX2_marks 19 = .ok (.ireturn, 1) := by decide +kernel
theorem dX2_setMarks_0 : decode cX2_setMarks 0 = .ok (.aload_n 0, 1) := by decide +kernel
theorem dX2_setMarks_1 : decode cX2_setMarks 1 = .ok (.aload_n 0, 1) := by decide +kernel
theorem dX2_setMarks_2 : decode cX2_setMarks 2 = .ok (.getfield 21, 3) := by decide +kernel
theorem dX2_setMarks_5 : decode cX2_setMarks 5 = .ok (.iconst 1, 1) := by decide +kernel
theorem dX2_setMarks_6 : decode cX2_setMarks 6 = .ok (.iload_n 1, 1) := by decide +kernel
theorem dX2_setMarks_7 : decode cX2_setMarks 7 = .ok (.ishl, 1) := by decide +kernel
theorem dX2_setMarks_8 : decode cX2_setMarks 8 = .ok (.iconst (-1), 1) := by decide +kernel
theorem dX2_setMarks_9 : decode cX2_setMarks 9 = .ok (.ixor, 1) := by decide +kernel
theorem dX2_setMarks_10 : decode cX2_setMarks 10 = .ok (.iand, 1) := by decide +kernel
theorem dX2_setMarks_11 : decode cX2_setMarks 11 = .ok (.iload_n 2, 1) := by decide +kernel
theorem dX2_setMarks_12 : decode cX2_setMarks 12 = .ok (.iconst 0, 1) := by decide +kernel
theorem dX2_setMarks_13 : decode cX2_setMarks 13 = .ok (.invokestatic 44, 3) := by decide +kernel
theorem dX2_setMarks_16 : decode cX2_setMarks 16 = .ok (.iload_n 1, 1) := by decide +kernel
theorem dX2_setMarks_17 : decode cX2_setMarks 17 = .ok (.ishl, 1) := by decide +kernel
theorem dX2_setMarks_18 : decode cX2_setMarks 18 = .ok (.ior, 1) := by decide +kernel
theorem dX2_setMarks_19 : decode cX2_setMarks 19 = .ok (.putfield 21, 3) := by decide +kernel
theorem dX2_setMarks_22 : decode cX2_setMarks 22 = .ok (.aload_n 0, 1) := by decide +kernel
theorem dX2_setMarks_23 : decode cX2_setMarks 23 = .ok (.aload_n 0, 1) := by decide +kernel
theorem dX2_setMarks_24 : decode cX2_setMarks 24 = .ok (.getfield 24, 3) := by decide +kernel
theorem dX2_setMarks_27 : decode cX2_setMarks 27 = .ok (.iconst 1, 1) := by decide +kernel
theorem dX2_setMarks_28 : decode cX2_setMarks 28 = .ok (.iload_n 1, 1) := by decide +kernel
theorem dX2_setMarks_29 : decode cX2_setMarks 29 = .ok (.ishl, 1) := by decide +kernel
theorem dX2_setMarks_30 : decode cX2_setMarks 30 = .ok (.iconst (-1), 1) := by decide +kernel
theorem dX2_setMarks_31 : decode cX2_setMarks 31 = .ok (.ixor, 1) := by decide +kernel
theorem dX2_setMarks_32 : decode cX2_setMarks 32 = .ok (.iand, 1) := by decide +kernel
theorem dX2_setMarks_33 : decode cX2_setMarks 33 = .ok (.iload_n 2, 1) := by decide +kernel
theorem dX2_setMarks_34 : decode cX2_setMarks 34 = .ok (.iconst 1, 1) := by decide +kernel
theorem dX2_setMarks_35 : decode cX2_setMarks 35 = .ok (.invokestatic 44, 3) := by decide +kernel
theorem dX2_setMarks_38 : decode cX2_setMarks 38 = .ok (.iload_n 1, 1) := by decide +kernel
theorem dX2_setMarks_39 : decode cX2_setMarks 39 = .ok (.ishl, 1) := by decide +kernel
theorem dX2_setMarks_40 : decode cX2_setMarks 40 = .ok (.ior, 1) := by decide +kernel
theorem dX2_setMarks_41 : decode cX2_setMarks 41 = .ok (.putfield 24, 3) := by decide +kernel
theorem dX2_setMarks_44 : decode cX2_setMarks 44 = .ok (.return_, 1) := by decide +kernel
theorem dX2_fits_0 : decode cX2_fits 0 = .ok (.iload_n 1, 1) := by decide +kernel
theorem dX2_fits_1 : decode cX2_fits 1 = .ok (.tableswitch 67 0 3 #[31, 33, 39, 61], 31) := by decide +kernel
theorem dX2_fits_32 : decode cX2_fits 32 = .ok (.iconst 1, 1) := by decide +kernel
theorem dX2_fits_33 : decode cX2_fits 33 = .ok (.ireturn, 1) := by decide +kernel
theorem dX2_fits_34 : decode cX2_fits 34 = .ok (.aload_n 0, 1) := by decide +kernel
theorem dX2_fits_35 : decode cX2_fits 35 = .ok (.iconst 0, 1) := by decide +kernel
theorem dX2_fits_36 : decode cX2_fits 36 = .ok (.invokevirtual 47, 3) := by decide +kernel
theorem dX2_fits_39 : decode cX2_fits 39 = .ok (.ireturn, 1) := by decide +kernel
theorem dX2_fits_40 : decode cX2_fits 40 = .ok (.aload_n 0, 1) := by decide +kernel
theorem dX2_fits_41 : decode cX2_fits 41 = .ok (.iconst 0, 1) := by decide +kernel
theorem dX2_fits_42 : decode cX2_fits 42 = .ok (.invokevirtual 47, 3) := by decide +kernel
theorem dX2_fits_45 : decode cX2_fits 45 = .ok (.ifCond .eq 15, 3) := by decide +kernel
theorem dX2_fits_48 : decode cX2_fits 48 = .ok (.aload_n 0, 1) := by decide +kernel
theorem dX2_fits_49 : decode cX2_fits 49 = .ok (.iconst 1, 1) := by decide +kernel
theorem dX2_fits_50 : decode cX2_fits 50 = .ok (.invokevirtual 47, 3) := by decide +kernel
theorem dX2_fits_53 : decode cX2_fits 53 = .ok (.ifCond .eq 7, 3) := by decide +kernel
theorem dX2_fits_56 : decode cX2_fits 56 = .ok (.iconst 1, 1) := by decide +kernel
theorem dX2_fits_57 : decode cX2_fits 57 = .ok (.goto 4, 3) := by decide +kernel
theorem dX2_fits_60 : decode cX2_fits 60 = .ok (.iconst 0, 1) := by decide +kernel
theorem dX2_fits_61 : decode cX2_fits 61 = .ok (.ireturn, 1) := by decide +kernel
theorem dX2_fits_62 : decode cX2_fits 62 = .ok (.aload_n 0, 1) := by decide +kernel
theorem dX2_fits_63 : decode cX2_fits 63 = .ok (.iconst 2, 1) := by decide +kernel
theorem dX2_fits_64 : decode cX2_fits 64 = .ok (.invokevirtual 47, 3) := by decide +kernel
theorem dX2_fits_67 : decode cX2_fits 67 = .ok (.ireturn, 1) := by decide +kernel
theorem dX2_fits_68 : decode cX2_fits 68 = .ok (.aload_n 0, 1) := by decide +kernel
theorem dX2_fits_69 : decode cX2_fits 69 = .ok (.iconst 3, 1) := by decide +kernel
theorem dX2_fits_70 : decode cX2_fits 70 = .ok (.invokevirtual 47, 3) := by decide +kernel
theorem dX2_fits_73 : decode cX2_fits 73 = .ok (.ireturn, 1) := by decide +kernel
theorem dX2_obeys_0 : decode cX2_obeys 0 = .ok (.iconst 0, 1) := by decide +kernel
theorem dX2_obeys_1 : decode cX2_obeys 1 = .ok (.istore_n 2, 1) := by decide +kernel
theorem dX2_obeys_2 : decode cX2_obeys 2 = .ok (.iload_n 2, 1) := by decide +kernel
theorem dX2_obeys_3 : decode cX2_obeys 3 = .ok (.aload_n 0, 1) := by decide +kernel
theorem dX2_obeys_4 : decode cX2_obeys 4 = .ok (.getfield 15, 3) := by decide +kernel
theorem dX2_obeys_7 : decode cX2_obeys 7 = .ok (.if_icmp .ge 20, 3) := by decide +kernel
theorem dX2_obeys_10 : decode cX2_obeys 10 = .ok (.aload_n 0, 1) := by decide +kernel
theorem dX2_obeys_11 : decode cX2_obeys 11 = .ok (.iload_n 1, 1) := by decide +kernel
theorem dX2_obeys_12 : decode cX2_obeys 12 = .ok (.iload_n 2, 1) := by decide +kernel
theorem dX2_obeys_13 : decode cX2_obeys 13 = .ok (.invokevirtual 51, 3) := by decide +kernel
theorem dX2_obeys_16 : decode cX2_obeys 16 = .ok (.ifCond .ne 5, 3) := by decide +kernel
theorem dX2_obeys_19 : decode cX2_obeys 19 = .ok (.iconst 0, 1) := by decide +kernel
theorem dX2_obeys_20 : decode cX2_obeys 20 = .ok (.ireturn, 1) := by decide +kernel
theorem dX2_obeys_21 : decode cX2_obeys 21 = .ok (.iinc 2 1, 3) := by decide +kernel
theorem dX2_obeys_24 : decode cX2_obeys 24 = .ok (.goto (-22), 3) := by decide +kernel
theorem dX2_obeys_27 : decode cX2_obeys 27 = .ok (.iconst 1, 1) := by decide +kernel
theorem dX2_obeys_28 : decode cX2_obeys 28 = .ok (.ireturn, 1) := by decide +kernel
theorem dX2_obeysAt_0 : decode cX2_obeysAt 0 = .ok (.iload_n 1, 1) := by decide +kernel
theorem dX2_obeysAt_1 : decode cX2_obeysAt 1 = .ok (.ifCond .ne 10, 3) := by decide +kernel
theorem dX2_obeysAt_4 : decode cX2_obeysAt 4 = .ok (.aload_n 0, 1) := by decide +kernel
theorem dX2_obeysAt_5 : decode cX2_obeysAt 5 = .ok (.iload_n 2, 1) := by decide +kernel
theorem dX2_obeysAt_6 : decode cX2_obeysAt 6 = .ok (.iload_n 2, 1) := by decide +kernel
theorem dX2_obeysAt_7 : decode cX2_obeysAt 7 = .ok (.invokevirtual 55, 3) := by decide +kernel
theorem dX2_obeysAt_10 : decode cX2_obeysAt 10 = .ok (.ireturn, 1) := by decide +kernel
theorem dX2_obeysAt_11 : decode cX2_obeysAt 11 = .ok (.iload_n 1, 1) := by decide +kernel
theorem dX2_obeysAt_12 : decode cX2_obeysAt 12 = .ok (.iconst 3, 1) := by decide +kernel
theorem dX2_obeysAt_13 : decode cX2_obeysAt 13 = .ok (.if_icmp .ne 17, 3) := by decide +kernel
theorem dX2_obeysAt_16 : decode cX2_obeysAt 16 = .ok (.aload_n 0, 1) := by decide +kernel
theorem dX2_obeysAt_17 : decode cX2_obeysAt 17 = .ok (.iload_n 2, 1) := by decide +kernel
theorem dX2_obeysAt_18 : decode cX2_obeysAt 18 = .ok (.invokevirtual 41, 3) := by decide +kernel
theorem dX2_obeysAt_21 : decode cX2_obeysAt 21 = .ok (.ifCond .eq 7, 3) := by decide +kernel
theorem dX2_obeysAt_24 : decode cX2_obeysAt 24 = .ok (.iconst 1, 1) := by decide +kernel
theorem dX2_obeysAt_25 : decode cX2_obeysAt 25 = .ok (.goto 4, 3) := by decide +kernel
theorem dX2_obeysAt_28 : decode cX2_obeysAt 28 = .ok (.iconst 0, 1) := by decide +kernel
theorem dX2_obeysAt_29 : decode cX2_obeysAt 29 = .ok (.ireturn, 1) := by decide +kernel
theorem dX2_obeysAt_30 : decode cX2_obeysAt 30 = .ok (.iconst 0, 1) := by decide +kernel
theorem dX2_obeysAt_31 : decode cX2_obeysAt 31 = .ok (.istore_n 3, 1) := by decide +kernel
theorem dX2_obeysAt_32 : decode cX2_obeysAt 32 = .ok (.iload_n 3, 1) := by decide +kernel
theorem dX2_obeysAt_33 : decode cX2_obeysAt 33 = .ok (.aload_n 0, 1) := by decide +kernel
theorem dX2_obeysAt_34 : decode cX2_obeysAt 34 = .ok (.getfield 15, 3) := by decide +kernel
theorem dX2_obeysAt_37 : decode cX2_obeysAt 37 = .ok (.if_icmp .ge 30, 3) := by decide +kernel
theorem dX2_obeysAt_40 : decode cX2_obeysAt 40 = .ok (.aload_n 0, 1) := by decide +kernel
theorem dX2_obeysAt_41 : decode cX2_obeysAt 41 = .ok (.iload_n 2, 1) := by decide +kernel
theorem dX2_obeysAt_42 : decode cX2_obeysAt 42 = .ok (.iload_n 3, 1) := by decide +kernel
theorem dX2_obeysAt_43 : decode cX2_obeysAt 43 = .ok (.invokevirtual 55, 3) := by decide +kernel
theorem dX2_obeysAt_46 : decode cX2_obeysAt 46 = .ok (.ifCond .eq 15, 3) := by decide +kernel
theorem dX2_obeysAt_49 : decode cX2_obeysAt 49 = .ok (.aload_n 0, 1) := by decide +kernel
theorem dX2_obeysAt_50 : decode cX2_obeysAt 50 = .ok (.iload_n 1, 1) := by decide +kernel
theorem dX2_obeysAt_51 : decode cX2_obeysAt 51 = .ok (.iload_n 2, 1) := by decide +kernel
theorem dX2_obeysAt_52 : decode cX2_obeysAt 52 = .ok (.iload_n 3, 1) := by decide +kernel
theorem dX2_obeysAt_53 : decode cX2_obeysAt 53 = .ok (.invokevirtual 58, 3) := by decide +kernel
theorem dX2_obeysAt_56 : decode cX2_obeysAt 56 = .ok (.ifCond .ne 5, 3) := by decide +kernel
theorem dX2_obeysAt_59 : decode cX2_obeysAt 59 = .ok (.iconst 0, 1) := by decide +kernel
theorem dX2_obeysAt_60 : decode cX2_obeysAt 60 = .ok (.ireturn, 1) := by decide +kernel
theorem dX2_obeysAt_61 : decode cX2_obeysAt 61 = .ok (.iinc 3 1, 3) := by decide +kernel
theorem dX2_obeysAt_64 : decode cX2_obeysAt 64 = .ok (.goto (-32), 3) := by decide +kernel
theorem dX2_obeysAt_67 : decode cX2_obeysAt 67 = .ok (.iconst 1, 1) := by decide +kernel
theorem dX2_obeysAt_68 : decode cX2_obeysAt 68 = .ok (.ireturn, 1) := by decide +kernel
theorem dX2_obeysAlong_0 : decode cX2_obeysAlong 0 = .ok (.iload_n 1, 1) := by decide +kernel
theorem dX2_obeysAlong_1 : decode cX2_obeysAlong 1 = .ok (.lookupswitch 56 #[(1, 27), (2, 49)], 27) := by decide +kernel
theorem dX2_obeysAlong_28 : decode cX2_obeysAlong 28 = .ok (.aload_n 0, 1) := by decide +kernel
theorem dX2_obeysAlong_29 : decode cX2_obeysAlong 29 = .ok (.iload_n 3, 1) := by decide +kernel
theorem dX2_obeysAlong_30 : decode cX2_obeysAlong 30 = .ok (.invokevirtual 41, 3) := by decide +kernel
theorem dX2_obeysAlong_33 : decode cX2_obeysAlong 33 = .ok (.aload_n 0, 1) := by decide +kernel
theorem dX2_obeysAlong_34 : decode cX2_obeysAlong 34 = .ok (.iload_n 2, 1) := by decide +kernel
theorem dX2_obeysAlong_35 : decode cX2_obeysAlong 35 = .ok (.invokevirtual 41, 3) := by decide +kernel
theorem dX2_obeysAlong_38 : decode cX2_obeysAlong 38 = .ok (.iconst (-1), 1) := by decide +kernel
theorem dX2_obeysAlong_39 : decode cX2_obeysAlong 39 = .ok (.ixor, 1) := by decide +kernel
theorem dX2_obeysAlong_40 : decode cX2_obeysAlong 40 = .ok (.iand, 1) := by decide +kernel
theorem dX2_obeysAlong_41 : decode cX2_obeysAlong 41 = .ok (.ifCond .ne 7, 3) := by decide +kernel
theorem dX2_obeysAlong_44 : decode cX2_obeysAlong 44 = .ok (.iconst 1, 1) := by decide +kernel
theorem dX2_obeysAlong_45 : decode cX2_obeysAlong 45 = .ok (.goto 4, 3) := by decide +kernel
theorem dX2_obeysAlong_48 : decode cX2_obeysAlong 48 = .ok (.iconst 0, 1) := by decide +kernel
theorem dX2_obeysAlong_49 : decode cX2_obeysAlong 49 = .ok (.ireturn, 1) := by decide +kernel
theorem dX2_obeysAlong_50 : decode cX2_obeysAlong 50 = .ok (.aload_n 0, 1) := by decide +kernel
theorem dX2_obeysAlong_51 : decode cX2_obeysAlong 51 = .ok (.iload_n 3, 1) := by decide +kernel
theorem dX2_obeysAlong_52 : decode cX2_obeysAlong 52 = .ok (.iload_n 2, 1) := by decide +kernel
theorem dX2_obeysAlong_53 : decode cX2_obeysAlong 53 = .ok (.invokevirtual 55, 3) := by decide +kernel
theorem dX2_obeysAlong_56 : decode cX2_obeysAlong 56 = .ok (.ireturn, 1) := by decide +kernel
theorem dX2_obeysAlong_57 : decode cX2_obeysAlong 57 = .ok (.aload_n 0, 1) := by decide +kernel
theorem dX2_obeysAlong_58 : decode cX2_obeysAlong 58 = .ok (.iload_n 2, 1) := by decide +kernel
theorem dX2_obeysAlong_59 : decode cX2_obeysAlong 59 = .ok (.invokevirtual 41, 3) := by decide +kernel
theorem dX2_obeysAlong_62 : decode cX2_obeysAlong 62 = .ok (.aload_n 0, 1) := by decide +kernel
theorem dX2_obeysAlong_63 : decode cX2_obeysAlong 63 = .ok (.iload_n 3, 1) := by decide +kernel
theorem dX2_obeysAlong_64 : decode cX2_obeysAlong 64 = .ok (.invokevirtual 41, 3) := by decide +kernel
theorem dX2_obeysAlong_67 : decode cX2_obeysAlong 67 = .ok (.iconst (-1), 1) := by decide +kernel
theorem dX2_obeysAlong_68 : decode cX2_obeysAlong 68 = .ok (.ixor, 1) := by decide +kernel
theorem dX2_obeysAlong_69 : decode cX2_obeysAlong 69 = .ok (.iand, 1) := by decide +kernel
theorem dX2_obeysAlong_70 : decode cX2_obeysAlong 70 = .ok (.ifCond .ne 7, 3) := by decide +kernel
theorem dX2_obeysAlong_73 : decode cX2_obeysAlong 73 = .ok (.iconst 1, 1) := by decide +kernel
theorem dX2_obeysAlong_74 : decode cX2_obeysAlong 74 = .ok (.goto 4, 3) := by decide +kernel
theorem dX2_obeysAlong_77 : decode cX2_obeysAlong 77 = .ok (.iconst 0, 1) := by decide +kernel
theorem dX2_obeysAlong_78 : decode cX2_obeysAlong 78 = .ok (.ireturn, 1) := by decide +kernel
theorem dX2_makeFit_0 : decode cX2_makeFit 0 = .ok (.iconst 0, 1) := by decide +kernel
theorem dX2_makeFit_1 : decode cX2_makeFit 1 = .ok (.istore_n 1, 1) := by decide +kernel
theorem dX2_makeFit_2 : decode cX2_makeFit 2 = .ok (.iload_n 1, 1) := by decide +kernel
theorem dX2_makeFit_3 : decode cX2_makeFit 3 = .ok (.aload_n 0, 1) := by decide +kernel
theorem dX2_makeFit_4 : decode cX2_makeFit 4 = .ok (.getfield 15, 3) := by decide +kernel
theorem dX2_makeFit_7 : decode cX2_makeFit 7 = .ok (.if_icmp .ge 49, 3) := by decide +kernel
theorem dX2_makeFit_10 : decode cX2_makeFit 10 = .ok (.aload_n 0, 1) := by decide +kernel
theorem dX2_makeFit_11 : decode cX2_makeFit 11 = .ok (.getfield 9, 3) := by decide +kernel
theorem dX2_makeFit_14 : decode cX2_makeFit 14 = .ok (.iconst 1, 1) := by decide +kernel
theorem dX2_makeFit_15 : decode cX2_makeFit 15 = .ok (.if_icmp .eq 27, 3) := by decide +kernel
theorem dX2_makeFit_18 : decode cX2_makeFit 18 = .ok (.aload_n 0, 1) := by decide +kernel
theorem dX2_makeFit_19 : decode cX2_makeFit 19 = .ok (.getfield 9, 3) := by decide +kernel
theorem dX2_makeFit_22 : decode cX2_makeFit 22 = .ok (.iconst 2, 1) := by decide +kernel
theorem dX2_makeFit_23 : decode cX2_makeFit 23 = .ok (.if_icmp .eq 19, 3) := by decide +kernel
theorem dX2_makeFit_26 : decode cX2_makeFit 26 = .ok (.aload_n 0, 1) := by decide +kernel
theorem dX2_makeFit_27 : decode cX2_makeFit 27 = .ok (.getfield 9, 3) := by decide +kernel
theorem dX2_makeFit_30 : decode cX2_makeFit 30 = .ok (.iconst 4, 1) := by decide +kernel
theorem dX2_makeFit_31 : decode cX2_makeFit 31 = .ok (.if_icmp .ne 19, 3) := by decide +kernel
theorem dX2_makeFit_34 : decode cX2_makeFit 34 = .ok (.aload_n 0, 1) := by decide +kernel
theorem dX2_makeFit_35 : decode cX2_makeFit 35 = .ok (.iload_n 1, 1) := by decide +kernel
theorem dX2_makeFit_36 : decode cX2_makeFit 36 = .ok (.invokevirtual 41, 3) := by decide +kernel
theorem dX2_makeFit_39 : decode cX2_makeFit 39 = .ok (.ifCond .ne 11, 3) := by decide +kernel
theorem dX2_makeFit_42 : decode cX2_makeFit 42 = .ok (.aload_n 0, 1) := by decide +kernel
theorem dX2_makeFit_43 : decode cX2_makeFit 43 = .ok (.iload_n 1, 1) := by decide +kernel
theorem dX2_makeFit_44 : decode cX2_makeFit 44 = .ok (.iconst 1, 1) := by decide +kernel
theorem dX2_makeFit_45 : decode cX2_makeFit 45 = .ok (.iload_n 1, 1) := by decide +kernel
theorem dX2_makeFit_46 : decode cX2_makeFit 46 = .ok (.ishl, 1) := by decide +kernel
theorem dX2_makeFit_47 : decode cX2_makeFit 47 = .ok (.invokevirtual 27, 3) := by decide +kernel
theorem dX2_makeFit_50 : decode cX2_makeFit 50 = .ok (.iinc 1 1, 3) := by decide +kernel
theorem dX2_makeFit_53 : decode cX2_makeFit 53 = .ok (.goto (-51), 3) := by decide +kernel
theorem dX2_makeFit_56 : decode cX2_makeFit 56 = .ok (.aload_n 0, 1) := by decide +kernel
theorem dX2_makeFit_57 : decode cX2_makeFit 57 = .ok (.getfield 9, 3) := by decide +kernel
theorem dX2_makeFit_60 : decode cX2_makeFit 60 = .ok (.iconst 2, 1) := by decide +kernel
theorem dX2_makeFit_61 : decode cX2_makeFit 61 = .ok (.if_icmp .ne 7, 3) := by decide +kernel
theorem dX2_makeFit_64 : decode cX2_makeFit 64 = .ok (.aload_n 0, 1) := by decide +kernel
theorem dX2_makeFit_65 : decode cX2_makeFit 65 = .ok (.invokevirtual 62, 3) := by decide +kernel
theorem dX2_makeFit_68 : decode cX2_makeFit 68 = .ok (.aload_n 0, 1) := by decide +kernel
theorem dX2_makeFit_69 : decode cX2_makeFit 69 = .ok (.getfield 9, 3) := by decide +kernel
theorem dX2_makeFit_72 : decode cX2_makeFit 72 = .ok (.iconst 3, 1) := by decide +kernel
theorem dX2_makeFit_73 : decode cX2_makeFit 73 = .ok (.if_icmp .ne 7, 3) := by decide +kernel
theorem dX2_makeFit_76 : decode cX2_makeFit 76 = .ok (.aload_n 0, 1) := by decide +kernel
theorem dX2_makeFit_77 : decode cX2_makeFit 77 = .ok (.invokevirtual 65, 3) := by decide +kernel
theorem dX2_makeFit_80 : decode cX2_makeFit 80 = .ok (.return_, 1) := by decide +kernel
theorem dX2_makeTransitive_0 : decode cX2_makeTransitive 0 = .ok (.iconst 0, 1) := by decide +kernel
theorem dX2_makeTransitive_1 : decode cX2_makeTransitive 1 = .ok (.istore_n 1, 1) := by decide +kernel
theorem dX2_makeTransitive_2 : decode cX2_makeTransitive 2 = .ok (.iload_n 1, 1) := by decide +kernel
theorem dX2_makeTransitive_3 : decode cX2_makeTransitive 3 = .ok (.aload_n 0, 1) := by decide +kernel
theorem dX2_makeTransitive_4 : decode cX2_makeTransitive 4 = .ok (.getfield 15, 3) := by decide +kernel
theorem dX2_makeTransitive_7 : decode cX2_makeTransitive 7 = .ok (.if_icmp .ge 44, 3) := by decide +kernel
theorem dX2_makeTransitive_10 : decode cX2_makeTransitive 10 = .ok (.iconst 0, 1) := by decide +kernel
theorem dX2_makeTransitive_11 : decode cX2_makeTransitive 11 = .ok (.istore_n 2, 1) := by decide +kernel
theorem dX2_makeTransitive_12 : decode cX2_makeTransitive 12 = .ok (.iload_n 2, 1) := by decide +kernel
theorem dX2_makeTransitive_13 : decode cX2_makeTransitive 13 = .ok (.aload_n 0, 1) := by decide +kernel
theorem dX2_makeTransitive_14 : decode cX2_makeTransitive 14 = .ok (.getfield 15, 3) := by decide +kernel
theorem dX2_makeTransitive_17 : decode cX2_makeTransitive 17 = .ok (.if_icmp .ge 28, 3) := by decide +kernel
theorem dX2_makeTransitive_20 : decode cX2_makeTransitive 20 = .ok (.aload_n 0, 1) := by decide +kernel
theorem dX2_makeTransitive_21 : decode cX2_makeTransitive 21 = .ok (.iload_n 2, 1) := by decide +kernel
theorem dX2_makeTransitive_22 : decode cX2_makeTransitive 22 = .ok (.iload_n 1, 1) := by decide +kernel
theorem dX2_makeTransitive_23 : decode cX2_makeTransitive 23 = .ok (.invokevirtual 55, 3) := by decide +kernel
theorem dX2_makeTransitive_26 : decode cX2_makeTransitive 26 = .ok (.ifCond .eq 13, 3) := by decide +kernel
theorem dX2_makeTransitive_29 : decode cX2_makeTransitive 29 = .ok (.aload_n 0, 1) := by decide +kernel
theorem dX2_makeTransitive_30 : decode cX2_makeTransitive 30 = .ok (.iload_n 2, 1) := by decide +kernel
theorem dX2_makeTransitive_31 : decode cX2_makeTransitive 31 = .ok (.aload_n 0, 1) := by decide +kernel
theorem dX2_makeTransitive_32 : decode cX2_makeTransitive 32 = .ok (.iload_n 1, 1) := by decide +kernel
theorem dX2_makeTransitive_33 : decode cX2_makeTransitive 33 = .ok (.invokevirtual 41, 3) := by decide +kernel
theorem dX2_makeTransitive_36 : decode cX2_makeTransitive 36 = .ok (.invokevirtual 27, 3) := by decide +kernel
theorem dX2_makeTransitive_39 : decode cX2_makeTransitive 39 = .ok (.iinc 2 1, 3) := by decide +kernel
theorem dX2_makeTransitive_42 : decode cX2_makeTransitive 42 = .ok (.goto (-30), 3) := by decide +kernel
theorem dX2_makeTransitive_45 : decode cX2_makeTransitive 45 = .ok (.iinc 1 1, 3) := by decide +kernel
theorem dX2_makeTransitive_48 : decode cX2_makeTransitive 48 = .ok (.goto (-46), 3) := by decide +kernel
theorem dX2_makeTransitive_51 : decode cX2_makeTransitive 51 = .ok (.return_, 1) := by decide +kernel
theorem dX2_makeSymmetric_0 : decode cX2_makeSymmetric 0 = .ok (.iconst 0, 1) := by decide +kernel
theorem dX2_makeSymmetric_1 : decode cX2_makeSymmetric 1 = .ok (.istore_n 1, 1) := by decide +kernel
theorem dX2_makeSymmetric_2 : decode cX2_makeSymmetric 2 = .ok (.iload_n 1, 1) := by decide +kernel
theorem dX2_makeSymmetric_3 : decode cX2_makeSymmetric 3 = .ok (.aload_n 0, 1) := by decide +kernel
theorem dX2_makeSymmetric_4 : decode cX2_makeSymmetric 4 = .ok (.getfield 15, 3) := by decide +kernel
theorem dX2_makeSymmetric_7 : decode cX2_makeSymmetric 7 = .ok (.if_icmp .ge 42, 3) := by decide +kernel
theorem dX2_makeSymmetric_10 : decode cX2_makeSymmetric 10 = .ok (.iconst 0, 1) := by decide +kernel
theorem dX2_makeSymmetric_11 : decode cX2_makeSymmetric 11 = .ok (.istore_n 2, 1) := by decide +kernel
theorem dX2_makeSymmetric_12 : decode cX2_makeSymmetric 12 = .ok (.iload_n 2, 1) := by decide +kernel
theorem dX2_makeSymmetric_13 : decode cX2_makeSymmetric 13 = .ok (.aload_n 0, 1) := by decide +kernel
theorem dX2_makeSymmetric_14 : decode cX2_makeSymmetric 14 = .ok (.getfield 15, 3) := by decide +kernel
theorem dX2_makeSymmetric_17 : decode cX2_makeSymmetric 17 = .ok (.if_icmp .ge 26, 3) := by decide +kernel
theorem dX2_makeSymmetric_20 : decode cX2_makeSymmetric 20 = .ok (.aload_n 0, 1) := by decide +kernel
theorem dX2_makeSymmetric_21 : decode cX2_makeSymmetric 21 = .ok (.iload_n 1, 1) := by decide +kernel
theorem dX2_makeSymmetric_22 : decode cX2_makeSymmetric 22 = .ok (.iload_n 2, 1) := by decide +kernel
theorem dX2_makeSymmetric_23 : decode cX2_makeSymmetric 23 = .ok (.invokevirtual 55, 3) := by decide +kernel
theorem dX2_makeSymmetric_26 : decode cX2_makeSymmetric 26 = .ok (.ifCond .eq 11, 3) := by decide +kernel
theorem dX2_makeSymmetric_29 : decode cX2_makeSymmetric 29 = .ok (.aload_n 0, 1) := by decide +kernel
theorem dX2_makeSymmetric_30 : decode cX2_makeSymmetric 30 = .ok (.iload_n 2, 1) := by decide +kernel
theorem dX2_makeSymmetric_31 : decode cX2_makeSymmetric 31 = .ok (.iconst 1, 1) := by decide +kernel
theorem dX2_makeSymmetric_32 : decode cX2_makeSymmetric 32 = .ok (.iload_n 1, 1) := by decide +kernel
theorem dX2_makeSymmetric_33 : decode cX2_makeSymmetric 33 = .ok (.ishl, 1) := by decide +kernel
theorem dX2_makeSymmetric_34 : decode cX2_makeSymmetric 34 = .ok (.invokevirtual 27, 3) := by decide +kernel
theorem dX2_makeSymmetric_37 : decode cX2_makeSymmetric 37 = .ok (.iinc 2 1, 3) := by decide +kernel
theorem dX2_makeSymmetric_40 : decode cX2_makeSymmetric 40 = .ok (.goto (-28), 3) := by decide +kernel
theorem dX2_makeSymmetric_43 : decode cX2_makeSymmetric 43 = .ok (.iinc 1 1, 3) := by decide +kernel
theorem dX2_makeSymmetric_46 : decode cX2_makeSymmetric 46 = .ok (.goto (-44), 3) := by decide +kernel
theorem dX2_makeSymmetric_49 : decode cX2_makeSymmetric 49 = .ok (.return_, 1) := by decide +kernel
theorem dX2_drop_0 : decode cX2_drop 0 = .ok (.iconst 0, 1) := by decide +kernel
theorem dX2_drop_1 : decode cX2_drop 1 = .ok (.istore_n 2, 1) := by decide +kernel
theorem dX2_drop_2 : decode cX2_drop 2 = .ok (.iconst 0, 1) := by decide +kernel
theorem dX2_drop_3 : decode cX2_drop 3 = .ok (.istore_n 3, 1) := by decide +kernel
theorem dX2_drop_4 : decode cX2_drop 4 = .ok (.iload_n 3, 1) := by decide +kernel
theorem dX2_drop_5 : decode cX2_drop 5 = .ok (.aload_n 0, 1) := by decide +kernel
theorem dX2_drop_6 : decode cX2_drop 6 = .ok (.getfield 15, 3) := by decide +kernel
theorem dX2_drop_9 : decode cX2_drop 9 = .ok (.if_icmp .ge 45, 3) := by decide +kernel
theorem dX2_drop_12 : decode cX2_drop 12 = .ok (.iload_n 3, 1) := by decide +kernel
theorem dX2_drop_13 : decode cX2_drop 13 = .ok (.iload_n 1, 1) := by decide +kernel
theorem dX2_drop_14 : decode cX2_drop 14 = .ok (.if_icmp .eq 34, 3) := by decide +kernel
theorem dX2_drop_17 : decode cX2_drop 17 = .ok (.iload_n 3, 1) := by decide +kernel
theorem dX2_drop_18 : decode cX2_drop 18 = .ok (.iload_n 1, 1) := by decide +kernel
theorem dX2_drop_19 : decode cX2_drop 19 = .ok (.if_icmp .ge 7, 3) := by decide +kernel
theorem dX2_drop_22 : decode cX2_drop 22 = .ok (.iload_n 3, 1) := by decide +kernel
theorem dX2_drop_23 : decode cX2_drop 23 = .ok (.goto 6, 3) := by decide +kernel
theorem dX2_drop_26 : decode cX2_drop 26 = .ok (.iload_n 3, 1) := by decide +kernel
theorem dX2_drop_27 : decode cX2_drop 27 = .ok (.iconst 1, 1) := by decide +kernel
theorem dX2_drop_28 : decode cX2_drop 28 = .ok (.isub, 1) := by decide +kernel
theorem dX2_drop_29 : decode cX2_drop 29 = .ok (.istore 4, 2) := by decide +kernel
theorem dX2_drop_31 : decode cX2_drop 31 = .ok (.iload_n 2, 1) := by decide +kernel
theorem dX2_drop_32 : decode cX2_drop 32 = .ok (.aload_n 0, 1) := by decide +kernel
theorem dX2_drop_33 : decode cX2_drop 33 = .ok (.iload_n 3, 1) := by decide +kernel
theorem dX2_drop_34 : decode cX2_drop 34 = .ok (.invokevirtual 41, 3) := by decide +kernel
theorem dX2_drop_37 : decode cX2_drop 37 = .ok (.iload_n 1, 1) := by decide +kernel
theorem dX2_drop_38 : decode cX2_drop 38 = .ok (.invokestatic 68, 3) := by decide +kernel
theorem dX2_drop_41 : decode cX2_drop 41 = .ok (.iconst 4, 1) := by decide +kernel
theorem dX2_drop_42 : decode cX2_drop 42 = .ok (.iload 4, 2) := by decide +kernel
theorem dX2_drop_44 : decode cX2_drop 44 = .ok (.imul, 1) := by decide +kernel
theorem dX2_drop_45 : decode cX2_drop 45 = .ok (.ishl, 1) := by decide +kernel
theorem dX2_drop_46 : decode cX2_drop 46 = .ok (.ior, 1) := by decide +kernel
theorem dX2_drop_47 : decode cX2_drop 47 = .ok (.istore_n 2, 1) := by decide +kernel
theorem dX2_drop_48 : decode cX2_drop 48 = .ok (.iinc 3 1, 3) := by decide +kernel
theorem dX2_drop_51 : decode cX2_drop 51 = .ok (.goto (-47), 3) := by decide +kernel
theorem dX2_drop_54 : decode cX2_drop 54 = .ok (.aload_n 0, 1) := by decide +kernel
theorem dX2_drop_55 : decode cX2_drop 55 = .ok (.iload_n 2, 1) := by decide +kernel
theorem dX2_drop_56 : decode cX2_drop 56 = .ok (.putfield 18, 3) := by decide +kernel
theorem dX2_drop_59 : decode cX2_drop 59 = .ok (.aload_n 0, 1) := by decide +kernel
theorem dX2_drop_60 : decode cX2_drop 60 = .ok (.aload_n 0, 1) := by decide +kernel
theorem dX2_drop_61 : decode cX2_drop 61 = .ok (.getfield 21, 3) := by decide +kernel
theorem dX2_drop_64 : decode cX2_drop 64 = .ok (.iload_n 1, 1) := by decide +kernel
theorem dX2_drop_65 : decode cX2_drop 65 = .ok (.invokestatic 68, 3) := by decide +kernel
theorem dX2_drop_68 : decode cX2_drop 68 = .ok (.putfield 21, 3) := by decide +kernel
theorem dX2_drop_71 : decode cX2_drop 71 = .ok (.aload_n 0, 1) := by decide +kernel
theorem dX2_drop_72 : decode cX2_drop 72 = .ok (.aload_n 0, 1) := by decide +kernel
theorem dX2_drop_73 : decode cX2_drop 73 = .ok (.getfield 24, 3) := by decide +kernel
theorem dX2_drop_76 : decode cX2_drop 76 = .ok (.iload_n 1, 1) := by decide +kernel
theorem dX2_drop_77 : decode cX2_drop 77 = .ok (.invokestatic 68, 3) := by decide +kernel
theorem dX2_drop_80 : decode cX2_drop 80 = .ok (.putfield 24, 3) := by decide +kernel
theorem dX2_drop_83 : decode cX2_drop 83 = .ok (.aload_n 0, 1) := by decide +kernel
theorem dX2_drop_84 : decode cX2_drop 84 = .ok (.dup, 1) := by decide +kernel
theorem dX2_drop_85 : decode cX2_drop 85 = .ok (.getfield 15, 3) := by decide +kernel
theorem dX2_drop_88 : decode cX2_drop 88 = .ok (.iconst 1, 1) := by decide +kernel
theorem dX2_drop_89 : decode cX2_drop 89 = .ok (.isub, 1) := by decide +kernel
theorem dX2_drop_90 : decode cX2_drop 90 = .ok (.putfield 15, 3) := by decide +kernel
theorem dX2_drop_93 : decode cX2_drop 93 = .ok (.return_, 1) := by decide +kernel
theorem dX2_without_0 : decode cX2_without 0 = .ok (.iconst 1, 1) := by decide +kernel
theorem dX2_without_1 : decode cX2_without 1 = .ok (.iload_n 1, 1) := by decide +kernel
theorem dX2_without_2 : decode cX2_without 2 = .ok (.ishl, 1) := by decide +kernel
theorem dX2_without_3 : decode cX2_without 3 = .ok (.iconst 1, 1) := by decide +kernel
theorem dX2_without_4 : decode cX2_without 4 = .ok (.isub, 1) := by decide +kernel
theorem dX2_without_5 : decode cX2_without 5 = .ok (.istore_n 2, 1) := by decide +kernel
theorem dX2_without_6 : decode cX2_without 6 = .ok (.iload_n 0, 1) := by decide +kernel
theorem dX2_without_7 : decode cX2_without 7 = .ok (.iload_n 2, 1) := by decide +kernel
theorem dX2_without_8 : decode cX2_without 8 = .ok (.iand, 1) := by decide +kernel
theorem dX2_without_9 : decode cX2_without 9 = .ok (.iload_n 0, 1) := by decide +kernel
theorem dX2_without_10 : decode cX2_without 10 = .ok (.iconst 1, 1) := by decide +kernel
theorem dX2_without_11 : decode cX2_without 11 = .ok (.ishr, 1) := by decide +kernel
theorem dX2_without_12 : decode cX2_without 12 = .ok (.iload_n 2, 1) := by decide +kernel
theorem dX2_without_13 : decode cX2_without 13 = .ok (.iconst (-1), 1) := by decide +kernel
theorem dX2_without_14 : decode cX2_without 14 = .ok (.ixor, 1) := by decide +kernel
theorem dX2_without_15 : decode cX2_without 15 = .ok (.iand, 1) := by decide +kernel
theorem dX2_without_16 : decode cX2_without 16 = .ok (.ior, 1) := by decide +kernel
theorem dX2_without_17 : decode cX2_without 17 = .ok (.ireturn, 1) := by decide +kernel
theorem dX2_merge_0 : decode cX2_merge 0 = .ok (.aload_n 0, 1) := by decide +kernel
theorem dX2_merge_1 : decode cX2_merge 1 = .ok (.invokevirtual 71, 3) := by decide +kernel
theorem dX2_merge_4 : decode cX2_merge 4 = .ok (.istore_n 1, 1) := by decide +kernel
theorem dX2_merge_5 : decode cX2_merge 5 = .ok (.iconst 0, 1) := by decide +kernel
theorem dX2_merge_6 : decode cX2_merge 6 = .ok (.istore_n 2, 1) := by decide +kernel
theorem dX2_merge_7 : decode cX2_merge 7 = .ok (.iload_n 2, 1) := by decide +kernel
theorem dX2_merge_8 : decode cX2_merge 8 = .ok (.aload_n 0, 1) := by decide +kernel
theorem dX2_merge_9 : decode cX2_merge 9 = .ok (.getfield 15, 3) := by decide +kernel
theorem dX2_merge_12 : decode cX2_merge 12 = .ok (.if_icmp .ge 50, 3) := by decide +kernel
theorem dX2_merge_15 : decode cX2_merge 15 = .ok (.iconst 0, 1) := by decide +kernel
theorem dX2_merge_16 : decode cX2_merge 16 = .ok (.istore_n 3, 1) := by decide +kernel
theorem dX2_merge_17 : decode cX2_merge 17 = .ok (.iload_n 3, 1) := by decide +kernel
theorem dX2_merge_18 : decode cX2_merge 18 = .ok (.aload_n 0, 1) := by decide +kernel
theorem dX2_merge_19 : decode cX2_merge 19 = .ok (.getfield 15, 3) := by decide +kernel
theorem dX2_merge_22 : decode cX2_merge 22 = .ok (.if_icmp .ge 34, 3) := by decide +kernel
theorem dX2_merge_25 : decode cX2_merge 25 = .ok (.aload_n 0, 1) := by decide +kernel
theorem dX2_merge_26 : decode cX2_merge 26 = .ok (.iload_n 2, 1) := by decide +kernel
theorem dX2_merge_27 : decode cX2_merge 27 = .ok (.iload_n 3, 1) := by decide +kernel
theorem dX2_merge_28 : decode cX2_merge 28 = .ok (.invokevirtual 55, 3) := by decide +kernel
theorem dX2_merge_31 : decode cX2_merge 31 = .ok (.ifCond .eq 19, 3) := by decide +kernel
theorem dX2_merge_34 : decode cX2_merge 34 = .ok (.aload_n 0, 1) := by decide +kernel
theorem dX2_merge_35 : decode cX2_merge 35 = .ok (.iload_n 2, 1) := by decide +kernel
theorem dX2_merge_36 : decode cX2_merge 36 = .ok (.iconst 1, 1) := by decide +kernel
theorem dX2_merge_37 : decode cX2_merge 37 = .ok (.iload_n 1, 1) := by decide +kernel
theorem dX2_merge_38 : decode cX2_merge 38 = .ok (.iload_n 3, 1) := by decide +kernel
theorem dX2_merge_39 : decode cX2_merge 39 = .ok (.invokestatic 75, 3) := by decide +kernel
theorem dX2_merge_42 : decode cX2_merge 42 = .ok (.i2l, 1) := by decide +kernel
theorem dX2_merge_43 : decode cX2_merge 43 = .ok (.invokestatic 78, 3) := by decide +kernel
theorem dX2_merge_46 : decode cX2_merge 46 = .ok (.ishl, 1) := by decide +kernel
theorem dX2_merge_47 : decode cX2_merge 47 = .ok (.invokevirtual 27, 3) := by decide +kernel
theorem dX2_merge_50 : decode cX2_merge 50 = .ok (.iinc 3 1, 3) := by decide +kernel
theorem dX2_merge_53 : decode cX2_merge 53 = .ok (.goto (-36), 3) := by decide +kernel
theorem dX2_merge_56 : decode cX2_merge 56 = .ok (.iinc 2 1, 3) := by decide +kernel
theorem dX2_merge_59 : decode cX2_merge 59 = .ok (.goto (-52), 3) := by decide +kernel
theorem dX2_merge_62 : decode cX2_merge 62 = .ok (.aload_n 0, 1) := by decide +kernel
theorem dX2_merge_63 : decode cX2_merge 63 = .ok (.getfield 15, 3) := by decide +kernel
theorem dX2_merge_66 : decode cX2_merge 66 = .ok (.iconst 1, 1) := by decide +kernel
theorem dX2_merge_67 : decode cX2_merge 67 = .ok (.isub, 1) := by decide +kernel
theorem dX2_merge_68 : decode cX2_merge 68 = .ok (.istore_n 2, 1) := by decide +kernel
theorem dX2_merge_69 : decode cX2_merge 69 = .ok (.iload_n 2, 1) := by decide +kernel
theorem dX2_merge_70 : decode cX2_merge 70 = .ok (.ifCond .lt 27, 3) := by decide +kernel
theorem dX2_merge_73 : decode cX2_merge 73 = .ok (.iload_n 1, 1) := by decide +kernel
theorem dX2_merge_74 : decode cX2_merge 74 = .ok (.iload_n 2, 1) := by decide +kernel
theorem dX2_merge_75 : decode cX2_merge 75 = .ok (.invokestatic 75, 3) := by decide +kernel
theorem dX2_merge_78 : decode cX2_merge 78 = .ok (.i2l, 1) := by decide +kernel
theorem dX2_merge_79 : decode cX2_merge 79 = .ok (.invokestatic 78, 3) := by decide +kernel
theorem dX2_merge_82 : decode cX2_merge 82 = .ok (.iload_n 2, 1) := by decide +kernel
theorem dX2_merge_83 : decode cX2_merge 83 = .ok (.if_icmp .eq 8, 3) := by decide +kernel
theorem dX2_merge_86 : decode cX2_merge 86 = .ok (.aload_n 0, 1) := by decide +kernel
theorem dX2_merge_87 : decode cX2_merge 87 = .ok (.iload_n 2, 1) := by decide +kernel
theorem dX2_merge_88 : decode cX2_merge 88 = .ok (.invokevirtual 82, 3) := by decide +kernel
theorem dX2_merge_91 : decode cX2_merge 91 = .ok (.iinc 2 (-1), 3) := by decide +kernel
theorem dX2_merge_94 : decode cX2_merge 94 = .ok (.goto (-25), 3) := by decide +kernel
theorem dX2_merge_97 : decode cX2_merge 97 = .ok (.return_, 1) := by decide +kernel
theorem dX2_classes_0 : decode cX2_classes 0 = .ok (.aload_n 0, 1) := by decide +kernel
theorem dX2_classes_1 : decode cX2_classes 1 = .ok (.invokevirtual 71, 3) := by decide +kernel
theorem dX2_classes_4 : decode cX2_classes 4 = .ok (.istore_n 1, 1) := by decide +kernel
theorem dX2_classes_5 : decode cX2_classes 5 = .ok (.iconst 0, 1) := by decide +kernel
theorem dX2_classes_6 : decode cX2_classes 6 = .ok (.istore_n 2, 1) := by decide +kernel
theorem dX2_classes_7 : decode cX2_classes 7 = .ok (.iconst 0, 1) := by decide +kernel
theorem dX2_classes_8 : decode cX2_classes 8 = .ok (.istore_n 3, 1) := by decide +kernel
theorem dX2_classes_9 : decode cX2_classes 9 = .ok (.iload_n 3, 1) := by decide +kernel
theorem dX2_classes_10 : decode cX2_classes 10 = .ok (.aload_n 0, 1) := by decide +kernel
theorem dX2_classes_11 : decode cX2_classes 11 = .ok (.getfield 15, 3) := by decide +kernel
theorem dX2_classes_14 : decode cX2_classes 14 = .ok (.if_icmp .ge 25, 3) := by decide +kernel
theorem dX2_classes_17 : decode cX2_classes 17 = .ok (.iload_n 1, 1) := by decide +kernel
theorem dX2_classes_18 : decode cX2_classes 18 = .ok (.iload_n 3, 1) := by decide +kernel
theorem dX2_classes_19 : decode cX2_classes 19 = .ok (.invokestatic 75, 3) := by decide +kernel
theorem dX2_classes_22 : decode cX2_classes 22 = .ok (.i2l, 1) := by decide +kernel
theorem dX2_classes_23 : decode cX2_classes 23 = .ok (.invokestatic 78, 3) := by decide +kernel
theorem dX2_classes_26 : decode cX2_classes 26 = .ok (.iload_n 3, 1) := by decide +kernel
theorem dX2_classes_27 : decode cX2_classes 27 = .ok (.if_icmp .ne 6, 3) := by decide +kernel
theorem dX2_classes_30 : decode cX2_classes 30 = .ok (.iinc 2 1, 3) := by decide +kernel
theorem dX2_classes_33 : decode cX2_classes 33 = .ok (.iinc 3 1, 3) := by decide +kernel
theorem dX2_classes_36 : decode cX2_classes 36 = .ok (.goto (-27), 3) := by decide +kernel
theorem dX2_classes_39 : decode cX2_classes 39 = .ok (.iload_n 2, 1) := by decide +kernel
theorem dX2_classes_40 : decode cX2_classes 40 = .ok (.ireturn, 1) := by decide +kernel
theorem dX2_lowestBisimilar_0 : decode cX2_lowestBisimilar 0 = .ok (.aload_n 0, 1) := by decide +kernel
theorem dX2_lowestBisimilar_1 : decode cX2_lowestBisimilar 1 = .ok (.invokevirtual 71, 3) := by decide +kernel
theorem dX2_lowestBisimilar_4 : decode cX2_lowestBisimilar 4 = .ok (.iload_n 1, 1) := by decide +kernel
theorem dX2_lowestBisimilar_5 : decode cX2_lowestBisimilar 5 = .ok (.invokestatic 75, 3) := by decide +kernel
theorem dX2_lowestBisimilar_8 : decode cX2_lowestBisimilar 8 = .ok (.i2l, 1) := by decide +kernel
theorem dX2_lowestBisimilar_9 : decode cX2_lowestBisimilar 9 = .ok (.invokestatic 78, 3) := by decide +kernel
theorem dX2_lowestBisimilar_12 : decode cX2_lowestBisimilar 12 = .ok (.ireturn, 1) := by decide +kernel
theorem dX2_bisimilarity_0 : decode cX2_bisimilarity 0 = .ok (.aload_n 0, 1) := by decide +kernel
theorem dX2_bisimilarity_1 : decode cX2_bisimilarity 1 = .ok (.invokevirtual 86, 3) := by decide +kernel
theorem dX2_bisimilarity_4 : decode cX2_bisimilarity 4 = .ok (.istore_n 1, 1) := by decide +kernel
theorem dX2_bisimilarity_5 : decode cX2_bisimilarity 5 = .ok (.iconst 0, 1) := by decide +kernel
theorem dX2_bisimilarity_6 : decode cX2_bisimilarity 6 = .ok (.istore_n 2, 1) := by decide +kernel
theorem dX2_bisimilarity_7 : decode cX2_bisimilarity 7 = .ok (.iload_n 2, 1) := by decide +kernel
theorem dX2_bisimilarity_8 : decode cX2_bisimilarity 8 = .ok (.aload_n 0, 1) := by decide +kernel
theorem dX2_bisimilarity_9 : decode cX2_bisimilarity 9 = .ok (.getfield 15, 3) := by decide +kernel
theorem dX2_bisimilarity_12 : decode cX2_bisimilarity 12 = .ok (.if_icmp .ge 15, 3) := by decide +kernel
theorem dX2_bisimilarity_15 : decode cX2_bisimilarity 15 = .ok (.aload_n 0, 1) := by decide +kernel
theorem dX2_bisimilarity_16 : decode cX2_bisimilarity 16 = .ok (.iload_n 1, 1) := by decide +kernel
theorem dX2_bisimilarity_17 : decode cX2_bisimilarity 17 = .ok (.invokevirtual 89, 3) := by decide +kernel
theorem dX2_bisimilarity_20 : decode cX2_bisimilarity 20 = .ok (.istore_n 1, 1) := by decide +kernel
theorem dX2_bisimilarity_21 : decode cX2_bisimilarity 21 = .ok (.iinc 2 1, 3) := by decide +kernel
theorem dX2_bisimilarity_24 : decode cX2_bisimilarity 24 = .ok (.goto (-17), 3) := by decide +kernel
theorem dX2_bisimilarity_27 : decode cX2_bisimilarity 27 = .ok (.iload_n 1, 1) := by decide +kernel
theorem dX2_bisimilarity_28 : decode cX2_bisimilarity 28 = .ok (.ireturn, 1) := by decide +kernel
theorem dX2_sameMarks_0 : decode cX2_sameMarks 0 = .ok (.iconst 0, 1) := by decide +kernel
theorem dX2_sameMarks_1 : decode cX2_sameMarks 1 = .ok (.istore_n 1, 1) := by decide +kernel
theorem dX2_sameMarks_2 : decode cX2_sameMarks 2 = .ok (.iconst 0, 1) := by decide +kernel
theorem dX2_sameMarks_3 : decode cX2_sameMarks 3 = .ok (.istore_n 2, 1) := by decide +kernel
theorem dX2_sameMarks_4 : decode cX2_sameMarks 4 = .ok (.iload_n 2, 1) := by decide +kernel
theorem dX2_sameMarks_5 : decode cX2_sameMarks 5 = .ok (.aload_n 0, 1) := by decide +kernel
theorem dX2_sameMarks_6 : decode cX2_sameMarks 6 = .ok (.getfield 15, 3) := by decide +kernel
theorem dX2_sameMarks_9 : decode cX2_sameMarks 9 = .ok (.if_icmp .ge 46, 3) := by decide +kernel
theorem dX2_sameMarks_12 : decode cX2_sameMarks 12 = .ok (.iconst 0, 1) := by decide +kernel
theorem dX2_sameMarks_13 : decode cX2_sameMarks 13 = .ok (.istore_n 3, 1) := by decide +kernel
theorem dX2_sameMarks_14 : decode cX2_sameMarks 14 = .ok (.iload_n 3, 1) := by decide +kernel
theorem dX2_sameMarks_15 : decode cX2_sameMarks 15 = .ok (.aload_n 0, 1) := by decide +kernel
theorem dX2_sameMarks_16 : decode cX2_sameMarks 16 = .ok (.getfield 15, 3) := by decide +kernel
theorem dX2_sameMarks_19 : decode cX2_sameMarks 19 = .ok (.if_icmp .ge 30, 3) := by decide +kernel
theorem dX2_sameMarks_22 : decode cX2_sameMarks 22 = .ok (.aload_n 0, 1) := by decide +kernel
theorem dX2_sameMarks_23 : decode cX2_sameMarks 23 = .ok (.iload_n 2, 1) := by decide +kernel
theorem dX2_sameMarks_24 : decode cX2_sameMarks 24 = .ok (.invokevirtual 92, 3) := by decide +kernel
theorem dX2_sameMarks_27 : decode cX2_sameMarks 27 = .ok (.aload_n 0, 1) := by decide +kernel
theorem dX2_sameMarks_28 : decode cX2_sameMarks 28 = .ok (.iload_n 3, 1) := by decide +kernel
theorem dX2_sameMarks_29 : decode cX2_sameMarks 29 = .ok (.invokevirtual 92, 3) := by decide +kernel
theorem dX2_sameMarks_32 : decode cX2_sameMarks 32 = .ok (.if_icmp .ne 11, 3) := by decide +kernel
theorem dX2_sameMarks_35 : decode cX2_sameMarks 35 = .ok (.iload_n 1, 1) := by decide +kernel
theorem dX2_sameMarks_36 : decode cX2_sameMarks 36 = .ok (.iload_n 2, 1) := by decide +kernel
theorem dX2_sameMarks_37 : decode cX2_sameMarks 37 = .ok (.iload_n 3, 1) := by decide +kernel
theorem dX2_sameMarks_38 : decode cX2_sameMarks 38 = .ok (.invokestatic 31, 3) := by decide +kernel
theorem dX2_sameMarks_41 : decode cX2_sameMarks 41 = .ok (.ior, 1) := by decide +kernel
theorem dX2_sameMarks_42 : decode cX2_sameMarks 42 = .ok (.istore_n 1, 1) := by decide +kernel
theorem dX2_sameMarks_43 : decode cX2_sameMarks 43 = .ok (.iinc 3 1, 3) := by decide +kernel
theorem dX2_sameMarks_46 : decode cX2_sameMarks 46 = .ok (.goto (-32), 3) := by decide +kernel
theorem dX2_sameMarks_49 : decode cX2_sameMarks 49 = .ok (.iinc 2 1, 3) := by decide +kernel
theorem dX2_sameMarks_52 : decode cX2_sameMarks 52 = .ok (.goto (-48), 3) := by decide +kernel
theorem dX2_sameMarks_55 : decode cX2_sameMarks 55 = .ok (.iload_n 1, 1) := by decide +kernel
theorem dX2_sameMarks_56 : decode cX2_sameMarks 56 = .ok (.ireturn, 1) := by decide +kernel
theorem dX2_refined_0 : decode cX2_refined 0 = .ok (.iconst 0, 1) := by decide +kernel
theorem dX2_refined_1 : decode cX2_refined 1 = .ok (.istore_n 2, 1) := by decide +kernel
theorem dX2_refined_2 : decode cX2_refined 2 = .ok (.iconst 0, 1) := by decide +kernel
theorem dX2_refined_3 : decode cX2_refined 3 = .ok (.istore_n 3, 1) := by decide +kernel
theorem dX2_refined_4 : decode cX2_refined 4 = .ok (.iload_n 3, 1) := by decide +kernel
theorem dX2_refined_5 : decode cX2_refined 5 = .ok (.aload_n 0, 1) := by decide +kernel
theorem dX2_refined_6 : decode cX2_refined 6 = .ok (.getfield 15, 3) := by decide +kernel
theorem dX2_refined_9 : decode cX2_refined 9 = .ok (.if_icmp .ge 84, 3) := by decide +kernel
theorem dX2_refined_12 : decode cX2_refined 12 = .ok (.iconst 0, 1) := by decide +kernel
theorem dX2_refined_13 : decode cX2_refined 13 = .ok (.istore 4, 2) := by decide +kernel
theorem dX2_refined_15 : decode cX2_refined 15 = .ok (.iload 4, 2) := by decide +kernel
theorem dX2_refined_17 : decode cX2_refined 17 = .ok (.aload_n 0, 1) := by decide +kernel
theorem dX2_refined_18 : decode cX2_refined 18 = .ok (.getfield 15, 3) := by decide +kernel
theorem dX2_refined_21 : decode cX2_refined 21 = .ok (.if_icmp .ge 66, 3) := by decide +kernel
theorem dX2_refined_24 : decode cX2_refined 24 = .ok (.aload_n 0, 1) := by decide +kernel
theorem dX2_refined_25 : decode cX2_refined 25 = .ok (.iload_n 1, 1) := by decide +kernel
theorem dX2_refined_26 : decode cX2_refined 26 = .ok (.iload_n 3, 1) := by decide +kernel
theorem dX2_refined_27 : decode cX2_refined 27 = .ok (.iload 4, 2) := by decide +kernel
theorem dX2_refined_29 : decode cX2_refined 29 = .ok (.invokevirtual 95, 3) := by decide +kernel
theorem dX2_refined_32 : decode cX2_refined 32 = .ok (.ifCond .eq 18, 3) := by decide +kernel
theorem dX2_refined_35 : decode cX2_refined 35 = .ok (.aload_n 0, 1) := by decide +kernel
theorem dX2_refined_36 : decode cX2_refined 36 = .ok (.iload_n 1, 1) := by decide +kernel
theorem dX2_refined_37 : decode cX2_refined 37 = .ok (.iload 4, 2) := by decide +kernel
theorem dX2_refined_39 : decode cX2_refined 39 = .ok (.iload_n 3, 1) := by decide +kernel
theorem dX2_refined_40 : decode cX2_refined 40 = .ok (.invokevirtual 95, 3) := by decide +kernel
theorem dX2_refined_43 : decode cX2_refined 43 = .ok (.ifCond .eq 7, 3) := by decide +kernel
theorem dX2_refined_46 : decode cX2_refined 46 = .ok (.iconst 1, 1) := by decide +kernel
theorem dX2_refined_47 : decode cX2_refined 47 = .ok (.goto 4, 3) := by decide +kernel
theorem dX2_refined_50 : decode cX2_refined 50 = .ok (.iconst 0, 1) := by decide +kernel
theorem dX2_refined_51 : decode cX2_refined 51 = .ok (.istore 5, 2) := by decide +kernel
theorem dX2_refined_53 : decode cX2_refined 53 = .ok (.iload 5, 2) := by decide +kernel
theorem dX2_refined_55 : decode cX2_refined 55 = .ok (.ifCond .eq 26, 3) := by decide +kernel
theorem dX2_refined_58 : decode cX2_refined 58 = .ok (.iload_n 1, 1) := by decide +kernel
theorem dX2_refined_59 : decode cX2_refined 59 = .ok (.iload_n 3, 1) := by decide +kernel
theorem dX2_refined_60 : decode cX2_refined 60 = .ok (.invokestatic 75, 3) := by decide +kernel
theorem dX2_refined_63 : decode cX2_refined 63 = .ok (.iload 4, 2) := by decide +kernel
theorem dX2_refined_65 : decode cX2_refined 65 = .ok (.invokestatic 44, 3) := by decide +kernel
theorem dX2_refined_68 : decode cX2_refined 68 = .ok (.iconst 1, 1) := by decide +kernel
theorem dX2_refined_69 : decode cX2_refined 69 = .ok (.if_icmp .ne 12, 3) := by decide +kernel
theorem dX2_refined_72 : decode cX2_refined 72 = .ok (.iload_n 2, 1) := by decide +kernel
theorem dX2_refined_73 : decode cX2_refined 73 = .ok (.iload_n 3, 1) := by decide +kernel
theorem dX2_refined_74 : decode cX2_refined 74 = .ok (.iload 4, 2) := by decide +kernel
theorem dX2_refined_76 : decode cX2_refined 76 = .ok (.invokestatic 31, 3) := by decide +kernel
theorem dX2_refined_79 : decode cX2_refined 79 = .ok (.ior, 1) := by decide +kernel
theorem dX2_refined_80 : decode cX2_refined 80 = .ok (.istore_n 2, 1) := by decide +kernel
theorem dX2_refined_81 : decode cX2_refined 81 = .ok (.iinc 4 1, 3) := by decide +kernel
theorem dX2_refined_84 : decode cX2_refined 84 = .ok (.goto (-69), 3) := by decide +kernel
theorem dX2_refined_87 : decode cX2_refined 87 = .ok (.iinc 3 1, 3) := by decide +kernel
theorem dX2_refined_90 : decode cX2_refined 90 = .ok (.goto (-86), 3) := by decide +kernel
theorem dX2_refined_93 : decode cX2_refined 93 = .ok (.iload_n 2, 1) := by decide +kernel
theorem dX2_refined_94 : decode cX2_refined 94 = .ok (.ireturn, 1) := by decide +kernel
theorem dX2_isMatched_0 : decode cX2_isMatched 0 = .ok (.iconst 0, 1) := by decide +kernel
theorem dX2_isMatched_1 : decode cX2_isMatched 1 = .ok (.istore 4, 2) := by decide +kernel
theorem dX2_isMatched_3 : decode cX2_isMatched 3 = .ok (.iload 4, 2) := by decide +kernel
theorem dX2_isMatched_5 : decode cX2_isMatched 5 = .ok (.aload_n 0, 1) := by decide +kernel
theorem dX2_isMatched_6 : decode cX2_isMatched 6 = .ok (.getfield 15, 3) := by decide +kernel
theorem dX2_isMatched_9 : decode cX2_isMatched 9 = .ok (.if_icmp .ge 36, 3) := by decide +kernel
theorem dX2_isMatched_12 : decode cX2_isMatched 12 = .ok (.aload_n 0, 1) := by decide +kernel
theorem dX2_isMatched_13 : decode cX2_isMatched 13 = .ok (.iload_n 2, 1) := by decide +kernel
theorem dX2_isMatched_14 : decode cX2_isMatched 14 = .ok (.iload 4, 2) := by decide +kernel
theorem dX2_isMatched_16 : decode cX2_isMatched 16 = .ok (.invokevirtual 55, 3) := by decide +kernel
theorem dX2_isMatched_19 : decode cX2_isMatched 19 = .ok (.ifCond .eq 20, 3) := by decide +kernel
theorem dX2_isMatched_22 : decode cX2_isMatched 22 = .ok (.aload_n 0, 1) := by decide +kernel
theorem dX2_isMatched_23 : decode cX2_isMatched 23 = .ok (.iload_n 3, 1) := by decide +kernel
theorem dX2_isMatched_24 : decode cX2_isMatched 24 = .ok (.invokevirtual 41, 3) := by decide +kernel
theorem dX2_isMatched_27 : decode cX2_isMatched 27 = .ok (.iload_n 1, 1) := by decide +kernel
theorem dX2_isMatched_28 : decode cX2_isMatched 28 = .ok (.iload 4, 2) := by decide +kernel
theorem dX2_isMatched_30 : decode cX2_isMatched 30 = .ok (.invokestatic 75, 3) := by decide +kernel
theorem dX2_isMatched_33 : decode cX2_isMatched 33 = .ok (.iand, 1) := by decide +kernel
theorem dX2_isMatched_34 : decode cX2_isMatched 34 = .ok (.ifCond .ne 5, 3) := by decide +kernel
theorem dX2_isMatched_37 : decode cX2_isMatched 37 = .ok (.iconst 0, 1) := by decide +kernel
theorem dX2_isMatched_38 : decode cX2_isMatched 38 = .ok (.ireturn, 1) := by decide +kernel
theorem dX2_isMatched_39 : decode cX2_isMatched 39 = .ok (.iinc 4 1, 3) := by decide +kernel
theorem dX2_isMatched_42 : decode cX2_isMatched 42 = .ok (.goto (-39), 3) := by decide +kernel
theorem dX2_isMatched_45 : decode cX2_isMatched 45 = .ok (.iconst 1, 1) := by decide +kernel
theorem dX2_isMatched_46 : decode cX2_isMatched 46 = .ok (.ireturn, 1) := by decide +kernel
theorem dX3_init_0 : decode cX3_init 0 = .ok (.aload_n 0, 1) := by decide +kernel
theorem dX3_init_1 : decode cX3_init 1 = .ok (.invokespecial 3, 3) := by decide +kernel
theorem dX3_init_4 : decode cX3_init 4 = .ok (.aload_n 0, 1) := by decide +kernel
theorem dX3_init_5 : decode cX3_init 5 = .ok (.new 9, 3) := by decide +kernel
theorem dX3_init_8 : decode cX3_init 8 = .ok (.dup, 1) := by decide +kernel
theorem dX3_init_9 : decode cX3_init 9 = .ok (.invokespecial 11, 3) := by decide +kernel
theorem dX3_init_12 : decode cX3_init 12 = .ok (.putfield 12, 3) := by decide +kernel
theorem dX3_init_15 : decode cX3_init 15 = .ok (.return_, 1) := by decide +kernel
theorem dX3_begin_0 : decode cX3_begin 0 = .ok (.aload_n 0, 1) := by decide +kernel
theorem dX3_begin_1 : decode cX3_begin 1 = .ok (.getfield 12, 3) := by decide +kernel
theorem dX3_begin_4 : decode cX3_begin 4 = .ok (.iconst 0, 1) := by decide +kernel
theorem dX3_begin_5 : decode cX3_begin 5 = .ok (.iconst 0, 1) := by decide +kernel
theorem dX3_begin_6 : decode cX3_begin 6 = .ok (.invokevirtual 18, 3) := by decide +kernel
theorem dX3_begin_9 : decode cX3_begin 9 = .ok (.aload_n 0, 1) := by decide +kernel
theorem dX3_begin_10 : decode cX3_begin 10 = .ok (.iconst 0, 1) := by decide +kernel
theorem dX3_begin_11 : decode cX3_begin 11 = .ok (.putfield 22, 3) := by decide +kernel
theorem dX3_begin_14 : decode cX3_begin 14 = .ok (.return_, 1) := by decide +kernel
theorem dX3_isComplete_0 : decode cX3_isComplete 0 = .ok (.aload_n 0, 1) := by decide +kernel
theorem dX3_isComplete_1 : decode cX3_isComplete 1 = .ok (.getfield 22, 3) := by decide +kernel
theorem dX3_isComplete_4 : decode cX3_isComplete 4 = .ok (.bipush 9, 2) := by decide +kernel
theorem dX3_isComplete_6 : decode cX3_isComplete 6 = .ok (.if_icmp .ne 7, 3) := by decide +kernel
theorem dX3_isComplete_9 : decode cX3_isComplete 9 = .ok (.iconst 1, 1) := by decide +kernel
theorem dX3_isComplete_10 : decode cX3_isComplete 10 = .ok (.goto 4, 3) := by decide +kernel
theorem dX3_isComplete_13 : decode cX3_isComplete 13 = .ok (.iconst 0, 1) := by decide +kernel
theorem dX3_isComplete_14 : decode cX3_isComplete 14 = .ok (.ireturn, 1) := by decide +kernel
theorem dX3_reads_0 : decode cX3_reads 0 = .ok (.aload_n 0, 1) := by decide +kernel
theorem dX3_reads_1 : decode cX3_reads 1 = .ok (.getfield 22, 3) := by decide +kernel
theorem dX3_reads_4 : decode cX3_reads 4 = .ok (.tableswitch 177 0 8 #[52, 58, 64, 73, 99, 105, 111, 140, 150], 52) := by decide +kernel
theorem dX3_reads_56 : decode cX3_reads 56 = .ok (.aload_n 0, 1) := by decide +kernel
theorem dX3_reads_57 : decode cX3_reads 57 = .ok (.iload_n 1, 1) := by decide +kernel
theorem dX3_reads_58 : decode cX3_reads 58 = .ok (.invokevirtual 26, 3) := by decide +kernel
theorem dX3_reads_61 : decode cX3_reads 61 = .ok (.ireturn, 1) := by decide +kernel
theorem dX3_reads_62 : decode cX3_reads 62 = .ok (.aload_n 0, 1) := by decide +kernel
theorem dX3_reads_63 : decode cX3_reads 63 = .ok (.iload_n 1, 1) := by decide +kernel
theorem dX3_reads_64 : decode cX3_reads 64 = .ok (.invokevirtual 30, 3) := by decide +kernel
theorem dX3_reads_67 : decode cX3_reads 67 = .ok (.ireturn, 1) := by decide +kernel
theorem dX3_reads_68 : decode cX3_reads 68 = .ok (.aload_n 0, 1) := by decide +kernel
theorem dX3_reads_69 : decode cX3_reads 69 = .ok (.iload_n 1, 1) := by decide +kernel
theorem dX3_reads_70 : decode cX3_reads 70 = .ok (.bipush 58, 2) := by decide +kernel
theorem dX3_reads_72 : decode cX3_reads 72 = .ok (.iconst 3, 1) := by decide +kernel
theorem dX3_reads_73 : decode cX3_reads 73 = .ok (.invokevirtual 33, 3) := by decide +kernel
theorem dX3_reads_76 : decode cX3_reads 76 = .ok (.ireturn, 1) := by decide +kernel
theorem dX3_reads_77 : decode cX3_reads 77 = .ok (.aload_n 0, 1) := by decide +kernel
theorem dX3_reads_78 : decode cX3_reads 78 = .ok (.iload_n 1, 1) := by decide +kernel
theorem dX3_reads_79 : decode cX3_reads 79 = .ok (.invokevirtual 37, 3) := by decide +kernel
theorem dX3_reads_82 : decode cX3_reads 82 = .ok (.ifCond .ne 15, 3) := by decide +kernel
theorem dX3_reads_85 : decode cX3_reads 85 = .ok (.aload_n 0, 1) := by decide +kernel
theorem dX3_reads_86 : decode cX3_reads 86 = .ok (.iload_n 1, 1) := by decide +kernel
theorem dX3_reads_87 : decode cX3_reads 87 = .ok (.bipush 59, 2) := by decide +kernel
theorem dX3_reads_89 : decode cX3_reads 89 = .ok (.bipush 7, 2) := by decide +kernel
theorem dX3_reads_91 : decode cX3_reads 91 = .ok (.invokevirtual 33, 3) := by decide +kernel
theorem dX3_reads_94 : decode cX3_reads 94 = .ok (.ifCond .eq 7, 3) := by decide +kernel
theorem dX3_reads_97 : decode cX3_reads 97 = .ok (.iconst 1, 1) := by decide +kernel
theorem dX3_reads_98 : decode cX3_reads 98 = .ok (.goto 4, 3) := by decide +kernel
theorem dX3_reads_101 : decode cX3_reads 101 = .ok (.iconst 0, 1) := by decide +kernel
theorem dX3_reads_102 : decode cX3_reads 102 = .ok (.ireturn, 1) := by decide +kernel
theorem dX3_reads_103 : decode cX3_reads 103 = .ok (.aload_n 0, 1) := by decide +kernel
theorem dX3_reads_104 : decode cX3_reads 104 = .ok (.iload_n 1, 1) := by decide +kernel
theorem dX3_reads_105 : decode cX3_reads 105 = .ok (.invokevirtual 37, 3) := by decide +kernel
theorem dX3_reads_108 : decode cX3_reads 108 = .ok (.ireturn, 1) := by decide +kernel
theorem dX3_reads_109 : decode cX3_reads 109 = .ok (.aload_n 0, 1) := by decide +kernel
theorem dX3_reads_110 : decode cX3_reads 110 = .ok (.iload_n 1, 1) := by decide +kernel
theorem dX3_reads_111 : decode cX3_reads 111 = .ok (.invokevirtual 40, 3) := by decide +kernel
theorem dX3_reads_114 : decode cX3_reads 114 = .ok (.ireturn, 1) := by decide +kernel
theorem dX3_reads_115 : decode cX3_reads 115 = .ok (.aload_n 0, 1) := by decide +kernel
theorem dX3_reads_116 : decode cX3_reads 116 = .ok (.iload_n 1, 1) := by decide +kernel
theorem dX3_reads_117 : decode cX3_reads 117 = .ok (.bipush 44, 2) := by decide +kernel
theorem dX3_reads_119 : decode cX3_reads 119 = .ok (.iconst 4, 1) := by decide +kernel
theorem dX3_reads_120 : decode cX3_reads 120 = .ok (.invokevirtual 33, 3) := by decide +kernel
theorem dX3_reads_123 : decode cX3_reads 123 = .ok (.ifCond .ne 15, 3) := by decide +kernel
theorem dX3_reads_126 : decode cX3_reads 126 = .ok (.aload_n 0, 1) := by decide +kernel
theorem dX3_reads_127 : decode cX3_reads 127 = .ok (.iload_n 1, 1) := by decide +kernel
theorem dX3_reads_128 : decode cX3_reads 128 = .ok (.bipush 59, 2) := by decide +kernel
theorem dX3_reads_130 : decode cX3_reads 130 = .ok (.bipush 7, 2) := by decide +kernel
theorem dX3_reads_132 : decode cX3_reads 132 = .ok (.invokevirtual 33, 3) := by decide +kernel
theorem dX3_reads_135 : decode cX3_reads 135 = .ok (.ifCond .eq 7, 3) := by decide +kernel
theorem dX3_reads_138 : decode cX3_reads 138 = .ok (.iconst 1, 1) := by decide +kernel
theorem dX3_reads_139 : decode cX3_reads 139 = .ok (.goto 4, 3) := by decide +kernel
theorem dX3_reads_142 : decode cX3_reads 142 = .ok (.iconst 0, 1) := by decide +kernel
theorem dX3_reads_143 : decode cX3_reads 143 = .ok (.ireturn, 1) := by decide +kernel
theorem dX3_reads_144 : decode cX3_reads 144 = .ok (.aload_n 0, 1) := by decide +kernel
theorem dX3_reads_145 : decode cX3_reads 145 = .ok (.iload_n 1, 1) := by decide +kernel
theorem dX3_reads_146 : decode cX3_reads 146 = .ok (.bipush 112, 2) := by decide +kernel
theorem dX3_reads_148 : decode cX3_reads 148 = .ok (.bipush 8, 2) := by decide +kernel
theorem dX3_reads_150 : decode cX3_reads 150 = .ok (.invokevirtual 33, 3) := by decide +kernel
theorem dX3_reads_153 : decode cX3_reads 153 = .ok (.ireturn, 1) := by decide +kernel
theorem dX3_reads_154 : decode cX3_reads 154 = .ok (.aload_n 0, 1) := by decide +kernel
theorem dX3_reads_155 : decode cX3_reads 155 = .ok (.iload_n 1, 1) := by decide +kernel
theorem dX3_reads_156 : decode cX3_reads 156 = .ok (.iconst 1, 1) := by decide +kernel
theorem dX3_reads_157 : decode cX3_reads 157 = .ok (.invokevirtual 43, 3) := by decide +kernel
theorem dX3_reads_160 : decode cX3_reads 160 = .ok (.ifCond .ne 15, 3) := by decide +kernel
theorem dX3_reads_163 : decode cX3_reads 163 = .ok (.aload_n 0, 1) := by decide +kernel
theorem dX3_reads_164 : decode cX3_reads 164 = .ok (.iload_n 1, 1) := by decide +kernel
theorem dX3_reads_165 : decode cX3_reads 165 = .ok (.bipush 113, 2) := by decide +kernel
theorem dX3_reads_167 : decode cX3_reads 167 = .ok (.bipush 9, 2) := by decide +kernel
theorem dX3_reads_169 : decode cX3_reads 169 = .ok (.invokevirtual 33, 3) := by decide +kernel
theorem dX3_reads_172 : decode cX3_reads 172 = .ok (.ifCond .eq 7, 3) := by decide +kernel
theorem dX3_reads_175 : decode cX3_reads 175 = .ok (.iconst 1, 1) := by decide +kernel
theorem dX3_reads_176 : decode cX3_reads 176 = .ok (.goto 4, 3) := by decide +kernel
theorem dX3_reads_179 : decode cX3_reads 179 = .ok (.iconst 0, 1) := by decide +kernel
theorem dX3_reads_180 : decode cX3_reads 180 = .ok (.ireturn, 1) := by decide +kernel
theorem dX3_reads_181 : decode cX3_reads 181 = .ok (.aload_n 0, 1) := by decide +kernel
theorem dX3_reads_182 : decode cX3_reads 182 = .ok (.iload_n 1, 1) := by decide +kernel
theorem dX3_reads_183 : decode cX3_reads 183 = .ok (.iconst 2, 1) := by decide +kernel
theorem dX3_reads_184 : decode cX3_reads 184 = .ok (.invokevirtual 43, 3) := by decide +kernel
theorem dX3_reads_187 : decode cX3_reads 187 = .ok (.ireturn, 1) := by decide +kernel
theorem dX3_readsKind_0 : decode cX3_readsKind 0 = .ok (.iload_n 1, 1) := by decide +kernel
theorem dX3_readsKind_1 : decode cX3_readsKind 1 = .ok (.invokestatic 47, 3) := by decide +kernel
theorem dX3_readsKind_4 : decode cX3_readsKind 4 = .ok (.istore_n 2, 1) := by decide +kernel
theorem dX3_readsKind_5 : decode cX3_readsKind 5 = .ok (.iload_n 2, 1) := by decide +kernel
theorem dX3_readsKind_6 : decode cX3_readsKind 6 = .ok (.iconst (-1), 1) := by decide +kernel
theorem dX3_readsKind_7 : decode cX3_readsKind 7 = .ok (.if_icmp .ne 5, 3) := by decide +kernel
theorem dX3_readsKind_10 : decode cX3_readsKind 10 = .ok (.iconst 0, 1) := by decide +kernel
theorem dX3_readsKind_11 : decode cX3_readsKind 11 = .ok (.ireturn, 1) := by decide +kernel
theorem dX3_readsKind_12 : decode cX3_readsKind 12 = .ok (.aload_n 0, 1) := by decide +kernel
theorem dX3_readsKind_13 : decode cX3_readsKind 13 = .ok (.getfield 12, 3) := by decide +kernel
theorem dX3_readsKind_16 : decode cX3_readsKind 16 = .ok (.iload_n 2, 1) := by decide +kernel
theorem dX3_readsKind_17 : decode cX3_readsKind 17 = .ok (.putfield 51, 3) := by decide +kernel
theorem dX3_readsKind_20 : decode cX3_readsKind 20 = .ok (.aload_n 0, 1) := by decide +kernel
theorem dX3_readsKind_21 : decode cX3_readsKind 21 = .ok (.iconst 1, 1) := by decide +kernel
theorem dX3_readsKind_22 : decode cX3_readsKind 22 = .ok (.putfield 22, 3) := by decide +kernel
theorem dX3_readsKind_25 : decode cX3_readsKind 25 = .ok (.iconst 1, 1) := by decide +kernel
theorem dX3_readsKind_26 : decode cX3_readsKind 26 = .ok (.ireturn, 1) := by decide +kernel
theorem dX3_kindOf_0 : decode cX3_kindOf 0 = .ok (.iload_n 0, 1) := by decide +kernel
theorem dX3_kindOf_1 : decode cX3_kindOf 1 = .ok (.lookupswitch 61 #[(100, 59), (107, 51), (115, 55), (116, 53), (121, 57)], 51) := by decide +kernel
theorem dX3_kindOf_52 : decode cX3_kindOf 52 = .ok (.iconst 0, 1) := by decide +kernel
theorem dX3_kindOf_53 : decode cX3_kindOf 53 = .ok (.ireturn, 1) := by decide +kernel
theorem dX3_kindOf_54 : decode cX3_kindOf 54 = .ok (.iconst 1, 1) := by decide +kernel
theorem dX3_kindOf_55 : decode cX3_kindOf 55 = .ok (.ireturn, 1) := by decide +kernel
theorem dX3_kindOf_56 : decode cX3_kindOf 56 = .ok (.iconst 2, 1) := by decide +kernel
theorem dX3_kindOf_57 : decode cX3_kindOf 57 = .ok (.ireturn, 1) := by decide +kernel
theorem dX3_kindOf_58 : decode cX3_kindOf 58 = .ok (.iconst 3, 1) := by decide +kernel
theorem dX3_kindOf_59 : decode cX3_kindOf 59 = .ok (.ireturn, 1) := by decide +kernel
theorem dX3_kindOf_60 : decode cX3_kindOf 60 = .ok (.iconst 4, 1) := by decide +kernel
theorem dX3_kindOf_61 : decode cX3_kindOf 61 = .ok (.ireturn, 1) := by decide +kernel
theorem dX3_kindOf_62 : decode cX3_kindOf 62 = .ok (.iconst (-1), 1) := by decide +kernel
theorem dX3_kindOf_63 : decode cX3_kindOf 63 = .ok (.ireturn, 1) := by decide +kernel
theorem dX3_readsSize_0 : decode cX3_readsSize 0 = .ok (.iload_n 1, 1) := by decide +kernel
theorem dX3_readsSize_1 : decode cX3_readsSize 1 = .ok (.bipush 48, 2) := by decide +kernel
theorem dX3_readsSize_3 : decode cX3_readsSize 3 = .ok (.isub, 1) := by decide +kernel
theorem dX3_readsSize_4 : decode cX3_readsSize 4 = .ok (.istore_n 2, 1) := by decide +kernel
theorem dX3_readsSize_5 : decode cX3_readsSize 5 = .ok (.iload_n 2, 1) := by decide +kernel
theorem dX3_readsSize_6 : decode cX3_readsSize 6 = .ok (.iconst 1, 1) := by decide +kernel
theorem dX3_readsSize_7 : decode cX3_readsSize 7 = .ok (.if_icmp .lt 8, 3) := by decide +kernel
theorem dX3_readsSize_10 : decode cX3_readsSize 10 = .ok (.iload_n 2, 1) := by decide +kernel
theorem dX3_readsSize_11 : decode cX3_readsSize 11 = .ok (.iconst 4, 1) := by decide +kernel
theorem dX3_readsSize_12 : decode cX3_readsSize 12 = .ok (.if_icmp .le 5, 3) := by decide +kernel
theorem dX3_readsSize_15 : decode cX3_readsSize 15 = .ok (.iconst 0, 1) := by decide +kernel
theorem dX3_readsSize_16 : decode cX3_readsSize 16 = .ok (.ireturn, 1) := by decide +kernel
theorem dX3_readsSize_17 : decode cX3_readsSize 17 = .ok (.aload_n 0, 1) := by decide +kernel
theorem dX3_readsSize_18 : decode cX3_readsSize 18 = .ok (.getfield 12, 3) := by decide +kernel
theorem dX3_readsSize_21 : decode cX3_readsSize 21 = .ok (.iload_n 2, 1) := by decide +kernel
theorem dX3_readsSize_22 : decode cX3_readsSize 22 = .ok (.putfield 54, 3) := by decide +kernel
theorem dX3_readsSize_25 : decode cX3_readsSize 25 = .ok (.aload_n 0, 1) := by decide +kernel
theorem dX3_readsSize_26 : decode cX3_readsSize 26 = .ok (.iconst 2, 1) := by decide +kernel
theorem dX3_readsSize_27 : decode cX3_readsSize 27 = .ok (.putfield 22, 3) := by decide +kernel
theorem dX3_readsSize_30 : decode cX3_readsSize 30 = .ok (.iconst 1, 1) := by decide +kernel
theorem dX3_readsSize_31 : decode cX3_readsSize 31 = .ok (.ireturn, 1) := by decide +kernel
theorem dX3_readsSign_0 : decode cX3_readsSign 0 = .ok (.iload_n 1, 1) := by decide +kernel
theorem dX3_readsSign_1 : decode cX3_readsSign 1 = .ok (.iload_n 2, 1) := by decide +kernel
theorem dX3_readsSign_2 : decode cX3_readsSign 2 = .ok (.if_icmp .eq 5, 3) := by decide +kernel
theorem dX3_readsSign_5 : decode cX3_readsSign 5 = .ok (.iconst 0, 1) := by decide +kernel
theorem dX3_readsSign_6 : decode cX3_readsSign 6 = .ok (.ireturn, 1) := by decide +kernel
theorem dX3_readsSign_7 : decode cX3_readsSign 7 = .ok (.aload_n 0, 1) := by decide +kernel
theorem dX3_readsSign_8 : decode cX3_readsSign 8 = .ok (.iconst 0, 1) := by decide +kernel
theorem dX3_readsSign_9 : decode cX3_readsSign 9 = .ok (.putfield 57, 3) := by decide +kernel
theorem dX3_readsSign_12 : decode cX3_readsSign 12 = .ok (.aload_n 0, 1) := by decide +kernel
theorem dX3_readsSign_13 : decode cX3_readsSign 13 = .ok (.iload_n 3, 1) := by decide +kernel
theorem dX3_readsSign_14 : decode cX3_readsSign 14 = .ok (.putfield 22, 3) := by decide +kernel
theorem dX3_readsSign_17 : decode cX3_readsSign 17 = .ok (.iconst 1, 1) := by decide +kernel
theorem dX3_readsSign_18 : decode cX3_readsSign 18 = .ok (.ireturn, 1) := by decide +kernel
theorem dX3_readsFrom_0 : decode cX3_readsFrom 0 = .ok (.iload_n 1, 1) := by decide +kernel
theorem dX3_readsFrom_1 : decode cX3_readsFrom 1 = .ok (.bipush 48, 2) := by decide +kernel
theorem dX3_readsFrom_3 : decode cX3_readsFrom 3 = .ok (.isub, 1) := by decide +kernel
theorem dX3_readsFrom_4 : decode cX3_readsFrom 4 = .ok (.istore_n 2, 1) := by decide +kernel
theorem dX3_readsFrom_5 : decode cX3_readsFrom 5 = .ok (.iload_n 2, 1) := by decide +kernel
theorem dX3_readsFrom_6 : decode cX3_readsFrom 6 = .ok (.aload_n 0, 1) := by decide +kernel
theorem dX3_readsFrom_7 : decode cX3_readsFrom 7 = .ok (.getfield 12, 3) := by decide +kernel
theorem dX3_readsFrom_10 : decode cX3_readsFrom 10 = .ok (.getfield 54, 3) := by decide +kernel
theorem dX3_readsFrom_13 : decode cX3_readsFrom 13 = .ok (.invokestatic 60, 3) := by decide +kernel
theorem dX3_readsFrom_16 : decode cX3_readsFrom 16 = .ok (.ifCond .ne 5, 3) := by decide +kernel
theorem dX3_readsFrom_19 : decode cX3_readsFrom 19 = .ok (.iconst 0, 1) := by decide +kernel
theorem dX3_readsFrom_20 : decode cX3_readsFrom 20 = .ok (.ireturn, 1) := by decide +kernel
theorem dX3_readsFrom_21 : decode cX3_readsFrom 21 = .ok (.aload_n 0, 1) := by decide +kernel
theorem dX3_readsFrom_22 : decode cX3_readsFrom 22 = .ok (.iload_n 2, 1) := by decide +kernel
theorem dX3_readsFrom_23 : decode cX3_readsFrom 23 = .ok (.putfield 63, 3) := by decide +kernel
theorem dX3_readsFrom_26 : decode cX3_readsFrom 26 = .ok (.aload_n 0, 1) := by decide +kernel
theorem dX3_readsFrom_27 : decode cX3_readsFrom 27 = .ok (.iconst 5, 1) := by decide +kernel
theorem dX3_readsFrom_28 : decode cX3_readsFrom 28 = .ok (.putfield 22, 3) := by decide +kernel
theorem dX3_readsFrom_31 : decode cX3_readsFrom 31 = .ok (.iconst 1, 1) := by decide +kernel
theorem dX3_readsFrom_32 : decode cX3_readsFrom 32 = .ok (.ireturn, 1) := by decide +kernel
theorem dX3_readsTo_0 : decode cX3_readsTo 0 = .ok (.iload_n 1, 1) := by decide +kernel
theorem dX3_readsTo_1 : decode cX3_readsTo 1 = .ok (.bipush 48, 2) := by decide +kernel
theorem dX3_readsTo_3 : decode cX3_readsTo 3 = .ok (.isub, 1) := by decide +kernel
theorem dX3_readsTo_4 : decode cX3_readsTo 4 = .ok (.istore_n 2, 1) := by decide +kernel
theorem dX3_readsTo_5 : decode cX3_readsTo 5 = .ok (.iload_n 2, 1) := by decide +kernel
theorem dX3_readsTo_6 : decode cX3_readsTo 6 = .ok (.aload_n 0, 1) := by decide +kernel
theorem dX3_readsTo_7 : decode cX3_readsTo 7 = .ok (.getfield 12, 3) := by decide +kernel
theorem dX3_readsTo_10 : decode cX3_readsTo 10 = .ok (.getfield 54, 3) := by decide +kernel
theorem dX3_readsTo_13 : decode cX3_readsTo 13 = .ok (.invokestatic 60, 3) := by decide +kernel
theorem dX3_readsTo_16 : decode cX3_readsTo 16 = .ok (.ifCond .eq 18, 3) := by decide +kernel
theorem dX3_readsTo_19 : decode cX3_readsTo 19 = .ok (.aload_n 0, 1) := by decide +kernel
theorem dX3_readsTo_20 : decode cX3_readsTo 20 = .ok (.getfield 12, 3) := by decide +kernel
theorem dX3_readsTo_23 : decode cX3_readsTo 23 = .ok (.aload_n 0, 1) := by decide +kernel
theorem dX3_readsTo_24 : decode cX3_readsTo 24 = .ok (.getfield 63, 3) := by decide +kernel
theorem dX3_readsTo_27 : decode cX3_readsTo 27 = .ok (.iload_n 2, 1) := by decide +kernel
theorem dX3_readsTo_28 : decode cX3_readsTo 28 = .ok (.invokevirtual 66, 3) := by decide +kernel
theorem dX3_readsTo_31 : decode cX3_readsTo 31 = .ok (.ifCond .eq 5, 3) := by decide +kernel
theorem dX3_readsTo_34 : decode cX3_readsTo 34 = .ok (.iconst 0, 1) := by decide +kernel
theorem dX3_readsTo_35 : decode cX3_readsTo 35 = .ok (.ireturn, 1) := by decide +kernel
theorem dX3_readsTo_36 : decode cX3_readsTo 36 = .ok (.aload_n 0, 1) := by decide +kernel
theorem dX3_readsTo_37 : decode cX3_readsTo 37 = .ok (.getfield 12, 3) := by decide +kernel
theorem dX3_readsTo_40 : decode cX3_readsTo 40 = .ok (.aload_n 0, 1) := by decide +kernel
theorem dX3_readsTo_41 : decode cX3_readsTo 41 = .ok (.getfield 63, 3) := by decide +kernel
theorem dX3_readsTo_44 : decode cX3_readsTo 44 = .ok (.iload_n 2, 1) := by decide +kernel
theorem dX3_readsTo_45 : decode cX3_readsTo 45 = .ok (.invokevirtual 69, 3) := by decide +kernel
theorem dX3_readsTo_48 : decode cX3_readsTo 48 = .ok (.aload_n 0, 1) := by decide +kernel
theorem dX3_readsTo_49 : decode cX3_readsTo 49 = .ok (.bipush 6, 2) := by decide +kernel
theorem dX3_readsTo_51 : decode cX3_readsTo 51 = .ok (.putfield 22, 3) := by decide +kernel
theorem dX3_readsTo_54 : decode cX3_readsTo 54 = .ok (.iconst 1, 1) := by decide +kernel
theorem dX3_readsTo_55 : decode cX3_readsTo 55 = .ok (.ireturn, 1) := by decide +kernel
theorem dX3_readsMarked_0 : decode cX3_readsMarked 0 = .ok (.iload_n 1, 1) := by decide +kernel
theorem dX3_readsMarked_1 : decode cX3_readsMarked 1 = .ok (.bipush 48, 2) := by decide +kernel
theorem dX3_readsMarked_3 : decode cX3_readsMarked 3 = .ok (.isub, 1) := by decide +kernel
theorem dX3_readsMarked_4 : decode cX3_readsMarked 4 = .ok (.istore_n 3, 1) := by decide +kernel
theorem dX3_readsMarked_5 : decode cX3_readsMarked 5 = .ok (.iload_n 3, 1) := by decide +kernel
theorem dX3_readsMarked_6 : decode cX3_readsMarked 6 = .ok (.aload_n 0, 1) := by decide +kernel
theorem dX3_readsMarked_7 : decode cX3_readsMarked 7 = .ok (.getfield 57, 3) := by decide +kernel
theorem dX3_readsMarked_10 : decode cX3_readsMarked 10 = .ok (.if_icmp .lt 14, 3) := by decide +kernel
theorem dX3_readsMarked_13 : decode cX3_readsMarked 13 = .ok (.iload_n 3, 1) := by decide +kernel
theorem dX3_readsMarked_14 : decode cX3_readsMarked 14 = .ok (.aload_n 0, 1) := by decide +kernel
theorem dX3_readsMarked_15 : decode cX3_readsMarked 15 = .ok (.getfield 12, 3) := by decide +kernel
theorem dX3_readsMarked_18 : decode cX3_readsMarked 18 = .ok (.getfield 54, 3) := by decide +kernel
theorem dX3_readsMarked_21 : decode cX3_readsMarked 21 = .ok (.if_icmp .lt 5, 3) := by decide +kernel
theorem dX3_readsMarked_24 : decode cX3_readsMarked 24 = .ok (.iconst 0, 1) := by decide +kernel
theorem dX3_readsMarked_25 : decode cX3_readsMarked 25 = .ok (.ireturn, 1) := by decide +kernel
theorem dX3_readsMarked_26 : decode cX3_readsMarked 26 = .ok (.aload_n 0, 1) := by decide +kernel
theorem dX3_readsMarked_27 : decode cX3_readsMarked 27 = .ok (.getfield 12, 3) := by decide +kernel
theorem dX3_readsMarked_30 : decode cX3_readsMarked 30 = .ok (.iload_n 3, 1) := by decide +kernel
theorem dX3_readsMarked_31 : decode cX3_readsMarked 31 = .ok (.aload_n 0, 1) := by decide +kernel
theorem dX3_readsMarked_32 : decode cX3_readsMarked 32 = .ok (.getfield 12, 3) := by decide +kernel
theorem dX3_readsMarked_35 : decode cX3_readsMarked 35 = .ok (.iload_n 3, 1) := by decide +kernel
theorem dX3_readsMarked_36 : decode cX3_readsMarked 36 = .ok (.invokevirtual 72, 3) := by decide +kernel
theorem dX3_readsMarked_39 : decode cX3_readsMarked 39 = .ok (.iload_n 2, 1) := by decide +kernel
theorem dX3_readsMarked_40 : decode cX3_readsMarked 40 = .ok (.ior, 1) := by decide +kernel
theorem dX3_readsMarked_41 : decode cX3_readsMarked 41 = .ok (.invokevirtual 75, 3) := by decide +kernel
theorem dX3_readsMarked_44 : decode cX3_readsMarked 44 = .ok (.aload_n 0, 1) := by decide +kernel
theorem dX3_readsMarked_45 : decode cX3_readsMarked 45 = .ok (.iload_n 3, 1) := by decide +kernel
theorem dX3_readsMarked_46 : decode cX3_readsMarked 46 = .ok (.iconst 1, 1) := by decide +kernel
theorem dX3_readsMarked_47 : decode cX3_readsMarked 47 = .ok (.iadd, 1) := by decide +kernel
theorem dX3_readsMarked_48 : decode cX3_readsMarked 48 = .ok (.putfield 57, 3) := by decide +kernel
theorem dX3_readsMarked_51 : decode cX3_readsMarked 51 = .ok (.iconst 1, 1) := by decide +kernel
theorem dX3_readsMarked_52 : decode cX3_readsMarked 52 = .ok (.ireturn, 1) := by decide +kernel
theorem dX4_init_0 : decode cX4_init 0 = .ok (.aload_n 0, 1) := by decide +kernel
theorem dX4_init_1 : decode cX4_init 1 = .ok (.invokespecial 3, 3) := by decide +kernel
theorem dX4_init_4 : decode cX4_init 4 = .ok (.aload_n 0, 1) := by decide +kernel
theorem dX4_init_5 : decode cX4_init 5 = .ok (.bipush 31, 2) := by decide +kernel
theorem dX4_init_7 : decode cX4_init 7 = .ok (.putfield 11, 3) := by decide +kernel
theorem dX4_init_10 : decode cX4_init 10 = .ok (.return_, 1) := by decide +kernel
theorem dX4_clear_0 : decode cX4_clear 0 = .ok (.aload_n 0, 1) := by decide +kernel
theorem dX4_clear_1 : decode cX4_clear 1 = .ok (.iconst 0, 1) := by decide +kernel
theorem dX4_clear_2 : decode cX4_clear 2 = .ok (.putfield 15, 3) := by decide +kernel
theorem dX4_clear_5 : decode cX4_clear 5 = .ok (.aload_n 0, 1) := by decide +kernel
theorem dX4_clear_6 : decode cX4_clear 6 = .ok (.bipush 31, 2) := by decide +kernel
theorem dX4_clear_8 : decode cX4_clear 8 = .ok (.putfield 11, 3) := by decide +kernel
theorem dX4_clear_11 : decode cX4_clear 11 = .ok (.return_, 1) := by decide +kernel
theorem dX4_copy_0 : decode cX4_copy 0 = .ok (.aload_n 0, 1) := by decide +kernel
theorem dX4_copy_1 : decode cX4_copy 1 = .ok (.aload_n 1, 1) := by decide +kernel
theorem dX4_copy_2 : decode cX4_copy 2 = .ok (.getfield 15, 3) := by decide +kernel
theorem dX4_copy_5 : decode cX4_copy 5 = .ok (.putfield 15, 3) := by decide +kernel
theorem dX4_copy_8 : decode cX4_copy 8 = .ok (.aload_n 0, 1) := by decide +kernel
theorem dX4_copy_9 : decode cX4_copy 9 = .ok (.aload_n 1, 1) := by decide +kernel
theorem dX4_copy_10 : decode cX4_copy 10 = .ok (.getfield 11, 3) := by decide +kernel
theorem dX4_copy_13 : decode cX4_copy 13 = .ok (.putfield 11, 3) := by decide +kernel
theorem dX4_copy_16 : decode cX4_copy 16 = .ok (.return_, 1) := by decide +kernel
theorem dX4_note_0 : decode cX4_note 0 = .ok (.aload_n 0, 1) := by decide +kernel
theorem dX4_note_1 : decode cX4_note 1 = .ok (.dup, 1) := by decide +kernel
theorem dX4_note_2 : decode cX4_note 2 = .ok (.getfield 15, 3) := by decide +kernel
theorem dX4_note_5 : decode cX4_note 5 = .ok (.iconst 1, 1) := by decide +kernel
theorem dX4_note_6 : decode cX4_note 6 = .ok (.iadd, 1) := by decide +kernel
theorem dX4_note_7 : decode cX4_note 7 = .ok (.putfield 15, 3) := by decide +kernel
theorem dX4_note_10 : decode cX4_note 10 = .ok (.aload_n 0, 1) := by decide +kernel
theorem dX4_note_11 : decode cX4_note 11 = .ok (.dup, 1) := by decide +kernel
theorem dX4_note_12 : decode cX4_note 12 = .ok (.getfield 11, 3) := by decide +kernel
theorem dX4_note_15 : decode cX4_note 15 = .ok (.iload_n 2, 1) := by decide +kernel
theorem dX4_note_16 : decode cX4_note 16 = .ok (.ifCond .eq 10, 3) := by decide +kernel
theorem dX4_note_19 : decode cX4_note 19 = .ok (.iload_n 1, 1) := by decide +kernel
theorem dX4_note_20 : decode cX4_note 20 = .ok (.invokestatic 18, 3) := by decide +kernel
theorem dX4_note_23 : decode cX4_note 23 = .ok (.goto 9, 3) := by decide +kernel
theorem dX4_note_26 : decode cX4_note 26 = .ok (.iload_n 1, 1) := by decide +kernel
theorem dX4_note_27 : decode cX4_note 27 = .ok (.invokestatic 18, 3) := by decide +kernel
theorem dX4_note_30 : decode cX4_note 30 = .ok (.iconst (-1), 1) := by decide +kernel
theorem dX4_note_31 : decode cX4_note 31 = .ok (.ixor, 1) := by decide +kernel
theorem dX4_note_32 : decode cX4_note 32 = .ok (.iand, 1) := by decide +kernel
theorem dX4_note_33 : decode cX4_note 33 = .ok (.putfield 11, 3) := by decide +kernel
theorem dX4_note_36 : decode cX4_note 36 = .ok (.return_, 1) := by decide +kernel
theorem dX4_kindsWith_0 : decode cX4_kindsWith 0 = .ok (.iload_n 0, 1) := by decide +kernel
theorem dX4_kindsWith_1 : decode cX4_kindsWith 1 = .ok (.getstatic 22, 3) := by decide +kernel
theorem dX4_kindsWith_4 : decode cX4_kindsWith 4 = .ok (.arraylength, 1) := by decide +kernel
theorem dX4_kindsWith_5 : decode cX4_kindsWith 5 = .ok (.invokestatic 26, 3) := by decide +kernel
theorem dX4_kindsWith_8 : decode cX4_kindsWith 8 = .ok (.ifCond .eq 11, 3) := by decide +kernel
theorem dX4_kindsWith_11 : decode cX4_kindsWith 11 = .ok (.getstatic 22, 3) := by decide +kernel
theorem dX4_kindsWith_14 : decode cX4_kindsWith 14 = .ok (.iload_n 0, 1) := by decide +kernel
theorem dX4_kindsWith_15 : decode cX4_kindsWith 15 = .ok (.iaload, 1) := by decide +kernel
theorem dX4_kindsWith_16 : decode cX4_kindsWith 16 = .ok (.goto 4, 3) := by decide +kernel
theorem dX4_kindsWith_19 : decode cX4_kindsWith 19 = .ok (.iconst 0, 1) := by decide +kernel
theorem dX4_kindsWith_20 : decode cX4_kindsWith 20 = .ok (.ireturn, 1) := by decide +kernel
theorem dX4_bestQuestion_0 : decode cX4_bestQuestion 0 = .ok (.iconst (-1), 1) := by decide +kernel
theorem dX4_bestQuestion_1 : decode cX4_bestQuestion 1 = .ok (.istore_n 1, 1) := by decide +kernel
theorem dX4_bestQuestion_2 : decode cX4_bestQuestion 2 = .ok (.aload_n 0, 1) := by decide +kernel
theorem dX4_bestQuestion_3 : decode cX4_bestQuestion 3 = .ok (.getfield 11, 3) := by decide +kernel
theorem dX4_bestQuestion_6 : decode cX4_bestQuestion 6 = .ok (.ifCond .ne 7, 3) := by decide +kernel
theorem dX4_bestQuestion_9 : decode cX4_bestQuestion 9 = .ok (.iconst 0, 1) := by decide +kernel
theorem dX4_bestQuestion_10 : decode cX4_bestQuestion 10 = .ok (.goto 5, 3) := by decide +kernel
theorem dX4_bestQuestion_13 : decode cX4_bestQuestion 13 = .ok (.bipush 6, 2) := by decide +kernel
theorem dX4_bestQuestion_15 : decode cX4_bestQuestion 15 = .ok (.istore_n 2, 1) := by decide +kernel
theorem dX4_bestQuestion_16 : decode cX4_bestQuestion 16 = .ok (.iconst 0, 1) := by decide +kernel
theorem dX4_bestQuestion_17 : decode cX4_bestQuestion 17 = .ok (.istore_n 3, 1) := by decide +kernel
theorem dX4_bestQuestion_18 : decode cX4_bestQuestion 18 = .ok (.iload_n 3, 1) := by decide +kernel
theorem dX4_bestQuestion_19 : decode cX4_bestQuestion 19 = .ok (.iconst 4, 1) := by decide +kernel
theorem dX4_bestQuestion_20 : decode cX4_bestQuestion 20 = .ok (.if_icmp .ge 26, 3) := by decide +kernel
theorem dX4_bestQuestion_23 : decode cX4_bestQuestion 23 = .ok (.aload_n 0, 1) := by decide +kernel
theorem dX4_bestQuestion_24 : decode cX4_bestQuestion 24 = .ok (.iload_n 3, 1) := by decide +kernel
theorem dX4_bestQuestion_25 : decode cX4_bestQuestion 25 = .ok (.invokevirtual 30, 3) := by decide +kernel
theorem dX4_bestQuestion_28 : decode cX4_bestQuestion 28 = .ok (.iload_n 2, 1) := by decide +kernel
theorem dX4_bestQuestion_29 : decode cX4_bestQuestion 29 = .ok (.if_icmp .ge 11, 3) := by decide +kernel
theorem dX4_bestQuestion_32 : decode cX4_bestQuestion 32 = .ok (.aload_n 0, 1) := by decide +kernel
theorem dX4_bestQuestion_33 : decode cX4_bestQuestion 33 = .ok (.iload_n 3, 1) := by decide +kernel
theorem dX4_bestQuestion_34 : decode cX4_bestQuestion 34 = .ok (.invokevirtual 30, 3) := by decide +kernel
theorem dX4_bestQuestion_37 : decode cX4_bestQuestion 37 = .ok (.istore_n 2, 1) := by decide +kernel
theorem dX4_bestQuestion_38 : decode cX4_bestQuestion 38 = .ok (.iload_n 3, 1) := by decide +kernel
theorem dX4_bestQuestion_39 : decode cX4_bestQuestion 39 = .ok (.istore_n 1, 1) := by decide +kernel
theorem dX4_bestQuestion_40 : decode cX4_bestQuestion 40 = .ok (.iinc 3 1, 3) := by decide +kernel
theorem dX4_bestQuestion_43 : decode cX4_bestQuestion 43 = .ok (.goto (-25), 3) := by decide +kernel
theorem dX4_bestQuestion_46 : decode cX4_bestQuestion 46 = .ok (.iload_n 1, 1) := by decide +kernel
theorem dX4_bestQuestion_47 : decode cX4_bestQuestion 47 = .ok (.ireturn, 1) := by decide +kernel
theorem dX4_leftAtWorst_0 : decode cX4_leftAtWorst 0 = .ok (.aload_n 0, 1) := by decide +kernel
theorem dX4_leftAtWorst_1 : decode cX4_leftAtWorst 1 = .ok (.getfield 11, 3) := by decide +kernel
theorem dX4_leftAtWorst_4 : decode cX4_leftAtWorst 4 = .ok (.iload_n 1, 1) := by decide +kernel
theorem dX4_leftAtWorst_5 : decode cX4_leftAtWorst 5 = .ok (.invokestatic 18, 3) := by decide +kernel
theorem dX4_leftAtWorst_8 : decode cX4_leftAtWorst 8 = .ok (.iand, 1) := by decide +kernel
theorem dX4_leftAtWorst_9 : decode cX4_leftAtWorst 9 = .ok (.invokestatic 33, 3) := by decide +kernel
theorem dX4_leftAtWorst_12 : decode cX4_leftAtWorst 12 = .ok (.istore_n 2, 1) := by decide +kernel
theorem dX4_leftAtWorst_13 : decode cX4_leftAtWorst 13 = .ok (.iload_n 2, 1) := by decide +kernel
theorem dX4_leftAtWorst_14 : decode cX4_leftAtWorst 14 = .ok (.aload_n 0, 1) := by decide +kernel
theorem dX4_leftAtWorst_15 : decode cX4_leftAtWorst 15 = .ok (.getfield 11, 3) := by decide +kernel
theorem dX4_leftAtWorst_18 : decode cX4_leftAtWorst 18 = .ok (.invokestatic 33, 3) := by decide +kernel
theorem dX4_leftAtWorst_21 : decode cX4_leftAtWorst 21 = .ok (.iload_n 2, 1) := by decide +kernel
theorem dX4_leftAtWorst_22 : decode cX4_leftAtWorst 22 = .ok (.isub, 1) := by decide +kernel
theorem dX4_leftAtWorst_23 : decode cX4_leftAtWorst 23 = .ok (.invokestatic 38, 3) := by decide +kernel
theorem dX4_leftAtWorst_26 : decode cX4_leftAtWorst 26 = .ok (.ireturn, 1) := by decide +kernel
theorem dX5_init_0 : decode cX5_init 0 = .ok (.aload_n 0, 1) := by decide +kernel
theorem dX5_init_1 : decode cX5_init 1 = .ok (.invokespecial 3, 3) := by decide +kernel
theorem dX5_init_4 : decode cX5_init 4 = .ok (.aload_n 0, 1) := by decide +kernel
theorem dX5_init_5 : decode cX5_init 5 = .ok (.bipush 66, 2) := by decide +kernel
theorem dX5_init_7 : decode cX5_init 7 = .ok (.newarray .int, 2) := by decide +kernel
theorem dX5_init_9 : decode cX5_init 9 = .ok (.putfield 9, 3) := by decide +kernel
theorem dX5_init_12 : decode cX5_init 12 = .ok (.return_, 1) := by decide +kernel
theorem dX5_length_0 : decode cX5_length 0 = .ok (.aload_n 0, 1) := by decide +kernel
theorem dX5_length_1 : decode cX5_length 1 = .ok (.getfield 15, 3) := by decide +kernel
theorem dX5_length_4 : decode cX5_length 4 = .ok (.ireturn, 1) := by decide +kernel
theorem dX5_write_0 : decode cX5_write 0 = .ok (.aload_n 0, 1) := by decide +kernel
theorem dX5_write_1 : decode cX5_write 1 = .ok (.getfield 15, 3) := by decide +kernel
theorem dX5_write_4 : decode cX5_write 4 = .ok (.aload_n 0, 1) := by decide +kernel
theorem dX5_write_5 : decode cX5_write 5 = .ok (.getfield 9, 3) := by decide +kernel
theorem dX5_write_8 : decode cX5_write 8 = .ok (.arraylength, 1) := by decide +kernel
theorem dX5_write_9 : decode cX5_write 9 = .ok (.invokestatic 19, 3) := by decide +kernel
theorem dX5_write_12 : decode cX5_write 12 = .ok (.ifCond .eq 23, 3) := by decide +kernel
theorem dX5_write_15 : decode cX5_write 15 = .ok (.aload_n 0, 1) := by decide +kernel
theorem dX5_write_16 : decode cX5_write 16 = .ok (.getfield 9, 3) := by decide +kernel
theorem dX5_write_19 : decode cX5_write 19 = .ok (.aload_n 0, 1) := by decide +kernel
theorem dX5_write_20 : decode cX5_write 20 = .ok (.getfield 15, 3) := by decide +kernel
theorem dX5_write_23 : decode cX5_write 23 = .ok (.iload_n 1, 1) := by decide +kernel
theorem dX5_write_24 : decode cX5_write 24 = .ok (.iastore, 1) := by decide +kernel
theorem dX5_write_25 : decode cX5_write 25 = .ok (.aload_n 0, 1) := by decide +kernel
theorem dX5_write_26 : decode cX5_write 26 = .ok (.dup, 1) := by decide +kernel
theorem dX5_write_27 : decode cX5_write 27 = .ok (.getfield 15, 3) := by decide +kernel
theorem dX5_write_30 : decode cX5_write 30 = .ok (.iconst 1, 1) := by decide +kernel
theorem dX5_write_31 : decode cX5_write 31 = .ok (.iadd, 1) := by decide +kernel
theorem dX5_write_32 : decode cX5_write 32 = .ok (.putfield 15, 3) := by decide +kernel
theorem dX5_write_35 : decode cX5_write 35 = .ok (.return_, 1) := by decide +kernel
theorem dX5_at_0 : decode cX5_at 0 = .ok (.iload_n 1, 1) := by decide +kernel
theorem dX5_at_1 : decode cX5_at 1 = .ok (.aload_n 0, 1) := by decide +kernel
theorem dX5_at_2 : decode cX5_at 2 = .ok (.getfield 9, 3) := by decide +kernel
theorem dX5_at_5 : decode cX5_at 5 = .ok (.arraylength, 1) := by decide +kernel
theorem dX5_at_6 : decode cX5_at 6 = .ok (.invokestatic 19, 3) := by decide +kernel
theorem dX5_at_9 : decode cX5_at 9 = .ok (.ifCond .eq 12, 3) := by decide +kernel
theorem dX5_at_12 : decode cX5_at 12 = .ok (.aload_n 0, 1) := by decide +kernel
theorem dX5_at_13 : decode cX5_at 13 = .ok (.getfield 9, 3) := by decide +kernel
theorem dX5_at_16 : decode cX5_at 16 = .ok (.iload_n 1, 1) := by decide +kernel
theorem dX5_at_17 : decode cX5_at 17 = .ok (.iaload, 1) := by decide +kernel
theorem dX5_at_18 : decode cX5_at 18 = .ok (.goto 4, 3) := by decide +kernel
theorem dX5_at_21 : decode cX5_at 21 = .ok (.iconst (-1), 1) := by decide +kernel
theorem dX5_at_22 : decode cX5_at 22 = .ok (.ireturn, 1) := by decide +kernel
theorem dX5_clear_0 : decode cX5_clear 0 = .ok (.aload_n 0, 1) := by decide +kernel
theorem dX5_clear_1 : decode cX5_clear 1 = .ok (.iconst 0, 1) := by decide +kernel
theorem dX5_clear_2 : decode cX5_clear 2 = .ok (.putfield 15, 3) := by decide +kernel
theorem dX5_clear_5 : decode cX5_clear 5 = .ok (.return_, 1) := by decide +kernel
theorem dX6_init_0 : decode cX6_init 0 = .ok (.aload_n 0, 1) := by decide +kernel
theorem dX6_init_1 : decode cX6_init 1 = .ok (.invokespecial 1, 3) := by decide +kernel
theorem dX6_init_4 : decode cX6_init 4 = .ok (.return_, 1) := by decide +kernel
theorem dX6_firstFault_0 : decode cX6_firstFault 0 = .ok (.aload_n 0, 1) := by decide +kernel
theorem dX6_firstFault_1 : decode cX6_firstFault 1 = .ok (.invokevirtual 7, 3) := by decide +kernel
theorem dX6_firstFault_4 : decode cX6_firstFault 4 = .ok (.iconst 0, 1) := by decide +kernel
theorem dX6_firstFault_5 : decode cX6_firstFault 5 = .ok (.istore_n 2, 1) := by decide +kernel
theorem dX6_firstFault_6 : decode cX6_firstFault 6 = .ok (.iload_n 2, 1) := by decide +kernel
theorem dX6_firstFault_7 : decode cX6_firstFault 7 = .ok (.aload_n 1, 1) := by decide +kernel
theorem dX6_firstFault_8 : decode cX6_firstFault 8 = .ok (.invokevirtual 12, 3) := by decide +kernel
theorem dX6_firstFault_11 : decode cX6_firstFault 11 = .ok (.if_icmp .ge 23, 3) := by decide +kernel
theorem dX6_firstFault_14 : decode cX6_firstFault 14 = .ok (.aload_n 0, 1) := by decide +kernel
theorem dX6_firstFault_15 : decode cX6_firstFault 15 = .ok (.aload_n 1, 1) := by decide +kernel
theorem dX6_firstFault_16 : decode cX6_firstFault 16 = .ok (.iload_n 2, 1) := by decide +kernel
theorem dX6_firstFault_17 : decode cX6_firstFault 17 = .ok (.invokevirtual 18, 3) := by decide +kernel
theorem dX6_firstFault_20 : decode cX6_firstFault 20 = .ok (.invokevirtual 22, 3) := by decide +kernel
theorem dX6_firstFault_23 : decode cX6_firstFault 23 = .ok (.ifCond .ne 5, 3) := by decide +kernel
theorem dX6_firstFault_26 : decode cX6_firstFault 26 = .ok (.iload_n 2, 1) := by decide +kernel
theorem dX6_firstFault_27 : decode cX6_firstFault 27 = .ok (.ireturn, 1) := by decide +kernel
theorem dX6_firstFault_28 : decode cX6_firstFault 28 = .ok (.iinc 2 1, 3) := by decide +kernel
theorem dX6_firstFault_31 : decode cX6_firstFault 31 = .ok (.goto (-25), 3) := by decide +kernel
theorem dX6_firstFault_34 : decode cX6_firstFault 34 = .ok (.aload_n 1, 1) := by decide +kernel
theorem dX6_firstFault_35 : decode cX6_firstFault 35 = .ok (.invokevirtual 12, 3) := by decide +kernel
theorem dX6_firstFault_38 : decode cX6_firstFault 38 = .ok (.ireturn, 1) := by decide +kernel
theorem dX6_isWhole_0 : decode cX6_isWhole 0 = .ok (.aload_n 0, 1) := by decide +kernel
theorem dX6_isWhole_1 : decode cX6_isWhole 1 = .ok (.aload_n 1, 1) := by decide +kernel
theorem dX6_isWhole_2 : decode cX6_isWhole 2 = .ok (.invokevirtual 26, 3) := by decide +kernel
theorem dX6_isWhole_5 : decode cX6_isWhole 5 = .ok (.aload_n 1, 1) := by decide +kernel
theorem dX6_isWhole_6 : decode cX6_isWhole 6 = .ok (.invokevirtual 12, 3) := by decide +kernel
theorem dX6_isWhole_9 : decode cX6_isWhole 9 = .ok (.if_icmp .ne 14, 3) := by decide +kernel
theorem dX6_isWhole_12 : decode cX6_isWhole 12 = .ok (.aload_n 0, 1) := by decide +kernel
theorem dX6_isWhole_13 : decode cX6_isWhole 13 = .ok (.invokevirtual 30, 3) := by decide +kernel
theorem dX6_isWhole_16 : decode cX6_isWhole 16 = .ok (.ifCond .eq 7, 3) := by decide +kernel
theorem dX6_isWhole_19 : decode cX6_isWhole 19 = .ok (.iconst 1, 1) := by decide +kernel
theorem dX6_isWhole_20 : decode cX6_isWhole 20 = .ok (.goto 4, 3) := by decide +kernel
theorem dX6_isWhole_23 : decode cX6_isWhole 23 = .ok (.iconst 0, 1) := by decide +kernel
theorem dX6_isWhole_24 : decode cX6_isWhole 24 = .ok (.ireturn, 1) := by decide +kernel
theorem dX7_init_0 : decode cX7_init 0 = .ok (.aload_n 0, 1) := by decide +kernel
theorem dX7_init_1 : decode cX7_init 1 = .ok (.invokespecial 3, 3) := by decide +kernel
theorem dX7_init_4 : decode cX7_init 4 = .ok (.aload_n 0, 1) := by decide +kernel
theorem dX7_init_5 : decode cX7_init 5 = .ok (.iconst 4, 1) := by decide +kernel
theorem dX7_init_6 : decode cX7_init 6 = .ok (.newarray .long, 2) := by decide +kernel
theorem dX7_init_8 : decode cX7_init 8 = .ok (.putfield 9, 3) := by decide +kernel
theorem dX7_init_11 : decode cX7_init 11 = .ok (.aload_n 0, 1) := by decide +kernel
theorem dX7_init_12 : decode cX7_init 12 = .ok (.iconst 4, 1) := by decide +kernel
theorem dX7_init_13 : decode cX7_init 13 = .ok (.newarray .long, 2) := by decide +kernel
theorem dX7_init_15 : decode cX7_init 15 = .ok (.putfield 15, 3) := by decide +kernel
theorem dX7_init_18 : decode cX7_init 18 = .ok (.aload_n 0, 1) := by decide +kernel
theorem dX7_init_19 : decode cX7_init 19 = .ok (.bipush 64, 2) := by decide +kernel
theorem dX7_init_21 : decode cX7_init 21 = .ok (.newarray .long, 2) := by decide +kernel
theorem dX7_init_23 : decode cX7_init 23 = .ok (.putfield 18, 3) := by decide +kernel
theorem dX7_init_26 : decode cX7_init 26 = .ok (.return_, 1) := by decide +kernel
theorem dX7_useOwn_0 : decode cX7_useOwn 0 = .ok (.iconst 0, 1) := by decide +kernel
theorem dX7_useOwn_1 : decode cX7_useOwn 1 = .ok (.istore_n 2, 1) := by decide +kernel
theorem dX7_useOwn_2 : decode cX7_useOwn 2 = .ok (.iload_n 2, 1) := by decide +kernel
theorem dX7_useOwn_3 : decode cX7_useOwn 3 = .ok (.iconst 4, 1) := by decide +kernel
theorem dX7_useOwn_4 : decode cX7_useOwn 4 = .ok (.if_icmp .ge 36, 3) := by decide +kernel
theorem dX7_useOwn_7 : decode cX7_useOwn 7 = .ok (.aload_n 1, 1) := by decide +kernel
theorem dX7_useOwn_8 : decode cX7_useOwn 8 = .ok (.iload_n 2, 1) := by decide +kernel
theorem dX7_useOwn_9 : decode cX7_useOwn 9 = .ok (.invokevirtual 21, 3) := by decide +kernel
theorem dX7_useOwn_12 : decode cX7_useOwn 12 = .ok (.istore_n 3, 1) := by decide +kernel
theorem dX7_useOwn_13 : decode cX7_useOwn 13 = .ok (.aload_n 0, 1) := by decide +kernel
theorem dX7_useOwn_14 : decode cX7_useOwn 14 = .ok (.iload_n 2, 1) := by decide +kernel
theorem dX7_useOwn_15 : decode cX7_useOwn 15 = .ok (.iload_n 3, 1) := by decide +kernel
theorem dX7_useOwn_16 : decode cX7_useOwn 16 = .ok (.iconst 0, 1) := by decide +kernel
theorem dX7_useOwn_17 : decode cX7_useOwn 17 = .ok (.invokestatic 27, 3) := by decide +kernel
theorem dX7_useOwn_20 : decode cX7_useOwn 20 = .ok (.invokestatic 31, 3) := by decide +kernel
theorem dX7_useOwn_23 : decode cX7_useOwn 23 = .ok (.iload_n 3, 1) := by decide +kernel
theorem dX7_useOwn_24 : decode cX7_useOwn 24 = .ok (.iconst 1, 1) := by decide +kernel
theorem dX7_useOwn_25 : decode cX7_useOwn 25 = .ok (.invokestatic 27, 3) := by decide +kernel
theorem dX7_useOwn_28 : decode cX7_useOwn 28 = .ok (.invokestatic 31, 3) := by decide +kernel
theorem dX7_useOwn_31 : decode cX7_useOwn 31 = .ok (.invokevirtual 35, 3) := by decide +kernel
theorem dX7_useOwn_34 : decode cX7_useOwn 34 = .ok (.iinc 2 1, 3) := by decide +kernel
theorem dX7_useOwn_37 : decode cX7_useOwn 37 = .ok (.goto (-35), 3) := by decide +kernel
theorem dX7_useOwn_40 : decode cX7_useOwn 40 = .ok (.return_, 1) := by decide +kernel
theorem dX7_useBlock_0 : decode cX7_useBlock 0 = .ok (.iconst 0, 1) := by decide +kernel
theorem dX7_useBlock_1 : decode cX7_useBlock 1 = .ok (.istore_n 3, 1) := by decide +kernel
theorem dX7_useBlock_2 : decode cX7_useBlock 2 = .ok (.iload_n 3, 1) := by decide +kernel
theorem dX7_useBlock_3 : decode cX7_useBlock 3 = .ok (.iload_n 2, 1) := by decide +kernel
theorem dX7_useBlock_4 : decode cX7_useBlock 4 = .ok (.if_icmp .ge 26, 3) := by decide +kernel
theorem dX7_useBlock_7 : decode cX7_useBlock 7 = .ok (.aload_n 0, 1) := by decide +kernel
theorem dX7_useBlock_8 : decode cX7_useBlock 8 = .ok (.iload_n 3, 1) := by decide +kernel
theorem dX7_useBlock_9 : decode cX7_useBlock 9 = .ok (.iload_n 3, 1) := by decide +kernel
theorem dX7_useBlock_10 : decode cX7_useBlock 10 = .ok (.iload_n 1, 1) := by decide +kernel
theorem dX7_useBlock_11 : decode cX7_useBlock 11 = .ok (.invokestatic 39, 3) := by decide +kernel
theorem dX7_useBlock_14 : decode cX7_useBlock 14 = .ok (.iload_n 2, 1) := by decide +kernel
theorem dX7_useBlock_15 : decode cX7_useBlock 15 = .ok (.iload_n 3, 1) := by decide +kernel
theorem dX7_useBlock_16 : decode cX7_useBlock 16 = .ok (.iadd, 1) := by decide +kernel
theorem dX7_useBlock_17 : decode cX7_useBlock 17 = .ok (.iload_n 1, 1) := by decide +kernel
theorem dX7_useBlock_18 : decode cX7_useBlock 18 = .ok (.invokestatic 39, 3) := by decide +kernel
theorem dX7_useBlock_21 : decode cX7_useBlock 21 = .ok (.invokevirtual 35, 3) := by decide +kernel
theorem dX7_useBlock_24 : decode cX7_useBlock 24 = .ok (.iinc 3 1, 3) := by decide +kernel
theorem dX7_useBlock_27 : decode cX7_useBlock 27 = .ok (.goto (-25), 3) := by decide +kernel
theorem dX7_useBlock_30 : decode cX7_useBlock 30 = .ok (.return_, 1) := by decide +kernel
theorem dX7_useDrawn_0 : decode cX7_useDrawn 0 = .ok (.iconst 0, 1) := by decide +kernel
theorem dX7_useDrawn_1 : decode cX7_useDrawn 1 = .ok (.istore 4, 2) := by decide +kernel
theorem dX7_useDrawn_3 : decode cX7_useDrawn 3 = .ok (.iload 4, 2) := by decide +kernel
theorem dX7_useDrawn_5 : decode cX7_useDrawn 5 = .ok (.iconst 4, 1) := by decide +kernel
theorem dX7_useDrawn_6 : decode cX7_useDrawn 6 = .ok (.if_icmp .ge 17, 3) := by decide +kernel
theorem dX7_useDrawn_9 : decode cX7_useDrawn 9 = .ok (.aload_n 0, 1) := by decide +kernel
theorem dX7_useDrawn_10 : decode cX7_useDrawn 10 = .ok (.iload 4, 2) := by decide +kernel
theorem dX7_useDrawn_12 : decode cX7_useDrawn 12 = .ok (.lconst 0, 1) := by decide +kernel
theorem dX7_useDrawn_13 : decode cX7_useDrawn 13 = .ok (.lconst 0, 1) := by decide +kernel
theorem dX7_useDrawn_14 : decode cX7_useDrawn 14 = .ok (.invokevirtual 35, 3) := by decide +kernel
theorem dX7_useDrawn_17 : decode cX7_useDrawn 17 = .ok (.iinc 4 1, 3) := by decide +kernel
theorem dX7_useDrawn_20 : decode cX7_useDrawn 20 = .ok (.goto (-17), 3) := by decide +kernel
theorem dX7_useDrawn_23 : decode cX7_useDrawn 23 = .ok (.iload_n 2, 1) := by decide +kernel
theorem dX7_useDrawn_24 : decode cX7_useDrawn 24 = .ok (.istore 4, 2) := by decide +kernel
theorem dX7_useDrawn_26 : decode cX7_useDrawn 26 = .ok (.iconst 0, 1) := by decide +kernel
theorem dX7_useDrawn_27 : decode cX7_useDrawn 27 = .ok (.istore 5, 2) := by decide +kernel
theorem dX7_useDrawn_29 : decode cX7_useDrawn 29 = .ok (.iload 5, 2) := by decide +kernel
theorem dX7_useDrawn_31 : decode cX7_useDrawn 31 = .ok (.iload_n 1, 1) := by decide +kernel
theorem dX7_useDrawn_32 : decode cX7_useDrawn 32 = .ok (.if_icmp .ge 53, 3) := by decide +kernel
theorem dX7_useDrawn_35 : decode cX7_useDrawn 35 = .ok (.iconst 0, 1) := by decide +kernel
theorem dX7_useDrawn_36 : decode cX7_useDrawn 36 = .ok (.istore 6, 2) := by decide +kernel
theorem dX7_useDrawn_38 : decode cX7_useDrawn 38 = .ok (.iload 6, 2) := by decide +kernel
theorem dX7_useDrawn_40 : decode cX7_useDrawn 40 = .ok (.iload_n 3, 1) := by decide +kernel
theorem dX7_useDrawn_41 : decode cX7_useDrawn 41 = .ok (.if_icmp .ge 38, 3) := by decide +kernel
theorem dX7_useDrawn_44 : decode cX7_useDrawn 44 = .ok (.ldc 43, 2) := by decide +kernel
theorem dX7_useDrawn_46 : decode cX7_useDrawn 46 = .ok (.iload 4, 2) := by decide +kernel
theorem dX7_useDrawn_48 : decode cX7_useDrawn 48 = .ok (.imul, 1) := by decide +kernel
theorem dX7_useDrawn_49 : decode cX7_useDrawn 49 = .ok (.sipush 12345, 3) := by decide +kernel
theorem dX7_useDrawn_52 : decode cX7_useDrawn 52 = .ok (.iadd, 1) := by decide +kernel
theorem dX7_useDrawn_53 : decode cX7_useDrawn 53 = .ok (.ldc 44, 2) := by decide +kernel
theorem dX7_useDrawn_55 : decode cX7_useDrawn 55 = .ok (.iand, 1) := by decide +kernel
theorem dX7_useDrawn_56 : decode cX7_useDrawn 56 = .ok (.istore 4, 2) := by decide +kernel
theorem dX7_useDrawn_58 : decode cX7_useDrawn 58 = .ok (.aload_n 0, 1) := by decide +kernel
theorem dX7_useDrawn_59 : decode cX7_useDrawn 59 = .ok (.iload 6, 2) := by decide +kernel
theorem dX7_useDrawn_61 : decode cX7_useDrawn 61 = .ok (.iload 4, 2) := by decide +kernel
theorem dX7_useDrawn_63 : decode cX7_useDrawn 63 = .ok (.bipush 16, 2) := by decide +kernel
theorem dX7_useDrawn_65 : decode cX7_useDrawn 65 = .ok (.ishr, 1) := by decide +kernel
theorem dX7_useDrawn_66 : decode cX7_useDrawn 66 = .ok (.iconst 3, 1) := by decide +kernel
theorem dX7_useDrawn_67 : decode cX7_useDrawn 67 = .ok (.iand, 1) := by decide +kernel
theorem dX7_useDrawn_68 : decode cX7_useDrawn 68 = .ok (.iload 5, 2) := by decide +kernel
theorem dX7_useDrawn_70 : decode cX7_useDrawn 70 = .ok (.invokevirtual 45, 3) := by decide +kernel
theorem dX7_useDrawn_73 : decode cX7_useDrawn 73 = .ok (.iinc 6 1, 3) := by decide +kernel
theorem dX7_useDrawn_76 : decode cX7_useDrawn 76 = .ok (.goto (-38), 3) := by decide +kernel
theorem dX7_useDrawn_79 : decode cX7_useDrawn 79 = .ok (.iinc 5 1, 3) := by decide +kernel
theorem dX7_useDrawn_82 : decode cX7_useDrawn 82 = .ok (.goto (-53), 3) := by decide +kernel
theorem dX7_useDrawn_85 : decode cX7_useDrawn 85 = .ok (.iload 4, 2) := by decide +kernel
theorem dX7_useDrawn_87 : decode cX7_useDrawn 87 = .ok (.ireturn, 1) := by decide +kernel
theorem dX7_allLanes_0 : decode cX7_allLanes 0 = .ok (.iload_n 0, 1) := by decide +kernel
theorem dX7_allLanes_1 : decode cX7_allLanes 1 = .ok (.ifCond .ne 7, 3) := by decide +kernel
theorem dX7_allLanes_4 : decode cX7_allLanes 4 = .ok (.lconst 0, 1) := by decide +kernel
theorem dX7_allLanes_5 : decode cX7_allLanes 5 = .ok (.goto 6, 3) := by decide +kernel
theorem dX7_allLanes_8 : decode cX7_allLanes 8 = .ok (.ldc2_w 49, 3) := by decide +kernel
theorem dX7_allLanes_11 : decode cX7_allLanes 11 = .ok (.lreturn, 1) := by decide +kernel
theorem dX7_lanesOfBit_0 : decode cX7_lanesOfBit 0 = .ok (.iload_n 0, 1) := by decide +kernel
theorem dX7_lanesOfBit_1 : decode cX7_lanesOfBit 1 = .ok (.getstatic 51, 3) := by decide +kernel
theorem dX7_lanesOfBit_4 : decode cX7_lanesOfBit 4 = .ok (.arraylength, 1) := by decide +kernel
theorem dX7_lanesOfBit_5 : decode cX7_lanesOfBit 5 = .ok (.invokestatic 54, 3) := by decide +kernel
theorem dX7_lanesOfBit_8 : decode cX7_lanesOfBit 8 = .ok (.ifCond .eq 9, 3) := by decide +kernel
theorem dX7_lanesOfBit_11 : decode cX7_lanesOfBit 11 = .ok (.getstatic 51, 3) := by decide +kernel
theorem dX7_lanesOfBit_14 : decode cX7_lanesOfBit 14 = .ok (.iload_n 0, 1) := by decide +kernel
theorem dX7_lanesOfBit_15 : decode cX7_lanesOfBit 15 = .ok (.laload, 1) := by decide +kernel
theorem dX7_lanesOfBit_16 : decode cX7_lanesOfBit 16 = .ok (.lreturn, 1) := by decide +kernel
theorem dX7_lanesOfBit_17 : decode cX7_lanesOfBit 17 = .ok (.iload_n 1, 1) := by decide +kernel
theorem dX7_lanesOfBit_18 : decode cX7_lanesOfBit 18 = .ok (.iload_n 0, 1) := by decide +kernel
theorem dX7_lanesOfBit_19 : decode cX7_lanesOfBit 19 = .ok (.getstatic 51, 3) := by decide +kernel
theorem dX7_lanesOfBit_22 : decode cX7_lanesOfBit 22 = .ok (.arraylength, 1) := by decide +kernel
theorem dX7_lanesOfBit_23 : decode cX7_lanesOfBit 23 = .ok (.isub, 1) := by decide +kernel
theorem dX7_lanesOfBit_24 : decode cX7_lanesOfBit 24 = .ok (.invokestatic 27, 3) := by decide +kernel
theorem dX7_lanesOfBit_27 : decode cX7_lanesOfBit 27 = .ok (.invokestatic 31, 3) := by decide +kernel
theorem dX7_lanesOfBit_30 : decode cX7_lanesOfBit 30 = .ok (.lreturn, 1) := by decide +kernel
theorem dX7_setLetters_0 : decode cX7_setLetters 0 = .ok (.iload_n 1, 1) := by decide +kernel
theorem dX7_setLetters_1 : decode cX7_setLetters 1 = .ok (.aload_n 0, 1) := by decide +kernel
theorem dX7_setLetters_2 : decode cX7_setLetters 2 = .ok (.getfield 9, 3) := by decide +kernel
theorem dX7_setLetters_5 : decode cX7_setLetters 5 = .ok (.arraylength, 1) := by decide +kernel
theorem dX7_setLetters_6 : decode cX7_setLetters 6 = .ok (.invokestatic 54, 3) := by decide +kernel
theorem dX7_setLetters_9 : decode cX7_setLetters 9 = .ok (.ifCond .eq 30, 3) := by decide +kernel
theorem dX7_setLetters_12 : decode cX7_setLetters 12 = .ok (.iload_n 1, 1) := by decide +kernel
theorem dX7_setLetters_13 : decode cX7_setLetters 13 = .ok (.aload_n 0, 1) := by decide +kernel
theorem dX7_setLetters_14 : decode cX7_setLetters 14 = .ok (.getfield 15, 3) := by decide +kernel
theorem dX7_setLetters_17 : decode cX7_setLetters 17 = .ok (.arraylength, 1) := by decide +kernel
theorem dX7_setLetters_18 : decode cX7_setLetters 18 = .ok (.invokestatic 54, 3) := by decide +kernel
theorem dX7_setLetters_21 : decode cX7_setLetters 21 = .ok (.ifCond .eq 18, 3) := by decide +kernel
theorem dX7_setLetters_24 : decode cX7_setLetters 24 = .ok (.aload_n 0, 1) := by decide +kernel
theorem dX7_setLetters_25 : decode cX7_setLetters 25 = .ok (.getfield 9, 3) := by decide +kernel
theorem dX7_setLetters_28 : decode cX7_setLetters 28 = .ok (.iload_n 1, 1) := by decide +kernel
theorem dX7_setLetters_29 : decode cX7_setLetters 29 = .ok (.lload_n 2, 1) := by decide +kernel
theorem dX7_setLetters_30 : decode cX7_setLetters 30 = .ok (.lastore, 1) := by decide +kernel
theorem dX7_setLetters_31 : decode cX7_setLetters 31 = .ok (.aload_n 0, 1) := by decide +kernel
theorem dX7_setLetters_32 : decode cX7_setLetters 32 = .ok (.getfield 15, 3) := by decide +kernel
theorem dX7_setLetters_35 : decode cX7_setLetters 35 = .ok (.iload_n 1, 1) := by decide +kernel
theorem dX7_setLetters_36 : decode cX7_setLetters 36 = .ok (.lload 4, 2) := by decide +kernel
theorem dX7_setLetters_38 : decode cX7_setLetters 38 = .ok (.lastore, 1) := by decide +kernel
theorem dX7_setLetters_39 : decode cX7_setLetters 39 = .ok (.return_, 1) := by decide +kernel
theorem dX7_addLetters_0 : decode cX7_addLetters 0 = .ok (.iload_n 1, 1) := by decide +kernel
theorem dX7_addLetters_1 : decode cX7_addLetters 1 = .ok (.aload_n 0, 1) := by decide +kernel
theorem dX7_addLetters_2 : decode cX7_addLetters 2 = .ok (.getfield 9, 3) := by decide +kernel
theorem dX7_addLetters_5 : decode cX7_addLetters 5 = .ok (.arraylength, 1) := by decide +kernel
theorem dX7_addLetters_6 : decode cX7_addLetters 6 = .ok (.invokestatic 54, 3) := by decide +kernel
theorem dX7_addLetters_9 : decode cX7_addLetters 9 = .ok (.ifCond .eq 49, 3) := by decide +kernel
theorem dX7_addLetters_12 : decode cX7_addLetters 12 = .ok (.iload_n 1, 1) := by decide +kernel
theorem dX7_addLetters_13 : decode cX7_addLetters 13 = .ok (.aload_n 0, 1) := by decide +kernel
theorem dX7_addLetters_14 : decode cX7_addLetters 14 = .ok (.getfield 15, 3) := by decide +kernel
theorem dX7_addLetters_17 : decode cX7_addLetters 17 = .ok (.arraylength, 1) := by decide +kernel
theorem dX7_addLetters_18 : decode cX7_addLetters 18 = .ok (.invokestatic 54, 3) := by decide +kernel
theorem dX7_addLetters_21 : decode cX7_addLetters 21 = .ok (.ifCond .eq 37, 3) := by decide +kernel
theorem dX7_addLetters_24 : decode cX7_addLetters 24 = .ok (.aload_n 0, 1) := by decide +kernel
theorem dX7_addLetters_25 : decode cX7_addLetters 25 = .ok (.getfield 9, 3) := by decide +kernel
theorem dX7_addLetters_28 : decode cX7_addLetters 28 = .ok (.iload_n 1, 1) := by decide +kernel
theorem dX7_addLetters_29 : decode cX7_addLetters 29 = .ok (.dup2, 1) := by decide +kernel
theorem dX7_addLetters_30 : decode cX7_addLetters 30 = .ok (.laload, 1) := by decide +kernel
theorem dX7_addLetters_31 : decode cX7_addLetters 31 = .ok (.iload_n 2, 1) := by decide +kernel
theorem dX7_addLetters_32 : decode cX7_addLetters 32 = .ok (.iconst 0, 1) := by decide +kernel
theorem dX7_addLetters_33 : decode cX7_addLetters 33 = .ok (.invokestatic 27, 3) := by decide +kernel
theorem dX7_addLetters_36 : decode cX7_addLetters 36 = .ok (.i2l, 1) := by decide +kernel
theorem dX7_addLetters_37 : decode cX7_addLetters 37 = .ok (.iload_n 3, 1) := by decide +kernel
theorem dX7_addLetters_38 : decode cX7_addLetters 38 = .ok (.lshl, 1) := by decide +kernel
theorem dX7_addLetters_39 : decode cX7_addLetters 39 = .ok (.lor, 1) := by decide +kernel
theorem dX7_addLetters_40 : decode cX7_addLetters 40 = .ok (.lastore, 1) := by decide +kernel
theorem dX7_addLetters_41 : decode cX7_addLetters 41 = .ok (.aload_n 0, 1) := by decide +kernel
theorem dX7_addLetters_42 : decode cX7_addLetters 42 = .ok (.getfield 15, 3) := by decide +kernel
theorem dX7_addLetters_45 : decode cX7_addLetters 45 = .ok (.iload_n 1, 1) := by decide +kernel
theorem dX7_addLetters_46 : decode cX7_addLetters 46 = .ok (.dup2, 1) := by decide +kernel
theorem dX7_addLetters_47 : decode cX7_addLetters 47 = .ok (.laload, 1) := by decide +kernel
theorem dX7_addLetters_48 : decode cX7_addLetters 48 = .ok (.iload_n 2, 1) := by decide +kernel
theorem dX7_addLetters_49 : decode cX7_addLetters 49 = .ok (.iconst 1, 1) := by decide +kernel
theorem dX7_addLetters_50 : decode cX7_addLetters 50 = .ok (.invokestatic 27, 3) := by decide +kernel
theorem dX7_addLetters_53 : decode cX7_addLetters 53 = .ok (.i2l, 1) := by decide +kernel
theorem dX7_addLetters_54 : decode cX7_addLetters 54 = .ok (.iload_n 3, 1) := by decide +kernel
theorem dX7_addLetters_55 : decode cX7_addLetters 55 = .ok (.lshl, 1) := by decide +kernel
theorem dX7_addLetters_56 : decode cX7_addLetters 56 = .ok (.lor, 1) := by decide +kernel
theorem dX7_addLetters_57 : decode cX7_addLetters 57 = .ok (.lastore, 1) := by decide +kernel
theorem dX7_addLetters_58 : decode cX7_addLetters 58 = .ok (.return_, 1) := by decide +kernel
theorem dX7_isValid_0 : decode cX7_isValid 0 = .ok (.aload_n 2, 1) := by decide +kernel
theorem dX7_isValid_1 : decode cX7_isValid 1 = .ok (.getfield 58, 3) := by decide +kernel
theorem dX7_isValid_4 : decode cX7_isValid 4 = .ok (.iconst 4, 1) := by decide +kernel
theorem dX7_isValid_5 : decode cX7_isValid 5 = .ok (.if_icmp .ge 7, 3) := by decide +kernel
theorem dX7_isValid_8 : decode cX7_isValid 8 = .ok (.iconst 1, 1) := by decide +kernel
theorem dX7_isValid_9 : decode cX7_isValid 9 = .ok (.goto 4, 3) := by decide +kernel
theorem dX7_isValid_12 : decode cX7_isValid 12 = .ok (.iconst 4, 1) := by decide +kernel
theorem dX7_isValid_13 : decode cX7_isValid 13 = .ok (.istore_n 3, 1) := by decide +kernel
theorem dX7_isValid_14 : decode cX7_isValid 14 = .ok (.iconst 0, 1) := by decide +kernel
theorem dX7_isValid_15 : decode cX7_isValid 15 = .ok (.istore 4, 2) := by decide +kernel
theorem dX7_isValid_17 : decode cX7_isValid 17 = .ok (.iload 4, 2) := by decide +kernel
theorem dX7_isValid_19 : decode cX7_isValid 19 = .ok (.iload_n 3, 1) := by decide +kernel
theorem dX7_isValid_20 : decode cX7_isValid 20 = .ok (.if_icmp .ge 40, 3) := by decide +kernel
theorem dX7_isValid_23 : decode cX7_isValid 23 = .ok (.aload_n 0, 1) := by decide +kernel
theorem dX7_isValid_24 : decode cX7_isValid 24 = .ok (.iload 4, 2) := by decide +kernel
theorem dX7_isValid_26 : decode cX7_isValid 26 = .ok (.aload_n 2, 1) := by decide +kernel
theorem dX7_isValid_27 : decode cX7_isValid 27 = .ok (.getfield 58, 3) := by decide +kernel
theorem dX7_isValid_30 : decode cX7_isValid 30 = .ok (.invokevirtual 62, 3) := by decide +kernel
theorem dX7_isValid_33 : decode cX7_isValid 33 = .ok (.aload_n 0, 1) := by decide +kernel
theorem dX7_isValid_34 : decode cX7_isValid 34 = .ok (.aload_n 1, 1) := by decide +kernel
theorem dX7_isValid_35 : decode cX7_isValid 35 = .ok (.aload_n 2, 1) := by decide +kernel
theorem dX7_isValid_36 : decode cX7_isValid 36 = .ok (.invokevirtual 66, 3) := by decide +kernel
theorem dX7_isValid_39 : decode cX7_isValid 39 = .ok (.aload_n 0, 1) := by decide +kernel
theorem dX7_isValid_40 : decode cX7_isValid 40 = .ok (.aload_n 2, 1) := by decide +kernel
theorem dX7_isValid_41 : decode cX7_isValid 41 = .ok (.getfield 58, 3) := by decide +kernel
theorem dX7_isValid_44 : decode cX7_isValid 44 = .ok (.invokevirtual 70, 3) := by decide +kernel
theorem dX7_isValid_47 : decode cX7_isValid 47 = .ok (.lconst 0, 1) := by decide +kernel
theorem dX7_isValid_48 : decode cX7_isValid 48 = .ok (.lcmp, 1) := by decide +kernel
theorem dX7_isValid_49 : decode cX7_isValid 49 = .ok (.ifCond .eq 5, 3) := by decide +kernel
theorem dX7_isValid_52 : decode cX7_isValid 52 = .ok (.iconst 0, 1) := by decide +kernel
theorem dX7_isValid_53 : decode cX7_isValid 53 = .ok (.ireturn, 1) := by decide +kernel
theorem dX7_isValid_54 : decode cX7_isValid 54 = .ok (.iinc 4 1, 3) := by decide +kernel
theorem dX7_isValid_57 : decode cX7_isValid 57 = .ok (.goto (-40), 3) := by decide +kernel
theorem dX7_isValid_60 : decode cX7_isValid 60 = .ok (.iconst 1, 1) := by decide +kernel
theorem dX7_isValid_61 : decode cX7_isValid 61 = .ok (.ireturn, 1) := by decide +kernel
theorem dX7_evaluate_0 : decode cX7_evaluate 0 = .ok (.aload_n 1, 1) := by decide +kernel
theorem dX7_evaluate_1 : decode cX7_evaluate 1 = .ok (.invokevirtual 73, 3) := by decide +kernel
theorem dX7_evaluate_4 : decode cX7_evaluate 4 = .ok (.iconst 1, 1) := by decide +kernel
theorem dX7_evaluate_5 : decode cX7_evaluate 5 = .ok (.isub, 1) := by decide +kernel
theorem dX7_evaluate_6 : decode cX7_evaluate 6 = .ok (.istore_n 3, 1) := by decide +kernel
theorem dX7_evaluate_7 : decode cX7_evaluate 7 = .ok (.iload_n 3, 1) := by decide +kernel
theorem dX7_evaluate_8 : decode cX7_evaluate 8 = .ok (.ifCond .lt 43, 3) := by decide +kernel
theorem dX7_evaluate_11 : decode cX7_evaluate 11 = .ok (.iconst 0, 1) := by decide +kernel
theorem dX7_evaluate_12 : decode cX7_evaluate 12 = .ok (.istore 4, 2) := by decide +kernel
theorem dX7_evaluate_14 : decode cX7_evaluate 14 = .ok (.iload 4, 2) := by decide +kernel
theorem dX7_evaluate_16 : decode cX7_evaluate 16 = .ok (.aload_n 2, 1) := by decide +kernel
theorem dX7_evaluate_17 : decode cX7_evaluate 17 = .ok (.getfield 58, 3) := by decide +kernel
theorem dX7_evaluate_20 : decode cX7_evaluate 20 = .ok (.if_icmp .ge 25, 3) := by decide +kernel
theorem dX7_evaluate_23 : decode cX7_evaluate 23 = .ok (.aload_n 0, 1) := by decide +kernel
theorem dX7_evaluate_24 : decode cX7_evaluate 24 = .ok (.iload_n 3, 1) := by decide +kernel
theorem dX7_evaluate_25 : decode cX7_evaluate 25 = .ok (.iload 4, 2) := by decide +kernel
theorem dX7_evaluate_27 : decode cX7_evaluate 27 = .ok (.aload_n 0, 1) := by decide +kernel
theorem dX7_evaluate_28 : decode cX7_evaluate 28 = .ok (.aload_n 1, 1) := by decide +kernel
theorem dX7_evaluate_29 : decode cX7_evaluate 29 = .ok (.aload_n 2, 1) := by decide +kernel
theorem dX7_evaluate_30 : decode cX7_evaluate 30 = .ok (.iload_n 3, 1) := by decide +kernel
theorem dX7_evaluate_31 : decode cX7_evaluate 31 = .ok (.iload 4, 2) := by decide +kernel
theorem dX7_evaluate_33 : decode cX7_evaluate 33 = .ok (.invokevirtual 79, 3) := by decide +kernel
theorem dX7_evaluate_36 : decode cX7_evaluate 36 = .ok (.invokevirtual 83, 3) := by decide +kernel
theorem dX7_evaluate_39 : decode cX7_evaluate 39 = .ok (.iinc 4 1, 3) := by decide +kernel
theorem dX7_evaluate_42 : decode cX7_evaluate 42 = .ok (.goto (-28), 3) := by decide +kernel
theorem dX7_evaluate_45 : decode cX7_evaluate 45 = .ok (.iinc 3 (-1), 3) := by decide +kernel
theorem dX7_evaluate_48 : decode cX7_evaluate 48 = .ok (.goto (-41), 3) := by decide +kernel
theorem dX7_evaluate_51 : decode cX7_evaluate 51 = .ok (.return_, 1) := by decide +kernel
theorem dX7_lanesOf_0 : decode cX7_lanesOf 0 = .ok (.iload_n 3, 1) := by decide +kernel
theorem dX7_lanesOf_1 : decode cX7_lanesOf 1 = .ok (.iconst 1, 1) := by decide +kernel
theorem dX7_lanesOf_2 : decode cX7_lanesOf 2 = .ok (.iadd, 1) := by decide +kernel
theorem dX7_lanesOf_3 : decode cX7_lanesOf 3 = .ok (.istore 5, 2) := by decide +kernel
theorem dX7_lanesOf_5 : decode cX7_lanesOf 5 = .ok (.aload_n 1, 1) := by decide +kernel
theorem dX7_lanesOf_6 : decode cX7_lanesOf 6 = .ok (.iload_n 3, 1) := by decide +kernel
theorem dX7_lanesOf_7 : decode cX7_lanesOf 7 = .ok (.invokevirtual 87, 3) := by decide +kernel
theorem dX7_lanesOf_10 : decode cX7_lanesOf 10 = .ok (.lookupswitch 212 #[(38, 129), (62, 173), (78, 199), (112, 66), (113, 91), (124, 151), (126, 116)], 66) := by decide +kernel
theorem dX7_lanesOf_76 : decode cX7_lanesOf 76 = .ok (.iload 4, 2) := by decide +kernel
theorem dX7_lanesOf_78 : decode cX7_lanesOf 78 = .ok (.aload_n 0, 1) := by decide +kernel
theorem dX7_lanesOf_79 : decode cX7_lanesOf 79 = .ok (.getfield 9, 3) := by decide +kernel
theorem dX7_lanesOf_82 : decode cX7_lanesOf 82 = .ok (.arraylength, 1) := by decide +kernel
theorem dX7_lanesOf_83 : decode cX7_lanesOf 83 = .ok (.invokestatic 54, 3) := by decide +kernel
theorem dX7_lanesOf_86 : decode cX7_lanesOf 86 = .ok (.ifCond .eq 13, 3) := by decide +kernel
theorem dX7_lanesOf_89 : decode cX7_lanesOf 89 = .ok (.aload_n 0, 1) := by decide +kernel
theorem dX7_lanesOf_90 : decode cX7_lanesOf 90 = .ok (.getfield 9, 3) := by decide +kernel
theorem dX7_lanesOf_93 : decode cX7_lanesOf 93 = .ok (.iload 4, 2) := by decide +kernel
theorem dX7_lanesOf_95 : decode cX7_lanesOf 95 = .ok (.laload, 1) := by decide +kernel
theorem dX7_lanesOf_96 : decode cX7_lanesOf 96 = .ok (.goto 4, 3) := by decide +kernel
theorem dX7_lanesOf_99 : decode cX7_lanesOf 99 = .ok (.lconst 0, 1) := by decide +kernel
theorem dX7_lanesOf_100 : decode cX7_lanesOf 100 = .ok (.lreturn, 1) := by decide +kernel
theorem dX7_lanesOf_101 : decode cX7_lanesOf 101 = .ok (.iload 4, 2) := by decide +kernel
theorem dX7_lanesOf_103 : decode cX7_lanesOf 103 = .ok (.aload_n 0, 1) := by decide +kernel
theorem dX7_lanesOf_104 : decode cX7_lanesOf 104 = .ok (.getfield 15, 3) := by decide +kernel
theorem dX7_lanesOf_107 : decode cX7_lanesOf 107 = .ok (.arraylength, 1) := by decide +kernel
theorem dX7_lanesOf_108 : decode cX7_lanesOf 108 = .ok (.invokestatic 54, 3) := by decide +kernel
theorem dX7_lanesOf_111 : decode cX7_lanesOf 111 = .ok (.ifCond .eq 13, 3) := by decide +kernel
theorem dX7_lanesOf_114 : decode cX7_lanesOf 114 = .ok (.aload_n 0, 1) := by decide +kernel
theorem dX7_lanesOf_115 : decode cX7_lanesOf 115 = .ok (.getfield 15, 3) := by decide +kernel
theorem dX7_lanesOf_118 : decode cX7_lanesOf 118 = .ok (.iload 4, 2) := by decide +kernel
theorem dX7_lanesOf_120 : decode cX7_lanesOf 120 = .ok (.laload, 1) := by decide +kernel
theorem dX7_lanesOf_121 : decode cX7_lanesOf 121 = .ok (.goto 4, 3) := by decide +kernel
theorem dX7_lanesOf_124 : decode cX7_lanesOf 124 = .ok (.lconst 0, 1) := by decide +kernel
theorem dX7_lanesOf_125 : decode cX7_lanesOf 125 = .ok (.lreturn, 1) := by decide +kernel
theorem dX7_lanesOf_126 : decode cX7_lanesOf 126 = .ok (.aload_n 0, 1) := by decide +kernel
theorem dX7_lanesOf_127 : decode cX7_lanesOf 127 = .ok (.iload 5, 2) := by decide +kernel
theorem dX7_lanesOf_129 : decode cX7_lanesOf 129 = .ok (.iload 4, 2) := by decide +kernel
theorem dX7_lanesOf_131 : decode cX7_lanesOf 131 = .ok (.invokevirtual 90, 3) := by decide +kernel
theorem dX7_lanesOf_134 : decode cX7_lanesOf 134 = .ok (.ldc2_w 49, 3) := by decide +kernel
theorem dX7_lanesOf_137 : decode cX7_lanesOf 137 = .ok (.lxor, 1) := by decide +kernel
theorem dX7_lanesOf_138 : decode cX7_lanesOf 138 = .ok (.lreturn, 1) := by decide +kernel
theorem dX7_lanesOf_139 : decode cX7_lanesOf 139 = .ok (.aload_n 0, 1) := by decide +kernel
theorem dX7_lanesOf_140 : decode cX7_lanesOf 140 = .ok (.iload 5, 2) := by decide +kernel
theorem dX7_lanesOf_142 : decode cX7_lanesOf 142 = .ok (.iload 4, 2) := by decide +kernel
theorem dX7_lanesOf_144 : decode cX7_lanesOf 144 = .ok (.invokevirtual 90, 3) := by decide +kernel
theorem dX7_lanesOf_147 : decode cX7_lanesOf 147 = .ok (.aload_n 0, 1) := by decide +kernel
theorem dX7_lanesOf_148 : decode cX7_lanesOf 148 = .ok (.aload_n 1, 1) := by decide +kernel
theorem dX7_lanesOf_149 : decode cX7_lanesOf 149 = .ok (.iload 5, 2) := by decide +kernel
theorem dX7_lanesOf_151 : decode cX7_lanesOf 151 = .ok (.invokevirtual 93, 3) := by decide +kernel
theorem dX7_lanesOf_154 : decode cX7_lanesOf 154 = .ok (.iload 4, 2) := by decide +kernel
theorem dX7_lanesOf_156 : decode cX7_lanesOf 156 = .ok (.invokevirtual 90, 3) := by decide +kernel
theorem dX7_lanesOf_159 : decode cX7_lanesOf 159 = .ok (.land, 1) := by decide +kernel
theorem dX7_lanesOf_160 : decode cX7_lanesOf 160 = .ok (.lreturn, 1) := by decide +kernel
theorem dX7_lanesOf_161 : decode cX7_lanesOf 161 = .ok (.aload_n 0, 1) := by decide +kernel
theorem dX7_lanesOf_162 : decode cX7_lanesOf 162 = .ok (.iload 5, 2) := by decide +kernel
theorem dX7_lanesOf_164 : decode cX7_lanesOf 164 = .ok (.iload 4, 2) := by decide +kernel
theorem dX7_lanesOf_166 : decode cX7_lanesOf 166 = .ok (.invokevirtual 90, 3) := by decide +kernel
theorem dX7_lanesOf_169 : decode cX7_lanesOf 169 = .ok (.aload_n 0, 1) := by decide +kernel
theorem dX7_lanesOf_170 : decode cX7_lanesOf 170 = .ok (.aload_n 1, 1) := by decide +kernel
theorem dX7_lanesOf_171 : decode cX7_lanesOf 171 = .ok (.iload 5, 2) := by decide +kernel
theorem dX7_lanesOf_173 : decode cX7_lanesOf 173 = .ok (.invokevirtual 93, 3) := by decide +kernel
theorem dX7_lanesOf_176 : decode cX7_lanesOf 176 = .ok (.iload 4, 2) := by decide +kernel
theorem dX7_lanesOf_178 : decode cX7_lanesOf 178 = .ok (.invokevirtual 90, 3) := by decide +kernel
theorem dX7_lanesOf_181 : decode cX7_lanesOf 181 = .ok (.lor, 1) := by decide +kernel
theorem dX7_lanesOf_182 : decode cX7_lanesOf 182 = .ok (.lreturn, 1) := by decide +kernel
theorem dX7_lanesOf_183 : decode cX7_lanesOf 183 = .ok (.aload_n 0, 1) := by decide +kernel
theorem dX7_lanesOf_184 : decode cX7_lanesOf 184 = .ok (.iload 5, 2) := by decide +kernel
theorem dX7_lanesOf_186 : decode cX7_lanesOf 186 = .ok (.iload 4, 2) := by decide +kernel
theorem dX7_lanesOf_188 : decode cX7_lanesOf 188 = .ok (.invokevirtual 90, 3) := by decide +kernel
theorem dX7_lanesOf_191 : decode cX7_lanesOf 191 = .ok (.ldc2_w 49, 3) := by decide +kernel
theorem dX7_lanesOf_194 : decode cX7_lanesOf 194 = .ok (.lxor, 1) := by decide +kernel
theorem dX7_lanesOf_195 : decode cX7_lanesOf 195 = .ok (.aload_n 0, 1) := by decide +kernel
theorem dX7_lanesOf_196 : decode cX7_lanesOf 196 = .ok (.aload_n 1, 1) := by decide +kernel
theorem dX7_lanesOf_197 : decode cX7_lanesOf 197 = .ok (.iload 5, 2) := by decide +kernel
theorem dX7_lanesOf_199 : decode cX7_lanesOf 199 = .ok (.invokevirtual 93, 3) := by decide +kernel
theorem dX7_lanesOf_202 : decode cX7_lanesOf 202 = .ok (.iload 4, 2) := by decide +kernel
theorem dX7_lanesOf_204 : decode cX7_lanesOf 204 = .ok (.invokevirtual 90, 3) := by decide +kernel
theorem dX7_lanesOf_207 : decode cX7_lanesOf 207 = .ok (.lor, 1) := by decide +kernel
theorem dX7_lanesOf_208 : decode cX7_lanesOf 208 = .ok (.lreturn, 1) := by decide +kernel
theorem dX7_lanesOf_209 : decode cX7_lanesOf 209 = .ok (.aload_n 0, 1) := by decide +kernel
theorem dX7_lanesOf_210 : decode cX7_lanesOf 210 = .ok (.iload 5, 2) := by decide +kernel
theorem dX7_lanesOf_212 : decode cX7_lanesOf 212 = .ok (.aload_n 2, 1) := by decide +kernel
theorem dX7_lanesOf_213 : decode cX7_lanesOf 213 = .ok (.iload 4, 2) := by decide +kernel
theorem dX7_lanesOf_215 : decode cX7_lanesOf 215 = .ok (.invokevirtual 96, 3) := by decide +kernel
theorem dX7_lanesOf_218 : decode cX7_lanesOf 218 = .ok (.invokevirtual 99, 3) := by decide +kernel
theorem dX7_lanesOf_221 : decode cX7_lanesOf 221 = .ok (.lreturn, 1) := by decide +kernel
theorem dX7_lanesOf_222 : decode cX7_lanesOf 222 = .ok (.aload_n 0, 1) := by decide +kernel
theorem dX7_lanesOf_223 : decode cX7_lanesOf 223 = .ok (.iload 5, 2) := by decide +kernel
theorem dX7_lanesOf_225 : decode cX7_lanesOf 225 = .ok (.aload_n 2, 1) := by decide +kernel
theorem dX7_lanesOf_226 : decode cX7_lanesOf 226 = .ok (.iload 4, 2) := by decide +kernel
theorem dX7_lanesOf_228 : decode cX7_lanesOf 228 = .ok (.invokevirtual 96, 3) := by decide +kernel
theorem dX7_lanesOf_231 : decode cX7_lanesOf 231 = .ok (.invokevirtual 102, 3) := by decide +kernel
theorem dX7_lanesOf_234 : decode cX7_lanesOf 234 = .ok (.lreturn, 1) := by decide +kernel
theorem dX7_inAll_0 : decode cX7_inAll 0 = .ok (.ldc2_w 49, 3) := by decide +kernel
theorem dX7_inAll_3 : decode cX7_inAll 3 = .ok (.lstore_n 3, 1) := by decide +kernel
theorem dX7_inAll_4 : decode cX7_inAll 4 = .ok (.iconst 0, 1) := by decide +kernel
theorem dX7_inAll_5 : decode cX7_inAll 5 = .ok (.istore 5, 2) := by decide +kernel
theorem dX7_inAll_7 : decode cX7_inAll 7 = .ok (.iload 5, 2) := by decide +kernel
theorem dX7_inAll_9 : decode cX7_inAll 9 = .ok (.iconst 4, 1) := by decide +kernel
theorem dX7_inAll_10 : decode cX7_inAll 10 = .ok (.if_icmp .ge 29, 3) := by decide +kernel
theorem dX7_inAll_13 : decode cX7_inAll 13 = .ok (.iload_n 2, 1) := by decide +kernel
theorem dX7_inAll_14 : decode cX7_inAll 14 = .ok (.iload 5, 2) := by decide +kernel
theorem dX7_inAll_16 : decode cX7_inAll 16 = .ok (.invokestatic 27, 3) := by decide +kernel
theorem dX7_inAll_19 : decode cX7_inAll 19 = .ok (.iconst 1, 1) := by decide +kernel
theorem dX7_inAll_20 : decode cX7_inAll 20 = .ok (.if_icmp .ne 13, 3) := by decide +kernel
theorem dX7_inAll_23 : decode cX7_inAll 23 = .ok (.lload_n 3, 1) := by decide +kernel
theorem dX7_inAll_24 : decode cX7_inAll 24 = .ok (.aload_n 0, 1) := by decide +kernel
theorem dX7_inAll_25 : decode cX7_inAll 25 = .ok (.iload_n 1, 1) := by decide +kernel
theorem dX7_inAll_26 : decode cX7_inAll 26 = .ok (.iload 5, 2) := by decide +kernel
theorem dX7_inAll_28 : decode cX7_inAll 28 = .ok (.invokevirtual 90, 3) := by decide +kernel
theorem dX7_inAll_31 : decode cX7_inAll 31 = .ok (.land, 1) := by decide +kernel
theorem dX7_inAll_32 : decode cX7_inAll 32 = .ok (.lstore_n 3, 1) := by decide +kernel
theorem dX7_inAll_33 : decode cX7_inAll 33 = .ok (.iinc 5 1, 3) := by decide +kernel
theorem dX7_inAll_36 : decode cX7_inAll 36 = .ok (.goto (-29), 3) := by decide +kernel
theorem dX7_inAll_39 : decode cX7_inAll 39 = .ok (.lload_n 3, 1) := by decide +kernel
theorem dX7_inAll_40 : decode cX7_inAll 40 = .ok (.lreturn, 1) := by decide +kernel
theorem dX7_inSome_0 : decode cX7_inSome 0 = .ok (.lconst 0, 1) := by decide +kernel
theorem dX7_inSome_1 : decode cX7_inSome 1 = .ok (.lstore_n 3, 1) := by decide +kernel
theorem dX7_inSome_2 : decode cX7_inSome 2 = .ok (.iconst 0, 1) := by decide +kernel
theorem dX7_inSome_3 : decode cX7_inSome 3 = .ok (.istore 5, 2) := by decide +kernel
theorem dX7_inSome_5 : decode cX7_inSome 5 = .ok (.iload 5, 2) := by decide +kernel
theorem dX7_inSome_7 : decode cX7_inSome 7 = .ok (.iconst 4, 1) := by decide +kernel
theorem dX7_inSome_8 : decode cX7_inSome 8 = .ok (.if_icmp .ge 29, 3) := by decide +kernel
theorem dX7_inSome_11 : decode cX7_inSome 11 = .ok (.iload_n 2, 1) := by decide +kernel
theorem dX7_inSome_12 : decode cX7_inSome 12 = .ok (.iload 5, 2) := by decide +kernel
theorem dX7_inSome_14 : decode cX7_inSome 14 = .ok (.invokestatic 27, 3) := by decide +kernel
theorem dX7_inSome_17 : decode cX7_inSome 17 = .ok (.iconst 1, 1) := by decide +kernel
theorem dX7_inSome_18 : decode cX7_inSome 18 = .ok (.if_icmp .ne 13, 3) := by decide +kernel
theorem dX7_inSome_21 : decode cX7_inSome 21 = .ok (.lload_n 3, 1) := by decide +kernel
theorem dX7_inSome_22 : decode cX7_inSome 22 = .ok (.aload_n 0, 1) := by decide +kernel
theorem dX7_inSome_23 : decode cX7_inSome 23 = .ok (.iload_n 1, 1) := by decide +kernel
theorem dX7_inSome_24 : decode cX7_inSome 24 = .ok (.iload 5, 2) := by decide +kernel
