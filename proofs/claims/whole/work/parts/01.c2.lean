theorem dX9_takesMark_4 : decode cX9_takesMark 4 = .ok (.bipush 8, 2) := by decide +kernel
theorem dX9_takesMark_6 : decode cX9_takesMark 6 = .ok (.if_icmp .ne 22, 3) := by decide +kernel
theorem dX9_takesMark_9 : decode cX9_takesMark 9 = .ok (.iload_n 1, 1) := by decide +kernel
theorem dX9_takesMark_10 : decode cX9_takesMark 10 = .ok (.bipush 113, 2) := by decide +kernel
theorem dX9_takesMark_12 : decode cX9_takesMark 12 = .ok (.if_icmp .ne 16, 3) := by decide +kernel
theorem dX9_takesMark_15 : decode cX9_takesMark 15 = .ok (.aload_n 0, 1) := by decide +kernel
theorem dX9_takesMark_16 : decode cX9_takesMark 16 = .ok (.iconst (-1), 1) := by decide +kernel
theorem dX9_takesMark_17 : decode cX9_takesMark 17 = .ok (.putfield 88, 3) := by decide +kernel
theorem dX9_takesMark_20 : decode cX9_takesMark 20 = .ok (.aload_n 0, 1) := by decide +kernel
theorem dX9_takesMark_21 : decode cX9_takesMark 21 = .ok (.bipush 9, 2) := by decide +kernel
theorem dX9_takesMark_23 : decode cX9_takesMark 23 = .ok (.putfield 65, 3) := by decide +kernel
theorem dX9_takesMark_26 : decode cX9_takesMark 26 = .ok (.iconst 1, 1) := by decide +kernel
theorem dX9_takesMark_27 : decode cX9_takesMark 27 = .ok (.ireturn, 1) := by decide +kernel
theorem dX9_takesMark_28 : decode cX9_takesMark 28 = .ok (.iload_n 2, 1) := by decide +kernel
theorem dX9_takesMark_29 : decode cX9_takesMark 29 = .ok (.ifCond .eq 58, 3) := by decide +kernel
theorem dX9_takesMark_32 : decode cX9_takesMark 32 = .ok (.aload_n 0, 1) := by decide +kernel
theorem dX9_takesMark_33 : decode cX9_takesMark 33 = .ok (.iload_n 3, 1) := by decide +kernel
theorem dX9_takesMark_34 : decode cX9_takesMark 34 = .ok (.putfield 88, 3) := by decide +kernel
theorem dX9_takesMark_37 : decode cX9_takesMark 37 = .ok (.aload_n 0, 1) := by decide +kernel
theorem dX9_takesMark_38 : decode cX9_takesMark 38 = .ok (.dup, 1) := by decide +kernel
theorem dX9_takesMark_39 : decode cX9_takesMark 39 = .ok (.getfield 95, 3) := by decide +kernel
theorem dX9_takesMark_42 : decode cX9_takesMark 42 = .ok (.aload_n 0, 1) := by decide +kernel
theorem dX9_takesMark_43 : decode cX9_takesMark 43 = .ok (.getfield 65, 3) := by decide +kernel
theorem dX9_takesMark_46 : decode cX9_takesMark 46 = .ok (.bipush 8, 2) := by decide +kernel
theorem dX9_takesMark_48 : decode cX9_takesMark 48 = .ok (.if_icmp .ne 9, 3) := by decide +kernel
theorem dX9_takesMark_51 : decode cX9_takesMark 51 = .ok (.iconst 1, 1) := by decide +kernel
theorem dX9_takesMark_52 : decode cX9_takesMark 52 = .ok (.iload_n 3, 1) := by decide +kernel
theorem dX9_takesMark_53 : decode cX9_takesMark 53 = .ok (.ishl, 1) := by decide +kernel
theorem dX9_takesMark_54 : decode cX9_takesMark 54 = .ok (.goto 4, 3) := by decide +kernel
theorem dX9_takesMark_57 : decode cX9_takesMark 57 = .ok (.iconst 0, 1) := by decide +kernel
theorem dX9_takesMark_58 : decode cX9_takesMark 58 = .ok (.ior, 1) := by decide +kernel
theorem dX9_takesMark_59 : decode cX9_takesMark 59 = .ok (.putfield 95, 3) := by decide +kernel
theorem dX9_takesMark_62 : decode cX9_takesMark 62 = .ok (.aload_n 0, 1) := by decide +kernel
theorem dX9_takesMark_63 : decode cX9_takesMark 63 = .ok (.dup, 1) := by decide +kernel
theorem dX9_takesMark_64 : decode cX9_takesMark 64 = .ok (.getfield 98, 3) := by decide +kernel
theorem dX9_takesMark_67 : decode cX9_takesMark 67 = .ok (.aload_n 0, 1) := by decide +kernel
theorem dX9_takesMark_68 : decode cX9_takesMark 68 = .ok (.getfield 65, 3) := by decide +kernel
theorem dX9_takesMark_71 : decode cX9_takesMark 71 = .ok (.bipush 9, 2) := by decide +kernel
theorem dX9_takesMark_73 : decode cX9_takesMark 73 = .ok (.if_icmp .ne 9, 3) := by decide +kernel
theorem dX9_takesMark_76 : decode cX9_takesMark 76 = .ok (.iconst 1, 1) := by decide +kernel
theorem dX9_takesMark_77 : decode cX9_takesMark 77 = .ok (.iload_n 3, 1) := by decide +kernel
theorem dX9_takesMark_78 : decode cX9_takesMark 78 = .ok (.ishl, 1) := by decide +kernel
theorem dX9_takesMark_79 : decode cX9_takesMark 79 = .ok (.goto 4, 3) := by decide +kernel
theorem dX9_takesMark_82 : decode cX9_takesMark 82 = .ok (.iconst 0, 1) := by decide +kernel
theorem dX9_takesMark_83 : decode cX9_takesMark 83 = .ok (.ior, 1) := by decide +kernel
theorem dX9_takesMark_84 : decode cX9_takesMark 84 = .ok (.putfield 98, 3) := by decide +kernel
theorem dX9_takesMark_87 : decode cX9_takesMark 87 = .ok (.iload_n 2, 1) := by decide +kernel
theorem dX9_takesMark_88 : decode cX9_takesMark 88 = .ok (.ireturn, 1) := by decide +kernel
theorem dX9_readFrame_0 : decode cX9_readFrame 0 = .ok (.aload_n 0, 1) := by decide +kernel
theorem dX9_readFrame_1 : decode cX9_readFrame 1 = .ok (.iconst 0, 1) := by decide +kernel
theorem dX9_readFrame_2 : decode cX9_readFrame 2 = .ok (.putfield 65, 3) := by decide +kernel
theorem dX9_readFrame_5 : decode cX9_readFrame 5 = .ok (.aload_n 0, 1) := by decide +kernel
theorem dX9_readFrame_6 : decode cX9_readFrame 6 = .ok (.iconst 0, 1) := by decide +kernel
theorem dX9_readFrame_7 : decode cX9_readFrame 7 = .ok (.putfield 68, 3) := by decide +kernel
theorem dX9_readFrame_10 : decode cX9_readFrame 10 = .ok (.aload_n 0, 1) := by decide +kernel
theorem dX9_readFrame_11 : decode cX9_readFrame 11 = .ok (.iconst (-1), 1) := by decide +kernel
theorem dX9_readFrame_12 : decode cX9_readFrame 12 = .ok (.putfield 88, 3) := by decide +kernel
theorem dX9_readFrame_15 : decode cX9_readFrame 15 = .ok (.aload_n 0, 1) := by decide +kernel
theorem dX9_readFrame_16 : decode cX9_readFrame 16 = .ok (.iconst 0, 1) := by decide +kernel
theorem dX9_readFrame_17 : decode cX9_readFrame 17 = .ok (.putfield 95, 3) := by decide +kernel
theorem dX9_readFrame_20 : decode cX9_readFrame 20 = .ok (.aload_n 0, 1) := by decide +kernel
theorem dX9_readFrame_21 : decode cX9_readFrame 21 = .ok (.iconst 0, 1) := by decide +kernel
theorem dX9_readFrame_22 : decode cX9_readFrame 22 = .ok (.putfield 98, 3) := by decide +kernel
theorem dX9_readFrame_25 : decode cX9_readFrame 25 = .ok (.iconst 0, 1) := by decide +kernel
theorem dX9_readFrame_26 : decode cX9_readFrame 26 = .ok (.istore_n 1, 1) := by decide +kernel
theorem dX9_readFrame_27 : decode cX9_readFrame 27 = .ok (.iload_n 1, 1) := by decide +kernel
theorem dX9_readFrame_28 : decode cX9_readFrame 28 = .ok (.bipush 16, 2) := by decide +kernel
theorem dX9_readFrame_30 : decode cX9_readFrame 30 = .ok (.if_icmp .ge 16, 3) := by decide +kernel
theorem dX9_readFrame_33 : decode cX9_readFrame 33 = .ok (.aload_n 0, 1) := by decide +kernel
theorem dX9_readFrame_34 : decode cX9_readFrame 34 = .ok (.getfield 33, 3) := by decide +kernel
theorem dX9_readFrame_37 : decode cX9_readFrame 37 = .ok (.iload_n 1, 1) := by decide +kernel
theorem dX9_readFrame_38 : decode cX9_readFrame 38 = .ok (.iconst 0, 1) := by decide +kernel
theorem dX9_readFrame_39 : decode cX9_readFrame 39 = .ok (.bastore, 1) := by decide +kernel
theorem dX9_readFrame_40 : decode cX9_readFrame 40 = .ok (.iinc 1 1, 3) := by decide +kernel
theorem dX9_readFrame_43 : decode cX9_readFrame 43 = .ok (.goto (-16), 3) := by decide +kernel
theorem dX9_readFrame_46 : decode cX9_readFrame 46 = .ok (.iconst 0, 1) := by decide +kernel
theorem dX9_readFrame_47 : decode cX9_readFrame 47 = .ok (.istore_n 1, 1) := by decide +kernel
theorem dX9_readFrame_48 : decode cX9_readFrame 48 = .ok (.iload_n 1, 1) := by decide +kernel
theorem dX9_readFrame_49 : decode cX9_readFrame 49 = .ok (.aload_n 0, 1) := by decide +kernel
theorem dX9_readFrame_50 : decode cX9_readFrame 50 = .ok (.getfield 61, 3) := by decide +kernel
theorem dX9_readFrame_53 : decode cX9_readFrame 53 = .ok (.if_icmp .ge 22, 3) := by decide +kernel
theorem dX9_readFrame_56 : decode cX9_readFrame 56 = .ok (.aload_n 0, 1) := by decide +kernel
theorem dX9_readFrame_57 : decode cX9_readFrame 57 = .ok (.aload_n 0, 1) := by decide +kernel
theorem dX9_readFrame_58 : decode cX9_readFrame 58 = .ok (.getfield 30, 3) := by decide +kernel
theorem dX9_readFrame_61 : decode cX9_readFrame 61 = .ok (.iload_n 1, 1) := by decide +kernel
theorem dX9_readFrame_62 : decode cX9_readFrame 62 = .ok (.baload, 1) := by decide +kernel
theorem dX9_readFrame_63 : decode cX9_readFrame 63 = .ok (.invokevirtual 101, 3) := by decide +kernel
theorem dX9_readFrame_66 : decode cX9_readFrame 66 = .ok (.ifCond .eq 9, 3) := by decide +kernel
theorem dX9_readFrame_69 : decode cX9_readFrame 69 = .ok (.iinc 1 1, 3) := by decide +kernel
theorem dX9_readFrame_72 : decode cX9_readFrame 72 = .ok (.goto (-24), 3) := by decide +kernel
theorem dX9_readFrame_75 : decode cX9_readFrame 75 = .ok (.iload_n 1, 1) := by decide +kernel
theorem dX9_readFrame_76 : decode cX9_readFrame 76 = .ok (.ireturn, 1) := by decide +kernel
theorem dX9_partsOf_0 : decode cX9_partsOf 0 = .ok (.iload_n 0, 1) := by decide +kernel
theorem dX9_partsOf_1 : decode cX9_partsOf 1 = .ok (.lookupswitch 81 #[(38, 79), (62, 79), (77, 77), (78, 77), (112, 75), (113, 75), (124, 79), (126, 77)], 75) := by decide +kernel
theorem dX9_partsOf_76 : decode cX9_partsOf 76 = .ok (.iconst 0, 1) := by decide +kernel
theorem dX9_partsOf_77 : decode cX9_partsOf 77 = .ok (.ireturn, 1) := by decide +kernel
theorem dX9_partsOf_78 : decode cX9_partsOf 78 = .ok (.iconst 1, 1) := by decide +kernel
theorem dX9_partsOf_79 : decode cX9_partsOf 79 = .ok (.ireturn, 1) := by decide +kernel
theorem dX9_partsOf_80 : decode cX9_partsOf 80 = .ok (.iconst 2, 1) := by decide +kernel
theorem dX9_partsOf_81 : decode cX9_partsOf 81 = .ok (.ireturn, 1) := by decide +kernel
theorem dX9_partsOf_82 : decode cX9_partsOf 82 = .ok (.iconst (-1), 1) := by decide +kernel
theorem dX9_partsOf_83 : decode cX9_partsOf 83 = .ok (.ireturn, 1) := by decide +kernel
theorem dX9_readFormula_0 : decode cX9_readFormula 0 = .ok (.aload_n 0, 1) := by decide +kernel
theorem dX9_readFormula_1 : decode cX9_readFormula 1 = .ok (.iconst 1, 1) := by decide +kernel
theorem dX9_readFormula_2 : decode cX9_readFormula 2 = .ok (.putfield 105, 3) := by decide +kernel
theorem dX9_readFormula_5 : decode cX9_readFormula 5 = .ok (.iconst 0, 1) := by decide +kernel
theorem dX9_readFormula_6 : decode cX9_readFormula 6 = .ok (.istore_n 1, 1) := by decide +kernel
theorem dX9_readFormula_7 : decode cX9_readFormula 7 = .ok (.iconst 1, 1) := by decide +kernel
theorem dX9_readFormula_8 : decode cX9_readFormula 8 = .ok (.istore_n 2, 1) := by decide +kernel
theorem dX9_readFormula_9 : decode cX9_readFormula 9 = .ok (.iload_n 1, 1) := by decide +kernel
theorem dX9_readFormula_10 : decode cX9_readFormula 10 = .ok (.aload_n 0, 1) := by decide +kernel
theorem dX9_readFormula_11 : decode cX9_readFormula 11 = .ok (.getfield 61, 3) := by decide +kernel
theorem dX9_readFormula_14 : decode cX9_readFormula 14 = .ok (.if_icmp .ge 70, 3) := by decide +kernel
theorem dX9_readFormula_17 : decode cX9_readFormula 17 = .ok (.iload_n 2, 1) := by decide +kernel
theorem dX9_readFormula_18 : decode cX9_readFormula 18 = .ok (.ifCond .eq 66, 3) := by decide +kernel
theorem dX9_readFormula_21 : decode cX9_readFormula 21 = .ok (.aload_n 0, 1) := by decide +kernel
theorem dX9_readFormula_22 : decode cX9_readFormula 22 = .ok (.getfield 30, 3) := by decide +kernel
theorem dX9_readFormula_25 : decode cX9_readFormula 25 = .ok (.iload_n 1, 1) := by decide +kernel
theorem dX9_readFormula_26 : decode cX9_readFormula 26 = .ok (.baload, 1) := by decide +kernel
theorem dX9_readFormula_27 : decode cX9_readFormula 27 = .ok (.invokestatic 108, 3) := by decide +kernel
theorem dX9_readFormula_30 : decode cX9_readFormula 30 = .ok (.istore_n 3, 1) := by decide +kernel
theorem dX9_readFormula_31 : decode cX9_readFormula 31 = .ok (.aload_n 0, 1) := by decide +kernel
theorem dX9_readFormula_32 : decode cX9_readFormula 32 = .ok (.getfield 105, 3) := by decide +kernel
theorem dX9_readFormula_35 : decode cX9_readFormula 35 = .ok (.ifCond .le 25, 3) := by decide +kernel
theorem dX9_readFormula_38 : decode cX9_readFormula 38 = .ok (.iload_n 3, 1) := by decide +kernel
theorem dX9_readFormula_39 : decode cX9_readFormula 39 = .ok (.iconst (-1), 1) := by decide +kernel
theorem dX9_readFormula_40 : decode cX9_readFormula 40 = .ok (.if_icmp .eq 20, 3) := by decide +kernel
theorem dX9_readFormula_43 : decode cX9_readFormula 43 = .ok (.iload_n 1, 1) := by decide +kernel
theorem dX9_readFormula_44 : decode cX9_readFormula 44 = .ok (.aload_n 0, 1) := by decide +kernel
theorem dX9_readFormula_45 : decode cX9_readFormula 45 = .ok (.getfield 105, 3) := by decide +kernel
theorem dX9_readFormula_48 : decode cX9_readFormula 48 = .ok (.iadd, 1) := by decide +kernel
theorem dX9_readFormula_49 : decode cX9_readFormula 49 = .ok (.iload_n 3, 1) := by decide +kernel
theorem dX9_readFormula_50 : decode cX9_readFormula 50 = .ok (.iadd, 1) := by decide +kernel
theorem dX9_readFormula_51 : decode cX9_readFormula 51 = .ok (.bipush 16, 2) := by decide +kernel
theorem dX9_readFormula_53 : decode cX9_readFormula 53 = .ok (.if_icmp .gt 7, 3) := by decide +kernel
theorem dX9_readFormula_56 : decode cX9_readFormula 56 = .ok (.iconst 1, 1) := by decide +kernel
theorem dX9_readFormula_57 : decode cX9_readFormula 57 = .ok (.goto 4, 3) := by decide +kernel
theorem dX9_readFormula_60 : decode cX9_readFormula 60 = .ok (.iconst 0, 1) := by decide +kernel
theorem dX9_readFormula_61 : decode cX9_readFormula 61 = .ok (.istore_n 2, 1) := by decide +kernel
theorem dX9_readFormula_62 : decode cX9_readFormula 62 = .ok (.iload_n 2, 1) := by decide +kernel
theorem dX9_readFormula_63 : decode cX9_readFormula 63 = .ok (.ifCond .eq 18, 3) := by decide +kernel
theorem dX9_readFormula_66 : decode cX9_readFormula 66 = .ok (.aload_n 0, 1) := by decide +kernel
theorem dX9_readFormula_67 : decode cX9_readFormula 67 = .ok (.dup, 1) := by decide +kernel
theorem dX9_readFormula_68 : decode cX9_readFormula 68 = .ok (.getfield 105, 3) := by decide +kernel
theorem dX9_readFormula_71 : decode cX9_readFormula 71 = .ok (.iload_n 3, 1) := by decide +kernel
theorem dX9_readFormula_72 : decode cX9_readFormula 72 = .ok (.iconst 1, 1) := by decide +kernel
theorem dX9_readFormula_73 : decode cX9_readFormula 73 = .ok (.isub, 1) := by decide +kernel
theorem dX9_readFormula_74 : decode cX9_readFormula 74 = .ok (.iadd, 1) := by decide +kernel
theorem dX9_readFormula_75 : decode cX9_readFormula 75 = .ok (.putfield 105, 3) := by decide +kernel
theorem dX9_readFormula_78 : decode cX9_readFormula 78 = .ok (.iinc 1 1, 3) := by decide +kernel
theorem dX9_readFormula_81 : decode cX9_readFormula 81 = .ok (.goto (-72), 3) := by decide +kernel
theorem dX9_readFormula_84 : decode cX9_readFormula 84 = .ok (.iload_n 1, 1) := by decide +kernel
theorem dX9_readFormula_85 : decode cX9_readFormula 85 = .ok (.ireturn, 1) := by decide +kernel
theorem dX9_fault_0 : decode cX9_fault 0 = .ok (.iload_n 1, 1) := by decide +kernel
theorem dX9_fault_1 : decode cX9_fault 1 = .ok (.iconst 0, 1) := by decide +kernel
theorem dX9_fault_2 : decode cX9_fault 2 = .ok (.iconst 1, 1) := by decide +kernel
theorem dX9_fault_3 : decode cX9_fault 3 = .ok (.invokestatic 57, 3) := by decide +kernel
theorem dX9_fault_6 : decode cX9_fault 6 = .ok (.ifCond .ne 8, 3) := by decide +kernel
theorem dX9_fault_9 : decode cX9_fault 9 = .ok (.bipush (-102), 2) := by decide +kernel
theorem dX9_fault_11 : decode cX9_fault 11 = .ok (.goto 18, 3) := by decide +kernel
theorem dX9_fault_14 : decode cX9_fault 14 = .ok (.iload_n 1, 1) := by decide +kernel
theorem dX9_fault_15 : decode cX9_fault 15 = .ok (.ifCond .ne 10, 3) := by decide +kernel
theorem dX9_fault_18 : decode cX9_fault 18 = .ok (.aload_n 0, 1) := by decide +kernel
theorem dX9_fault_19 : decode cX9_fault 19 = .ok (.invokevirtual 111, 3) := by decide +kernel
theorem dX9_fault_22 : decode cX9_fault 22 = .ok (.goto 7, 3) := by decide +kernel
theorem dX9_fault_25 : decode cX9_fault 25 = .ok (.aload_n 0, 1) := by decide +kernel
theorem dX9_fault_26 : decode cX9_fault 26 = .ok (.invokevirtual 115, 3) := by decide +kernel
theorem dX9_fault_29 : decode cX9_fault 29 = .ok (.ireturn, 1) := by decide +kernel
theorem dX9_frame_0 : decode cX9_frame 0 = .ok (.aload_n 0, 1) := by decide +kernel
theorem dX9_frame_1 : decode cX9_frame 1 = .ok (.invokevirtual 111, 3) := by decide +kernel
theorem dX9_frame_4 : decode cX9_frame 4 = .ok (.aload_n 0, 1) := by decide +kernel
theorem dX9_frame_5 : decode cX9_frame 5 = .ok (.getfield 61, 3) := by decide +kernel
theorem dX9_frame_8 : decode cX9_frame 8 = .ok (.if_icmp .lt 12, 3) := by decide +kernel
theorem dX9_frame_11 : decode cX9_frame 11 = .ok (.aload_n 0, 1) := by decide +kernel
theorem dX9_frame_12 : decode cX9_frame 12 = .ok (.getfield 65, 3) := by decide +kernel
theorem dX9_frame_15 : decode cX9_frame 15 = .ok (.bipush 9, 2) := by decide +kernel
theorem dX9_frame_17 : decode cX9_frame 17 = .ok (.if_icmp .eq 6, 3) := by decide +kernel
theorem dX9_frame_20 : decode cX9_frame 20 = .ok (.bipush (-103), 2) := by decide +kernel
theorem dX9_frame_22 : decode cX9_frame 22 = .ok (.ireturn, 1) := by decide +kernel
theorem dX9_frame_23 : decode cX9_frame 23 = .ok (.aload_n 0, 1) := by decide +kernel
theorem dX9_frame_24 : decode cX9_frame 24 = .ok (.aload_n 0, 1) := by decide +kernel
theorem dX9_frame_25 : decode cX9_frame 25 = .ok (.getfield 75, 3) := by decide +kernel
theorem dX9_frame_28 : decode cX9_frame 28 = .ok (.putfield 118, 3) := by decide +kernel
theorem dX9_frame_31 : decode cX9_frame 31 = .ok (.aload_n 0, 1) := by decide +kernel
theorem dX9_frame_32 : decode cX9_frame 32 = .ok (.aload_n 0, 1) := by decide +kernel
theorem dX9_frame_33 : decode cX9_frame 33 = .ok (.getfield 68, 3) := by decide +kernel
theorem dX9_frame_36 : decode cX9_frame 36 = .ok (.putfield 121, 3) := by decide +kernel
theorem dX9_frame_39 : decode cX9_frame 39 = .ok (.iconst 0, 1) := by decide +kernel
theorem dX9_frame_40 : decode cX9_frame 40 = .ok (.istore_n 1, 1) := by decide +kernel
theorem dX9_frame_41 : decode cX9_frame 41 = .ok (.iload_n 1, 1) := by decide +kernel
theorem dX9_frame_42 : decode cX9_frame 42 = .ok (.bipush 16, 2) := by decide +kernel
theorem dX9_frame_44 : decode cX9_frame 44 = .ok (.if_icmp .ge 21, 3) := by decide +kernel
theorem dX9_frame_47 : decode cX9_frame 47 = .ok (.aload_n 0, 1) := by decide +kernel
theorem dX9_frame_48 : decode cX9_frame 48 = .ok (.getfield 7, 3) := by decide +kernel
theorem dX9_frame_51 : decode cX9_frame 51 = .ok (.iload_n 1, 1) := by decide +kernel
theorem dX9_frame_52 : decode cX9_frame 52 = .ok (.aload_n 0, 1) := by decide +kernel
theorem dX9_frame_53 : decode cX9_frame 53 = .ok (.getfield 33, 3) := by decide +kernel
theorem dX9_frame_56 : decode cX9_frame 56 = .ok (.iload_n 1, 1) := by decide +kernel
theorem dX9_frame_57 : decode cX9_frame 57 = .ok (.baload, 1) := by decide +kernel
theorem dX9_frame_58 : decode cX9_frame 58 = .ok (.bastore, 1) := by decide +kernel
theorem dX9_frame_59 : decode cX9_frame 59 = .ok (.iinc 1 1, 3) := by decide +kernel
theorem dX9_frame_62 : decode cX9_frame 62 = .ok (.goto (-21), 3) := by decide +kernel
theorem dX9_frame_65 : decode cX9_frame 65 = .ok (.iconst 0, 1) := by decide +kernel
theorem dX9_frame_66 : decode cX9_frame 66 = .ok (.istore_n 1, 1) := by decide +kernel
theorem dX9_frame_67 : decode cX9_frame 67 = .ok (.iload_n 1, 1) := by decide +kernel
theorem dX9_frame_68 : decode cX9_frame 68 = .ok (.iconst 4, 1) := by decide +kernel
theorem dX9_frame_69 : decode cX9_frame 69 = .ok (.if_icmp .ge 34, 3) := by decide +kernel
theorem dX9_frame_72 : decode cX9_frame 72 = .ok (.aload_n 0, 1) := by decide +kernel
theorem dX9_frame_73 : decode cX9_frame 73 = .ok (.getfield 13, 3) := by decide +kernel
theorem dX9_frame_76 : decode cX9_frame 76 = .ok (.iload_n 1, 1) := by decide +kernel
theorem dX9_frame_77 : decode cX9_frame 77 = .ok (.aload_n 0, 1) := by decide +kernel
theorem dX9_frame_78 : decode cX9_frame 78 = .ok (.getfield 95, 3) := by decide +kernel
theorem dX9_frame_81 : decode cX9_frame 81 = .ok (.iload_n 1, 1) := by decide +kernel
theorem dX9_frame_82 : decode cX9_frame 82 = .ok (.ishr, 1) := by decide +kernel
theorem dX9_frame_83 : decode cX9_frame 83 = .ok (.iconst 1, 1) := by decide +kernel
theorem dX9_frame_84 : decode cX9_frame 84 = .ok (.iand, 1) := by decide +kernel
theorem dX9_frame_85 : decode cX9_frame 85 = .ok (.iconst 2, 1) := by decide +kernel
theorem dX9_frame_86 : decode cX9_frame 86 = .ok (.aload_n 0, 1) := by decide +kernel
theorem dX9_frame_87 : decode cX9_frame 87 = .ok (.getfield 98, 3) := by decide +kernel
theorem dX9_frame_90 : decode cX9_frame 90 = .ok (.iload_n 1, 1) := by decide +kernel
theorem dX9_frame_91 : decode cX9_frame 91 = .ok (.ishr, 1) := by decide +kernel
theorem dX9_frame_92 : decode cX9_frame 92 = .ok (.iconst 1, 1) := by decide +kernel
theorem dX9_frame_93 : decode cX9_frame 93 = .ok (.iand, 1) := by decide +kernel
theorem dX9_frame_94 : decode cX9_frame 94 = .ok (.imul, 1) := by decide +kernel
theorem dX9_frame_95 : decode cX9_frame 95 = .ok (.iadd, 1) := by decide +kernel
theorem dX9_frame_96 : decode cX9_frame 96 = .ok (.iastore, 1) := by decide +kernel
theorem dX9_frame_97 : decode cX9_frame 97 = .ok (.iinc 1 1, 3) := by decide +kernel
theorem dX9_frame_100 : decode cX9_frame 100 = .ok (.goto (-33), 3) := by decide +kernel
theorem dX9_frame_103 : decode cX9_frame 103 = .ok (.aload_n 0, 1) := by decide +kernel
theorem dX9_frame_104 : decode cX9_frame 104 = .ok (.dup, 1) := by decide +kernel
theorem dX9_frame_105 : decode cX9_frame 105 = .ok (.getfield 124, 3) := by decide +kernel
theorem dX9_frame_108 : decode cX9_frame 108 = .ok (.iconst 1, 1) := by decide +kernel
theorem dX9_frame_109 : decode cX9_frame 109 = .ok (.iadd, 1) := by decide +kernel
theorem dX9_frame_110 : decode cX9_frame 110 = .ok (.putfield 124, 3) := by decide +kernel
theorem dX9_frame_113 : decode cX9_frame 113 = .ok (.aload_n 0, 1) := by decide +kernel
theorem dX9_frame_114 : decode cX9_frame 114 = .ok (.iconst 0, 1) := by decide +kernel
theorem dX9_frame_115 : decode cX9_frame 115 = .ok (.putfield 127, 3) := by decide +kernel
theorem dX9_frame_118 : decode cX9_frame 118 = .ok (.aload_n 0, 1) := by decide +kernel
theorem dX9_frame_119 : decode cX9_frame 119 = .ok (.iconst 0, 1) := by decide +kernel
theorem dX9_frame_120 : decode cX9_frame 120 = .ok (.putfield 61, 3) := by decide +kernel
theorem dX9_frame_123 : decode cX9_frame 123 = .ok (.aload_n 0, 1) := by decide +kernel
theorem dX9_frame_124 : decode cX9_frame 124 = .ok (.getfield 121, 3) := by decide +kernel
theorem dX9_frame_127 : decode cX9_frame 127 = .ok (.ireturn, 1) := by decide +kernel
theorem dX9_formula_0 : decode cX9_formula 0 = .ok (.aload_n 0, 1) := by decide +kernel
theorem dX9_formula_1 : decode cX9_formula 1 = .ok (.invokevirtual 115, 3) := by decide +kernel
theorem dX9_formula_4 : decode cX9_formula 4 = .ok (.aload_n 0, 1) := by decide +kernel
theorem dX9_formula_5 : decode cX9_formula 5 = .ok (.getfield 61, 3) := by decide +kernel
theorem dX9_formula_8 : decode cX9_formula 8 = .ok (.if_icmp .lt 10, 3) := by decide +kernel
theorem dX9_formula_11 : decode cX9_formula 11 = .ok (.aload_n 0, 1) := by decide +kernel
theorem dX9_formula_12 : decode cX9_formula 12 = .ok (.getfield 105, 3) := by decide +kernel
theorem dX9_formula_15 : decode cX9_formula 15 = .ok (.ifCond .eq 6, 3) := by decide +kernel
theorem dX9_formula_18 : decode cX9_formula 18 = .ok (.bipush (-103), 2) := by decide +kernel
theorem dX9_formula_20 : decode cX9_formula 20 = .ok (.ireturn, 1) := by decide +kernel
theorem dX9_formula_21 : decode cX9_formula 21 = .ok (.aload_n 0, 1) := by decide +kernel
theorem dX9_formula_22 : decode cX9_formula 22 = .ok (.aload_n 0, 1) := by decide +kernel
theorem dX9_formula_23 : decode cX9_formula 23 = .ok (.getfield 61, 3) := by decide +kernel
theorem dX9_formula_26 : decode cX9_formula 26 = .ok (.putfield 130, 3) := by decide +kernel
theorem dX9_formula_29 : decode cX9_formula 29 = .ok (.aload_n 0, 1) := by decide +kernel
theorem dX9_formula_30 : decode cX9_formula 30 = .ok (.getfield 130, 3) := by decide +kernel
theorem dX9_formula_33 : decode cX9_formula 33 = .ok (.iconst 1, 1) := by decide +kernel
theorem dX9_formula_34 : decode cX9_formula 34 = .ok (.isub, 1) := by decide +kernel
theorem dX9_formula_35 : decode cX9_formula 35 = .ok (.istore_n 1, 1) := by decide +kernel
theorem dX9_formula_36 : decode cX9_formula 36 = .ok (.iload_n 1, 1) := by decide +kernel
theorem dX9_formula_37 : decode cX9_formula 37 = .ok (.ifCond .lt 64, 3) := by decide +kernel
theorem dX9_formula_40 : decode cX9_formula 40 = .ok (.aload_n 0, 1) := by decide +kernel
theorem dX9_formula_41 : decode cX9_formula 41 = .ok (.getfield 17, 3) := by decide +kernel
theorem dX9_formula_44 : decode cX9_formula 44 = .ok (.iload_n 1, 1) := by decide +kernel
theorem dX9_formula_45 : decode cX9_formula 45 = .ok (.aload_n 0, 1) := by decide +kernel
theorem dX9_formula_46 : decode cX9_formula 46 = .ok (.getfield 30, 3) := by decide +kernel
theorem dX9_formula_49 : decode cX9_formula 49 = .ok (.iload_n 1, 1) := by decide +kernel
theorem dX9_formula_50 : decode cX9_formula 50 = .ok (.baload, 1) := by decide +kernel
theorem dX9_formula_51 : decode cX9_formula 51 = .ok (.bastore, 1) := by decide +kernel
theorem dX9_formula_52 : decode cX9_formula 52 = .ok (.aload_n 0, 1) := by decide +kernel
theorem dX9_formula_53 : decode cX9_formula 53 = .ok (.getfield 30, 3) := by decide +kernel
theorem dX9_formula_56 : decode cX9_formula 56 = .ok (.iload_n 1, 1) := by decide +kernel
theorem dX9_formula_57 : decode cX9_formula 57 = .ok (.baload, 1) := by decide +kernel
theorem dX9_formula_58 : decode cX9_formula 58 = .ok (.invokestatic 108, 3) := by decide +kernel
theorem dX9_formula_61 : decode cX9_formula 61 = .ok (.istore_n 2, 1) := by decide +kernel
theorem dX9_formula_62 : decode cX9_formula 62 = .ok (.iload_n 1, 1) := by decide +kernel
theorem dX9_formula_63 : decode cX9_formula 63 = .ok (.iconst 1, 1) := by decide +kernel
theorem dX9_formula_64 : decode cX9_formula 64 = .ok (.iadd, 1) := by decide +kernel
theorem dX9_formula_65 : decode cX9_formula 65 = .ok (.istore_n 3, 1) := by decide +kernel
theorem dX9_formula_66 : decode cX9_formula 66 = .ok (.iconst 0, 1) := by decide +kernel
theorem dX9_formula_67 : decode cX9_formula 67 = .ok (.istore 4, 2) := by decide +kernel
theorem dX9_formula_69 : decode cX9_formula 69 = .ok (.iload 4, 2) := by decide +kernel
theorem dX9_formula_71 : decode cX9_formula 71 = .ok (.iload_n 2, 1) := by decide +kernel
theorem dX9_formula_72 : decode cX9_formula 72 = .ok (.if_icmp .ge 16, 3) := by decide +kernel
theorem dX9_formula_75 : decode cX9_formula 75 = .ok (.aload_n 0, 1) := by decide +kernel
theorem dX9_formula_76 : decode cX9_formula 76 = .ok (.getfield 21, 3) := by decide +kernel
theorem dX9_formula_79 : decode cX9_formula 79 = .ok (.iload_n 3, 1) := by decide +kernel
theorem dX9_formula_80 : decode cX9_formula 80 = .ok (.iaload, 1) := by decide +kernel
theorem dX9_formula_81 : decode cX9_formula 81 = .ok (.istore_n 3, 1) := by decide +kernel
theorem dX9_formula_82 : decode cX9_formula 82 = .ok (.iinc 4 1, 3) := by decide +kernel
theorem dX9_formula_85 : decode cX9_formula 85 = .ok (.goto (-16), 3) := by decide +kernel
theorem dX9_formula_88 : decode cX9_formula 88 = .ok (.aload_n 0, 1) := by decide +kernel
theorem dX9_formula_89 : decode cX9_formula 89 = .ok (.getfield 21, 3) := by decide +kernel
theorem dX9_formula_92 : decode cX9_formula 92 = .ok (.iload_n 1, 1) := by decide +kernel
theorem dX9_formula_93 : decode cX9_formula 93 = .ok (.iload_n 3, 1) := by decide +kernel
theorem dX9_formula_94 : decode cX9_formula 94 = .ok (.iastore, 1) := by decide +kernel
theorem dX9_formula_95 : decode cX9_formula 95 = .ok (.iinc 1 (-1), 3) := by decide +kernel
theorem dX9_formula_98 : decode cX9_formula 98 = .ok (.goto (-62), 3) := by decide +kernel
theorem dX9_formula_101 : decode cX9_formula 101 = .ok (.aload_n 0, 1) := by decide +kernel
theorem dX9_formula_102 : decode cX9_formula 102 = .ok (.dup, 1) := by decide +kernel
theorem dX9_formula_103 : decode cX9_formula 103 = .ok (.getfield 133, 3) := by decide +kernel
theorem dX9_formula_106 : decode cX9_formula 106 = .ok (.iconst 1, 1) := by decide +kernel
theorem dX9_formula_107 : decode cX9_formula 107 = .ok (.iadd, 1) := by decide +kernel
theorem dX9_formula_108 : decode cX9_formula 108 = .ok (.putfield 133, 3) := by decide +kernel
theorem dX9_formula_111 : decode cX9_formula 111 = .ok (.aload_n 0, 1) := by decide +kernel
theorem dX9_formula_112 : decode cX9_formula 112 = .ok (.iconst 0, 1) := by decide +kernel
theorem dX9_formula_113 : decode cX9_formula 113 = .ok (.putfield 61, 3) := by decide +kernel
theorem dX9_formula_116 : decode cX9_formula 116 = .ok (.aload_n 0, 1) := by decide +kernel
theorem dX9_formula_117 : decode cX9_formula 117 = .ok (.getfield 130, 3) := by decide +kernel
theorem dX9_formula_120 : decode cX9_formula 120 = .ok (.ireturn, 1) := by decide +kernel
theorem dX9_isFrame_0 : decode cX9_isFrame 0 = .ok (.aload_n 0, 1) := by decide +kernel
theorem dX9_isFrame_1 : decode cX9_isFrame 1 = .ok (.getfield 121, 3) := by decide +kernel
theorem dX9_isFrame_4 : decode cX9_isFrame 4 = .ok (.ifCond .le 7, 3) := by decide +kernel
theorem dX9_isFrame_7 : decode cX9_isFrame 7 = .ok (.iconst 1, 1) := by decide +kernel
theorem dX9_isFrame_8 : decode cX9_isFrame 8 = .ok (.goto 4, 3) := by decide +kernel
theorem dX9_isFrame_11 : decode cX9_isFrame 11 = .ok (.iconst 0, 1) := by decide +kernel
theorem dX9_isFrame_12 : decode cX9_isFrame 12 = .ok (.ireturn, 1) := by decide +kernel
theorem dX9_isFormula_0 : decode cX9_isFormula 0 = .ok (.aload_n 0, 1) := by decide +kernel
theorem dX9_isFormula_1 : decode cX9_isFormula 1 = .ok (.getfield 130, 3) := by decide +kernel
theorem dX9_isFormula_4 : decode cX9_isFormula 4 = .ok (.ifCond .le 7, 3) := by decide +kernel
theorem dX9_isFormula_7 : decode cX9_isFormula 7 = .ok (.iconst 1, 1) := by decide +kernel
theorem dX9_isFormula_8 : decode cX9_isFormula 8 = .ok (.goto 4, 3) := by decide +kernel
theorem dX9_isFormula_11 : decode cX9_isFormula 11 = .ok (.iconst 0, 1) := by decide +kernel
theorem dX9_isFormula_12 : decode cX9_isFormula 12 = .ok (.ireturn, 1) := by decide +kernel
theorem dX9_isWorld_0 : decode cX9_isWorld 0 = .ok (.iload_n 1, 1) := by decide +kernel
theorem dX9_isWorld_1 : decode cX9_isWorld 1 = .ok (.iconst 0, 1) := by decide +kernel
theorem dX9_isWorld_2 : decode cX9_isWorld 2 = .ok (.aload_n 0, 1) := by decide +kernel
theorem dX9_isWorld_3 : decode cX9_isWorld 3 = .ok (.getfield 121, 3) := by decide +kernel
theorem dX9_isWorld_6 : decode cX9_isWorld 6 = .ok (.iconst 1, 1) := by decide +kernel
theorem dX9_isWorld_7 : decode cX9_isWorld 7 = .ok (.isub, 1) := by decide +kernel
theorem dX9_isWorld_8 : decode cX9_isWorld 8 = .ok (.invokestatic 57, 3) := by decide +kernel
theorem dX9_isWorld_11 : decode cX9_isWorld 11 = .ok (.ireturn, 1) := by decide +kernel
theorem dX9_isKind_0 : decode cX9_isKind 0 = .ok (.iload_n 0, 1) := by decide +kernel
theorem dX9_isKind_1 : decode cX9_isKind 1 = .ok (.iconst 0, 1) := by decide +kernel
theorem dX9_isKind_2 : decode cX9_isKind 2 = .ok (.iconst 4, 1) := by decide +kernel
theorem dX9_isKind_3 : decode cX9_isKind 3 = .ok (.invokestatic 57, 3) := by decide +kernel
theorem dX9_isKind_6 : decode cX9_isKind 6 = .ok (.ireturn, 1) := by decide +kernel
theorem dX9_layFrame_0 : decode cX9_layFrame 0 = .ok (.aload_n 0, 1) := by decide +kernel
theorem dX9_layFrame_1 : decode cX9_layFrame 1 = .ok (.aload_n 0, 1) := by decide +kernel
theorem dX9_layFrame_2 : decode cX9_layFrame 2 = .ok (.getfield 121, 3) := by decide +kernel
theorem dX9_layFrame_5 : decode cX9_layFrame 5 = .ok (.putfield 136, 3) := by decide +kernel
theorem dX9_layFrame_8 : decode cX9_layFrame 8 = .ok (.aload_n 0, 1) := by decide +kernel
theorem dX9_layFrame_9 : decode cX9_layFrame 9 = .ok (.iconst 0, 1) := by decide +kernel
theorem dX9_layFrame_10 : decode cX9_layFrame 10 = .ok (.putfield 139, 3) := by decide +kernel
theorem dX9_layFrame_13 : decode cX9_layFrame 13 = .ok (.aload_n 0, 1) := by decide +kernel
theorem dX9_layFrame_14 : decode cX9_layFrame 14 = .ok (.iconst 0, 1) := by decide +kernel
theorem dX9_layFrame_15 : decode cX9_layFrame 15 = .ok (.putfield 142, 3) := by decide +kernel
theorem dX9_layFrame_18 : decode cX9_layFrame 18 = .ok (.iconst 0, 1) := by decide +kernel
theorem dX9_layFrame_19 : decode cX9_layFrame 19 = .ok (.istore_n 1, 1) := by decide +kernel
theorem dX9_layFrame_20 : decode cX9_layFrame 20 = .ok (.iload_n 1, 1) := by decide +kernel
theorem dX9_layFrame_21 : decode cX9_layFrame 21 = .ok (.aload_n 0, 1) := by decide +kernel
theorem dX9_layFrame_22 : decode cX9_layFrame 22 = .ok (.getfield 121, 3) := by decide +kernel
theorem dX9_layFrame_25 : decode cX9_layFrame 25 = .ok (.if_icmp .ge 99, 3) := by decide +kernel
theorem dX9_layFrame_28 : decode cX9_layFrame 28 = .ok (.aload_n 0, 1) := by decide +kernel
theorem dX9_layFrame_29 : decode cX9_layFrame 29 = .ok (.getfield 36, 3) := by decide +kernel
theorem dX9_layFrame_32 : decode cX9_layFrame 32 = .ok (.iload_n 1, 1) := by decide +kernel
theorem dX9_layFrame_33 : decode cX9_layFrame 33 = .ok (.iconst 0, 1) := by decide +kernel
theorem dX9_layFrame_34 : decode cX9_layFrame 34 = .ok (.iastore, 1) := by decide +kernel
theorem dX9_layFrame_35 : decode cX9_layFrame 35 = .ok (.iconst 0, 1) := by decide +kernel
theorem dX9_layFrame_36 : decode cX9_layFrame 36 = .ok (.istore_n 2, 1) := by decide +kernel
theorem dX9_layFrame_37 : decode cX9_layFrame 37 = .ok (.iload_n 2, 1) := by decide +kernel
theorem dX9_layFrame_38 : decode cX9_layFrame 38 = .ok (.aload_n 0, 1) := by decide +kernel
theorem dX9_layFrame_39 : decode cX9_layFrame 39 = .ok (.getfield 121, 3) := by decide +kernel
theorem dX9_layFrame_42 : decode cX9_layFrame 42 = .ok (.if_icmp .ge 38, 3) := by decide +kernel
theorem dX9_layFrame_45 : decode cX9_layFrame 45 = .ok (.aload_n 0, 1) := by decide +kernel
theorem dX9_layFrame_46 : decode cX9_layFrame 46 = .ok (.getfield 36, 3) := by decide +kernel
theorem dX9_layFrame_49 : decode cX9_layFrame 49 = .ok (.iload_n 1, 1) := by decide +kernel
theorem dX9_layFrame_50 : decode cX9_layFrame 50 = .ok (.dup2, 1) := by decide +kernel
theorem dX9_layFrame_51 : decode cX9_layFrame 51 = .ok (.iaload, 1) := by decide +kernel
theorem dX9_layFrame_52 : decode cX9_layFrame 52 = .ok (.aload_n 0, 1) := by decide +kernel
theorem dX9_layFrame_53 : decode cX9_layFrame 53 = .ok (.getfield 7, 3) := by decide +kernel
theorem dX9_layFrame_56 : decode cX9_layFrame 56 = .ok (.iconst 4, 1) := by decide +kernel
theorem dX9_layFrame_57 : decode cX9_layFrame 57 = .ok (.iload_n 1, 1) := by decide +kernel
theorem dX9_layFrame_58 : decode cX9_layFrame 58 = .ok (.imul, 1) := by decide +kernel
theorem dX9_layFrame_59 : decode cX9_layFrame 59 = .ok (.iload_n 2, 1) := by decide +kernel
theorem dX9_layFrame_60 : decode cX9_layFrame 60 = .ok (.iadd, 1) := by decide +kernel
theorem dX9_layFrame_61 : decode cX9_layFrame 61 = .ok (.baload, 1) := by decide +kernel
theorem dX9_layFrame_62 : decode cX9_layFrame 62 = .ok (.ifCond .eq 9, 3) := by decide +kernel
theorem dX9_layFrame_65 : decode cX9_layFrame 65 = .ok (.iconst 1, 1) := by decide +kernel
theorem dX9_layFrame_66 : decode cX9_layFrame 66 = .ok (.iload_n 2, 1) := by decide +kernel
theorem dX9_layFrame_67 : decode cX9_layFrame 67 = .ok (.ishl, 1) := by decide +kernel
theorem dX9_layFrame_68 : decode cX9_layFrame 68 = .ok (.goto 4, 3) := by decide +kernel
theorem dX9_layFrame_71 : decode cX9_layFrame 71 = .ok (.iconst 0, 1) := by decide +kernel
theorem dX9_layFrame_72 : decode cX9_layFrame 72 = .ok (.ior, 1) := by decide +kernel
theorem dX9_layFrame_73 : decode cX9_layFrame 73 = .ok (.iastore, 1) := by decide +kernel
theorem dX9_layFrame_74 : decode cX9_layFrame 74 = .ok (.iinc 2 1, 3) := by decide +kernel
theorem dX9_layFrame_77 : decode cX9_layFrame 77 = .ok (.goto (-40), 3) := by decide +kernel
theorem dX9_layFrame_80 : decode cX9_layFrame 80 = .ok (.aload_n 0, 1) := by decide +kernel
theorem dX9_layFrame_81 : decode cX9_layFrame 81 = .ok (.dup, 1) := by decide +kernel
theorem dX9_layFrame_82 : decode cX9_layFrame 82 = .ok (.getfield 139, 3) := by decide +kernel
theorem dX9_layFrame_85 : decode cX9_layFrame 85 = .ok (.aload_n 0, 1) := by decide +kernel
theorem dX9_layFrame_86 : decode cX9_layFrame 86 = .ok (.getfield 13, 3) := by decide +kernel
theorem dX9_layFrame_89 : decode cX9_layFrame 89 = .ok (.iload_n 1, 1) := by decide +kernel
theorem dX9_layFrame_90 : decode cX9_layFrame 90 = .ok (.iaload, 1) := by decide +kernel
theorem dX9_layFrame_91 : decode cX9_layFrame 91 = .ok (.iconst 1, 1) := by decide +kernel
theorem dX9_layFrame_92 : decode cX9_layFrame 92 = .ok (.iand, 1) := by decide +kernel
theorem dX9_layFrame_93 : decode cX9_layFrame 93 = .ok (.iload_n 1, 1) := by decide +kernel
theorem dX9_layFrame_94 : decode cX9_layFrame 94 = .ok (.ishl, 1) := by decide +kernel
theorem dX9_layFrame_95 : decode cX9_layFrame 95 = .ok (.ior, 1) := by decide +kernel
theorem dX9_layFrame_96 : decode cX9_layFrame 96 = .ok (.putfield 139, 3) := by decide +kernel
theorem dX9_layFrame_99 : decode cX9_layFrame 99 = .ok (.aload_n 0, 1) := by decide +kernel
theorem dX9_layFrame_100 : decode cX9_layFrame 100 = .ok (.dup, 1) := by decide +kernel
theorem dX9_layFrame_101 : decode cX9_layFrame 101 = .ok (.getfield 142, 3) := by decide +kernel
theorem dX9_layFrame_104 : decode cX9_layFrame 104 = .ok (.aload_n 0, 1) := by decide +kernel
theorem dX9_layFrame_105 : decode cX9_layFrame 105 = .ok (.getfield 13, 3) := by decide +kernel
theorem dX9_layFrame_108 : decode cX9_layFrame 108 = .ok (.iload_n 1, 1) := by decide +kernel
theorem dX9_layFrame_109 : decode cX9_layFrame 109 = .ok (.iaload, 1) := by decide +kernel
theorem dX9_layFrame_110 : decode cX9_layFrame 110 = .ok (.iconst 1, 1) := by decide +kernel
theorem dX9_layFrame_111 : decode cX9_layFrame 111 = .ok (.ishr, 1) := by decide +kernel
theorem dX9_layFrame_112 : decode cX9_layFrame 112 = .ok (.iload_n 1, 1) := by decide +kernel
theorem dX9_layFrame_113 : decode cX9_layFrame 113 = .ok (.ishl, 1) := by decide +kernel
theorem dX9_layFrame_114 : decode cX9_layFrame 114 = .ok (.ior, 1) := by decide +kernel
theorem dX9_layFrame_115 : decode cX9_layFrame 115 = .ok (.putfield 142, 3) := by decide +kernel
theorem dX9_layFrame_118 : decode cX9_layFrame 118 = .ok (.iinc 1 1, 3) := by decide +kernel
theorem dX9_layFrame_121 : decode cX9_layFrame 121 = .ok (.goto (-101), 3) := by decide +kernel
theorem dX9_layFrame_124 : decode cX9_layFrame 124 = .ok (.return_, 1) := by decide +kernel
theorem dX9_layNumber_0 : decode cX9_layNumber 0 = .ok (.aload_n 0, 1) := by decide +kernel
theorem dX9_layNumber_1 : decode cX9_layNumber 1 = .ok (.iload_n 1, 1) := by decide +kernel
theorem dX9_layNumber_2 : decode cX9_layNumber 2 = .ok (.putfield 136, 3) := by decide +kernel
theorem dX9_layNumber_5 : decode cX9_layNumber 5 = .ok (.iconst 0, 1) := by decide +kernel
theorem dX9_layNumber_6 : decode cX9_layNumber 6 = .ok (.istore_n 3, 1) := by decide +kernel
theorem dX9_layNumber_7 : decode cX9_layNumber 7 = .ok (.iload_n 3, 1) := by decide +kernel
theorem dX9_layNumber_8 : decode cX9_layNumber 8 = .ok (.iload_n 1, 1) := by decide +kernel
theorem dX9_layNumber_9 : decode cX9_layNumber 9 = .ok (.if_icmp .ge 26, 3) := by decide +kernel
theorem dX9_layNumber_12 : decode cX9_layNumber 12 = .ok (.aload_n 0, 1) := by decide +kernel
theorem dX9_layNumber_13 : decode cX9_layNumber 13 = .ok (.getfield 36, 3) := by decide +kernel
theorem dX9_layNumber_16 : decode cX9_layNumber 16 = .ok (.iload_n 3, 1) := by decide +kernel
theorem dX9_layNumber_17 : decode cX9_layNumber 17 = .ok (.iload_n 2, 1) := by decide +kernel
theorem dX9_layNumber_18 : decode cX9_layNumber 18 = .ok (.iload_n 1, 1) := by decide +kernel
theorem dX9_layNumber_19 : decode cX9_layNumber 19 = .ok (.iload_n 3, 1) := by decide +kernel
theorem dX9_layNumber_20 : decode cX9_layNumber 20 = .ok (.imul, 1) := by decide +kernel
theorem dX9_layNumber_21 : decode cX9_layNumber 21 = .ok (.ishr, 1) := by decide +kernel
theorem dX9_layNumber_22 : decode cX9_layNumber 22 = .ok (.iconst 1, 1) := by decide +kernel
theorem dX9_layNumber_23 : decode cX9_layNumber 23 = .ok (.iload_n 1, 1) := by decide +kernel
theorem dX9_layNumber_24 : decode cX9_layNumber 24 = .ok (.ishl, 1) := by decide +kernel
theorem dX9_layNumber_25 : decode cX9_layNumber 25 = .ok (.iconst 1, 1) := by decide +kernel
theorem dX9_layNumber_26 : decode cX9_layNumber 26 = .ok (.isub, 1) := by decide +kernel
theorem dX9_layNumber_27 : decode cX9_layNumber 27 = .ok (.iand, 1) := by decide +kernel
theorem dX9_layNumber_28 : decode cX9_layNumber 28 = .ok (.iastore, 1) := by decide +kernel
theorem dX9_layNumber_29 : decode cX9_layNumber 29 = .ok (.iinc 3 1, 3) := by decide +kernel
theorem dX9_layNumber_32 : decode cX9_layNumber 32 = .ok (.goto (-25), 3) := by decide +kernel
theorem dX9_layNumber_35 : decode cX9_layNumber 35 = .ok (.return_, 1) := by decide +kernel
theorem dX9_layMarks_0 : decode cX9_layMarks 0 = .ok (.aload_n 0, 1) := by decide +kernel
theorem dX9_layMarks_1 : decode cX9_layMarks 1 = .ok (.iload_n 1, 1) := by decide +kernel
theorem dX9_layMarks_2 : decode cX9_layMarks 2 = .ok (.iconst 1, 1) := by decide +kernel
theorem dX9_layMarks_3 : decode cX9_layMarks 3 = .ok (.aload_n 0, 1) := by decide +kernel
theorem dX9_layMarks_4 : decode cX9_layMarks 4 = .ok (.getfield 136, 3) := by decide +kernel
theorem dX9_layMarks_7 : decode cX9_layMarks 7 = .ok (.ishl, 1) := by decide +kernel
theorem dX9_layMarks_8 : decode cX9_layMarks 8 = .ok (.iconst 1, 1) := by decide +kernel
theorem dX9_layMarks_9 : decode cX9_layMarks 9 = .ok (.isub, 1) := by decide +kernel
theorem dX9_layMarks_10 : decode cX9_layMarks 10 = .ok (.iand, 1) := by decide +kernel
theorem dX9_layMarks_11 : decode cX9_layMarks 11 = .ok (.putfield 139, 3) := by decide +kernel
theorem dX9_layMarks_14 : decode cX9_layMarks 14 = .ok (.aload_n 0, 1) := by decide +kernel
theorem dX9_layMarks_15 : decode cX9_layMarks 15 = .ok (.iload_n 1, 1) := by decide +kernel
theorem dX9_layMarks_16 : decode cX9_layMarks 16 = .ok (.aload_n 0, 1) := by decide +kernel
theorem dX9_layMarks_17 : decode cX9_layMarks 17 = .ok (.getfield 136, 3) := by decide +kernel
theorem dX9_layMarks_20 : decode cX9_layMarks 20 = .ok (.ishr, 1) := by decide +kernel
theorem dX9_layMarks_21 : decode cX9_layMarks 21 = .ok (.putfield 142, 3) := by decide +kernel
theorem dX9_layMarks_24 : decode cX9_layMarks 24 = .ok (.return_, 1) := by decide +kernel
theorem dX9_must_0 : decode cX9_must 0 = .ok (.iconst 0, 1) := by decide +kernel
theorem dX9_must_1 : decode cX9_must 1 = .ok (.istore_n 2, 1) := by decide +kernel
theorem dX9_must_2 : decode cX9_must 2 = .ok (.iconst 0, 1) := by decide +kernel
theorem dX9_must_3 : decode cX9_must 3 = .ok (.istore_n 3, 1) := by decide +kernel
theorem dX9_must_4 : decode cX9_must 4 = .ok (.iload_n 3, 1) := by decide +kernel
theorem dX9_must_5 : decode cX9_must 5 = .ok (.aload_n 0, 1) := by decide +kernel
theorem dX9_must_6 : decode cX9_must 6 = .ok (.getfield 136, 3) := by decide +kernel
theorem dX9_must_9 : decode cX9_must 9 = .ok (.if_icmp .ge 36, 3) := by decide +kernel
theorem dX9_must_12 : decode cX9_must 12 = .ok (.iload_n 2, 1) := by decide +kernel
theorem dX9_must_13 : decode cX9_must 13 = .ok (.aload_n 0, 1) := by decide +kernel
theorem dX9_must_14 : decode cX9_must 14 = .ok (.getfield 36, 3) := by decide +kernel
theorem dX9_must_17 : decode cX9_must 17 = .ok (.iload_n 3, 1) := by decide +kernel
theorem dX9_must_18 : decode cX9_must 18 = .ok (.iaload, 1) := by decide +kernel
theorem dX9_must_19 : decode cX9_must 19 = .ok (.iload_n 1, 1) := by decide +kernel
theorem dX9_must_20 : decode cX9_must 20 = .ok (.iand, 1) := by decide +kernel
theorem dX9_must_21 : decode cX9_must 21 = .ok (.aload_n 0, 1) := by decide +kernel
theorem dX9_must_22 : decode cX9_must 22 = .ok (.getfield 36, 3) := by decide +kernel
theorem dX9_must_25 : decode cX9_must 25 = .ok (.iload_n 3, 1) := by decide +kernel
theorem dX9_must_26 : decode cX9_must 26 = .ok (.iaload, 1) := by decide +kernel
theorem dX9_must_27 : decode cX9_must 27 = .ok (.if_icmp .ne 9, 3) := by decide +kernel
theorem dX9_must_30 : decode cX9_must 30 = .ok (.iconst 1, 1) := by decide +kernel
theorem dX9_must_31 : decode cX9_must 31 = .ok (.iload_n 3, 1) := by decide +kernel
theorem dX9_must_32 : decode cX9_must 32 = .ok (.ishl, 1) := by decide +kernel
theorem dX9_must_33 : decode cX9_must 33 = .ok (.goto 4, 3) := by decide +kernel
theorem dX9_must_36 : decode cX9_must 36 = .ok (.iconst 0, 1) := by decide +kernel
theorem dX9_must_37 : decode cX9_must 37 = .ok (.ior, 1) := by decide +kernel
theorem dX9_must_38 : decode cX9_must 38 = .ok (.istore_n 2, 1) := by decide +kernel
theorem dX9_must_39 : decode cX9_must 39 = .ok (.iinc 3 1, 3) := by decide +kernel
theorem dX9_must_42 : decode cX9_must 42 = .ok (.goto (-38), 3) := by decide +kernel
theorem dX9_must_45 : decode cX9_must 45 = .ok (.iload_n 2, 1) := by decide +kernel
theorem dX9_must_46 : decode cX9_must 46 = .ok (.ireturn, 1) := by decide +kernel
theorem dX9_can_0 : decode cX9_can 0 = .ok (.iconst 0, 1) := by decide +kernel
theorem dX9_can_1 : decode cX9_can 1 = .ok (.istore_n 2, 1) := by decide +kernel
theorem dX9_can_2 : decode cX9_can 2 = .ok (.iconst 0, 1) := by decide +kernel
theorem dX9_can_3 : decode cX9_can 3 = .ok (.istore_n 3, 1) := by decide +kernel
theorem dX9_can_4 : decode cX9_can 4 = .ok (.iload_n 3, 1) := by decide +kernel
theorem dX9_can_5 : decode cX9_can 5 = .ok (.aload_n 0, 1) := by decide +kernel
theorem dX9_can_6 : decode cX9_can 6 = .ok (.getfield 136, 3) := by decide +kernel
theorem dX9_can_9 : decode cX9_can 9 = .ok (.if_icmp .ge 30, 3) := by decide +kernel
theorem dX9_can_12 : decode cX9_can 12 = .ok (.iload_n 2, 1) := by decide +kernel
theorem dX9_can_13 : decode cX9_can 13 = .ok (.aload_n 0, 1) := by decide +kernel
theorem dX9_can_14 : decode cX9_can 14 = .ok (.getfield 36, 3) := by decide +kernel
theorem dX9_can_17 : decode cX9_can 17 = .ok (.iload_n 3, 1) := by decide +kernel
theorem dX9_can_18 : decode cX9_can 18 = .ok (.iaload, 1) := by decide +kernel
theorem dX9_can_19 : decode cX9_can 19 = .ok (.iload_n 1, 1) := by decide +kernel
theorem dX9_can_20 : decode cX9_can 20 = .ok (.iand, 1) := by decide +kernel
theorem dX9_can_21 : decode cX9_can 21 = .ok (.ifCond .eq 9, 3) := by decide +kernel
theorem dX9_can_24 : decode cX9_can 24 = .ok (.iconst 1, 1) := by decide +kernel
theorem dX9_can_25 : decode cX9_can 25 = .ok (.iload_n 3, 1) := by decide +kernel
theorem dX9_can_26 : decode cX9_can 26 = .ok (.ishl, 1) := by decide +kernel
theorem dX9_can_27 : decode cX9_can 27 = .ok (.goto 4, 3) := by decide +kernel
theorem dX9_can_30 : decode cX9_can 30 = .ok (.iconst 0, 1) := by decide +kernel
theorem dX9_can_31 : decode cX9_can 31 = .ok (.ior, 1) := by decide +kernel
theorem dX9_can_32 : decode cX9_can 32 = .ok (.istore_n 2, 1) := by decide +kernel
theorem dX9_can_33 : decode cX9_can 33 = .ok (.iinc 3 1, 3) := by decide +kernel
theorem dX9_can_36 : decode cX9_can 36 = .ok (.goto (-32), 3) := by decide +kernel
theorem dX9_can_39 : decode cX9_can 39 = .ok (.iload_n 2, 1) := by decide +kernel
theorem dX9_can_40 : decode cX9_can 40 = .ok (.ireturn, 1) := by decide +kernel
theorem dX9_holdsPart_0 : decode cX9_holdsPart 0 = .ok (.iconst 1, 1) := by decide +kernel
theorem dX9_holdsPart_1 : decode cX9_holdsPart 1 = .ok (.aload_n 0, 1) := by decide +kernel
theorem dX9_holdsPart_2 : decode cX9_holdsPart 2 = .ok (.getfield 136, 3) := by decide +kernel
theorem dX9_holdsPart_5 : decode cX9_holdsPart 5 = .ok (.ishl, 1) := by decide +kernel
theorem dX9_holdsPart_6 : decode cX9_holdsPart 6 = .ok (.iconst 1, 1) := by decide +kernel
theorem dX9_holdsPart_7 : decode cX9_holdsPart 7 = .ok (.isub, 1) := by decide +kernel
theorem dX9_holdsPart_8 : decode cX9_holdsPart 8 = .ok (.istore_n 2, 1) := by decide +kernel
theorem dX9_holdsPart_9 : decode cX9_holdsPart 9 = .ok (.iload_n 1, 1) := by decide +kernel
theorem dX9_holdsPart_10 : decode cX9_holdsPart 10 = .ok (.aload_n 0, 1) := by decide +kernel
theorem dX9_holdsPart_11 : decode cX9_holdsPart 11 = .ok (.getfield 130, 3) := by decide +kernel
theorem dX9_holdsPart_14 : decode cX9_holdsPart 14 = .ok (.iconst 1, 1) := by decide +kernel
theorem dX9_holdsPart_15 : decode cX9_holdsPart 15 = .ok (.isub, 1) := by decide +kernel
theorem dX9_holdsPart_16 : decode cX9_holdsPart 16 = .ok (.if_icmp .ge 14, 3) := by decide +kernel
theorem dX9_holdsPart_19 : decode cX9_holdsPart 19 = .ok (.aload_n 0, 1) := by decide +kernel
theorem dX9_holdsPart_20 : decode cX9_holdsPart 20 = .ok (.getfield 39, 3) := by decide +kernel
theorem dX9_holdsPart_23 : decode cX9_holdsPart 23 = .ok (.iload_n 1, 1) := by decide +kernel
theorem dX9_holdsPart_24 : decode cX9_holdsPart 24 = .ok (.iconst 1, 1) := by decide +kernel
theorem dX9_holdsPart_25 : decode cX9_holdsPart 25 = .ok (.iadd, 1) := by decide +kernel
theorem dX9_holdsPart_26 : decode cX9_holdsPart 26 = .ok (.iaload, 1) := by decide +kernel
theorem dX9_holdsPart_27 : decode cX9_holdsPart 27 = .ok (.goto 4, 3) := by decide +kernel
theorem dX9_holdsPart_30 : decode cX9_holdsPart 30 = .ok (.iconst 0, 1) := by decide +kernel
theorem dX9_holdsPart_31 : decode cX9_holdsPart 31 = .ok (.istore_n 3, 1) := by decide +kernel
theorem dX9_holdsPart_32 : decode cX9_holdsPart 32 = .ok (.aload_n 0, 1) := by decide +kernel
theorem dX9_holdsPart_33 : decode cX9_holdsPart 33 = .ok (.getfield 17, 3) := by decide +kernel
theorem dX9_holdsPart_36 : decode cX9_holdsPart 36 = .ok (.iload_n 1, 1) := by decide +kernel
theorem dX9_holdsPart_37 : decode cX9_holdsPart 37 = .ok (.baload, 1) := by decide +kernel
theorem dX9_holdsPart_38 : decode cX9_holdsPart 38 = .ok (.invokestatic 108, 3) := by decide +kernel
theorem dX9_holdsPart_41 : decode cX9_holdsPart 41 = .ok (.iconst 2, 1) := by decide +kernel
theorem dX9_holdsPart_42 : decode cX9_holdsPart 42 = .ok (.if_icmp .ne 19, 3) := by decide +kernel
theorem dX9_holdsPart_45 : decode cX9_holdsPart 45 = .ok (.aload_n 0, 1) := by decide +kernel
theorem dX9_holdsPart_46 : decode cX9_holdsPart 46 = .ok (.getfield 39, 3) := by decide +kernel
theorem dX9_holdsPart_49 : decode cX9_holdsPart 49 = .ok (.aload_n 0, 1) := by decide +kernel
theorem dX9_holdsPart_50 : decode cX9_holdsPart 50 = .ok (.getfield 21, 3) := by decide +kernel
theorem dX9_holdsPart_53 : decode cX9_holdsPart 53 = .ok (.iload_n 1, 1) := by decide +kernel
theorem dX9_holdsPart_54 : decode cX9_holdsPart 54 = .ok (.iconst 1, 1) := by decide +kernel
theorem dX9_holdsPart_55 : decode cX9_holdsPart 55 = .ok (.iadd, 1) := by decide +kernel
theorem dX9_holdsPart_56 : decode cX9_holdsPart 56 = .ok (.iaload, 1) := by decide +kernel
theorem dX9_holdsPart_57 : decode cX9_holdsPart 57 = .ok (.iaload, 1) := by decide +kernel
theorem dX9_holdsPart_58 : decode cX9_holdsPart 58 = .ok (.goto 4, 3) := by decide +kernel
theorem dX9_holdsPart_61 : decode cX9_holdsPart 61 = .ok (.iconst 0, 1) := by decide +kernel
theorem dX9_holdsPart_62 : decode cX9_holdsPart 62 = .ok (.istore 4, 2) := by decide +kernel
theorem dX9_holdsPart_64 : decode cX9_holdsPart 64 = .ok (.aload_n 0, 1) := by decide +kernel
theorem dX9_holdsPart_65 : decode cX9_holdsPart 65 = .ok (.getfield 17, 3) := by decide +kernel
theorem dX9_holdsPart_68 : decode cX9_holdsPart 68 = .ok (.iload_n 1, 1) := by decide +kernel
theorem dX9_holdsPart_69 : decode cX9_holdsPart 69 = .ok (.baload, 1) := by decide +kernel
theorem dX9_holdsPart_70 : decode cX9_holdsPart 70 = .ok (.lookupswitch 102 #[(38, 92), (77, 86), (78, 80), (112, 66), (113, 71), (124, 97), (126, 76)], 66) := by decide +kernel
theorem dX9_holdsPart_136 : decode cX9_holdsPart 136 = .ok (.aload_n 0, 1) := by decide +kernel
theorem dX9_holdsPart_137 : decode cX9_holdsPart 137 = .ok (.getfield 139, 3) := by decide +kernel
theorem dX9_holdsPart_140 : decode cX9_holdsPart 140 = .ok (.ireturn, 1) := by decide +kernel
theorem dX9_holdsPart_141 : decode cX9_holdsPart 141 = .ok (.aload_n 0, 1) := by decide +kernel
theorem dX9_holdsPart_142 : decode cX9_holdsPart 142 = .ok (.getfield 142, 3) := by decide +kernel
theorem dX9_holdsPart_145 : decode cX9_holdsPart 145 = .ok (.ireturn, 1) := by decide +kernel
theorem dX9_holdsPart_146 : decode cX9_holdsPart 146 = .ok (.iload_n 2, 1) := by decide +kernel
theorem dX9_holdsPart_147 : decode cX9_holdsPart 147 = .ok (.iload_n 3, 1) := by decide +kernel
theorem dX9_holdsPart_148 : decode cX9_holdsPart 148 = .ok (.isub, 1) := by decide +kernel
theorem dX9_holdsPart_149 : decode cX9_holdsPart 149 = .ok (.ireturn, 1) := by decide +kernel
theorem dX9_holdsPart_150 : decode cX9_holdsPart 150 = .ok (.aload_n 0, 1) := by decide +kernel
theorem dX9_holdsPart_151 : decode cX9_holdsPart 151 = .ok (.iload_n 3, 1) := by decide +kernel
theorem dX9_holdsPart_152 : decode cX9_holdsPart 152 = .ok (.invokevirtual 145, 3) := by decide +kernel
theorem dX9_holdsPart_155 : decode cX9_holdsPart 155 = .ok (.ireturn, 1) := by decide +kernel
theorem dX9_holdsPart_156 : decode cX9_holdsPart 156 = .ok (.aload_n 0, 1) := by decide +kernel
theorem dX9_holdsPart_157 : decode cX9_holdsPart 157 = .ok (.iload_n 3, 1) := by decide +kernel
theorem dX9_holdsPart_158 : decode cX9_holdsPart 158 = .ok (.invokevirtual 148, 3) := by decide +kernel
theorem dX9_holdsPart_161 : decode cX9_holdsPart 161 = .ok (.ireturn, 1) := by decide +kernel
theorem dX9_holdsPart_162 : decode cX9_holdsPart 162 = .ok (.iload_n 3, 1) := by decide +kernel
theorem dX9_holdsPart_163 : decode cX9_holdsPart 163 = .ok (.iload 4, 2) := by decide +kernel
theorem dX9_holdsPart_165 : decode cX9_holdsPart 165 = .ok (.iand, 1) := by decide +kernel
theorem dX9_holdsPart_166 : decode cX9_holdsPart 166 = .ok (.ireturn, 1) := by decide +kernel
theorem dX9_holdsPart_167 : decode cX9_holdsPart 167 = .ok (.iload_n 3, 1) := by decide +kernel
theorem dX9_holdsPart_168 : decode cX9_holdsPart 168 = .ok (.iload 4, 2) := by decide +kernel
theorem dX9_holdsPart_170 : decode cX9_holdsPart 170 = .ok (.ior, 1) := by decide +kernel
theorem dX9_holdsPart_171 : decode cX9_holdsPart 171 = .ok (.ireturn, 1) := by decide +kernel
theorem dX9_holdsPart_172 : decode cX9_holdsPart 172 = .ok (.iload_n 2, 1) := by decide +kernel
theorem dX9_holdsPart_173 : decode cX9_holdsPart 173 = .ok (.iload_n 3, 1) := by decide +kernel
theorem dX9_holdsPart_174 : decode cX9_holdsPart 174 = .ok (.isub, 1) := by decide +kernel
theorem dX9_holdsPart_175 : decode cX9_holdsPart 175 = .ok (.iload 4, 2) := by decide +kernel
theorem dX9_holdsPart_177 : decode cX9_holdsPart 177 = .ok (.ior, 1) := by decide +kernel
theorem dX9_holdsPart_178 : decode cX9_holdsPart 178 = .ok (.ireturn, 1) := by decide +kernel
theorem dX9_layHolds_0 : decode cX9_layHolds 0 = .ok (.aload_n 0, 1) := by decide +kernel
theorem dX9_layHolds_1 : decode cX9_layHolds 1 = .ok (.getfield 130, 3) := by decide +kernel
theorem dX9_layHolds_4 : decode cX9_layHolds 4 = .ok (.iconst 1, 1) := by decide +kernel
theorem dX9_layHolds_5 : decode cX9_layHolds 5 = .ok (.isub, 1) := by decide +kernel
theorem dX9_layHolds_6 : decode cX9_layHolds 6 = .ok (.istore_n 1, 1) := by decide +kernel
theorem dX9_layHolds_7 : decode cX9_layHolds 7 = .ok (.iload_n 1, 1) := by decide +kernel
theorem dX9_layHolds_8 : decode cX9_layHolds 8 = .ok (.ifCond .lt 20, 3) := by decide +kernel
theorem dX9_layHolds_11 : decode cX9_layHolds 11 = .ok (.aload_n 0, 1) := by decide +kernel
theorem dX9_layHolds_12 : decode cX9_layHolds 12 = .ok (.getfield 39, 3) := by decide +kernel
theorem dX9_layHolds_15 : decode cX9_layHolds 15 = .ok (.iload_n 1, 1) := by decide +kernel
theorem dX9_layHolds_16 : decode cX9_layHolds 16 = .ok (.aload_n 0, 1) := by decide +kernel
theorem dX9_layHolds_17 : decode cX9_layHolds 17 = .ok (.iload_n 1, 1) := by decide +kernel
theorem dX9_layHolds_18 : decode cX9_layHolds 18 = .ok (.invokevirtual 151, 3) := by decide +kernel
theorem dX9_layHolds_21 : decode cX9_layHolds 21 = .ok (.iastore, 1) := by decide +kernel
theorem dX9_layHolds_22 : decode cX9_layHolds 22 = .ok (.iinc 1 (-1), 3) := by decide +kernel
theorem dX9_layHolds_25 : decode cX9_layHolds 25 = .ok (.goto (-18), 3) := by decide +kernel
theorem dX9_layHolds_28 : decode cX9_layHolds 28 = .ok (.return_, 1) := by decide +kernel
theorem dX9_failing_0 : decode cX9_failing 0 = .ok (.iconst 0, 1) := by decide +kernel
theorem dX9_failing_1 : decode cX9_failing 1 = .ok (.istore_n 1, 1) := by decide +kernel
theorem dX9_failing_2 : decode cX9_failing 2 = .ok (.iload_n 1, 1) := by decide +kernel
theorem dX9_failing_3 : decode cX9_failing 3 = .ok (.iconst 1, 1) := by decide +kernel
theorem dX9_failing_4 : decode cX9_failing 4 = .ok (.iconst 2, 1) := by decide +kernel
theorem dX9_failing_5 : decode cX9_failing 5 = .ok (.aload_n 0, 1) := by decide +kernel
theorem dX9_failing_6 : decode cX9_failing 6 = .ok (.getfield 136, 3) := by decide +kernel
theorem dX9_failing_9 : decode cX9_failing 9 = .ok (.imul, 1) := by decide +kernel
theorem dX9_failing_10 : decode cX9_failing 10 = .ok (.ishl, 1) := by decide +kernel
theorem dX9_failing_11 : decode cX9_failing 11 = .ok (.if_icmp .ge 37, 3) := by decide +kernel
theorem dX9_failing_14 : decode cX9_failing 14 = .ok (.aload_n 0, 1) := by decide +kernel
theorem dX9_failing_15 : decode cX9_failing 15 = .ok (.iload_n 1, 1) := by decide +kernel
theorem dX9_failing_16 : decode cX9_failing 16 = .ok (.invokevirtual 154, 3) := by decide +kernel
theorem dX9_failing_19 : decode cX9_failing 19 = .ok (.aload_n 0, 1) := by decide +kernel
theorem dX9_failing_20 : decode cX9_failing 20 = .ok (.invokevirtual 158, 3) := by decide +kernel
theorem dX9_failing_23 : decode cX9_failing 23 = .ok (.aload_n 0, 1) := by decide +kernel
theorem dX9_failing_24 : decode cX9_failing 24 = .ok (.getfield 39, 3) := by decide +kernel
theorem dX9_failing_27 : decode cX9_failing 27 = .ok (.iconst 0, 1) := by decide +kernel
theorem dX9_failing_28 : decode cX9_failing 28 = .ok (.iaload, 1) := by decide +kernel
theorem dX9_failing_29 : decode cX9_failing 29 = .ok (.iconst 1, 1) := by decide +kernel
theorem dX9_failing_30 : decode cX9_failing 30 = .ok (.aload_n 0, 1) := by decide +kernel
theorem dX9_failing_31 : decode cX9_failing 31 = .ok (.getfield 136, 3) := by decide +kernel
theorem dX9_failing_34 : decode cX9_failing 34 = .ok (.ishl, 1) := by decide +kernel
theorem dX9_failing_35 : decode cX9_failing 35 = .ok (.iconst 1, 1) := by decide +kernel
theorem dX9_failing_36 : decode cX9_failing 36 = .ok (.isub, 1) := by decide +kernel
theorem dX9_failing_37 : decode cX9_failing 37 = .ok (.if_icmp .eq 5, 3) := by decide +kernel
theorem dX9_failing_40 : decode cX9_failing 40 = .ok (.iload_n 1, 1) := by decide +kernel
theorem dX9_failing_41 : decode cX9_failing 41 = .ok (.ireturn, 1) := by decide +kernel
theorem dX9_failing_42 : decode cX9_failing 42 = .ok (.iinc 1 1, 3) := by decide +kernel
theorem dX9_failing_45 : decode cX9_failing 45 = .ok (.goto (-43), 3) := by decide +kernel
theorem dX9_failing_48 : decode cX9_failing 48 = .ok (.iconst (-1), 1) := by decide +kernel
theorem dX9_failing_49 : decode cX9_failing 49 = .ok (.ireturn, 1) := by decide +kernel
theorem dX9_isArrow_0 : decode cX9_isArrow 0 = .ok (.aload_n 0, 1) := by decide +kernel
theorem dX9_isArrow_1 : decode cX9_isArrow 1 = .ok (.getfield 36, 3) := by decide +kernel
theorem dX9_isArrow_4 : decode cX9_isArrow 4 = .ok (.iload_n 1, 1) := by decide +kernel
theorem dX9_isArrow_5 : decode cX9_isArrow 5 = .ok (.iaload, 1) := by decide +kernel
theorem dX9_isArrow_6 : decode cX9_isArrow 6 = .ok (.iload_n 2, 1) := by decide +kernel
theorem dX9_isArrow_7 : decode cX9_isArrow 7 = .ok (.invokestatic 161, 3) := by decide +kernel
theorem dX9_isArrow_10 : decode cX9_isArrow 10 = .ok (.ireturn, 1) := by decide +kernel
theorem dX9_keepsHere_0 : decode cX9_keepsHere 0 = .ok (.iload_n 1, 1) := by decide +kernel
theorem dX9_keepsHere_1 : decode cX9_keepsHere 1 = .ok (.tableswitch 112 0 3 #[31, 38, 73, 97], 31) := by decide +kernel
theorem dX9_keepsHere_32 : decode cX9_keepsHere 32 = .ok (.aload_n 0, 1) := by decide +kernel
theorem dX9_keepsHere_33 : decode cX9_keepsHere 33 = .ok (.iload_n 2, 1) := by decide +kernel
theorem dX9_keepsHere_34 : decode cX9_keepsHere 34 = .ok (.iload_n 2, 1) := by decide +kernel
theorem dX9_keepsHere_35 : decode cX9_keepsHere 35 = .ok (.invokevirtual 165, 3) := by decide +kernel
theorem dX9_keepsHere_38 : decode cX9_keepsHere 38 = .ok (.ireturn, 1) := by decide +kernel
theorem dX9_keepsHere_39 : decode cX9_keepsHere 39 = .ok (.aload_n 0, 1) := by decide +kernel
theorem dX9_keepsHere_40 : decode cX9_keepsHere 40 = .ok (.iload_n 2, 1) := by decide +kernel
theorem dX9_keepsHere_41 : decode cX9_keepsHere 41 = .ok (.iload_n 3, 1) := by decide +kernel
theorem dX9_keepsHere_42 : decode cX9_keepsHere 42 = .ok (.invokevirtual 165, 3) := by decide +kernel
theorem dX9_keepsHere_45 : decode cX9_keepsHere 45 = .ok (.ifCond .eq 23, 3) := by decide +kernel
theorem dX9_keepsHere_48 : decode cX9_keepsHere 48 = .ok (.aload_n 0, 1) := by decide +kernel
theorem dX9_keepsHere_49 : decode cX9_keepsHere 49 = .ok (.iload_n 3, 1) := by decide +kernel
theorem dX9_keepsHere_50 : decode cX9_keepsHere 50 = .ok (.iload 4, 2) := by decide +kernel
theorem dX9_keepsHere_52 : decode cX9_keepsHere 52 = .ok (.invokevirtual 165, 3) := by decide +kernel
theorem dX9_keepsHere_55 : decode cX9_keepsHere 55 = .ok (.ifCond .eq 13, 3) := by decide +kernel
theorem dX9_keepsHere_58 : decode cX9_keepsHere 58 = .ok (.aload_n 0, 1) := by decide +kernel
theorem dX9_keepsHere_59 : decode cX9_keepsHere 59 = .ok (.iload_n 2, 1) := by decide +kernel
theorem dX9_keepsHere_60 : decode cX9_keepsHere 60 = .ok (.iload 4, 2) := by decide +kernel
theorem dX9_keepsHere_62 : decode cX9_keepsHere 62 = .ok (.invokevirtual 165, 3) := by decide +kernel
theorem dX9_keepsHere_65 : decode cX9_keepsHere 65 = .ok (.ifCond .eq 7, 3) := by decide +kernel
theorem dX9_keepsHere_68 : decode cX9_keepsHere 68 = .ok (.iconst 1, 1) := by decide +kernel
theorem dX9_keepsHere_69 : decode cX9_keepsHere 69 = .ok (.goto 4, 3) := by decide +kernel
theorem dX9_keepsHere_72 : decode cX9_keepsHere 72 = .ok (.iconst 0, 1) := by decide +kernel
theorem dX9_keepsHere_73 : decode cX9_keepsHere 73 = .ok (.ireturn, 1) := by decide +kernel
theorem dX9_keepsHere_74 : decode cX9_keepsHere 74 = .ok (.aload_n 0, 1) := by decide +kernel
theorem dX9_keepsHere_75 : decode cX9_keepsHere 75 = .ok (.iload_n 2, 1) := by decide +kernel
theorem dX9_keepsHere_76 : decode cX9_keepsHere 76 = .ok (.iload_n 3, 1) := by decide +kernel
theorem dX9_keepsHere_77 : decode cX9_keepsHere 77 = .ok (.invokevirtual 165, 3) := by decide +kernel
theorem dX9_keepsHere_80 : decode cX9_keepsHere 80 = .ok (.ifCond .eq 12, 3) := by decide +kernel
theorem dX9_keepsHere_83 : decode cX9_keepsHere 83 = .ok (.aload_n 0, 1) := by decide +kernel
theorem dX9_keepsHere_84 : decode cX9_keepsHere 84 = .ok (.iload_n 3, 1) := by decide +kernel
theorem dX9_keepsHere_85 : decode cX9_keepsHere 85 = .ok (.iload_n 2, 1) := by decide +kernel
theorem dX9_keepsHere_86 : decode cX9_keepsHere 86 = .ok (.invokevirtual 165, 3) := by decide +kernel
theorem dX9_keepsHere_89 : decode cX9_keepsHere 89 = .ok (.ifCond .eq 7, 3) := by decide +kernel
theorem dX9_keepsHere_92 : decode cX9_keepsHere 92 = .ok (.iconst 1, 1) := by decide +kernel
theorem dX9_keepsHere_93 : decode cX9_keepsHere 93 = .ok (.goto 4, 3) := by decide +kernel
theorem dX9_keepsHere_96 : decode cX9_keepsHere 96 = .ok (.iconst 0, 1) := by decide +kernel
theorem dX9_keepsHere_97 : decode cX9_keepsHere 97 = .ok (.ireturn, 1) := by decide +kernel
theorem dX9_keepsHere_98 : decode cX9_keepsHere 98 = .ok (.aload_n 0, 1) := by decide +kernel
theorem dX9_keepsHere_99 : decode cX9_keepsHere 99 = .ok (.getfield 36, 3) := by decide +kernel
theorem dX9_keepsHere_102 : decode cX9_keepsHere 102 = .ok (.iload_n 2, 1) := by decide +kernel
theorem dX9_keepsHere_103 : decode cX9_keepsHere 103 = .ok (.iaload, 1) := by decide +kernel
theorem dX9_keepsHere_104 : decode cX9_keepsHere 104 = .ok (.ifCond .eq 7, 3) := by decide +kernel
theorem dX9_keepsHere_107 : decode cX9_keepsHere 107 = .ok (.iconst 1, 1) := by decide +kernel
theorem dX9_keepsHere_108 : decode cX9_keepsHere 108 = .ok (.goto 4, 3) := by decide +kernel
theorem dX9_keepsHere_111 : decode cX9_keepsHere 111 = .ok (.iconst 0, 1) := by decide +kernel
theorem dX9_keepsHere_112 : decode cX9_keepsHere 112 = .ok (.ireturn, 1) := by decide +kernel
theorem dX9_keepsHere_113 : decode cX9_keepsHere 113 = .ok (.aload_n 0, 1) := by decide +kernel
theorem dX9_keepsHere_114 : decode cX9_keepsHere 114 = .ok (.iload_n 2, 1) := by decide +kernel
theorem dX9_keepsHere_115 : decode cX9_keepsHere 115 = .ok (.iload_n 3, 1) := by decide +kernel
theorem dX9_keepsHere_116 : decode cX9_keepsHere 116 = .ok (.invokevirtual 165, 3) := by decide +kernel
theorem dX9_keepsHere_119 : decode cX9_keepsHere 119 = .ok (.ifCond .eq 23, 3) := by decide +kernel
theorem dX9_keepsHere_122 : decode cX9_keepsHere 122 = .ok (.aload_n 0, 1) := by decide +kernel
theorem dX9_keepsHere_123 : decode cX9_keepsHere 123 = .ok (.iload_n 2, 1) := by decide +kernel
theorem dX9_keepsHere_124 : decode cX9_keepsHere 124 = .ok (.iload 4, 2) := by decide +kernel
theorem dX9_keepsHere_126 : decode cX9_keepsHere 126 = .ok (.invokevirtual 165, 3) := by decide +kernel
theorem dX9_keepsHere_129 : decode cX9_keepsHere 129 = .ok (.ifCond .eq 13, 3) := by decide +kernel
theorem dX9_keepsHere_132 : decode cX9_keepsHere 132 = .ok (.aload_n 0, 1) := by decide +kernel
theorem dX9_keepsHere_133 : decode cX9_keepsHere 133 = .ok (.iload_n 3, 1) := by decide +kernel
theorem dX9_keepsHere_134 : decode cX9_keepsHere 134 = .ok (.iload 4, 2) := by decide +kernel
theorem dX9_keepsHere_136 : decode cX9_keepsHere 136 = .ok (.invokevirtual 165, 3) := by decide +kernel
theorem dX9_keepsHere_139 : decode cX9_keepsHere 139 = .ok (.ifCond .eq 7, 3) := by decide +kernel
theorem dX9_keepsHere_142 : decode cX9_keepsHere 142 = .ok (.iconst 1, 1) := by decide +kernel
theorem dX9_keepsHere_143 : decode cX9_keepsHere 143 = .ok (.goto 4, 3) := by decide +kernel
theorem dX9_keepsHere_146 : decode cX9_keepsHere 146 = .ok (.iconst 0, 1) := by decide +kernel
theorem dX9_keepsHere_147 : decode cX9_keepsHere 147 = .ok (.ireturn, 1) := by decide +kernel
theorem dX9_keepsNow_0 : decode cX9_keepsNow 0 = .ok (.iconst 1, 1) := by decide +kernel
theorem dX9_keepsNow_1 : decode cX9_keepsNow 1 = .ok (.istore_n 2, 1) := by decide +kernel
theorem dX9_keepsNow_2 : decode cX9_keepsNow 2 = .ok (.iconst 0, 1) := by decide +kernel
theorem dX9_keepsNow_3 : decode cX9_keepsNow 3 = .ok (.istore_n 3, 1) := by decide +kernel
theorem dX9_keepsNow_4 : decode cX9_keepsNow 4 = .ok (.iload_n 3, 1) := by decide +kernel
theorem dX9_keepsNow_5 : decode cX9_keepsNow 5 = .ok (.aload_n 0, 1) := by decide +kernel
theorem dX9_keepsNow_6 : decode cX9_keepsNow 6 = .ok (.getfield 136, 3) := by decide +kernel
theorem dX9_keepsNow_9 : decode cX9_keepsNow 9 = .ok (.aload_n 0, 1) := by decide +kernel
theorem dX9_keepsNow_10 : decode cX9_keepsNow 10 = .ok (.getfield 136, 3) := by decide +kernel
theorem dX9_keepsNow_13 : decode cX9_keepsNow 13 = .ok (.imul, 1) := by decide +kernel
theorem dX9_keepsNow_14 : decode cX9_keepsNow 14 = .ok (.aload_n 0, 1) := by decide +kernel
theorem dX9_keepsNow_15 : decode cX9_keepsNow 15 = .ok (.getfield 136, 3) := by decide +kernel
theorem dX9_keepsNow_18 : decode cX9_keepsNow 18 = .ok (.imul, 1) := by decide +kernel
theorem dX9_keepsNow_19 : decode cX9_keepsNow 19 = .ok (.if_icmp .ge 55, 3) := by decide +kernel
theorem dX9_keepsNow_22 : decode cX9_keepsNow 22 = .ok (.iload_n 2, 1) := by decide +kernel
theorem dX9_keepsNow_23 : decode cX9_keepsNow 23 = .ok (.ifCond .eq 43, 3) := by decide +kernel
theorem dX9_keepsNow_26 : decode cX9_keepsNow 26 = .ok (.aload_n 0, 1) := by decide +kernel
theorem dX9_keepsNow_27 : decode cX9_keepsNow 27 = .ok (.iload_n 1, 1) := by decide +kernel
theorem dX9_keepsNow_28 : decode cX9_keepsNow 28 = .ok (.iload_n 3, 1) := by decide +kernel
theorem dX9_keepsNow_29 : decode cX9_keepsNow 29 = .ok (.aload_n 0, 1) := by decide +kernel
theorem dX9_keepsNow_30 : decode cX9_keepsNow 30 = .ok (.getfield 136, 3) := by decide +kernel
theorem dX9_keepsNow_33 : decode cX9_keepsNow 33 = .ok (.idiv, 1) := by decide +kernel
theorem dX9_keepsNow_34 : decode cX9_keepsNow 34 = .ok (.aload_n 0, 1) := by decide +kernel
theorem dX9_keepsNow_35 : decode cX9_keepsNow 35 = .ok (.getfield 136, 3) := by decide +kernel
theorem dX9_keepsNow_38 : decode cX9_keepsNow 38 = .ok (.idiv, 1) := by decide +kernel
theorem dX9_keepsNow_39 : decode cX9_keepsNow 39 = .ok (.iload_n 3, 1) := by decide +kernel
theorem dX9_keepsNow_40 : decode cX9_keepsNow 40 = .ok (.aload_n 0, 1) := by decide +kernel
theorem dX9_keepsNow_41 : decode cX9_keepsNow 41 = .ok (.getfield 136, 3) := by decide +kernel
theorem dX9_keepsNow_44 : decode cX9_keepsNow 44 = .ok (.idiv, 1) := by decide +kernel
theorem dX9_keepsNow_45 : decode cX9_keepsNow 45 = .ok (.aload_n 0, 1) := by decide +kernel
theorem dX9_keepsNow_46 : decode cX9_keepsNow 46 = .ok (.getfield 136, 3) := by decide +kernel
theorem dX9_keepsNow_49 : decode cX9_keepsNow 49 = .ok (.irem, 1) := by decide +kernel
theorem dX9_keepsNow_50 : decode cX9_keepsNow 50 = .ok (.iload_n 3, 1) := by decide +kernel
theorem dX9_keepsNow_51 : decode cX9_keepsNow 51 = .ok (.aload_n 0, 1) := by decide +kernel
theorem dX9_keepsNow_52 : decode cX9_keepsNow 52 = .ok (.getfield 136, 3) := by decide +kernel
theorem dX9_keepsNow_55 : decode cX9_keepsNow 55 = .ok (.irem, 1) := by decide +kernel
theorem dX9_keepsNow_56 : decode cX9_keepsNow 56 = .ok (.invokevirtual 168, 3) := by decide +kernel
theorem dX9_keepsNow_59 : decode cX9_keepsNow 59 = .ok (.ifCond .eq 7, 3) := by decide +kernel
theorem dX9_keepsNow_62 : decode cX9_keepsNow 62 = .ok (.iconst 1, 1) := by decide +kernel
theorem dX9_keepsNow_63 : decode cX9_keepsNow 63 = .ok (.goto 4, 3) := by decide +kernel
theorem dX9_keepsNow_66 : decode cX9_keepsNow 66 = .ok (.iconst 0, 1) := by decide +kernel
theorem dX9_keepsNow_67 : decode cX9_keepsNow 67 = .ok (.istore_n 2, 1) := by decide +kernel
theorem dX9_keepsNow_68 : decode cX9_keepsNow 68 = .ok (.iinc 3 1, 3) := by decide +kernel
theorem dX9_keepsNow_71 : decode cX9_keepsNow 71 = .ok (.goto (-67), 3) := by decide +kernel
theorem dX9_keepsNow_74 : decode cX9_keepsNow 74 = .ok (.iload_n 2, 1) := by decide +kernel
theorem dX9_keepsNow_75 : decode cX9_keepsNow 75 = .ok (.ireturn, 1) := by decide +kernel
theorem dX9_fitsNow_0 : decode cX9_fitsNow 0 = .ok (.iload_n 1, 1) := by decide +kernel
theorem dX9_fitsNow_1 : decode cX9_fitsNow 1 = .ok (.tableswitch 71 1 4 #[31, 37, 59, 65], 31) := by decide +kernel
theorem dX9_fitsNow_32 : decode cX9_fitsNow 32 = .ok (.aload_n 0, 1) := by decide +kernel
theorem dX9_fitsNow_33 : decode cX9_fitsNow 33 = .ok (.iconst 0, 1) := by decide +kernel
theorem dX9_fitsNow_34 : decode cX9_fitsNow 34 = .ok (.invokevirtual 172, 3) := by decide +kernel
theorem dX9_fitsNow_37 : decode cX9_fitsNow 37 = .ok (.ireturn, 1) := by decide +kernel
theorem dX9_fitsNow_38 : decode cX9_fitsNow 38 = .ok (.aload_n 0, 1) := by decide +kernel
theorem dX9_fitsNow_39 : decode cX9_fitsNow 39 = .ok (.iconst 0, 1) := by decide +kernel
theorem dX9_fitsNow_40 : decode cX9_fitsNow 40 = .ok (.invokevirtual 172, 3) := by decide +kernel
theorem dX9_fitsNow_43 : decode cX9_fitsNow 43 = .ok (.ifCond .eq 15, 3) := by decide +kernel
theorem dX9_fitsNow_46 : decode cX9_fitsNow 46 = .ok (.aload_n 0, 1) := by decide +kernel
theorem dX9_fitsNow_47 : decode cX9_fitsNow 47 = .ok (.iconst 1, 1) := by decide +kernel
theorem dX9_fitsNow_48 : decode cX9_fitsNow 48 = .ok (.invokevirtual 172, 3) := by decide +kernel
theorem dX9_fitsNow_51 : decode cX9_fitsNow 51 = .ok (.ifCond .eq 7, 3) := by decide +kernel
theorem dX9_fitsNow_54 : decode cX9_fitsNow 54 = .ok (.iconst 1, 1) := by decide +kernel
theorem dX9_fitsNow_55 : decode cX9_fitsNow 55 = .ok (.goto 4, 3) := by decide +kernel
theorem dX9_fitsNow_58 : decode cX9_fitsNow 58 = .ok (.iconst 0, 1) := by decide +kernel
theorem dX9_fitsNow_59 : decode cX9_fitsNow 59 = .ok (.ireturn, 1) := by decide +kernel
theorem dX9_fitsNow_60 : decode cX9_fitsNow 60 = .ok (.aload_n 0, 1) := by decide +kernel
theorem dX9_fitsNow_61 : decode cX9_fitsNow 61 = .ok (.iconst 2, 1) := by decide +kernel
theorem dX9_fitsNow_62 : decode cX9_fitsNow 62 = .ok (.invokevirtual 172, 3) := by decide +kernel
theorem dX9_fitsNow_65 : decode cX9_fitsNow 65 = .ok (.ireturn, 1) := by decide +kernel
theorem dX9_fitsNow_66 : decode cX9_fitsNow 66 = .ok (.aload_n 0, 1) := by decide +kernel
theorem dX9_fitsNow_67 : decode cX9_fitsNow 67 = .ok (.iconst 3, 1) := by decide +kernel
theorem dX9_fitsNow_68 : decode cX9_fitsNow 68 = .ok (.invokevirtual 172, 3) := by decide +kernel
theorem dX9_fitsNow_71 : decode cX9_fitsNow 71 = .ok (.ireturn, 1) := by decide +kernel
theorem dX9_fitsNow_72 : decode cX9_fitsNow 72 = .ok (.iconst 1, 1) := by decide +kernel
theorem dX9_fitsNow_73 : decode cX9_fitsNow 73 = .ok (.ireturn, 1) := by decide +kernel
theorem dX9_isMet_0 : decode cX9_isMet 0 = .ok (.iconst 1, 1) := by decide +kernel
theorem dX9_isMet_1 : decode cX9_isMet 1 = .ok (.istore_n 3, 1) := by decide +kernel
theorem dX9_isMet_2 : decode cX9_isMet 2 = .ok (.iconst 0, 1) := by decide +kernel
theorem dX9_isMet_3 : decode cX9_isMet 3 = .ok (.istore 4, 2) := by decide +kernel
theorem dX9_isMet_5 : decode cX9_isMet 5 = .ok (.iload 4, 2) := by decide +kernel
theorem dX9_isMet_7 : decode cX9_isMet 7 = .ok (.aload_n 0, 1) := by decide +kernel
theorem dX9_isMet_8 : decode cX9_isMet 8 = .ok (.getfield 121, 3) := by decide +kernel
theorem dX9_isMet_11 : decode cX9_isMet 11 = .ok (.if_icmp .ge 104, 3) := by decide +kernel
theorem dX9_isMet_14 : decode cX9_isMet 14 = .ok (.aload_n 0, 1) := by decide +kernel
theorem dX9_isMet_15 : decode cX9_isMet 15 = .ok (.getfield 7, 3) := by decide +kernel
theorem dX9_isMet_18 : decode cX9_isMet 18 = .ok (.iconst 4, 1) := by decide +kernel
theorem dX9_isMet_19 : decode cX9_isMet 19 = .ok (.iload_n 1, 1) := by decide +kernel
theorem dX9_isMet_20 : decode cX9_isMet 20 = .ok (.imul, 1) := by decide +kernel
theorem dX9_isMet_21 : decode cX9_isMet 21 = .ok (.iload 4, 2) := by decide +kernel
theorem dX9_isMet_23 : decode cX9_isMet 23 = .ok (.iadd, 1) := by decide +kernel
theorem dX9_isMet_24 : decode cX9_isMet 24 = .ok (.baload, 1) := by decide +kernel
theorem dX9_isMet_25 : decode cX9_isMet 25 = .ok (.ifCond .ne 7, 3) := by decide +kernel
theorem dX9_isMet_28 : decode cX9_isMet 28 = .ok (.iconst 1, 1) := by decide +kernel
theorem dX9_isMet_29 : decode cX9_isMet 29 = .ok (.goto 4, 3) := by decide +kernel
theorem dX9_isMet_32 : decode cX9_isMet 32 = .ok (.iconst 0, 1) := by decide +kernel
theorem dX9_isMet_33 : decode cX9_isMet 33 = .ok (.istore 5, 2) := by decide +kernel
theorem dX9_isMet_35 : decode cX9_isMet 35 = .ok (.iconst 0, 1) := by decide +kernel
theorem dX9_isMet_36 : decode cX9_isMet 36 = .ok (.istore 6, 2) := by decide +kernel
theorem dX9_isMet_38 : decode cX9_isMet 38 = .ok (.iload 6, 2) := by decide +kernel
theorem dX9_isMet_40 : decode cX9_isMet 40 = .ok (.aload_n 0, 1) := by decide +kernel
theorem dX9_isMet_41 : decode cX9_isMet 41 = .ok (.getfield 121, 3) := by decide +kernel
theorem dX9_isMet_44 : decode cX9_isMet 44 = .ok (.if_icmp .ge 50, 3) := by decide +kernel
theorem dX9_isMet_47 : decode cX9_isMet 47 = .ok (.iload 5, 2) := by decide +kernel
theorem dX9_isMet_49 : decode cX9_isMet 49 = .ok (.ifCond .ne 32, 3) := by decide +kernel
theorem dX9_isMet_52 : decode cX9_isMet 52 = .ok (.aload_n 0, 1) := by decide +kernel
theorem dX9_isMet_53 : decode cX9_isMet 53 = .ok (.getfield 7, 3) := by decide +kernel
theorem dX9_isMet_56 : decode cX9_isMet 56 = .ok (.iconst 4, 1) := by decide +kernel
theorem dX9_isMet_57 : decode cX9_isMet 57 = .ok (.iload_n 2, 1) := by decide +kernel
theorem dX9_isMet_58 : decode cX9_isMet 58 = .ok (.imul, 1) := by decide +kernel
theorem dX9_isMet_59 : decode cX9_isMet 59 = .ok (.iload 6, 2) := by decide +kernel
theorem dX9_isMet_61 : decode cX9_isMet 61 = .ok (.iadd, 1) := by decide +kernel
theorem dX9_isMet_62 : decode cX9_isMet 62 = .ok (.baload, 1) := by decide +kernel
theorem dX9_isMet_63 : decode cX9_isMet 63 = .ok (.ifCond .eq 22, 3) := by decide +kernel
theorem dX9_isMet_66 : decode cX9_isMet 66 = .ok (.aload_n 0, 1) := by decide +kernel
theorem dX9_isMet_67 : decode cX9_isMet 67 = .ok (.getfield 42, 3) := by decide +kernel
theorem dX9_isMet_70 : decode cX9_isMet 70 = .ok (.iconst 4, 1) := by decide +kernel
theorem dX9_isMet_71 : decode cX9_isMet 71 = .ok (.iload 4, 2) := by decide +kernel
theorem dX9_isMet_73 : decode cX9_isMet 73 = .ok (.imul, 1) := by decide +kernel
theorem dX9_isMet_74 : decode cX9_isMet 74 = .ok (.iload 6, 2) := by decide +kernel
theorem dX9_isMet_76 : decode cX9_isMet 76 = .ok (.iadd, 1) := by decide +kernel
theorem dX9_isMet_77 : decode cX9_isMet 77 = .ok (.baload, 1) := by decide +kernel
theorem dX9_isMet_78 : decode cX9_isMet 78 = .ok (.ifCond .ne 7, 3) := by decide +kernel
theorem dX9_isMet_81 : decode cX9_isMet 81 = .ok (.iconst 1, 1) := by decide +kernel
theorem dX9_isMet_82 : decode cX9_isMet 82 = .ok (.goto 4, 3) := by decide +kernel
theorem dX9_isMet_85 : decode cX9_isMet 85 = .ok (.iconst 0, 1) := by decide +kernel
theorem dX9_isMet_86 : decode cX9_isMet 86 = .ok (.istore 5, 2) := by decide +kernel
theorem dX9_isMet_88 : decode cX9_isMet 88 = .ok (.iinc 6 1, 3) := by decide +kernel
theorem dX9_isMet_91 : decode cX9_isMet 91 = .ok (.goto (-53), 3) := by decide +kernel
theorem dX9_isMet_94 : decode cX9_isMet 94 = .ok (.iload_n 3, 1) := by decide +kernel
theorem dX9_isMet_95 : decode cX9_isMet 95 = .ok (.ifCond .eq 12, 3) := by decide +kernel
theorem dX9_isMet_98 : decode cX9_isMet 98 = .ok (.iload 5, 2) := by decide +kernel
theorem dX9_isMet_100 : decode cX9_isMet 100 = .ok (.ifCond .eq 7, 3) := by decide +kernel
theorem dX9_isMet_103 : decode cX9_isMet 103 = .ok (.iconst 1, 1) := by decide +kernel
theorem dX9_isMet_104 : decode cX9_isMet 104 = .ok (.goto 4, 3) := by decide +kernel
theorem dX9_isMet_107 : decode cX9_isMet 107 = .ok (.iconst 0, 1) := by decide +kernel
theorem dX9_isMet_108 : decode cX9_isMet 108 = .ok (.istore_n 3, 1) := by decide +kernel
theorem dX9_isMet_109 : decode cX9_isMet 109 = .ok (.iinc 4 1, 3) := by decide +kernel
theorem dX9_isMet_112 : decode cX9_isMet 112 = .ok (.goto (-107), 3) := by decide +kernel
theorem dX9_isMet_115 : decode cX9_isMet 115 = .ok (.iload_n 3, 1) := by decide +kernel
theorem dX9_isMet_116 : decode cX9_isMet 116 = .ok (.ireturn, 1) := by decide +kernel
theorem dX9_layApart_0 : decode cX9_layApart 0 = .ok (.iconst 0, 1) := by decide +kernel
theorem dX9_layApart_1 : decode cX9_layApart 1 = .ok (.istore_n 1, 1) := by decide +kernel
theorem dX9_layApart_2 : decode cX9_layApart 2 = .ok (.iload_n 1, 1) := by decide +kernel
theorem dX9_layApart_3 : decode cX9_layApart 3 = .ok (.bipush 16, 2) := by decide +kernel
theorem dX9_layApart_5 : decode cX9_layApart 5 = .ok (.if_icmp .ge 39, 3) := by decide +kernel
theorem dX9_layApart_8 : decode cX9_layApart 8 = .ok (.aload_n 0, 1) := by decide +kernel
theorem dX9_layApart_9 : decode cX9_layApart 9 = .ok (.getfield 42, 3) := by decide +kernel
theorem dX9_layApart_12 : decode cX9_layApart 12 = .ok (.iload_n 1, 1) := by decide +kernel
theorem dX9_layApart_13 : decode cX9_layApart 13 = .ok (.aload_n 0, 1) := by decide +kernel
theorem dX9_layApart_14 : decode cX9_layApart 14 = .ok (.getfield 13, 3) := by decide +kernel
theorem dX9_layApart_17 : decode cX9_layApart 17 = .ok (.iload_n 1, 1) := by decide +kernel
theorem dX9_layApart_18 : decode cX9_layApart 18 = .ok (.iconst 4, 1) := by decide +kernel
theorem dX9_layApart_19 : decode cX9_layApart 19 = .ok (.idiv, 1) := by decide +kernel
theorem dX9_layApart_20 : decode cX9_layApart 20 = .ok (.iaload, 1) := by decide +kernel
theorem dX9_layApart_21 : decode cX9_layApart 21 = .ok (.aload_n 0, 1) := by decide +kernel
theorem dX9_layApart_22 : decode cX9_layApart 22 = .ok (.getfield 13, 3) := by decide +kernel
theorem dX9_layApart_25 : decode cX9_layApart 25 = .ok (.iload_n 1, 1) := by decide +kernel
theorem dX9_layApart_26 : decode cX9_layApart 26 = .ok (.iconst 4, 1) := by decide +kernel
theorem dX9_layApart_27 : decode cX9_layApart 27 = .ok (.irem, 1) := by decide +kernel
theorem dX9_layApart_28 : decode cX9_layApart 28 = .ok (.iaload, 1) := by decide +kernel
theorem dX9_layApart_29 : decode cX9_layApart 29 = .ok (.if_icmp .eq 7, 3) := by decide +kernel
theorem dX9_layApart_32 : decode cX9_layApart 32 = .ok (.iconst 1, 1) := by decide +kernel
theorem dX9_layApart_33 : decode cX9_layApart 33 = .ok (.goto 4, 3) := by decide +kernel
theorem dX9_layApart_36 : decode cX9_layApart 36 = .ok (.iconst 0, 1) := by decide +kernel
theorem dX9_layApart_37 : decode cX9_layApart 37 = .ok (.bastore, 1) := by decide +kernel
theorem dX9_layApart_38 : decode cX9_layApart 38 = .ok (.iinc 1 1, 3) := by decide +kernel
theorem dX9_layApart_41 : decode cX9_layApart 41 = .ok (.goto (-39), 3) := by decide +kernel
theorem dX9_layApart_44 : decode cX9_layApart 44 = .ok (.iconst 0, 1) := by decide +kernel
theorem dX9_layApart_45 : decode cX9_layApart 45 = .ok (.istore_n 1, 1) := by decide +kernel
theorem dX9_layApart_46 : decode cX9_layApart 46 = .ok (.iload_n 1, 1) := by decide +kernel
theorem dX9_layApart_47 : decode cX9_layApart 47 = .ok (.bipush 16, 2) := by decide +kernel
theorem dX9_layApart_49 : decode cX9_layApart 49 = .ok (.if_icmp .ge 103, 3) := by decide +kernel
theorem dX9_layApart_52 : decode cX9_layApart 52 = .ok (.iconst 0, 1) := by decide +kernel
theorem dX9_layApart_53 : decode cX9_layApart 53 = .ok (.istore_n 2, 1) := by decide +kernel
theorem dX9_layApart_54 : decode cX9_layApart 54 = .ok (.iload_n 2, 1) := by decide +kernel
theorem dX9_layApart_55 : decode cX9_layApart 55 = .ok (.aload_n 0, 1) := by decide +kernel
theorem dX9_layApart_56 : decode cX9_layApart 56 = .ok (.getfield 121, 3) := by decide +kernel
theorem dX9_layApart_59 : decode cX9_layApart 59 = .ok (.if_icmp .ge 87, 3) := by decide +kernel
theorem dX9_layApart_62 : decode cX9_layApart 62 = .ok (.iconst 0, 1) := by decide +kernel
theorem dX9_layApart_63 : decode cX9_layApart 63 = .ok (.istore_n 3, 1) := by decide +kernel
theorem dX9_layApart_64 : decode cX9_layApart 64 = .ok (.iload_n 3, 1) := by decide +kernel
theorem dX9_layApart_65 : decode cX9_layApart 65 = .ok (.aload_n 0, 1) := by decide +kernel
theorem dX9_layApart_66 : decode cX9_layApart 66 = .ok (.getfield 121, 3) := by decide +kernel
theorem dX9_layApart_69 : decode cX9_layApart 69 = .ok (.if_icmp .ge 71, 3) := by decide +kernel
theorem dX9_layApart_72 : decode cX9_layApart 72 = .ok (.aload_n 0, 1) := by decide +kernel
theorem dX9_layApart_73 : decode cX9_layApart 73 = .ok (.getfield 42, 3) := by decide +kernel
theorem dX9_layApart_76 : decode cX9_layApart 76 = .ok (.iconst 4, 1) := by decide +kernel
theorem dX9_layApart_77 : decode cX9_layApart 77 = .ok (.iload_n 2, 1) := by decide +kernel
theorem dX9_layApart_78 : decode cX9_layApart 78 = .ok (.imul, 1) := by decide +kernel
theorem dX9_layApart_79 : decode cX9_layApart 79 = .ok (.iload_n 3, 1) := by decide +kernel
theorem dX9_layApart_80 : decode cX9_layApart 80 = .ok (.iadd, 1) := by decide +kernel
theorem dX9_layApart_81 : decode cX9_layApart 81 = .ok (.baload, 1) := by decide +kernel
theorem dX9_layApart_82 : decode cX9_layApart 82 = .ok (.ifCond .ne 21, 3) := by decide +kernel
theorem dX9_layApart_85 : decode cX9_layApart 85 = .ok (.aload_n 0, 1) := by decide +kernel
theorem dX9_layApart_86 : decode cX9_layApart 86 = .ok (.iload_n 2, 1) := by decide +kernel
theorem dX9_layApart_87 : decode cX9_layApart 87 = .ok (.iload_n 3, 1) := by decide +kernel
theorem dX9_layApart_88 : decode cX9_layApart 88 = .ok (.invokevirtual 175, 3) := by decide +kernel
theorem dX9_layApart_91 : decode cX9_layApart 91 = .ok (.ifCond .eq 12, 3) := by decide +kernel
theorem dX9_layApart_94 : decode cX9_layApart 94 = .ok (.aload_n 0, 1) := by decide +kernel
theorem dX9_layApart_95 : decode cX9_layApart 95 = .ok (.iload_n 3, 1) := by decide +kernel
theorem dX9_layApart_96 : decode cX9_layApart 96 = .ok (.iload_n 2, 1) := by decide +kernel
theorem dX9_layApart_97 : decode cX9_layApart 97 = .ok (.invokevirtual 175, 3) := by decide +kernel
theorem dX9_layApart_100 : decode cX9_layApart 100 = .ok (.ifCond .ne 7, 3) := by decide +kernel
theorem dX9_layApart_103 : decode cX9_layApart 103 = .ok (.iconst 1, 1) := by decide +kernel
theorem dX9_layApart_104 : decode cX9_layApart 104 = .ok (.goto 4, 3) := by decide +kernel
theorem dX9_layApart_107 : decode cX9_layApart 107 = .ok (.iconst 0, 1) := by decide +kernel
theorem dX9_layApart_108 : decode cX9_layApart 108 = .ok (.istore 4, 2) := by decide +kernel
theorem dX9_layApart_110 : decode cX9_layApart 110 = .ok (.aload_n 0, 1) := by decide +kernel
theorem dX9_layApart_111 : decode cX9_layApart 111 = .ok (.getfield 42, 3) := by decide +kernel
theorem dX9_layApart_114 : decode cX9_layApart 114 = .ok (.iconst 4, 1) := by decide +kernel
theorem dX9_layApart_115 : decode cX9_layApart 115 = .ok (.iload_n 2, 1) := by decide +kernel
theorem dX9_layApart_116 : decode cX9_layApart 116 = .ok (.imul, 1) := by decide +kernel
theorem dX9_layApart_117 : decode cX9_layApart 117 = .ok (.iload_n 3, 1) := by decide +kernel
theorem dX9_layApart_118 : decode cX9_layApart 118 = .ok (.iadd, 1) := by decide +kernel
theorem dX9_layApart_119 : decode cX9_layApart 119 = .ok (.iload 4, 2) := by decide +kernel
theorem dX9_layApart_121 : decode cX9_layApart 121 = .ok (.bastore, 1) := by decide +kernel
theorem dX9_layApart_122 : decode cX9_layApart 122 = .ok (.aload_n 0, 1) := by decide +kernel
theorem dX9_layApart_123 : decode cX9_layApart 123 = .ok (.getfield 42, 3) := by decide +kernel
theorem dX9_layApart_126 : decode cX9_layApart 126 = .ok (.iconst 4, 1) := by decide +kernel
theorem dX9_layApart_127 : decode cX9_layApart 127 = .ok (.iload_n 3, 1) := by decide +kernel
theorem dX9_layApart_128 : decode cX9_layApart 128 = .ok (.imul, 1) := by decide +kernel
theorem dX9_layApart_129 : decode cX9_layApart 129 = .ok (.iload_n 2, 1) := by decide +kernel
theorem dX9_layApart_130 : decode cX9_layApart 130 = .ok (.iadd, 1) := by decide +kernel
theorem dX9_layApart_131 : decode cX9_layApart 131 = .ok (.iload 4, 2) := by decide +kernel
theorem dX9_layApart_133 : decode cX9_layApart 133 = .ok (.bastore, 1) := by decide +kernel
theorem dX9_layApart_134 : decode cX9_layApart 134 = .ok (.iinc 3 1, 3) := by decide +kernel
theorem dX9_layApart_137 : decode cX9_layApart 137 = .ok (.goto (-73), 3) := by decide +kernel
theorem dX9_layApart_140 : decode cX9_layApart 140 = .ok (.iinc 2 1, 3) := by decide +kernel
theorem dX9_layApart_143 : decode cX9_layApart 143 = .ok (.goto (-89), 3) := by decide +kernel
theorem dX9_layApart_146 : decode cX9_layApart 146 = .ok (.iinc 1 1, 3) := by decide +kernel
theorem dX9_layApart_149 : decode cX9_layApart 149 = .ok (.goto (-103), 3) := by decide +kernel
theorem dX9_layApart_152 : decode cX9_layApart 152 = .ok (.return_, 1) := by decide +kernel
theorem dX9_twinOf_0 : decode cX9_twinOf 0 = .ok (.iconst 0, 1) := by decide +kernel
theorem dX9_twinOf_1 : decode cX9_twinOf 1 = .ok (.istore_n 2, 1) := by decide +kernel
theorem dX9_twinOf_2 : decode cX9_twinOf 2 = .ok (.iload_n 2, 1) := by decide +kernel
theorem dX9_twinOf_3 : decode cX9_twinOf 3 = .ok (.iload_n 1, 1) := by decide +kernel
theorem dX9_twinOf_4 : decode cX9_twinOf 4 = .ok (.if_icmp .ge 22, 3) := by decide +kernel
theorem dX9_twinOf_7 : decode cX9_twinOf 7 = .ok (.aload_n 0, 1) := by decide +kernel
theorem dX9_twinOf_8 : decode cX9_twinOf 8 = .ok (.getfield 42, 3) := by decide +kernel
theorem dX9_twinOf_11 : decode cX9_twinOf 11 = .ok (.iconst 4, 1) := by decide +kernel
theorem dX9_twinOf_12 : decode cX9_twinOf 12 = .ok (.iload_n 1, 1) := by decide +kernel
theorem dX9_twinOf_13 : decode cX9_twinOf 13 = .ok (.imul, 1) := by decide +kernel
theorem dX9_twinOf_14 : decode cX9_twinOf 14 = .ok (.iload_n 2, 1) := by decide +kernel
theorem dX9_twinOf_15 : decode cX9_twinOf 15 = .ok (.iadd, 1) := by decide +kernel
theorem dX9_twinOf_16 : decode cX9_twinOf 16 = .ok (.baload, 1) := by decide +kernel
theorem dX9_twinOf_17 : decode cX9_twinOf 17 = .ok (.ifCond .eq 9, 3) := by decide +kernel
theorem dX9_twinOf_20 : decode cX9_twinOf 20 = .ok (.iinc 2 1, 3) := by decide +kernel
theorem dX9_twinOf_23 : decode cX9_twinOf 23 = .ok (.goto (-21), 3) := by decide +kernel
theorem dX9_twinOf_26 : decode cX9_twinOf 26 = .ok (.iload_n 2, 1) := by decide +kernel
theorem dX9_twinOf_27 : decode cX9_twinOf 27 = .ok (.ireturn, 1) := by decide +kernel
theorem dX9_twinKinds_0 : decode cX9_twinKinds 0 = .ok (.aload_n 0, 1) := by decide +kernel
theorem dX9_twinKinds_1 : decode cX9_twinKinds 1 = .ok (.invokevirtual 178, 3) := by decide +kernel
theorem dX9_twinKinds_4 : decode cX9_twinKinds 4 = .ok (.iconst 0, 1) := by decide +kernel
theorem dX9_twinKinds_5 : decode cX9_twinKinds 5 = .ok (.istore_n 1, 1) := by decide +kernel
theorem dX9_twinKinds_6 : decode cX9_twinKinds 6 = .ok (.iconst 0, 1) := by decide +kernel
theorem dX9_twinKinds_7 : decode cX9_twinKinds 7 = .ok (.istore_n 2, 1) := by decide +kernel
theorem dX9_twinKinds_8 : decode cX9_twinKinds 8 = .ok (.iload_n 2, 1) := by decide +kernel
theorem dX9_twinKinds_9 : decode cX9_twinKinds 9 = .ok (.aload_n 0, 1) := by decide +kernel
theorem dX9_twinKinds_10 : decode cX9_twinKinds 10 = .ok (.getfield 121, 3) := by decide +kernel
theorem dX9_twinKinds_13 : decode cX9_twinKinds 13 = .ok (.if_icmp .ge 26, 3) := by decide +kernel
theorem dX9_twinKinds_16 : decode cX9_twinKinds 16 = .ok (.iload_n 1, 1) := by decide +kernel
theorem dX9_twinKinds_17 : decode cX9_twinKinds 17 = .ok (.aload_n 0, 1) := by decide +kernel
theorem dX9_twinKinds_18 : decode cX9_twinKinds 18 = .ok (.iload_n 2, 1) := by decide +kernel
theorem dX9_twinKinds_19 : decode cX9_twinKinds 19 = .ok (.invokevirtual 181, 3) := by decide +kernel
theorem dX9_twinKinds_22 : decode cX9_twinKinds 22 = .ok (.iload_n 2, 1) := by decide +kernel
theorem dX9_twinKinds_23 : decode cX9_twinKinds 23 = .ok (.if_icmp .ne 7, 3) := by decide +kernel
theorem dX9_twinKinds_26 : decode cX9_twinKinds 26 = .ok (.iconst 1, 1) := by decide +kernel
theorem dX9_twinKinds_27 : decode cX9_twinKinds 27 = .ok (.goto 4, 3) := by decide +kernel
theorem dX9_twinKinds_30 : decode cX9_twinKinds 30 = .ok (.iconst 0, 1) := by decide +kernel
theorem dX9_twinKinds_31 : decode cX9_twinKinds 31 = .ok (.iadd, 1) := by decide +kernel
theorem dX9_twinKinds_32 : decode cX9_twinKinds 32 = .ok (.istore_n 1, 1) := by decide +kernel
theorem dX9_twinKinds_33 : decode cX9_twinKinds 33 = .ok (.iinc 2 1, 3) := by decide +kernel
theorem dX9_twinKinds_36 : decode cX9_twinKinds 36 = .ok (.goto (-28), 3) := by decide +kernel
theorem dX9_twinKinds_39 : decode cX9_twinKinds 39 = .ok (.iload_n 1, 1) := by decide +kernel
theorem dX9_twinKinds_40 : decode cX9_twinKinds 40 = .ok (.ireturn, 1) := by decide +kernel
theorem dX9_isLike_0 : decode cX9_isLike 0 = .ok (.iconst 1, 1) := by decide +kernel
theorem dX9_isLike_1 : decode cX9_isLike 1 = .ok (.istore_n 3, 1) := by decide +kernel
theorem dX9_isLike_2 : decode cX9_isLike 2 = .ok (.iconst 0, 1) := by decide +kernel
theorem dX9_isLike_3 : decode cX9_isLike 3 = .ok (.istore 4, 2) := by decide +kernel
theorem dX9_isLike_5 : decode cX9_isLike 5 = .ok (.iload 4, 2) := by decide +kernel
theorem dX9_isLike_7 : decode cX9_isLike 7 = .ok (.aload_n 0, 1) := by decide +kernel
theorem dX9_isLike_8 : decode cX9_isLike 8 = .ok (.getfield 130, 3) := by decide +kernel
theorem dX9_isLike_11 : decode cX9_isLike 11 = .ok (.if_icmp .ge 44, 3) := by decide +kernel
theorem dX9_isLike_14 : decode cX9_isLike 14 = .ok (.iload_n 3, 1) := by decide +kernel
theorem dX9_isLike_15 : decode cX9_isLike 15 = .ok (.ifCond .eq 32, 3) := by decide +kernel
theorem dX9_isLike_18 : decode cX9_isLike 18 = .ok (.aload_n 0, 1) := by decide +kernel
theorem dX9_isLike_19 : decode cX9_isLike 19 = .ok (.getfield 39, 3) := by decide +kernel
theorem dX9_isLike_22 : decode cX9_isLike 22 = .ok (.iload 4, 2) := by decide +kernel
theorem dX9_isLike_24 : decode cX9_isLike 24 = .ok (.iaload, 1) := by decide +kernel
theorem dX9_isLike_25 : decode cX9_isLike 25 = .ok (.iload_n 1, 1) := by decide +kernel
theorem dX9_isLike_26 : decode cX9_isLike 26 = .ok (.invokestatic 161, 3) := by decide +kernel
theorem dX9_isLike_29 : decode cX9_isLike 29 = .ok (.aload_n 0, 1) := by decide +kernel
theorem dX9_isLike_30 : decode cX9_isLike 30 = .ok (.getfield 39, 3) := by decide +kernel
theorem dX9_isLike_33 : decode cX9_isLike 33 = .ok (.iload 4, 2) := by decide +kernel
theorem dX9_isLike_35 : decode cX9_isLike 35 = .ok (.iaload, 1) := by decide +kernel
theorem dX9_isLike_36 : decode cX9_isLike 36 = .ok (.iload_n 2, 1) := by decide +kernel
theorem dX9_isLike_37 : decode cX9_isLike 37 = .ok (.invokestatic 161, 3) := by decide +kernel
theorem dX9_isLike_40 : decode cX9_isLike 40 = .ok (.if_icmp .ne 7, 3) := by decide +kernel
theorem dX9_isLike_43 : decode cX9_isLike 43 = .ok (.iconst 1, 1) := by decide +kernel
theorem dX9_isLike_44 : decode cX9_isLike 44 = .ok (.goto 4, 3) := by decide +kernel
theorem dX9_isLike_47 : decode cX9_isLike 47 = .ok (.iconst 0, 1) := by decide +kernel
theorem dX9_isLike_48 : decode cX9_isLike 48 = .ok (.istore_n 3, 1) := by decide +kernel
theorem dX9_isLike_49 : decode cX9_isLike 49 = .ok (.iinc 4 1, 3) := by decide +kernel
theorem dX9_isLike_52 : decode cX9_isLike 52 = .ok (.goto (-47), 3) := by decide +kernel
theorem dX9_isLike_55 : decode cX9_isLike 55 = .ok (.iload_n 3, 1) := by decide +kernel
theorem dX9_isLike_56 : decode cX9_isLike 56 = .ok (.ireturn, 1) := by decide +kernel
theorem dX9_likeOf_0 : decode cX9_likeOf 0 = .ok (.aload_n 0, 1) := by decide +kernel
theorem dX9_likeOf_1 : decode cX9_likeOf 1 = .ok (.invokevirtual 184, 3) := by decide +kernel
theorem dX9_likeOf_4 : decode cX9_likeOf 4 = .ok (.aload_n 0, 1) := by decide +kernel
theorem dX9_likeOf_5 : decode cX9_likeOf 5 = .ok (.invokevirtual 158, 3) := by decide +kernel
theorem dX9_likeOf_8 : decode cX9_likeOf 8 = .ok (.iconst 0, 1) := by decide +kernel
theorem dX9_likeOf_9 : decode cX9_likeOf 9 = .ok (.istore_n 2, 1) := by decide +kernel
theorem dX9_likeOf_10 : decode cX9_likeOf 10 = .ok (.iload_n 2, 1) := by decide +kernel
theorem dX9_likeOf_11 : decode cX9_likeOf 11 = .ok (.iload_n 1, 1) := by decide +kernel
theorem dX9_likeOf_12 : decode cX9_likeOf 12 = .ok (.if_icmp .ge 18, 3) := by decide +kernel
theorem dX9_likeOf_15 : decode cX9_likeOf 15 = .ok (.aload_n 0, 1) := by decide +kernel
theorem dX9_likeOf_16 : decode cX9_likeOf 16 = .ok (.iload_n 1, 1) := by decide +kernel
theorem dX9_likeOf_17 : decode cX9_likeOf 17 = .ok (.iload_n 2, 1) := by decide +kernel
theorem dX9_likeOf_18 : decode cX9_likeOf 18 = .ok (.invokevirtual 187, 3) := by decide +kernel
theorem dX9_likeOf_21 : decode cX9_likeOf 21 = .ok (.ifCond .ne 9, 3) := by decide +kernel
theorem dX9_likeOf_24 : decode cX9_likeOf 24 = .ok (.iinc 2 1, 3) := by decide +kernel
theorem dX9_likeOf_27 : decode cX9_likeOf 27 = .ok (.goto (-17), 3) := by decide +kernel
theorem dX9_likeOf_30 : decode cX9_likeOf 30 = .ok (.iload_n 2, 1) := by decide +kernel
theorem dX9_likeOf_31 : decode cX9_likeOf 31 = .ok (.ireturn, 1) := by decide +kernel
theorem dX9_formulaHolds_0 : decode cX9_formulaHolds 0 = .ok (.aload_n 0, 1) := by decide +kernel
theorem dX9_formulaHolds_1 : decode cX9_formulaHolds 1 = .ok (.invokevirtual 184, 3) := by decide +kernel
theorem dX9_formulaHolds_4 : decode cX9_formulaHolds 4 = .ok (.aload_n 0, 1) := by decide +kernel
theorem dX9_formulaHolds_5 : decode cX9_formulaHolds 5 = .ok (.invokevirtual 158, 3) := by decide +kernel
theorem dX9_formulaHolds_8 : decode cX9_formulaHolds 8 = .ok (.aload_n 0, 1) := by decide +kernel
theorem dX9_formulaHolds_9 : decode cX9_formulaHolds 9 = .ok (.getfield 39, 3) := by decide +kernel
theorem dX9_formulaHolds_12 : decode cX9_formulaHolds 12 = .ok (.iconst 0, 1) := by decide +kernel
theorem dX9_formulaHolds_13 : decode cX9_formulaHolds 13 = .ok (.iaload, 1) := by decide +kernel
theorem dX9_formulaHolds_14 : decode cX9_formulaHolds 14 = .ok (.ireturn, 1) := by decide +kernel
theorem dX9_allArrows_0 : decode cX9_allArrows 0 = .ok (.iconst 0, 1) := by decide +kernel
theorem dX9_allArrows_1 : decode cX9_allArrows 1 = .ok (.istore_n 1, 1) := by decide +kernel
theorem dX9_allArrows_2 : decode cX9_allArrows 2 = .ok (.iconst 0, 1) := by decide +kernel
theorem dX9_allArrows_3 : decode cX9_allArrows 3 = .ok (.istore_n 2, 1) := by decide +kernel
theorem dX9_allArrows_4 : decode cX9_allArrows 4 = .ok (.iload_n 2, 1) := by decide +kernel
theorem dX9_allArrows_5 : decode cX9_allArrows 5 = .ok (.bipush 16, 2) := by decide +kernel
theorem dX9_allArrows_7 : decode cX9_allArrows 7 = .ok (.if_icmp .ge 26, 3) := by decide +kernel
theorem dX9_allArrows_10 : decode cX9_allArrows 10 = .ok (.iload_n 1, 1) := by decide +kernel
theorem dX9_allArrows_11 : decode cX9_allArrows 11 = .ok (.aload_n 0, 1) := by decide +kernel
theorem dX9_allArrows_12 : decode cX9_allArrows 12 = .ok (.getfield 7, 3) := by decide +kernel
theorem dX9_allArrows_15 : decode cX9_allArrows 15 = .ok (.iload_n 2, 1) := by decide +kernel
theorem dX9_allArrows_16 : decode cX9_allArrows 16 = .ok (.baload, 1) := by decide +kernel
theorem dX9_allArrows_17 : decode cX9_allArrows 17 = .ok (.ifCond .eq 7, 3) := by decide +kernel
theorem dX9_allArrows_20 : decode cX9_allArrows 20 = .ok (.iconst 1, 1) := by decide +kernel
theorem dX9_allArrows_21 : decode cX9_allArrows 21 = .ok (.goto 4, 3) := by decide +kernel
theorem dX9_allArrows_24 : decode cX9_allArrows 24 = .ok (.iconst 0, 1) := by decide +kernel
theorem dX9_allArrows_25 : decode cX9_allArrows 25 = .ok (.iadd, 1) := by decide +kernel
theorem dX9_allArrows_26 : decode cX9_allArrows 26 = .ok (.istore_n 1, 1) := by decide +kernel
theorem dX9_allArrows_27 : decode cX9_allArrows 27 = .ok (.iinc 2 1, 3) := by decide +kernel
theorem dX9_allArrows_30 : decode cX9_allArrows 30 = .ok (.goto (-26), 3) := by decide +kernel
theorem dX9_allArrows_33 : decode cX9_allArrows 33 = .ok (.iload_n 1, 1) := by decide +kernel
theorem dX9_allArrows_34 : decode cX9_allArrows 34 = .ok (.ireturn, 1) := by decide +kernel
theorem dX9_fitsTold_0 : decode cX9_fitsTold 0 = .ok (.aload_n 0, 1) := by decide +kernel
theorem dX9_fitsTold_1 : decode cX9_fitsTold 1 = .ok (.invokevirtual 184, 3) := by decide +kernel
theorem dX9_fitsTold_4 : decode cX9_fitsTold 4 = .ok (.aload_n 0, 1) := by decide +kernel
theorem dX9_fitsTold_5 : decode cX9_fitsTold 5 = .ok (.aload_n 0, 1) := by decide +kernel
theorem dX9_fitsTold_6 : decode cX9_fitsTold 6 = .ok (.getfield 118, 3) := by decide +kernel
theorem dX9_fitsTold_9 : decode cX9_fitsTold 9 = .ok (.invokevirtual 190, 3) := by decide +kernel
theorem dX9_fitsTold_12 : decode cX9_fitsTold 12 = .ok (.ifCond .eq 7, 3) := by decide +kernel
theorem dX9_fitsTold_15 : decode cX9_fitsTold 15 = .ok (.iconst 1, 1) := by decide +kernel
theorem dX9_fitsTold_16 : decode cX9_fitsTold 16 = .ok (.goto 4, 3) := by decide +kernel
theorem dX9_fitsTold_19 : decode cX9_fitsTold 19 = .ok (.iconst 0, 1) := by decide +kernel
theorem dX9_fitsTold_20 : decode cX9_fitsTold 20 = .ok (.ireturn, 1) := by decide +kernel
theorem dX9_aboutNow_0 : decode cX9_aboutNow 0 = .ok (.iload_n 1, 1) := by decide +kernel
theorem dX9_aboutNow_1 : decode cX9_aboutNow 1 = .ok (.ifCond .ne 10, 3) := by decide +kernel
theorem dX9_aboutNow_4 : decode cX9_aboutNow 4 = .ok (.aload_n 0, 1) := by decide +kernel
theorem dX9_aboutNow_5 : decode cX9_aboutNow 5 = .ok (.getfield 118, 3) := by decide +kernel
theorem dX9_aboutNow_8 : decode cX9_aboutNow 8 = .ok (.goto 43, 3) := by decide +kernel
theorem dX9_aboutNow_11 : decode cX9_aboutNow 11 = .ok (.iload_n 1, 1) := by decide +kernel
theorem dX9_aboutNow_12 : decode cX9_aboutNow 12 = .ok (.iconst 1, 1) := by decide +kernel
theorem dX9_aboutNow_13 : decode cX9_aboutNow 13 = .ok (.if_icmp .ne 10, 3) := by decide +kernel
theorem dX9_aboutNow_16 : decode cX9_aboutNow 16 = .ok (.aload_n 0, 1) := by decide +kernel
theorem dX9_aboutNow_17 : decode cX9_aboutNow 17 = .ok (.getfield 121, 3) := by decide +kernel
theorem dX9_aboutNow_20 : decode cX9_aboutNow 20 = .ok (.goto 31, 3) := by decide +kernel
theorem dX9_aboutNow_23 : decode cX9_aboutNow 23 = .ok (.iload_n 1, 1) := by decide +kernel
theorem dX9_aboutNow_24 : decode cX9_aboutNow 24 = .ok (.iconst 2, 1) := by decide +kernel
theorem dX9_aboutNow_25 : decode cX9_aboutNow 25 = .ok (.if_icmp .ne 10, 3) := by decide +kernel
theorem dX9_aboutNow_28 : decode cX9_aboutNow 28 = .ok (.aload_n 0, 1) := by decide +kernel
theorem dX9_aboutNow_29 : decode cX9_aboutNow 29 = .ok (.invokevirtual 193, 3) := by decide +kernel
theorem dX9_aboutNow_32 : decode cX9_aboutNow 32 = .ok (.goto 19, 3) := by decide +kernel
theorem dX9_aboutNow_35 : decode cX9_aboutNow 35 = .ok (.iload_n 1, 1) := by decide +kernel
theorem dX9_aboutNow_36 : decode cX9_aboutNow 36 = .ok (.iconst 3, 1) := by decide +kernel
theorem dX9_aboutNow_37 : decode cX9_aboutNow 37 = .ok (.if_icmp .ne 10, 3) := by decide +kernel
theorem dX9_aboutNow_40 : decode cX9_aboutNow 40 = .ok (.aload_n 0, 1) := by decide +kernel
theorem dX9_aboutNow_41 : decode cX9_aboutNow 41 = .ok (.invokevirtual 196, 3) := by decide +kernel
theorem dX9_aboutNow_44 : decode cX9_aboutNow 44 = .ok (.goto 7, 3) := by decide +kernel
theorem dX9_aboutNow_47 : decode cX9_aboutNow 47 = .ok (.aload_n 0, 1) := by decide +kernel
theorem dX9_aboutNow_48 : decode cX9_aboutNow 48 = .ok (.invokevirtual 199, 3) := by decide +kernel
theorem dX9_aboutNow_51 : decode cX9_aboutNow 51 = .ok (.ireturn, 1) := by decide +kernel
theorem dX9_about_0 : decode cX9_about 0 = .ok (.iload_n 1, 1) := by decide +kernel
theorem dX9_about_1 : decode cX9_about 1 = .ok (.iconst 0, 1) := by decide +kernel
theorem dX9_about_2 : decode cX9_about 2 = .ok (.iconst 4, 1) := by decide +kernel
theorem dX9_about_3 : decode cX9_about 3 = .ok (.invokestatic 57, 3) := by decide +kernel
theorem dX9_about_6 : decode cX9_about 6 = .ok (.ifCond .ne 6, 3) := by decide +kernel
theorem dX9_about_9 : decode cX9_about 9 = .ok (.bipush (-102), 2) := by decide +kernel
theorem dX9_about_11 : decode cX9_about 11 = .ok (.ireturn, 1) := by decide +kernel
theorem dX9_about_12 : decode cX9_about 12 = .ok (.aload_n 0, 1) := by decide +kernel
theorem dX9_about_13 : decode cX9_about 13 = .ok (.invokevirtual 202, 3) := by decide +kernel
theorem dX9_about_16 : decode cX9_about 16 = .ok (.ifCond .eq 11, 3) := by decide +kernel
theorem dX9_about_19 : decode cX9_about 19 = .ok (.aload_n 0, 1) := by decide +kernel
theorem dX9_about_20 : decode cX9_about 20 = .ok (.iload_n 1, 1) := by decide +kernel
theorem dX9_about_21 : decode cX9_about 21 = .ok (.invokevirtual 206, 3) := by decide +kernel
theorem dX9_about_24 : decode cX9_about 24 = .ok (.goto 5, 3) := by decide +kernel
theorem dX9_about_27 : decode cX9_about 27 = .ok (.bipush (-103), 2) := by decide +kernel
theorem dX9_about_29 : decode cX9_about 29 = .ok (.ireturn, 1) := by decide +kernel
theorem dX9_as_0 : decode cX9_as 0 = .ok (.iload_n 1, 1) := by decide +kernel
theorem dX9_as_1 : decode cX9_as 1 = .ok (.invokestatic 209, 3) := by decide +kernel
theorem dX9_as_4 : decode cX9_as 4 = .ok (.ifCond .ne 6, 3) := by decide +kernel
theorem dX9_as_7 : decode cX9_as 7 = .ok (.bipush (-102), 2) := by decide +kernel
theorem dX9_as_9 : decode cX9_as 9 = .ok (.ireturn, 1) := by decide +kernel
theorem dX9_as_10 : decode cX9_as 10 = .ok (.aload_n 0, 1) := by decide +kernel
theorem dX9_as_11 : decode cX9_as 11 = .ok (.invokevirtual 202, 3) := by decide +kernel
theorem dX9_as_14 : decode cX9_as 14 = .ok (.ifCond .ne 6, 3) := by decide +kernel
theorem dX9_as_17 : decode cX9_as 17 = .ok (.bipush (-103), 2) := by decide +kernel
theorem dX9_as_19 : decode cX9_as 19 = .ok (.ireturn, 1) := by decide +kernel
theorem dX9_as_20 : decode cX9_as 20 = .ok (.iload_n 1, 1) := by decide +kernel
theorem dX9_as_21 : decode cX9_as 21 = .ok (.ifCond .eq 24, 3) := by decide +kernel
theorem dX9_as_24 : decode cX9_as 24 = .ok (.iload_n 1, 1) := by decide +kernel
theorem dX9_as_25 : decode cX9_as 25 = .ok (.aload_n 0, 1) := by decide +kernel
theorem dX9_as_26 : decode cX9_as 26 = .ok (.getfield 118, 3) := by decide +kernel
theorem dX9_as_29 : decode cX9_as 29 = .ok (.if_icmp .eq 16, 3) := by decide +kernel
theorem dX9_as_32 : decode cX9_as 32 = .ok (.iload_n 1, 1) := by decide +kernel
theorem dX9_as_33 : decode cX9_as 33 = .ok (.iconst 1, 1) := by decide +kernel
theorem dX9_as_34 : decode cX9_as 34 = .ok (.if_icmp .ne 18, 3) := by decide +kernel
theorem dX9_as_37 : decode cX9_as 37 = .ok (.aload_n 0, 1) := by decide +kernel
theorem dX9_as_38 : decode cX9_as 38 = .ok (.getfield 118, 3) := by decide +kernel
theorem dX9_as_41 : decode cX9_as 41 = .ok (.iconst 2, 1) := by decide +kernel
theorem dX9_as_42 : decode cX9_as 42 = .ok (.if_icmp .ne 10, 3) := by decide +kernel
theorem dX9_as_45 : decode cX9_as 45 = .ok (.aload_n 0, 1) := by decide +kernel
theorem dX9_as_46 : decode cX9_as 46 = .ok (.getfield 118, 3) := by decide +kernel
theorem dX9_as_49 : decode cX9_as 49 = .ok (.goto 4, 3) := by decide +kernel
theorem dX9_as_52 : decode cX9_as 52 = .ok (.iconst (-1), 1) := by decide +kernel
theorem dX9_as_53 : decode cX9_as 53 = .ok (.ireturn, 1) := by decide +kernel
theorem dX9_goOut_0 : decode cX9_goOut 0 = .ok (.iconst 0, 1) := by decide +kernel
theorem dX9_goOut_1 : decode cX9_goOut 1 = .ok (.istore_n 2, 1) := by decide +kernel
theorem dX9_goOut_2 : decode cX9_goOut 2 = .ok (.iconst 0, 1) := by decide +kernel
theorem dX9_goOut_3 : decode cX9_goOut 3 = .ok (.istore_n 3, 1) := by decide +kernel
theorem dX9_goOut_4 : decode cX9_goOut 4 = .ok (.iload_n 3, 1) := by decide +kernel
theorem dX9_goOut_5 : decode cX9_goOut 5 = .ok (.aload_n 0, 1) := by decide +kernel
theorem dX9_goOut_6 : decode cX9_goOut 6 = .ok (.getfield 121, 3) := by decide +kernel
theorem dX9_goOut_9 : decode cX9_goOut 9 = .ok (.if_icmp .ge 30, 3) := by decide +kernel
theorem dX9_goOut_12 : decode cX9_goOut 12 = .ok (.iload_n 2, 1) := by decide +kernel
theorem dX9_goOut_13 : decode cX9_goOut 13 = .ok (.aload_n 0, 1) := by decide +kernel
theorem dX9_goOut_14 : decode cX9_goOut 14 = .ok (.getfield 7, 3) := by decide +kernel
theorem dX9_goOut_17 : decode cX9_goOut 17 = .ok (.iconst 4, 1) := by decide +kernel
theorem dX9_goOut_18 : decode cX9_goOut 18 = .ok (.iload_n 1, 1) := by decide +kernel
theorem dX9_goOut_19 : decode cX9_goOut 19 = .ok (.imul, 1) := by decide +kernel
theorem dX9_goOut_20 : decode cX9_goOut 20 = .ok (.iload_n 3, 1) := by decide +kernel
theorem dX9_goOut_21 : decode cX9_goOut 21 = .ok (.iadd, 1) := by decide +kernel
theorem dX9_goOut_22 : decode cX9_goOut 22 = .ok (.baload, 1) := by decide +kernel
theorem dX9_goOut_23 : decode cX9_goOut 23 = .ok (.ifCond .eq 7, 3) := by decide +kernel
theorem dX9_goOut_26 : decode cX9_goOut 26 = .ok (.iconst 1, 1) := by decide +kernel
theorem dX9_goOut_27 : decode cX9_goOut 27 = .ok (.goto 4, 3) := by decide +kernel
theorem dX9_goOut_30 : decode cX9_goOut 30 = .ok (.iconst 0, 1) := by decide +kernel
theorem dX9_goOut_31 : decode cX9_goOut 31 = .ok (.iadd, 1) := by decide +kernel
theorem dX9_goOut_32 : decode cX9_goOut 32 = .ok (.istore_n 2, 1) := by decide +kernel
theorem dX9_goOut_33 : decode cX9_goOut 33 = .ok (.iinc 3 1, 3) := by decide +kernel
theorem dX9_goOut_36 : decode cX9_goOut 36 = .ok (.goto (-32), 3) := by decide +kernel
theorem dX9_goOut_39 : decode cX9_goOut 39 = .ok (.iload_n 2, 1) := by decide +kernel
theorem dX9_goOut_40 : decode cX9_goOut 40 = .ok (.ireturn, 1) := by decide +kernel
theorem dX9_comeIn_0 : decode cX9_comeIn 0 = .ok (.iconst 0, 1) := by decide +kernel
theorem dX9_comeIn_1 : decode cX9_comeIn 1 = .ok (.istore_n 2, 1) := by decide +kernel
theorem dX9_comeIn_2 : decode cX9_comeIn 2 = .ok (.iconst 0, 1) := by decide +kernel
theorem dX9_comeIn_3 : decode cX9_comeIn 3 = .ok (.istore_n 3, 1) := by decide +kernel
theorem dX9_comeIn_4 : decode cX9_comeIn 4 = .ok (.iload_n 3, 1) := by decide +kernel
theorem dX9_comeIn_5 : decode cX9_comeIn 5 = .ok (.aload_n 0, 1) := by decide +kernel
theorem dX9_comeIn_6 : decode cX9_comeIn 6 = .ok (.getfield 121, 3) := by decide +kernel
theorem dX9_comeIn_9 : decode cX9_comeIn 9 = .ok (.if_icmp .ge 30, 3) := by decide +kernel
theorem dX9_comeIn_12 : decode cX9_comeIn 12 = .ok (.iload_n 2, 1) := by decide +kernel
theorem dX9_comeIn_13 : decode cX9_comeIn 13 = .ok (.aload_n 0, 1) := by decide +kernel
theorem dX9_comeIn_14 : decode cX9_comeIn 14 = .ok (.getfield 7, 3) := by decide +kernel
theorem dX9_comeIn_17 : decode cX9_comeIn 17 = .ok (.iconst 4, 1) := by decide +kernel
theorem dX9_comeIn_18 : decode cX9_comeIn 18 = .ok (.iload_n 3, 1) := by decide +kernel
theorem dX9_comeIn_19 : decode cX9_comeIn 19 = .ok (.imul, 1) := by decide +kernel
theorem dX9_comeIn_20 : decode cX9_comeIn 20 = .ok (.iload_n 1, 1) := by decide +kernel
theorem dX9_comeIn_21 : decode cX9_comeIn 21 = .ok (.iadd, 1) := by decide +kernel
theorem dX9_comeIn_22 : decode cX9_comeIn 22 = .ok (.baload, 1) := by decide +kernel
theorem dX9_comeIn_23 : decode cX9_comeIn 23 = .ok (.ifCond .eq 7, 3) := by decide +kernel
theorem dX9_comeIn_26 : decode cX9_comeIn 26 = .ok (.iconst 1, 1) := by decide +kernel
theorem dX9_comeIn_27 : decode cX9_comeIn 27 = .ok (.goto 4, 3) := by decide +kernel
theorem dX9_comeIn_30 : decode cX9_comeIn 30 = .ok (.iconst 0, 1) := by decide +kernel
theorem dX9_comeIn_31 : decode cX9_comeIn 31 = .ok (.iadd, 1) := by decide +kernel
theorem dX9_comeIn_32 : decode cX9_comeIn 32 = .ok (.istore_n 2, 1) := by decide +kernel
theorem dX9_comeIn_33 : decode cX9_comeIn 33 = .ok (.iinc 3 1, 3) := by decide +kernel
theorem dX9_comeIn_36 : decode cX9_comeIn 36 = .ok (.goto (-32), 3) := by decide +kernel
theorem dX9_comeIn_39 : decode cX9_comeIn 39 = .ok (.iload_n 2, 1) := by decide +kernel
theorem dX9_comeIn_40 : decode cX9_comeIn 40 = .ok (.ireturn, 1) := by decide +kernel
theorem dX9_worldNow_0 : decode cX9_worldNow 0 = .ok (.iload_n 2, 1) := by decide +kernel
theorem dX9_worldNow_1 : decode cX9_worldNow 1 = .ok (.tableswitch 81 0 4 #[35, 41, 47, 54, 64], 35) := by decide +kernel
theorem dX9_worldNow_36 : decode cX9_worldNow 36 = .ok (.aload_n 0, 1) := by decide +kernel
theorem dX9_worldNow_37 : decode cX9_worldNow 37 = .ok (.iload_n 1, 1) := by decide +kernel
theorem dX9_worldNow_38 : decode cX9_worldNow 38 = .ok (.invokevirtual 212, 3) := by decide +kernel
theorem dX9_worldNow_41 : decode cX9_worldNow 41 = .ok (.ireturn, 1) := by decide +kernel
theorem dX9_worldNow_42 : decode cX9_worldNow 42 = .ok (.aload_n 0, 1) := by decide +kernel
theorem dX9_worldNow_43 : decode cX9_worldNow 43 = .ok (.iload_n 1, 1) := by decide +kernel
theorem dX9_worldNow_44 : decode cX9_worldNow 44 = .ok (.invokevirtual 215, 3) := by decide +kernel
theorem dX9_worldNow_47 : decode cX9_worldNow 47 = .ok (.ireturn, 1) := by decide +kernel
theorem dX9_worldNow_48 : decode cX9_worldNow 48 = .ok (.aload_n 0, 1) := by decide +kernel
theorem dX9_worldNow_49 : decode cX9_worldNow 49 = .ok (.getfield 13, 3) := by decide +kernel
theorem dX9_worldNow_52 : decode cX9_worldNow 52 = .ok (.iload_n 1, 1) := by decide +kernel
theorem dX9_worldNow_53 : decode cX9_worldNow 53 = .ok (.iaload, 1) := by decide +kernel
theorem dX9_worldNow_54 : decode cX9_worldNow 54 = .ok (.ireturn, 1) := by decide +kernel
theorem dX9_worldNow_55 : decode cX9_worldNow 55 = .ok (.aload_n 0, 1) := by decide +kernel
theorem dX9_worldNow_56 : decode cX9_worldNow 56 = .ok (.invokevirtual 178, 3) := by decide +kernel
theorem dX9_worldNow_59 : decode cX9_worldNow 59 = .ok (.aload_n 0, 1) := by decide +kernel
theorem dX9_worldNow_60 : decode cX9_worldNow 60 = .ok (.iload_n 1, 1) := by decide +kernel
theorem dX9_worldNow_61 : decode cX9_worldNow 61 = .ok (.invokevirtual 181, 3) := by decide +kernel
theorem dX9_worldNow_64 : decode cX9_worldNow 64 = .ok (.ireturn, 1) := by decide +kernel
theorem dX9_worldNow_65 : decode cX9_worldNow 65 = .ok (.aload_n 0, 1) := by decide +kernel
theorem dX9_worldNow_66 : decode cX9_worldNow 66 = .ok (.invokevirtual 218, 3) := by decide +kernel
theorem dX9_worldNow_69 : decode cX9_worldNow 69 = .ok (.ifCond .eq 11, 3) := by decide +kernel
theorem dX9_worldNow_72 : decode cX9_worldNow 72 = .ok (.aload_n 0, 1) := by decide +kernel
theorem dX9_worldNow_73 : decode cX9_worldNow 73 = .ok (.iload_n 1, 1) := by decide +kernel
theorem dX9_worldNow_74 : decode cX9_worldNow 74 = .ok (.invokevirtual 221, 3) := by decide +kernel
theorem dX9_worldNow_77 : decode cX9_worldNow 77 = .ok (.goto 4, 3) := by decide +kernel
theorem dX9_worldNow_80 : decode cX9_worldNow 80 = .ok (.iconst (-1), 1) := by decide +kernel
theorem dX9_worldNow_81 : decode cX9_worldNow 81 = .ok (.ireturn, 1) := by decide +kernel
theorem dX9_worldNow_82 : decode cX9_worldNow 82 = .ok (.aload_n 0, 1) := by decide +kernel
theorem dX9_worldNow_83 : decode cX9_worldNow 83 = .ok (.invokevirtual 218, 3) := by decide +kernel
theorem dX9_worldNow_86 : decode cX9_worldNow 86 = .ok (.ifCond .eq 14, 3) := by decide +kernel
theorem dX9_worldNow_89 : decode cX9_worldNow 89 = .ok (.aload_n 0, 1) := by decide +kernel
theorem dX9_worldNow_90 : decode cX9_worldNow 90 = .ok (.invokevirtual 224, 3) := by decide +kernel
theorem dX9_worldNow_93 : decode cX9_worldNow 93 = .ok (.iload_n 1, 1) := by decide +kernel
theorem dX9_worldNow_94 : decode cX9_worldNow 94 = .ok (.ishr, 1) := by decide +kernel
theorem dX9_worldNow_95 : decode cX9_worldNow 95 = .ok (.iconst 1, 1) := by decide +kernel
theorem dX9_worldNow_96 : decode cX9_worldNow 96 = .ok (.iand, 1) := by decide +kernel
theorem dX9_worldNow_97 : decode cX9_worldNow 97 = .ok (.goto 4, 3) := by decide +kernel
theorem dX9_worldNow_100 : decode cX9_worldNow 100 = .ok (.iconst (-1), 1) := by decide +kernel
theorem dX9_worldNow_101 : decode cX9_worldNow 101 = .ok (.ireturn, 1) := by decide +kernel
theorem dX9_world_0 : decode cX9_world 0 = .ok (.aload_n 0, 1) := by decide +kernel
theorem dX9_world_1 : decode cX9_world 1 = .ok (.iload_n 1, 1) := by decide +kernel
theorem dX9_world_2 : decode cX9_world 2 = .ok (.invokevirtual 227, 3) := by decide +kernel
theorem dX9_world_5 : decode cX9_world 5 = .ok (.ifCond .ne 8, 3) := by decide +kernel
theorem dX9_world_8 : decode cX9_world 8 = .ok (.bipush (-101), 2) := by decide +kernel
theorem dX9_world_10 : decode cX9_world 10 = .ok (.goto 23, 3) := by decide +kernel
theorem dX9_world_13 : decode cX9_world 13 = .ok (.iload_n 2, 1) := by decide +kernel
theorem dX9_world_14 : decode cX9_world 14 = .ok (.iconst 0, 1) := by decide +kernel
theorem dX9_world_15 : decode cX9_world 15 = .ok (.iconst 5, 1) := by decide +kernel
theorem dX9_world_16 : decode cX9_world 16 = .ok (.invokestatic 57, 3) := by decide +kernel
theorem dX9_world_19 : decode cX9_world 19 = .ok (.ifCond .eq 12, 3) := by decide +kernel
theorem dX9_world_22 : decode cX9_world 22 = .ok (.aload_n 0, 1) := by decide +kernel
theorem dX9_world_23 : decode cX9_world 23 = .ok (.iload_n 1, 1) := by decide +kernel
theorem dX9_world_24 : decode cX9_world 24 = .ok (.iload_n 2, 1) := by decide +kernel
theorem dX9_world_25 : decode cX9_world 25 = .ok (.invokevirtual 230, 3) := by decide +kernel
theorem dX9_world_28 : decode cX9_world 28 = .ok (.goto 5, 3) := by decide +kernel
theorem dX9_world_31 : decode cX9_world 31 = .ok (.bipush (-102), 2) := by decide +kernel
theorem dX9_world_33 : decode cX9_world 33 = .ok (.ireturn, 1) := by decide +kernel
theorem dX9_arrowNow_0 : decode cX9_arrowNow 0 = .ok (.aload_n 0, 1) := by decide +kernel
theorem dX9_arrowNow_1 : decode cX9_arrowNow 1 = .ok (.getfield 7, 3) := by decide +kernel
theorem dX9_arrowNow_4 : decode cX9_arrowNow 4 = .ok (.iconst 4, 1) := by decide +kernel
theorem dX9_arrowNow_5 : decode cX9_arrowNow 5 = .ok (.iload_n 1, 1) := by decide +kernel
theorem dX9_arrowNow_6 : decode cX9_arrowNow 6 = .ok (.imul, 1) := by decide +kernel
theorem dX9_arrowNow_7 : decode cX9_arrowNow 7 = .ok (.iload_n 2, 1) := by decide +kernel
theorem dX9_arrowNow_8 : decode cX9_arrowNow 8 = .ok (.iadd, 1) := by decide +kernel
theorem dX9_arrowNow_9 : decode cX9_arrowNow 9 = .ok (.baload, 1) := by decide +kernel
theorem dX9_arrowNow_10 : decode cX9_arrowNow 10 = .ok (.ifCond .eq 7, 3) := by decide +kernel
theorem dX9_arrowNow_13 : decode cX9_arrowNow 13 = .ok (.iconst 1, 1) := by decide +kernel
theorem dX9_arrowNow_14 : decode cX9_arrowNow 14 = .ok (.goto 4, 3) := by decide +kernel
theorem dX9_arrowNow_17 : decode cX9_arrowNow 17 = .ok (.iconst 0, 1) := by decide +kernel
theorem dX9_arrowNow_18 : decode cX9_arrowNow 18 = .ok (.ireturn, 1) := by decide +kernel
theorem dX9_arrow_0 : decode cX9_arrow 0 = .ok (.aload_n 0, 1) := by decide +kernel
theorem dX9_arrow_1 : decode cX9_arrow 1 = .ok (.iload_n 1, 1) := by decide +kernel
theorem dX9_arrow_2 : decode cX9_arrow 2 = .ok (.invokevirtual 227, 3) := by decide +kernel
theorem dX9_arrow_5 : decode cX9_arrow 5 = .ok (.ifCond .eq 20, 3) := by decide +kernel
theorem dX9_arrow_8 : decode cX9_arrow 8 = .ok (.aload_n 0, 1) := by decide +kernel
theorem dX9_arrow_9 : decode cX9_arrow 9 = .ok (.iload_n 2, 1) := by decide +kernel
theorem dX9_arrow_10 : decode cX9_arrow 10 = .ok (.invokevirtual 227, 3) := by decide +kernel
theorem dX9_arrow_13 : decode cX9_arrow 13 = .ok (.ifCond .eq 12, 3) := by decide +kernel
theorem dX9_arrow_16 : decode cX9_arrow 16 = .ok (.aload_n 0, 1) := by decide +kernel
theorem dX9_arrow_17 : decode cX9_arrow 17 = .ok (.iload_n 1, 1) := by decide +kernel
theorem dX9_arrow_18 : decode cX9_arrow 18 = .ok (.iload_n 2, 1) := by decide +kernel
theorem dX9_arrow_19 : decode cX9_arrow 19 = .ok (.invokevirtual 234, 3) := by decide +kernel
theorem dX9_arrow_22 : decode cX9_arrow 22 = .ok (.goto 5, 3) := by decide +kernel
theorem dX9_arrow_25 : decode cX9_arrow 25 = .ok (.bipush (-101), 2) := by decide +kernel
theorem dX9_arrow_27 : decode cX9_arrow 27 = .ok (.ireturn, 1) := by decide +kernel
theorem dX9_partNow_0 : decode cX9_partNow 0 = .ok (.aload_n 0, 1) := by decide +kernel
theorem dX9_partNow_1 : decode cX9_partNow 1 = .ok (.invokevirtual 184, 3) := by decide +kernel
theorem dX9_partNow_4 : decode cX9_partNow 4 = .ok (.aload_n 0, 1) := by decide +kernel
theorem dX9_partNow_5 : decode cX9_partNow 5 = .ok (.invokevirtual 158, 3) := by decide +kernel
theorem dX9_partNow_8 : decode cX9_partNow 8 = .ok (.aload_n 0, 1) := by decide +kernel
theorem dX9_partNow_9 : decode cX9_partNow 9 = .ok (.getfield 39, 3) := by decide +kernel
theorem dX9_partNow_12 : decode cX9_partNow 12 = .ok (.iload_n 1, 1) := by decide +kernel
theorem dX9_partNow_13 : decode cX9_partNow 13 = .ok (.iaload, 1) := by decide +kernel
theorem dX9_partNow_14 : decode cX9_partNow 14 = .ok (.ireturn, 1) := by decide +kernel
theorem dX9_part_0 : decode cX9_part 0 = .ok (.iload_n 1, 1) := by decide +kernel
theorem dX9_part_1 : decode cX9_part 1 = .ok (.iconst 0, 1) := by decide +kernel
theorem dX9_part_2 : decode cX9_part 2 = .ok (.aload_n 0, 1) := by decide +kernel
theorem dX9_part_3 : decode cX9_part 3 = .ok (.getfield 130, 3) := by decide +kernel
theorem dX9_part_6 : decode cX9_part 6 = .ok (.iconst 1, 1) := by decide +kernel
theorem dX9_part_7 : decode cX9_part 7 = .ok (.isub, 1) := by decide +kernel
theorem dX9_part_8 : decode cX9_part 8 = .ok (.invokestatic 57, 3) := by decide +kernel
theorem dX9_part_11 : decode cX9_part 11 = .ok (.ifCond .ne 6, 3) := by decide +kernel
theorem dX9_part_14 : decode cX9_part 14 = .ok (.bipush (-101), 2) := by decide +kernel
theorem dX9_part_16 : decode cX9_part 16 = .ok (.ireturn, 1) := by decide +kernel
theorem dX9_part_17 : decode cX9_part 17 = .ok (.aload_n 0, 1) := by decide +kernel
theorem dX9_part_18 : decode cX9_part 18 = .ok (.invokevirtual 202, 3) := by decide +kernel
theorem dX9_part_21 : decode cX9_part 21 = .ok (.ifCond .eq 11, 3) := by decide +kernel
theorem dX9_part_24 : decode cX9_part 24 = .ok (.aload_n 0, 1) := by decide +kernel
theorem dX9_part_25 : decode cX9_part 25 = .ok (.iload_n 1, 1) := by decide +kernel
theorem dX9_part_26 : decode cX9_part 26 = .ok (.invokevirtual 237, 3) := by decide +kernel
theorem dX9_part_29 : decode cX9_part 29 = .ok (.goto 5, 3) := by decide +kernel
theorem dX9_part_32 : decode cX9_part 32 = .ok (.bipush (-103), 2) := by decide +kernel
theorem dX9_part_34 : decode cX9_part 34 = .ok (.ireturn, 1) := by decide +kernel
theorem dX9_sign_0 : decode cX9_sign 0 = .ok (.iload_n 1, 1) := by decide +kernel
theorem dX9_sign_1 : decode cX9_sign 1 = .ok (.iconst 0, 1) := by decide +kernel
theorem dX9_sign_2 : decode cX9_sign 2 = .ok (.aload_n 0, 1) := by decide +kernel
theorem dX9_sign_3 : decode cX9_sign 3 = .ok (.getfield 130, 3) := by decide +kernel
theorem dX9_sign_6 : decode cX9_sign 6 = .ok (.iconst 1, 1) := by decide +kernel
theorem dX9_sign_7 : decode cX9_sign 7 = .ok (.isub, 1) := by decide +kernel
theorem dX9_sign_8 : decode cX9_sign 8 = .ok (.invokestatic 57, 3) := by decide +kernel
theorem dX9_sign_11 : decode cX9_sign 11 = .ok (.ifCond .eq 12, 3) := by decide +kernel
theorem dX9_sign_14 : decode cX9_sign 14 = .ok (.aload_n 0, 1) := by decide +kernel
theorem dX9_sign_15 : decode cX9_sign 15 = .ok (.getfield 17, 3) := by decide +kernel
theorem dX9_sign_18 : decode cX9_sign 18 = .ok (.iload_n 1, 1) := by decide +kernel
theorem dX9_sign_19 : decode cX9_sign 19 = .ok (.baload, 1) := by decide +kernel
theorem dX9_sign_20 : decode cX9_sign 20 = .ok (.goto 5, 3) := by decide +kernel
theorem dX9_sign_23 : decode cX9_sign 23 = .ok (.bipush (-101), 2) := by decide +kernel
theorem dX9_sign_25 : decode cX9_sign 25 = .ok (.ireturn, 1) := by decide +kernel
theorem dX9_draw_0 : decode cX9_draw 0 = .ok (.aload_n 0, 1) := by decide +kernel
theorem dX9_draw_1 : decode cX9_draw 1 = .ok (.iload_n 1, 1) := by decide +kernel
theorem dX9_draw_2 : decode cX9_draw 2 = .ok (.invokevirtual 227, 3) := by decide +kernel
theorem dX9_draw_5 : decode cX9_draw 5 = .ok (.ifCond .eq 11, 3) := by decide +kernel
theorem dX9_draw_8 : decode cX9_draw 8 = .ok (.aload_n 0, 1) := by decide +kernel
theorem dX9_draw_9 : decode cX9_draw 9 = .ok (.iload_n 2, 1) := by decide +kernel
theorem dX9_draw_10 : decode cX9_draw 10 = .ok (.invokevirtual 227, 3) := by decide +kernel
theorem dX9_draw_13 : decode cX9_draw 13 = .ok (.ifCond .ne 6, 3) := by decide +kernel
theorem dX9_draw_16 : decode cX9_draw 16 = .ok (.bipush (-101), 2) := by decide +kernel
theorem dX9_draw_18 : decode cX9_draw 18 = .ok (.ireturn, 1) := by decide +kernel
theorem dX9_draw_19 : decode cX9_draw 19 = .ok (.aload_n 0, 1) := by decide +kernel
theorem dX9_draw_20 : decode cX9_draw 20 = .ok (.getfield 7, 3) := by decide +kernel
theorem dX9_draw_23 : decode cX9_draw 23 = .ok (.iconst 4, 1) := by decide +kernel
theorem dX9_draw_24 : decode cX9_draw 24 = .ok (.iload_n 1, 1) := by decide +kernel
theorem dX9_draw_25 : decode cX9_draw 25 = .ok (.imul, 1) := by decide +kernel
theorem dX9_draw_26 : decode cX9_draw 26 = .ok (.iload_n 2, 1) := by decide +kernel
theorem dX9_draw_27 : decode cX9_draw 27 = .ok (.iadd, 1) := by decide +kernel
theorem dX9_draw_28 : decode cX9_draw 28 = .ok (.baload, 1) := by decide +kernel
theorem dX9_draw_29 : decode cX9_draw 29 = .ok (.iload_n 3, 1) := by decide +kernel
theorem dX9_draw_30 : decode cX9_draw 30 = .ok (.if_icmp .ne 6, 3) := by decide +kernel
theorem dX9_draw_33 : decode cX9_draw 33 = .ok (.bipush (-103), 2) := by decide +kernel
theorem dX9_draw_35 : decode cX9_draw 35 = .ok (.ireturn, 1) := by decide +kernel
theorem dX9_draw_36 : decode cX9_draw 36 = .ok (.aload_n 0, 1) := by decide +kernel
theorem dX9_draw_37 : decode cX9_draw 37 = .ok (.getfield 7, 3) := by decide +kernel
theorem dX9_draw_40 : decode cX9_draw 40 = .ok (.iconst 4, 1) := by decide +kernel
theorem dX9_draw_41 : decode cX9_draw 41 = .ok (.iload_n 1, 1) := by decide +kernel
theorem dX9_draw_42 : decode cX9_draw 42 = .ok (.imul, 1) := by decide +kernel
theorem dX9_draw_43 : decode cX9_draw 43 = .ok (.iload_n 2, 1) := by decide +kernel
theorem dX9_draw_44 : decode cX9_draw 44 = .ok (.iadd, 1) := by decide +kernel
theorem dX9_draw_45 : decode cX9_draw 45 = .ok (.iload_n 3, 1) := by decide +kernel
theorem dX9_draw_46 : decode cX9_draw 46 = .ok (.bastore, 1) := by decide +kernel
theorem dX9_draw_47 : decode cX9_draw 47 = .ok (.aload_n 0, 1) := by decide +kernel
theorem dX9_draw_48 : decode cX9_draw 48 = .ok (.invokevirtual 193, 3) := by decide +kernel
theorem dX9_draw_51 : decode cX9_draw 51 = .ok (.ireturn, 1) := by decide +kernel
theorem dX9_mark_0 : decode cX9_mark 0 = .ok (.aload_n 0, 1) := by decide +kernel
theorem dX9_mark_1 : decode cX9_mark 1 = .ok (.iload_n 1, 1) := by decide +kernel
theorem dX9_mark_2 : decode cX9_mark 2 = .ok (.invokevirtual 227, 3) := by decide +kernel
theorem dX9_mark_5 : decode cX9_mark 5 = .ok (.ifCond .ne 6, 3) := by decide +kernel
theorem dX9_mark_8 : decode cX9_mark 8 = .ok (.bipush (-101), 2) := by decide +kernel
theorem dX9_mark_10 : decode cX9_mark 10 = .ok (.ireturn, 1) := by decide +kernel
theorem dX9_mark_11 : decode cX9_mark 11 = .ok (.iload_n 2, 1) := by decide +kernel
theorem dX9_mark_12 : decode cX9_mark 12 = .ok (.iconst 0, 1) := by decide +kernel
theorem dX9_mark_13 : decode cX9_mark 13 = .ok (.iconst 3, 1) := by decide +kernel
theorem dX9_mark_14 : decode cX9_mark 14 = .ok (.invokestatic 57, 3) := by decide +kernel
theorem dX9_mark_17 : decode cX9_mark 17 = .ok (.ifCond .ne 6, 3) := by decide +kernel
theorem dX9_mark_20 : decode cX9_mark 20 = .ok (.bipush (-102), 2) := by decide +kernel
theorem dX9_mark_22 : decode cX9_mark 22 = .ok (.ireturn, 1) := by decide +kernel
theorem dX9_mark_23 : decode cX9_mark 23 = .ok (.aload_n 0, 1) := by decide +kernel
theorem dX9_mark_24 : decode cX9_mark 24 = .ok (.getfield 13, 3) := by decide +kernel
theorem dX9_mark_27 : decode cX9_mark 27 = .ok (.iload_n 1, 1) := by decide +kernel
theorem dX9_mark_28 : decode cX9_mark 28 = .ok (.iaload, 1) := by decide +kernel
theorem dX9_mark_29 : decode cX9_mark 29 = .ok (.istore_n 3, 1) := by decide +kernel
theorem dX9_mark_30 : decode cX9_mark 30 = .ok (.aload_n 0, 1) := by decide +kernel
theorem dX9_mark_31 : decode cX9_mark 31 = .ok (.getfield 13, 3) := by decide +kernel
theorem dX9_mark_34 : decode cX9_mark 34 = .ok (.iload_n 1, 1) := by decide +kernel
theorem dX9_mark_35 : decode cX9_mark 35 = .ok (.iload_n 2, 1) := by decide +kernel
theorem dX9_mark_36 : decode cX9_mark 36 = .ok (.iastore, 1) := by decide +kernel
theorem dX9_mark_37 : decode cX9_mark 37 = .ok (.iload_n 3, 1) := by decide +kernel
theorem dX9_mark_38 : decode cX9_mark 38 = .ok (.ireturn, 1) := by decide +kernel
theorem dX9_emptyWorld_0 : decode cX9_emptyWorld 0 = .ok (.aload_n 0, 1) := by decide +kernel
theorem dX9_emptyWorld_1 : decode cX9_emptyWorld 1 = .ok (.getfield 13, 3) := by decide +kernel
theorem dX9_emptyWorld_4 : decode cX9_emptyWorld 4 = .ok (.iload_n 1, 1) := by decide +kernel
theorem dX9_emptyWorld_5 : decode cX9_emptyWorld 5 = .ok (.iconst 0, 1) := by decide +kernel
theorem dX9_emptyWorld_6 : decode cX9_emptyWorld 6 = .ok (.iastore, 1) := by decide +kernel
theorem dX9_emptyWorld_7 : decode cX9_emptyWorld 7 = .ok (.iconst 0, 1) := by decide +kernel
theorem dX9_emptyWorld_8 : decode cX9_emptyWorld 8 = .ok (.istore_n 2, 1) := by decide +kernel
theorem dX9_emptyWorld_9 : decode cX9_emptyWorld 9 = .ok (.iload_n 2, 1) := by decide +kernel
theorem dX9_emptyWorld_10 : decode cX9_emptyWorld 10 = .ok (.iconst 4, 1) := by decide +kernel
theorem dX9_emptyWorld_11 : decode cX9_emptyWorld 11 = .ok (.if_icmp .ge 31, 3) := by decide +kernel
theorem dX9_emptyWorld_14 : decode cX9_emptyWorld 14 = .ok (.aload_n 0, 1) := by decide +kernel
theorem dX9_emptyWorld_15 : decode cX9_emptyWorld 15 = .ok (.getfield 7, 3) := by decide +kernel
theorem dX9_emptyWorld_18 : decode cX9_emptyWorld 18 = .ok (.iconst 4, 1) := by decide +kernel
theorem dX9_emptyWorld_19 : decode cX9_emptyWorld 19 = .ok (.iload_n 1, 1) := by decide +kernel
theorem dX9_emptyWorld_20 : decode cX9_emptyWorld 20 = .ok (.imul, 1) := by decide +kernel
theorem dX9_emptyWorld_21 : decode cX9_emptyWorld 21 = .ok (.iload_n 2, 1) := by decide +kernel
theorem dX9_emptyWorld_22 : decode cX9_emptyWorld 22 = .ok (.iadd, 1) := by decide +kernel
theorem dX9_emptyWorld_23 : decode cX9_emptyWorld 23 = .ok (.iconst 0, 1) := by decide +kernel
theorem dX9_emptyWorld_24 : decode cX9_emptyWorld 24 = .ok (.bastore, 1) := by decide +kernel
theorem dX9_emptyWorld_25 : decode cX9_emptyWorld 25 = .ok (.aload_n 0, 1) := by decide +kernel
theorem dX9_emptyWorld_26 : decode cX9_emptyWorld 26 = .ok (.getfield 7, 3) := by decide +kernel
theorem dX9_emptyWorld_29 : decode cX9_emptyWorld 29 = .ok (.iconst 4, 1) := by decide +kernel
theorem dX9_emptyWorld_30 : decode cX9_emptyWorld 30 = .ok (.iload_n 2, 1) := by decide +kernel
theorem dX9_emptyWorld_31 : decode cX9_emptyWorld 31 = .ok (.imul, 1) := by decide +kernel
theorem dX9_emptyWorld_32 : decode cX9_emptyWorld 32 = .ok (.iload_n 1, 1) := by decide +kernel
theorem dX9_emptyWorld_33 : decode cX9_emptyWorld 33 = .ok (.iadd, 1) := by decide +kernel
theorem dX9_emptyWorld_34 : decode cX9_emptyWorld 34 = .ok (.iconst 0, 1) := by decide +kernel
theorem dX9_emptyWorld_35 : decode cX9_emptyWorld 35 = .ok (.bastore, 1) := by decide +kernel
theorem dX9_emptyWorld_36 : decode cX9_emptyWorld 36 = .ok (.iinc 2 1, 3) := by decide +kernel
theorem dX9_emptyWorld_39 : decode cX9_emptyWorld 39 = .ok (.goto (-30), 3) := by decide +kernel
theorem dX9_emptyWorld_42 : decode cX9_emptyWorld 42 = .ok (.return_, 1) := by decide +kernel
theorem dX9_add_0 : decode cX9_add 0 = .ok (.aload_n 0, 1) := by decide +kernel
theorem dX9_add_1 : decode cX9_add 1 = .ok (.invokevirtual 202, 3) := by decide +kernel
theorem dX9_add_4 : decode cX9_add 4 = .ok (.ifCond .ne 6, 3) := by decide +kernel
theorem dX9_add_7 : decode cX9_add 7 = .ok (.bipush (-103), 2) := by decide +kernel
theorem dX9_add_9 : decode cX9_add 9 = .ok (.ireturn, 1) := by decide +kernel
theorem dX9_add_10 : decode cX9_add 10 = .ok (.aload_n 0, 1) := by decide +kernel
theorem dX9_add_11 : decode cX9_add 11 = .ok (.getfield 121, 3) := by decide +kernel
theorem dX9_add_14 : decode cX9_add 14 = .ok (.iconst 4, 1) := by decide +kernel
theorem dX9_add_15 : decode cX9_add 15 = .ok (.if_icmp .ne 6, 3) := by decide +kernel
theorem dX9_add_18 : decode cX9_add 18 = .ok (.bipush (-104), 2) := by decide +kernel
theorem dX9_add_20 : decode cX9_add 20 = .ok (.ireturn, 1) := by decide +kernel
theorem dX9_add_21 : decode cX9_add 21 = .ok (.aload_n 0, 1) := by decide +kernel
theorem dX9_add_22 : decode cX9_add 22 = .ok (.aload_n 0, 1) := by decide +kernel
theorem dX9_add_23 : decode cX9_add 23 = .ok (.getfield 121, 3) := by decide +kernel
theorem dX9_add_26 : decode cX9_add 26 = .ok (.invokevirtual 240, 3) := by decide +kernel
theorem dX9_add_29 : decode cX9_add 29 = .ok (.aload_n 0, 1) := by decide +kernel
theorem dX9_add_30 : decode cX9_add 30 = .ok (.dup, 1) := by decide +kernel
theorem dX9_add_31 : decode cX9_add 31 = .ok (.getfield 121, 3) := by decide +kernel
theorem dX9_add_34 : decode cX9_add 34 = .ok (.iconst 1, 1) := by decide +kernel
theorem dX9_add_35 : decode cX9_add 35 = .ok (.iadd, 1) := by decide +kernel
theorem dX9_add_36 : decode cX9_add 36 = .ok (.putfield 121, 3) := by decide +kernel
theorem dX9_add_39 : decode cX9_add 39 = .ok (.aload_n 0, 1) := by decide +kernel
theorem dX9_add_40 : decode cX9_add 40 = .ok (.getfield 121, 3) := by decide +kernel
theorem dX9_add_43 : decode cX9_add 43 = .ok (.iconst 1, 1) := by decide +kernel
theorem dX9_add_44 : decode cX9_add 44 = .ok (.isub, 1) := by decide +kernel
theorem dX9_add_45 : decode cX9_add 45 = .ok (.ireturn, 1) := by decide +kernel
theorem dX9_moveDown_0 : decode cX9_moveDown 0 = .ok (.aload_n 0, 1) := by decide +kernel
theorem dX9_moveDown_1 : decode cX9_moveDown 1 = .ok (.getfield 13, 3) := by decide +kernel
theorem dX9_moveDown_4 : decode cX9_moveDown 4 = .ok (.iload_n 1, 1) := by decide +kernel
theorem dX9_moveDown_5 : decode cX9_moveDown 5 = .ok (.aload_n 0, 1) := by decide +kernel
theorem dX9_moveDown_6 : decode cX9_moveDown 6 = .ok (.getfield 13, 3) := by decide +kernel
theorem dX9_moveDown_9 : decode cX9_moveDown 9 = .ok (.iload_n 1, 1) := by decide +kernel
theorem dX9_moveDown_10 : decode cX9_moveDown 10 = .ok (.iconst 1, 1) := by decide +kernel
theorem dX9_moveDown_11 : decode cX9_moveDown 11 = .ok (.iadd, 1) := by decide +kernel
theorem dX9_moveDown_12 : decode cX9_moveDown 12 = .ok (.iaload, 1) := by decide +kernel
theorem dX9_moveDown_13 : decode cX9_moveDown 13 = .ok (.iastore, 1) := by decide +kernel
theorem dX9_moveDown_14 : decode cX9_moveDown 14 = .ok (.iconst 0, 1) := by decide +kernel
theorem dX9_moveDown_15 : decode cX9_moveDown 15 = .ok (.istore_n 2, 1) := by decide +kernel
theorem dX9_moveDown_16 : decode cX9_moveDown 16 = .ok (.iload_n 2, 1) := by decide +kernel
theorem dX9_moveDown_17 : decode cX9_moveDown 17 = .ok (.iconst 4, 1) := by decide +kernel
theorem dX9_moveDown_18 : decode cX9_moveDown 18 = .ok (.if_icmp .ge 31, 3) := by decide +kernel
theorem dX9_moveDown_21 : decode cX9_moveDown 21 = .ok (.aload_n 0, 1) := by decide +kernel
theorem dX9_moveDown_22 : decode cX9_moveDown 22 = .ok (.getfield 7, 3) := by decide +kernel
theorem dX9_moveDown_25 : decode cX9_moveDown 25 = .ok (.iconst 4, 1) := by decide +kernel
theorem dX9_moveDown_26 : decode cX9_moveDown 26 = .ok (.iload_n 1, 1) := by decide +kernel
theorem dX9_moveDown_27 : decode cX9_moveDown 27 = .ok (.imul, 1) := by decide +kernel
theorem dX9_moveDown_28 : decode cX9_moveDown 28 = .ok (.iload_n 2, 1) := by decide +kernel
theorem dX9_moveDown_29 : decode cX9_moveDown 29 = .ok (.iadd, 1) := by decide +kernel
theorem dX9_moveDown_30 : decode cX9_moveDown 30 = .ok (.aload_n 0, 1) := by decide +kernel
theorem dX9_moveDown_31 : decode cX9_moveDown 31 = .ok (.getfield 7, 3) := by decide +kernel
theorem dX9_moveDown_34 : decode cX9_moveDown 34 = .ok (.iconst 4, 1) := by decide +kernel
theorem dX9_moveDown_35 : decode cX9_moveDown 35 = .ok (.iload_n 1, 1) := by decide +kernel
theorem dX9_moveDown_36 : decode cX9_moveDown 36 = .ok (.imul, 1) := by decide +kernel
theorem dX9_moveDown_37 : decode cX9_moveDown 37 = .ok (.iconst 4, 1) := by decide +kernel
theorem dX9_moveDown_38 : decode cX9_moveDown 38 = .ok (.iadd, 1) := by decide +kernel
theorem dX9_moveDown_39 : decode cX9_moveDown 39 = .ok (.iload_n 2, 1) := by decide +kernel
theorem dX9_moveDown_40 : decode cX9_moveDown 40 = .ok (.iadd, 1) := by decide +kernel
theorem dX9_moveDown_41 : decode cX9_moveDown 41 = .ok (.baload, 1) := by decide +kernel
theorem dX9_moveDown_42 : decode cX9_moveDown 42 = .ok (.bastore, 1) := by decide +kernel
theorem dX9_moveDown_43 : decode cX9_moveDown 43 = .ok (.iinc 2 1, 3) := by decide +kernel
theorem dX9_moveDown_46 : decode cX9_moveDown 46 = .ok (.goto (-30), 3) := by decide +kernel
theorem dX9_moveDown_49 : decode cX9_moveDown 49 = .ok (.iconst 0, 1) := by decide +kernel
theorem dX9_moveDown_50 : decode cX9_moveDown 50 = .ok (.istore_n 2, 1) := by decide +kernel
theorem dX9_moveDown_51 : decode cX9_moveDown 51 = .ok (.iload_n 2, 1) := by decide +kernel
theorem dX9_moveDown_52 : decode cX9_moveDown 52 = .ok (.iconst 4, 1) := by decide +kernel
theorem dX9_moveDown_53 : decode cX9_moveDown 53 = .ok (.if_icmp .ge 31, 3) := by decide +kernel
theorem dX9_moveDown_56 : decode cX9_moveDown 56 = .ok (.aload_n 0, 1) := by decide +kernel
theorem dX9_moveDown_57 : decode cX9_moveDown 57 = .ok (.getfield 7, 3) := by decide +kernel
theorem dX9_moveDown_60 : decode cX9_moveDown 60 = .ok (.iconst 4, 1) := by decide +kernel
theorem dX9_moveDown_61 : decode cX9_moveDown 61 = .ok (.iload_n 2, 1) := by decide +kernel
theorem dX9_moveDown_62 : decode cX9_moveDown 62 = .ok (.imul, 1) := by decide +kernel
theorem dX9_moveDown_63 : decode cX9_moveDown 63 = .ok (.iload_n 1, 1) := by decide +kernel
theorem dX9_moveDown_64 : decode cX9_moveDown 64 = .ok (.iadd, 1) := by decide +kernel
theorem dX9_moveDown_65 : decode cX9_moveDown 65 = .ok (.aload_n 0, 1) := by decide +kernel
theorem dX9_moveDown_66 : decode cX9_moveDown 66 = .ok (.getfield 7, 3) := by decide +kernel
theorem dX9_moveDown_69 : decode cX9_moveDown 69 = .ok (.iconst 4, 1) := by decide +kernel
theorem dX9_moveDown_70 : decode cX9_moveDown 70 = .ok (.iload_n 2, 1) := by decide +kernel
theorem dX9_moveDown_71 : decode cX9_moveDown 71 = .ok (.imul, 1) := by decide +kernel
theorem dX9_moveDown_72 : decode cX9_moveDown 72 = .ok (.iload_n 1, 1) := by decide +kernel
theorem dX9_moveDown_73 : decode cX9_moveDown 73 = .ok (.iadd, 1) := by decide +kernel
theorem dX9_moveDown_74 : decode cX9_moveDown 74 = .ok (.iconst 1, 1) := by decide +kernel
theorem dX9_moveDown_75 : decode cX9_moveDown 75 = .ok (.iadd, 1) := by decide +kernel
theorem dX9_moveDown_76 : decode cX9_moveDown 76 = .ok (.baload, 1) := by decide +kernel
theorem dX9_moveDown_77 : decode cX9_moveDown 77 = .ok (.bastore, 1) := by decide +kernel
theorem dX9_moveDown_78 : decode cX9_moveDown 78 = .ok (.iinc 2 1, 3) := by decide +kernel
theorem dX9_moveDown_81 : decode cX9_moveDown 81 = .ok (.goto (-30), 3) := by decide +kernel
theorem dX9_moveDown_84 : decode cX9_moveDown 84 = .ok (.return_, 1) := by decide +kernel
theorem dX9_takeOut_0 : decode cX9_takeOut 0 = .ok (.iload_n 1, 1) := by decide +kernel
theorem dX9_takeOut_1 : decode cX9_takeOut 1 = .ok (.istore_n 2, 1) := by decide +kernel
theorem dX9_takeOut_2 : decode cX9_takeOut 2 = .ok (.iload_n 2, 1) := by decide +kernel
theorem dX9_takeOut_3 : decode cX9_takeOut 3 = .ok (.aload_n 0, 1) := by decide +kernel
theorem dX9_takeOut_4 : decode cX9_takeOut 4 = .ok (.getfield 121, 3) := by decide +kernel
theorem dX9_takeOut_7 : decode cX9_takeOut 7 = .ok (.iconst 1, 1) := by decide +kernel
theorem dX9_takeOut_8 : decode cX9_takeOut 8 = .ok (.isub, 1) := by decide +kernel
theorem dX9_takeOut_9 : decode cX9_takeOut 9 = .ok (.if_icmp .ge 14, 3) := by decide +kernel
theorem dX9_takeOut_12 : decode cX9_takeOut 12 = .ok (.aload_n 0, 1) := by decide +kernel
theorem dX9_takeOut_13 : decode cX9_takeOut 13 = .ok (.iload_n 2, 1) := by decide +kernel
theorem dX9_takeOut_14 : decode cX9_takeOut 14 = .ok (.invokevirtual 243, 3) := by decide +kernel
theorem dX9_takeOut_17 : decode cX9_takeOut 17 = .ok (.iinc 2 1, 3) := by decide +kernel
theorem dX9_takeOut_20 : decode cX9_takeOut 20 = .ok (.goto (-18), 3) := by decide +kernel
theorem dX9_takeOut_23 : decode cX9_takeOut 23 = .ok (.aload_n 0, 1) := by decide +kernel
theorem dX9_takeOut_24 : decode cX9_takeOut 24 = .ok (.dup, 1) := by decide +kernel
theorem dX9_takeOut_25 : decode cX9_takeOut 25 = .ok (.getfield 121, 3) := by decide +kernel
theorem dX9_takeOut_28 : decode cX9_takeOut 28 = .ok (.iconst 1, 1) := by decide +kernel
theorem dX9_takeOut_29 : decode cX9_takeOut 29 = .ok (.isub, 1) := by decide +kernel
theorem dX9_takeOut_30 : decode cX9_takeOut 30 = .ok (.putfield 121, 3) := by decide +kernel
theorem dX9_takeOut_33 : decode cX9_takeOut 33 = .ok (.aload_n 0, 1) := by decide +kernel
theorem dX9_takeOut_34 : decode cX9_takeOut 34 = .ok (.aload_n 0, 1) := by decide +kernel
theorem dX9_takeOut_35 : decode cX9_takeOut 35 = .ok (.getfield 121, 3) := by decide +kernel
theorem dX9_takeOut_38 : decode cX9_takeOut 38 = .ok (.invokevirtual 240, 3) := by decide +kernel
theorem dX9_takeOut_41 : decode cX9_takeOut 41 = .ok (.return_, 1) := by decide +kernel
theorem dX9_take_0 : decode cX9_take 0 = .ok (.aload_n 0, 1) := by decide +kernel
theorem dX9_take_1 : decode cX9_take 1 = .ok (.iload_n 1, 1) := by decide +kernel
theorem dX9_take_2 : decode cX9_take 2 = .ok (.invokevirtual 227, 3) := by decide +kernel
theorem dX9_take_5 : decode cX9_take 5 = .ok (.ifCond .ne 6, 3) := by decide +kernel
theorem dX9_take_8 : decode cX9_take 8 = .ok (.bipush (-101), 2) := by decide +kernel
theorem dX9_take_10 : decode cX9_take 10 = .ok (.ireturn, 1) := by decide +kernel
theorem dX9_take_11 : decode cX9_take 11 = .ok (.aload_n 0, 1) := by decide +kernel
theorem dX9_take_12 : decode cX9_take 12 = .ok (.getfield 121, 3) := by decide +kernel
theorem dX9_take_15 : decode cX9_take 15 = .ok (.iconst 1, 1) := by decide +kernel
theorem dX9_take_16 : decode cX9_take 16 = .ok (.if_icmp .ne 6, 3) := by decide +kernel
theorem dX9_take_19 : decode cX9_take 19 = .ok (.bipush (-103), 2) := by decide +kernel
theorem dX9_take_21 : decode cX9_take 21 = .ok (.ireturn, 1) := by decide +kernel
theorem dX9_take_22 : decode cX9_take 22 = .ok (.aload_n 0, 1) := by decide +kernel
theorem dX9_take_23 : decode cX9_take 23 = .ok (.iload_n 1, 1) := by decide +kernel
theorem dX9_take_24 : decode cX9_take 24 = .ok (.invokevirtual 246, 3) := by decide +kernel
theorem dX9_take_27 : decode cX9_take 27 = .ok (.aload_n 0, 1) := by decide +kernel
theorem dX9_take_28 : decode cX9_take 28 = .ok (.getfield 121, 3) := by decide +kernel
theorem dX9_take_31 : decode cX9_take 31 = .ok (.ireturn, 1) := by decide +kernel
theorem dX9_be_0 : decode cX9_be 0 = .ok (.iload_n 1, 1) := by decide +kernel
theorem dX9_be_1 : decode cX9_be 1 = .ok (.invokestatic 209, 3) := by decide +kernel
theorem dX9_be_4 : decode cX9_be 4 = .ok (.ifCond .ne 6, 3) := by decide +kernel
theorem dX9_be_7 : decode cX9_be 7 = .ok (.bipush (-102), 2) := by decide +kernel
theorem dX9_be_9 : decode cX9_be 9 = .ok (.ireturn, 1) := by decide +kernel
theorem dX9_be_10 : decode cX9_be 10 = .ok (.aload_n 0, 1) := by decide +kernel
theorem dX9_be_11 : decode cX9_be 11 = .ok (.invokevirtual 202, 3) := by decide +kernel
theorem dX9_be_14 : decode cX9_be 14 = .ok (.ifCond .ne 6, 3) := by decide +kernel
theorem dX9_be_17 : decode cX9_be 17 = .ok (.bipush (-103), 2) := by decide +kernel
theorem dX9_be_19 : decode cX9_be 19 = .ok (.ireturn, 1) := by decide +kernel
theorem dX9_be_20 : decode cX9_be 20 = .ok (.aload_n 0, 1) := by decide +kernel
theorem dX9_be_21 : decode cX9_be 21 = .ok (.getfield 118, 3) := by decide +kernel
theorem dX9_be_24 : decode cX9_be 24 = .ok (.istore_n 2, 1) := by decide +kernel
theorem dX9_be_25 : decode cX9_be 25 = .ok (.aload_n 0, 1) := by decide +kernel
theorem dX9_be_26 : decode cX9_be 26 = .ok (.iload_n 1, 1) := by decide +kernel
theorem dX9_be_27 : decode cX9_be 27 = .ok (.putfield 118, 3) := by decide +kernel
theorem dX9_be_30 : decode cX9_be 30 = .ok (.iload_n 2, 1) := by decide +kernel
theorem dX9_be_31 : decode cX9_be 31 = .ok (.ireturn, 1) := by decide +kernel
theorem dX9_isJoined_0 : decode cX9_isJoined 0 = .ok (.iconst 0, 1) := by decide +kernel
theorem dX9_isJoined_1 : decode cX9_isJoined 1 = .ok (.istore_n 3, 1) := by decide +kernel
theorem dX9_isJoined_2 : decode cX9_isJoined 2 = .ok (.iconst 0, 1) := by decide +kernel
theorem dX9_isJoined_3 : decode cX9_isJoined 3 = .ok (.istore 4, 2) := by decide +kernel
theorem dX9_isJoined_5 : decode cX9_isJoined 5 = .ok (.iload 4, 2) := by decide +kernel
theorem dX9_isJoined_7 : decode cX9_isJoined 7 = .ok (.aload_n 0, 1) := by decide +kernel
theorem dX9_isJoined_8 : decode cX9_isJoined 8 = .ok (.getfield 121, 3) := by decide +kernel
theorem dX9_isJoined_11 : decode cX9_isJoined 11 = .ok (.if_icmp .ge 47, 3) := by decide +kernel
theorem dX9_isJoined_14 : decode cX9_isJoined 14 = .ok (.iload_n 3, 1) := by decide +kernel
theorem dX9_isJoined_15 : decode cX9_isJoined 15 = .ok (.ifCond .ne 31, 3) := by decide +kernel
theorem dX9_isJoined_18 : decode cX9_isJoined 18 = .ok (.aload_n 0, 1) := by decide +kernel
theorem dX9_isJoined_19 : decode cX9_isJoined 19 = .ok (.getfield 7, 3) := by decide +kernel
theorem dX9_isJoined_22 : decode cX9_isJoined 22 = .ok (.iconst 4, 1) := by decide +kernel
theorem dX9_isJoined_23 : decode cX9_isJoined 23 = .ok (.iload_n 1, 1) := by decide +kernel
theorem dX9_isJoined_24 : decode cX9_isJoined 24 = .ok (.imul, 1) := by decide +kernel
theorem dX9_isJoined_25 : decode cX9_isJoined 25 = .ok (.iload 4, 2) := by decide +kernel
theorem dX9_isJoined_27 : decode cX9_isJoined 27 = .ok (.iadd, 1) := by decide +kernel
theorem dX9_isJoined_28 : decode cX9_isJoined 28 = .ok (.baload, 1) := by decide +kernel
theorem dX9_isJoined_29 : decode cX9_isJoined 29 = .ok (.ifCond .eq 21, 3) := by decide +kernel
theorem dX9_isJoined_32 : decode cX9_isJoined 32 = .ok (.aload_n 0, 1) := by decide +kernel
theorem dX9_isJoined_33 : decode cX9_isJoined 33 = .ok (.getfield 7, 3) := by decide +kernel
theorem dX9_isJoined_36 : decode cX9_isJoined 36 = .ok (.iconst 4, 1) := by decide +kernel
theorem dX9_isJoined_37 : decode cX9_isJoined 37 = .ok (.iload 4, 2) := by decide +kernel
theorem dX9_isJoined_39 : decode cX9_isJoined 39 = .ok (.imul, 1) := by decide +kernel
theorem dX9_isJoined_40 : decode cX9_isJoined 40 = .ok (.iload_n 2, 1) := by decide +kernel
theorem dX9_isJoined_41 : decode cX9_isJoined 41 = .ok (.iadd, 1) := by decide +kernel
theorem dX9_isJoined_42 : decode cX9_isJoined 42 = .ok (.baload, 1) := by decide +kernel
theorem dX9_isJoined_43 : decode cX9_isJoined 43 = .ok (.ifCond .eq 7, 3) := by decide +kernel
theorem dX9_isJoined_46 : decode cX9_isJoined 46 = .ok (.iconst 1, 1) := by decide +kernel
theorem dX9_isJoined_47 : decode cX9_isJoined 47 = .ok (.goto 4, 3) := by decide +kernel
theorem dX9_isJoined_50 : decode cX9_isJoined 50 = .ok (.iconst 0, 1) := by decide +kernel
theorem dX9_isJoined_51 : decode cX9_isJoined 51 = .ok (.istore_n 3, 1) := by decide +kernel
theorem dX9_isJoined_52 : decode cX9_isJoined 52 = .ok (.iinc 4 1, 3) := by decide +kernel
theorem dX9_isJoined_55 : decode cX9_isJoined 55 = .ok (.goto (-50), 3) := by decide +kernel
theorem dX9_isJoined_58 : decode cX9_isJoined 58 = .ok (.iload_n 3, 1) := by decide +kernel
theorem dX9_isJoined_59 : decode cX9_isJoined 59 = .ok (.ireturn, 1) := by decide +kernel
theorem dX9_wants_0 : decode cX9_wants 0 = .ok (.aload_n 0, 1) := by decide +kernel
theorem dX9_wants_1 : decode cX9_wants 1 = .ok (.getfield 118, 3) := by decide +kernel
theorem dX9_wants_4 : decode cX9_wants 4 = .ok (.tableswitch 93 1 4 #[32, 43, 63, 74], 32) := by decide +kernel
theorem dX9_wants_36 : decode cX9_wants 36 = .ok (.iload_n 1, 1) := by decide +kernel
theorem dX9_wants_37 : decode cX9_wants 37 = .ok (.iload_n 2, 1) := by decide +kernel
theorem dX9_wants_38 : decode cX9_wants 38 = .ok (.if_icmp .ne 7, 3) := by decide +kernel
theorem dX9_wants_41 : decode cX9_wants 41 = .ok (.iconst 1, 1) := by decide +kernel
theorem dX9_wants_42 : decode cX9_wants 42 = .ok (.goto 4, 3) := by decide +kernel
theorem dX9_wants_45 : decode cX9_wants 45 = .ok (.iconst 0, 1) := by decide +kernel
theorem dX9_wants_46 : decode cX9_wants 46 = .ok (.ireturn, 1) := by decide +kernel
theorem dX9_wants_47 : decode cX9_wants 47 = .ok (.iload_n 1, 1) := by decide +kernel
theorem dX9_wants_48 : decode cX9_wants 48 = .ok (.iload_n 2, 1) := by decide +kernel
theorem dX9_wants_49 : decode cX9_wants 49 = .ok (.if_icmp .eq 12, 3) := by decide +kernel
theorem dX9_wants_52 : decode cX9_wants 52 = .ok (.aload_n 0, 1) := by decide +kernel
theorem dX9_wants_53 : decode cX9_wants 53 = .ok (.iload_n 1, 1) := by decide +kernel
theorem dX9_wants_54 : decode cX9_wants 54 = .ok (.iload_n 2, 1) := by decide +kernel
theorem dX9_wants_55 : decode cX9_wants 55 = .ok (.invokevirtual 249, 3) := by decide +kernel
theorem dX9_wants_58 : decode cX9_wants 58 = .ok (.ifCond .eq 7, 3) := by decide +kernel
theorem dX9_wants_61 : decode cX9_wants 61 = .ok (.iconst 1, 1) := by decide +kernel
theorem dX9_wants_62 : decode cX9_wants 62 = .ok (.goto 4, 3) := by decide +kernel
theorem dX9_wants_65 : decode cX9_wants 65 = .ok (.iconst 0, 1) := by decide +kernel
theorem dX9_wants_66 : decode cX9_wants 66 = .ok (.ireturn, 1) := by decide +kernel
theorem dX9_wants_67 : decode cX9_wants 67 = .ok (.aload_n 0, 1) := by decide +kernel
theorem dX9_wants_68 : decode cX9_wants 68 = .ok (.getfield 7, 3) := by decide +kernel
theorem dX9_wants_71 : decode cX9_wants 71 = .ok (.iconst 4, 1) := by decide +kernel
theorem dX9_wants_72 : decode cX9_wants 72 = .ok (.iload_n 2, 1) := by decide +kernel
theorem dX9_wants_73 : decode cX9_wants 73 = .ok (.imul, 1) := by decide +kernel
theorem dX9_wants_74 : decode cX9_wants 74 = .ok (.iload_n 1, 1) := by decide +kernel
theorem dX9_wants_75 : decode cX9_wants 75 = .ok (.iadd, 1) := by decide +kernel
theorem dX9_wants_76 : decode cX9_wants 76 = .ok (.baload, 1) := by decide +kernel
theorem dX9_wants_77 : decode cX9_wants 77 = .ok (.ireturn, 1) := by decide +kernel
theorem dX9_wants_78 : decode cX9_wants 78 = .ok (.iload_n 1, 1) := by decide +kernel
theorem dX9_wants_79 : decode cX9_wants 79 = .ok (.iload_n 2, 1) := by decide +kernel
theorem dX9_wants_80 : decode cX9_wants 80 = .ok (.if_icmp .ne 15, 3) := by decide +kernel
theorem dX9_wants_83 : decode cX9_wants 83 = .ok (.aload_n 0, 1) := by decide +kernel
theorem dX9_wants_84 : decode cX9_wants 84 = .ok (.iload_n 1, 1) := by decide +kernel
theorem dX9_wants_85 : decode cX9_wants 85 = .ok (.invokevirtual 212, 3) := by decide +kernel
theorem dX9_wants_88 : decode cX9_wants 88 = .ok (.ifCond .ne 7, 3) := by decide +kernel
theorem dX9_wants_91 : decode cX9_wants 91 = .ok (.iconst 1, 1) := by decide +kernel
theorem dX9_wants_92 : decode cX9_wants 92 = .ok (.goto 4, 3) := by decide +kernel
theorem dX9_wants_95 : decode cX9_wants 95 = .ok (.iconst 0, 1) := by decide +kernel
theorem dX9_wants_96 : decode cX9_wants 96 = .ok (.ireturn, 1) := by decide +kernel
theorem dX9_wants_97 : decode cX9_wants 97 = .ok (.iconst 0, 1) := by decide +kernel
theorem dX9_wants_98 : decode cX9_wants 98 = .ok (.ireturn, 1) := by decide +kernel
theorem dX9_close_0 : decode cX9_close 0 = .ok (.aload_n 0, 1) := by decide +kernel
theorem dX9_close_1 : decode cX9_close 1 = .ok (.invokevirtual 202, 3) := by decide +kernel
theorem dX9_close_4 : decode cX9_close 4 = .ok (.ifCond .ne 6, 3) := by decide +kernel
theorem dX9_close_7 : decode cX9_close 7 = .ok (.bipush (-103), 2) := by decide +kernel
theorem dX9_close_9 : decode cX9_close 9 = .ok (.ireturn, 1) := by decide +kernel
theorem dX9_close_10 : decode cX9_close 10 = .ok (.aload_n 0, 1) := by decide +kernel
theorem dX9_close_11 : decode cX9_close 11 = .ok (.invokevirtual 193, 3) := by decide +kernel
theorem dX9_close_14 : decode cX9_close 14 = .ok (.istore_n 1, 1) := by decide +kernel
theorem dX9_close_15 : decode cX9_close 15 = .ok (.iconst 0, 1) := by decide +kernel
theorem dX9_close_16 : decode cX9_close 16 = .ok (.istore_n 2, 1) := by decide +kernel
theorem dX9_close_17 : decode cX9_close 17 = .ok (.iload_n 2, 1) := by decide +kernel
theorem dX9_close_18 : decode cX9_close 18 = .ok (.bipush 16, 2) := by decide +kernel
theorem dX9_close_20 : decode cX9_close 20 = .ok (.if_icmp .ge 89, 3) := by decide +kernel
theorem dX9_close_23 : decode cX9_close 23 = .ok (.iconst 0, 1) := by decide +kernel
theorem dX9_close_24 : decode cX9_close 24 = .ok (.istore_n 3, 1) := by decide +kernel
theorem dX9_close_25 : decode cX9_close 25 = .ok (.iload_n 3, 1) := by decide +kernel
theorem dX9_close_26 : decode cX9_close 26 = .ok (.aload_n 0, 1) := by decide +kernel
theorem dX9_close_27 : decode cX9_close 27 = .ok (.getfield 121, 3) := by decide +kernel
theorem dX9_close_30 : decode cX9_close 30 = .ok (.aload_n 0, 1) := by decide +kernel
theorem dX9_close_31 : decode cX9_close 31 = .ok (.getfield 121, 3) := by decide +kernel
theorem dX9_close_34 : decode cX9_close 34 = .ok (.imul, 1) := by decide +kernel
theorem dX9_close_35 : decode cX9_close 35 = .ok (.if_icmp .ge 68, 3) := by decide +kernel
