theorem dX7_init_0 : decode cX7_init 0 = .ok (.aload_n 0, 1) := by decide +kernel
theorem dX7_init_1 : decode cX7_init 1 = .ok (.invokespecial 3, 3) := by decide +kernel
theorem dX7_init_4 : decode cX7_init 4 = .ok (.aload_n 0, 1) := by decide +kernel
theorem dX7_init_5 : decode cX7_init 5 = .ok (.sipush 402, 3) := by decide +kernel
theorem dX7_init_8 : decode cX7_init 8 = .ok (.newarray .int, 2) := by decide +kernel
theorem dX7_init_10 : decode cX7_init 10 = .ok (.putfield 11, 3) := by decide +kernel
theorem dX7_init_13 : decode cX7_init 13 = .ok (.aload_n 0, 1) := by decide +kernel
theorem dX7_init_14 : decode cX7_init 14 = .ok (.sipush 402, 3) := by decide +kernel
theorem dX7_init_17 : decode cX7_init 17 = .ok (.newarray .int, 2) := by decide +kernel
theorem dX7_init_19 : decode cX7_init 19 = .ok (.putfield 15, 3) := by decide +kernel
theorem dX7_init_22 : decode cX7_init 22 = .ok (.aload_n 0, 1) := by decide +kernel
theorem dX7_init_23 : decode cX7_init 23 = .ok (.sipush 402, 3) := by decide +kernel
theorem dX7_init_26 : decode cX7_init 26 = .ok (.newarray .long, 2) := by decide +kernel
theorem dX7_init_28 : decode cX7_init 28 = .ok (.putfield 18, 3) := by decide +kernel
theorem dX7_init_31 : decode cX7_init 31 = .ok (.aload_n 0, 1) := by decide +kernel
theorem dX7_init_32 : decode cX7_init 32 = .ok (.bipush 20, 2) := by decide +kernel
theorem dX7_init_34 : decode cX7_init 34 = .ok (.newarray .long, 2) := by decide +kernel
theorem dX7_init_36 : decode cX7_init 36 = .ok (.putfield 22, 3) := by decide +kernel
theorem dX7_init_39 : decode cX7_init 39 = .ok (.iconst 0, 1) := by decide +kernel
theorem dX7_init_40 : decode cX7_init 40 = .ok (.istore_n 1, 1) := by decide +kernel
theorem dX7_init_41 : decode cX7_init 41 = .ok (.iconst 0, 1) := by decide +kernel
theorem dX7_init_42 : decode cX7_init 42 = .ok (.istore_n 2, 1) := by decide +kernel
theorem dX7_init_43 : decode cX7_init 43 = .ok (.iload_n 2, 1) := by decide +kernel
theorem dX7_init_44 : decode cX7_init 44 = .ok (.ldc 25, 2) := by decide +kernel
theorem dX7_init_46 : decode cX7_init 46 = .ok (.invokevirtual 27, 3) := by decide +kernel
theorem dX7_init_49 : decode cX7_init 49 = .ok (.if_icmp .ge 50, 3) := by decide +kernel
theorem dX7_init_52 : decode cX7_init 52 = .ok (.iload_n 1, 1) := by decide +kernel
theorem dX7_init_53 : decode cX7_init 53 = .ok (.bipush 20, 2) := by decide +kernel
theorem dX7_init_55 : decode cX7_init 55 = .ok (.if_icmp .ge 44, 3) := by decide +kernel
theorem dX7_init_58 : decode cX7_init 58 = .ok (.ldc 25, 2) := by decide +kernel
theorem dX7_init_60 : decode cX7_init 60 = .ok (.iload_n 2, 1) := by decide +kernel
theorem dX7_init_61 : decode cX7_init 61 = .ok (.invokevirtual 33, 3) := by decide +kernel
theorem dX7_init_64 : decode cX7_init 64 = .ok (.istore_n 3, 1) := by decide +kernel
theorem dX7_init_65 : decode cX7_init 65 = .ok (.iload_n 3, 1) := by decide +kernel
theorem dX7_init_66 : decode cX7_init 66 = .ok (.bipush 32, 2) := by decide +kernel
theorem dX7_init_68 : decode cX7_init 68 = .ok (.if_icmp .ne 9, 3) := by decide +kernel
theorem dX7_init_71 : decode cX7_init 71 = .ok (.iinc 1 1, 3) := by decide +kernel
theorem dX7_init_74 : decode cX7_init 74 = .ok (.goto 19, 3) := by decide +kernel
theorem dX7_init_77 : decode cX7_init 77 = .ok (.aload_n 0, 1) := by decide +kernel
theorem dX7_init_78 : decode cX7_init 78 = .ok (.getfield 22, 3) := by decide +kernel
theorem dX7_init_81 : decode cX7_init 81 = .ok (.iload_n 1, 1) := by decide +kernel
theorem dX7_init_82 : decode cX7_init 82 = .ok (.aload_n 0, 1) := by decide +kernel
theorem dX7_init_83 : decode cX7_init 83 = .ok (.getfield 22, 3) := by decide +kernel
theorem dX7_init_86 : decode cX7_init 86 = .ok (.iload_n 1, 1) := by decide +kernel
theorem dX7_init_87 : decode cX7_init 87 = .ok (.laload, 1) := by decide +kernel
theorem dX7_init_88 : decode cX7_init 88 = .ok (.iload_n 3, 1) := by decide +kernel
theorem dX7_init_89 : decode cX7_init 89 = .ok (.invokestatic 37, 3) := by decide +kernel
theorem dX7_init_92 : decode cX7_init 92 = .ok (.lastore, 1) := by decide +kernel
theorem dX7_init_93 : decode cX7_init 93 = .ok (.iinc 2 1, 3) := by decide +kernel
theorem dX7_init_96 : decode cX7_init 96 = .ok (.goto (-53), 3) := by decide +kernel
theorem dX7_init_99 : decode cX7_init 99 = .ok (.return_, 1) := by decide +kernel
theorem dX2_init_0 : decode cX2_init 0 = .ok (.aload_n 0, 1) := by decide +kernel
theorem dX2_init_1 : decode cX2_init 1 = .ok (.invokespecial 3, 3) := by decide +kernel
theorem dX2_init_4 : decode cX2_init 4 = .ok (.aload_n 0, 1) := by decide +kernel
theorem dX2_init_5 : decode cX2_init 5 = .ok (.iconst 5, 1) := by decide +kernel
theorem dX2_init_6 : decode cX2_init 6 = .ok (.newarray .long, 2) := by decide +kernel
theorem dX2_init_8 : decode cX2_init 8 = .ok (.putfield 9, 3) := by decide +kernel
theorem dX2_init_11 : decode cX2_init 11 = .ok (.aload_n 0, 1) := by decide +kernel
theorem dX2_init_12 : decode cX2_init 12 = .ok (.bipush 6, 2) := by decide +kernel
theorem dX2_init_14 : decode cX2_init 14 = .ok (.newarray .long, 2) := by decide +kernel
theorem dX2_init_16 : decode cX2_init 16 = .ok (.putfield 15, 3) := by decide +kernel
theorem dX2_init_19 : decode cX2_init 19 = .ok (.aload_n 0, 1) := by decide +kernel
theorem dX2_init_20 : decode cX2_init 20 = .ok (.aload_n 1, 1) := by decide +kernel
theorem dX2_init_21 : decode cX2_init 21 = .ok (.putfield 18, 3) := by decide +kernel
theorem dX2_init_24 : decode cX2_init 24 = .ok (.return_, 1) := by decide +kernel
theorem dX4_init_0 : decode cX4_init 0 = .ok (.aload_n 0, 1) := by decide +kernel
theorem dX4_init_1 : decode cX4_init 1 = .ok (.invokespecial 5, 3) := by decide +kernel
theorem dX4_init_4 : decode cX4_init 4 = .ok (.aload_n 0, 1) := by decide +kernel
theorem dX4_init_5 : decode cX4_init 5 = .ok (.bipush 47, 2) := by decide +kernel
theorem dX4_init_7 : decode cX4_init 7 = .ok (.newarray .int, 2) := by decide +kernel
theorem dX4_init_9 : decode cX4_init 9 = .ok (.putfield 11, 3) := by decide +kernel
theorem dX4_init_12 : decode cX4_init 12 = .ok (.return_, 1) := by decide +kernel
theorem dX1_init_0 : decode cX1_init 0 = .ok (.aload_n 0, 1) := by decide +kernel
theorem dX1_init_1 : decode cX1_init 1 = .ok (.invokespecial 1, 3) := by decide +kernel
theorem dX1_init_4 : decode cX1_init 4 = .ok (.aload_n 0, 1) := by decide +kernel
theorem dX1_init_5 : decode cX1_init 5 = .ok (.sipush 1880, 3) := by decide +kernel
theorem dX1_init_8 : decode cX1_init 8 = .ok (.newarray .int, 2) := by decide +kernel
theorem dX1_init_10 : decode cX1_init 10 = .ok (.putfield 11, 3) := by decide +kernel
theorem dX1_init_13 : decode cX1_init 13 = .ok (.return_, 1) := by decide +kernel
theorem dX0_init_0 : decode cX0_init 0 = .ok (.aload_n 0, 1) := by decide +kernel
theorem dX0_init_1 : decode cX0_init 1 = .ok (.invokespecial 3, 3) := by decide +kernel
theorem dX0_init_4 : decode cX0_init 4 = .ok (.aload_n 0, 1) := by decide +kernel
theorem dX0_init_5 : decode cX0_init 5 = .ok (.bipush 20, 2) := by decide +kernel
theorem dX0_init_7 : decode cX0_init 7 = .ok (.newarray .int, 2) := by decide +kernel
theorem dX0_init_9 : decode cX0_init 9 = .ok (.putfield 11, 3) := by decide +kernel
theorem dX0_init_12 : decode cX0_init 12 = .ok (.aload_n 0, 1) := by decide +kernel
theorem dX0_init_13 : decode cX0_init 13 = .ok (.bipush 20, 2) := by decide +kernel
theorem dX0_init_15 : decode cX0_init 15 = .ok (.newarray .int, 2) := by decide +kernel
theorem dX0_init_17 : decode cX0_init 17 = .ok (.putfield 15, 3) := by decide +kernel
theorem dX0_init_20 : decode cX0_init 20 = .ok (.aload_n 0, 1) := by decide +kernel
theorem dX0_init_21 : decode cX0_init 21 = .ok (.bipush 20, 2) := by decide +kernel
theorem dX0_init_23 : decode cX0_init 23 = .ok (.newarray .int, 2) := by decide +kernel
theorem dX0_init_25 : decode cX0_init 25 = .ok (.putfield 18, 3) := by decide +kernel
theorem dX0_init_28 : decode cX0_init 28 = .ok (.aload_n 0, 1) := by decide +kernel
theorem dX0_init_29 : decode cX0_init 29 = .ok (.bipush 36, 2) := by decide +kernel
theorem dX0_init_31 : decode cX0_init 31 = .ok (.newarray .int, 2) := by decide +kernel
theorem dX0_init_33 : decode cX0_init 33 = .ok (.putfield 21, 3) := by decide +kernel
theorem dX0_init_36 : decode cX0_init 36 = .ok (.aload_n 0, 1) := by decide +kernel
theorem dX0_init_37 : decode cX0_init 37 = .ok (.bipush 21, 2) := by decide +kernel
theorem dX0_init_39 : decode cX0_init 39 = .ok (.newarray .int, 2) := by decide +kernel
theorem dX0_init_41 : decode cX0_init 41 = .ok (.putfield 24, 3) := by decide +kernel
theorem dX0_init_44 : decode cX0_init 44 = .ok (.aload_n 0, 1) := by decide +kernel
theorem dX0_init_45 : decode cX0_init 45 = .ok (.bipush 6, 2) := by decide +kernel
theorem dX0_init_47 : decode cX0_init 47 = .ok (.newarray .int, 2) := by decide +kernel
theorem dX0_init_49 : decode cX0_init 49 = .ok (.putfield 27, 3) := by decide +kernel
theorem dX0_init_52 : decode cX0_init 52 = .ok (.aload_n 0, 1) := by decide +kernel
theorem dX0_init_53 : decode cX0_init 53 = .ok (.bipush 6, 2) := by decide +kernel
theorem dX0_init_55 : decode cX0_init 55 = .ok (.newarray .int, 2) := by decide +kernel
theorem dX0_init_57 : decode cX0_init 57 = .ok (.putfield 30, 3) := by decide +kernel
theorem dX0_init_60 : decode cX0_init 60 = .ok (.return_, 1) := by decide +kernel
theorem dX8_init_0 : decode cX8_init 0 = .ok (.aload_n 0, 1) := by decide +kernel
theorem dX8_init_1 : decode cX8_init 1 = .ok (.invokespecial 5, 3) := by decide +kernel
theorem dX8_init_4 : decode cX8_init 4 = .ok (.aload_n 0, 1) := by decide +kernel
theorem dX8_init_5 : decode cX8_init 5 = .ok (.iconst 5, 1) := by decide +kernel
theorem dX8_init_6 : decode cX8_init 6 = .ok (.newarray .int, 2) := by decide +kernel
theorem dX8_init_8 : decode cX8_init 8 = .ok (.putfield 11, 3) := by decide +kernel
theorem dX8_init_11 : decode cX8_init 11 = .ok (.aload_n 0, 1) := by decide +kernel
theorem dX8_init_12 : decode cX8_init 12 = .ok (.iconst 5, 1) := by decide +kernel
theorem dX8_init_13 : decode cX8_init 13 = .ok (.newarray .int, 2) := by decide +kernel
theorem dX8_init_15 : decode cX8_init 15 = .ok (.putfield 15, 3) := by decide +kernel
theorem dX8_init_18 : decode cX8_init 18 = .ok (.aload_n 0, 1) := by decide +kernel
theorem dX8_init_19 : decode cX8_init 19 = .ok (.bipush 6, 2) := by decide +kernel
theorem dX8_init_21 : decode cX8_init 21 = .ok (.newarray .int, 2) := by decide +kernel
theorem dX8_init_23 : decode cX8_init 23 = .ok (.putfield 18, 3) := by decide +kernel
theorem dX8_init_26 : decode cX8_init 26 = .ok (.aload_n 0, 1) := by decide +kernel
theorem dX8_init_27 : decode cX8_init 27 = .ok (.bipush 6, 2) := by decide +kernel
theorem dX8_init_29 : decode cX8_init 29 = .ok (.newarray .int, 2) := by decide +kernel
theorem dX8_init_31 : decode cX8_init 31 = .ok (.putfield 21, 3) := by decide +kernel
theorem dX8_init_34 : decode cX8_init 34 = .ok (.aload_n 0, 1) := by decide +kernel
theorem dX8_init_35 : decode cX8_init 35 = .ok (.bipush 6, 2) := by decide +kernel
theorem dX8_init_37 : decode cX8_init 37 = .ok (.newarray .int, 2) := by decide +kernel
theorem dX8_init_39 : decode cX8_init 39 = .ok (.putfield 24, 3) := by decide +kernel
theorem dX8_init_42 : decode cX8_init 42 = .ok (.aload_n 0, 1) := by decide +kernel
theorem dX8_init_43 : decode cX8_init 43 = .ok (.bipush 6, 2) := by decide +kernel
theorem dX8_init_45 : decode cX8_init 45 = .ok (.newarray .int, 2) := by decide +kernel
theorem dX8_init_47 : decode cX8_init 47 = .ok (.putfield 27, 3) := by decide +kernel
theorem dX8_init_50 : decode cX8_init 50 = .ok (.aload_n 0, 1) := by decide +kernel
theorem dX8_init_51 : decode cX8_init 51 = .ok (.bipush 6, 2) := by decide +kernel
theorem dX8_init_53 : decode cX8_init 53 = .ok (.newarray .int, 2) := by decide +kernel
theorem dX8_init_55 : decode cX8_init 55 = .ok (.putfield 30, 3) := by decide +kernel
theorem dX8_init_58 : decode cX8_init 58 = .ok (.aload_n 0, 1) := by decide +kernel
theorem dX8_init_59 : decode cX8_init 59 = .ok (.bipush 6, 2) := by decide +kernel
theorem dX8_init_61 : decode cX8_init 61 = .ok (.newarray .int, 2) := by decide +kernel
theorem dX8_init_63 : decode cX8_init 63 = .ok (.putfield 33, 3) := by decide +kernel
theorem dX8_init_66 : decode cX8_init 66 = .ok (.aload_n 0, 1) := by decide +kernel
theorem dX8_init_67 : decode cX8_init 67 = .ok (.bipush 6, 2) := by decide +kernel
theorem dX8_init_69 : decode cX8_init 69 = .ok (.newarray .int, 2) := by decide +kernel
theorem dX8_init_71 : decode cX8_init 71 = .ok (.putfield 36, 3) := by decide +kernel
theorem dX8_init_74 : decode cX8_init 74 = .ok (.aload_n 0, 1) := by decide +kernel
theorem dX8_init_75 : decode cX8_init 75 = .ok (.sipush 408, 3) := by decide +kernel
theorem dX8_init_78 : decode cX8_init 78 = .ok (.newarray .int, 2) := by decide +kernel
theorem dX8_init_80 : decode cX8_init 80 = .ok (.putfield 39, 3) := by decide +kernel
theorem dX8_init_83 : decode cX8_init 83 = .ok (.aload_n 0, 1) := by decide +kernel
theorem dX8_init_84 : decode cX8_init 84 = .ok (.invokevirtual 42, 3) := by decide +kernel
theorem dX8_init_87 : decode cX8_init 87 = .ok (.return_, 1) := by decide +kernel
theorem dX5_init_0 : decode cX5_init 0 = .ok (.aload_n 0, 1) := by decide +kernel
theorem dX5_init_1 : decode cX5_init 1 = .ok (.invokespecial 1, 3) := by decide +kernel
theorem dX5_init_4 : decode cX5_init 4 = .ok (.aload_n 0, 1) := by decide +kernel
theorem dX5_init_5 : decode cX5_init 5 = .ok (.bipush 9, 2) := by decide +kernel
theorem dX5_init_7 : decode cX5_init 7 = .ok (.newarray .int, 2) := by decide +kernel
theorem dX5_init_9 : decode cX5_init 9 = .ok (.putfield 9, 3) := by decide +kernel
theorem dX5_init_12 : decode cX5_init 12 = .ok (.aload_n 0, 1) := by decide +kernel
theorem dX5_init_13 : decode cX5_init 13 = .ok (.bipush 24, 2) := by decide +kernel
theorem dX5_init_15 : decode cX5_init 15 = .ok (.newarray .int, 2) := by decide +kernel
theorem dX5_init_17 : decode cX5_init 17 = .ok (.putfield 13, 3) := by decide +kernel
theorem dX5_init_20 : decode cX5_init 20 = .ok (.return_, 1) := by decide +kernel
theorem dX3_init_0 : decode cX3_init 0 = .ok (.aload_n 0, 1) := by decide +kernel
theorem dX3_init_1 : decode cX3_init 1 = .ok (.invokespecial 3, 3) := by decide +kernel
theorem dX3_init_4 : decode cX3_init 4 = .ok (.aload_n 0, 1) := by decide +kernel
theorem dX3_init_5 : decode cX3_init 5 = .ok (.new 9, 3) := by decide +kernel
theorem dX3_init_8 : decode cX3_init 8 = .ok (.dup, 1) := by decide +kernel
theorem dX3_init_9 : decode cX3_init 9 = .ok (.invokespecial 11, 3) := by decide +kernel
theorem dX3_init_12 : decode cX3_init 12 = .ok (.putfield 12, 3) := by decide +kernel
theorem dX3_init_15 : decode cX3_init 15 = .ok (.aload_n 0, 1) := by decide +kernel
theorem dX3_init_16 : decode cX3_init 16 = .ok (.bipush 6, 2) := by decide +kernel
theorem dX3_init_18 : decode cX3_init 18 = .ok (.newarray .int, 2) := by decide +kernel
theorem dX3_init_20 : decode cX3_init 20 = .ok (.putfield 18, 3) := by decide +kernel
theorem dX3_init_23 : decode cX3_init 23 = .ok (.aload_n 0, 1) := by decide +kernel
theorem dX3_init_24 : decode cX3_init 24 = .ok (.aload_n 1, 1) := by decide +kernel
theorem dX3_init_25 : decode cX3_init 25 = .ok (.putfield 22, 3) := by decide +kernel
theorem dX3_init_28 : decode cX3_init 28 = .ok (.return_, 1) := by decide +kernel
theorem dX10_init_0 : decode cX10_init 0 = .ok (.aload_n 0, 1) := by decide +kernel
theorem dX10_init_1 : decode cX10_init 1 = .ok (.invokespecial 1, 3) := by decide +kernel
theorem dX10_init_4 : decode cX10_init 4 = .ok (.aload_n 0, 1) := by decide +kernel
theorem dX10_init_5 : decode cX10_init 5 = .ok (.sipush 2000, 3) := by decide +kernel
theorem dX10_init_8 : decode cX10_init 8 = .ok (.newarray .byte, 2) := by decide +kernel
theorem dX10_init_10 : decode cX10_init 10 = .ok (.putfield 9, 3) := by decide +kernel
theorem dX10_init_13 : decode cX10_init 13 = .ok (.aload_n 0, 1) := by decide +kernel
theorem dX10_init_14 : decode cX10_init 14 = .ok (.new 13, 3) := by decide +kernel
theorem dX10_init_17 : decode cX10_init 17 = .ok (.dup, 1) := by decide +kernel
theorem dX10_init_18 : decode cX10_init 18 = .ok (.invokespecial 15, 3) := by decide +kernel
theorem dX10_init_21 : decode cX10_init 21 = .ok (.putfield 16, 3) := by decide +kernel
theorem dX10_init_24 : decode cX10_init 24 = .ok (.aload_n 0, 1) := by decide +kernel
theorem dX10_init_25 : decode cX10_init 25 = .ok (.new 20, 3) := by decide +kernel
theorem dX10_init_28 : decode cX10_init 28 = .ok (.dup, 1) := by decide +kernel
theorem dX10_init_29 : decode cX10_init 29 = .ok (.aload_n 0, 1) := by decide +kernel
theorem dX10_init_30 : decode cX10_init 30 = .ok (.getfield 16, 3) := by decide +kernel
theorem dX10_init_33 : decode cX10_init 33 = .ok (.invokespecial 22, 3) := by decide +kernel
theorem dX10_init_36 : decode cX10_init 36 = .ok (.putfield 25, 3) := by decide +kernel
theorem dX10_init_39 : decode cX10_init 39 = .ok (.aload_n 0, 1) := by decide +kernel
theorem dX10_init_40 : decode cX10_init 40 = .ok (.new 29, 3) := by decide +kernel
theorem dX10_init_43 : decode cX10_init 43 = .ok (.dup, 1) := by decide +kernel
theorem dX10_init_44 : decode cX10_init 44 = .ok (.invokespecial 31, 3) := by decide +kernel
theorem dX10_init_47 : decode cX10_init 47 = .ok (.putfield 32, 3) := by decide +kernel
theorem dX10_init_50 : decode cX10_init 50 = .ok (.aload_n 0, 1) := by decide +kernel
theorem dX10_init_51 : decode cX10_init 51 = .ok (.new 36, 3) := by decide +kernel
theorem dX10_init_54 : decode cX10_init 54 = .ok (.dup, 1) := by decide +kernel
theorem dX10_init_55 : decode cX10_init 55 = .ok (.invokespecial 38, 3) := by decide +kernel
theorem dX10_init_58 : decode cX10_init 58 = .ok (.putfield 39, 3) := by decide +kernel
theorem dX10_init_61 : decode cX10_init 61 = .ok (.aload_n 0, 1) := by decide +kernel
theorem dX10_init_62 : decode cX10_init 62 = .ok (.sipush 141, 3) := by decide +kernel
theorem dX10_init_65 : decode cX10_init 65 = .ok (.newarray .int, 2) := by decide +kernel
theorem dX10_init_67 : decode cX10_init 67 = .ok (.putfield 43, 3) := by decide +kernel
theorem dX10_init_70 : decode cX10_init 70 = .ok (.aload_n 0, 1) := by decide +kernel
theorem dX10_init_71 : decode cX10_init 71 = .ok (.new 47, 3) := by decide +kernel
theorem dX10_init_74 : decode cX10_init 74 = .ok (.dup, 1) := by decide +kernel
theorem dX10_init_75 : decode cX10_init 75 = .ok (.invokespecial 49, 3) := by decide +kernel
theorem dX10_init_78 : decode cX10_init 78 = .ok (.putfield 50, 3) := by decide +kernel
theorem dX10_init_81 : decode cX10_init 81 = .ok (.aload_n 0, 1) := by decide +kernel
theorem dX10_init_82 : decode cX10_init 82 = .ok (.bipush 6, 2) := by decide +kernel
theorem dX10_init_84 : decode cX10_init 84 = .ok (.newarray .int, 2) := by decide +kernel
theorem dX10_init_86 : decode cX10_init 86 = .ok (.putfield 54, 3) := by decide +kernel
theorem dX10_init_89 : decode cX10_init 89 = .ok (.aload_n 0, 1) := by decide +kernel
theorem dX10_init_90 : decode cX10_init 90 = .ok (.new 57, 3) := by decide +kernel
theorem dX10_init_93 : decode cX10_init 93 = .ok (.dup, 1) := by decide +kernel
theorem dX10_init_94 : decode cX10_init 94 = .ok (.invokespecial 59, 3) := by decide +kernel
theorem dX10_init_97 : decode cX10_init 97 = .ok (.putfield 60, 3) := by decide +kernel
theorem dX10_init_100 : decode cX10_init 100 = .ok (.aload_n 0, 1) := by decide +kernel
theorem dX10_init_101 : decode cX10_init 101 = .ok (.new 57, 3) := by decide +kernel
theorem dX10_init_104 : decode cX10_init 104 = .ok (.dup, 1) := by decide +kernel
theorem dX10_init_105 : decode cX10_init 105 = .ok (.invokespecial 59, 3) := by decide +kernel
theorem dX10_init_108 : decode cX10_init 108 = .ok (.putfield 64, 3) := by decide +kernel
theorem dX10_init_111 : decode cX10_init 111 = .ok (.aload_n 0, 1) := by decide +kernel
theorem dX10_init_112 : decode cX10_init 112 = .ok (.iconst (-1), 1) := by decide +kernel
theorem dX10_init_113 : decode cX10_init 113 = .ok (.putfield 67, 3) := by decide +kernel
theorem dX10_init_116 : decode cX10_init 116 = .ok (.aload_n 0, 1) := by decide +kernel
theorem dX10_init_117 : decode cX10_init 117 = .ok (.new 71, 3) := by decide +kernel
theorem dX10_init_120 : decode cX10_init 120 = .ok (.dup, 1) := by decide +kernel
theorem dX10_init_121 : decode cX10_init 121 = .ok (.aload_n 0, 1) := by decide +kernel
theorem dX10_init_122 : decode cX10_init 122 = .ok (.getfield 60, 3) := by decide +kernel
theorem dX10_init_125 : decode cX10_init 125 = .ok (.invokespecial 73, 3) := by decide +kernel
theorem dX10_init_128 : decode cX10_init 128 = .ok (.putfield 76, 3) := by decide +kernel
theorem dX10_init_131 : decode cX10_init 131 = .ok (.return_, 1) := by decide +kernel
theorem dX6_init_0 : decode cX6_init 0 = .ok (.aload_n 0, 1) := by decide +kernel
theorem dX6_init_1 : decode cX6_init 1 = .ok (.invokespecial 3, 3) := by decide +kernel
theorem dX6_init_4 : decode cX6_init 4 = .ok (.aload_n 0, 1) := by decide +kernel
theorem dX6_init_5 : decode cX6_init 5 = .ok (.sipush 625, 3) := by decide +kernel
theorem dX6_init_8 : decode cX6_init 8 = .ok (.newarray .long, 2) := by decide +kernel
theorem dX6_init_10 : decode cX6_init 10 = .ok (.putfield 11, 3) := by decide +kernel
theorem dX6_init_13 : decode cX6_init 13 = .ok (.aload_n 0, 1) := by decide +kernel
theorem dX6_init_14 : decode cX6_init 14 = .ok (.sipush 625, 3) := by decide +kernel
theorem dX6_init_17 : decode cX6_init 17 = .ok (.newarray .long, 2) := by decide +kernel
theorem dX6_init_19 : decode cX6_init 19 = .ok (.putfield 15, 3) := by decide +kernel
theorem dX6_init_22 : decode cX6_init 22 = .ok (.aload_n 0, 1) := by decide +kernel
theorem dX6_init_23 : decode cX6_init 23 = .ok (.sipush 1080, 3) := by decide +kernel
theorem dX6_init_26 : decode cX6_init 26 = .ok (.newarray .int, 2) := by decide +kernel
theorem dX6_init_28 : decode cX6_init 28 = .ok (.putfield 18, 3) := by decide +kernel
theorem dX6_init_31 : decode cX6_init 31 = .ok (.aload_n 0, 1) := by decide +kernel
theorem dX6_init_32 : decode cX6_init 32 = .ok (.bipush 6, 2) := by decide +kernel
theorem dX6_init_34 : decode cX6_init 34 = .ok (.newarray .int, 2) := by decide +kernel
theorem dX6_init_36 : decode cX6_init 36 = .ok (.putfield 22, 3) := by decide +kernel
theorem dX6_init_39 : decode cX6_init 39 = .ok (.aload_n 0, 1) := by decide +kernel
theorem dX6_init_40 : decode cX6_init 40 = .ok (.bipush 6, 2) := by decide +kernel
theorem dX6_init_42 : decode cX6_init 42 = .ok (.newarray .int, 2) := by decide +kernel
theorem dX6_init_44 : decode cX6_init 44 = .ok (.putfield 25, 3) := by decide +kernel
theorem dX6_init_47 : decode cX6_init 47 = .ok (.aload_n 0, 1) := by decide +kernel
theorem dX6_init_48 : decode cX6_init 48 = .ok (.iconst 5, 1) := by decide +kernel
theorem dX6_init_49 : decode cX6_init 49 = .ok (.newarray .int, 2) := by decide +kernel
theorem dX6_init_51 : decode cX6_init 51 = .ok (.putfield 28, 3) := by decide +kernel
theorem dX6_init_54 : decode cX6_init 54 = .ok (.aload_n 0, 1) := by decide +kernel
theorem dX6_init_55 : decode cX6_init 55 = .ok (.bipush 50, 2) := by decide +kernel
theorem dX6_init_57 : decode cX6_init 57 = .ok (.newarray .int, 2) := by decide +kernel
theorem dX6_init_59 : decode cX6_init 59 = .ok (.putfield 31, 3) := by decide +kernel
theorem dX6_init_62 : decode cX6_init 62 = .ok (.aload_n 0, 1) := by decide +kernel
theorem dX6_init_63 : decode cX6_init 63 = .ok (.bipush 6, 2) := by decide +kernel
theorem dX6_init_65 : decode cX6_init 65 = .ok (.newarray .int, 2) := by decide +kernel
theorem dX6_init_67 : decode cX6_init 67 = .ok (.putfield 34, 3) := by decide +kernel
theorem dX6_init_70 : decode cX6_init 70 = .ok (.aload_n 0, 1) := by decide +kernel
theorem dX6_init_71 : decode cX6_init 71 = .ok (.aload_n 1, 1) := by decide +kernel
theorem dX6_init_72 : decode cX6_init 72 = .ok (.putfield 37, 3) := by decide +kernel
theorem dX6_init_75 : decode cX6_init 75 = .ok (.aload_n 0, 1) := by decide +kernel
theorem dX6_init_76 : decode cX6_init 76 = .ok (.aload_n 1, 1) := by decide +kernel
theorem dX6_init_77 : decode cX6_init 77 = .ok (.getfield 41, 3) := by decide +kernel
theorem dX6_init_80 : decode cX6_init 80 = .ok (.putfield 47, 3) := by decide +kernel
theorem dX6_init_83 : decode cX6_init 83 = .ok (.return_, 1) := by decide +kernel
theorem dX9_init_0 : decode cX9_init 0 = .ok (.aload_n 0, 1) := by decide +kernel
theorem dX9_init_1 : decode cX9_init 1 = .ok (.invokespecial 3, 3) := by decide +kernel
theorem dX9_init_4 : decode cX9_init 4 = .ok (.aload_n 0, 1) := by decide +kernel
theorem dX9_init_5 : decode cX9_init 5 = .ok (.sipush 625, 3) := by decide +kernel
theorem dX9_init_8 : decode cX9_init 8 = .ok (.newarray .long, 2) := by decide +kernel
theorem dX9_init_10 : decode cX9_init 10 = .ok (.putfield 11, 3) := by decide +kernel
theorem dX9_init_13 : decode cX9_init 13 = .ok (.aload_n 0, 1) := by decide +kernel
theorem dX9_init_14 : decode cX9_init 14 = .ok (.sipush 625, 3) := by decide +kernel
theorem dX9_init_17 : decode cX9_init 17 = .ok (.newarray .long, 2) := by decide +kernel
theorem dX9_init_19 : decode cX9_init 19 = .ok (.putfield 17, 3) := by decide +kernel
theorem dX9_init_22 : decode cX9_init 22 = .ok (.aload_n 0, 1) := by decide +kernel
theorem dX9_init_23 : decode cX9_init 23 = .ok (.sipush 625, 3) := by decide +kernel
theorem dX9_init_26 : decode cX9_init 26 = .ok (.newarray .long, 2) := by decide +kernel
theorem dX9_init_28 : decode cX9_init 28 = .ok (.putfield 20, 3) := by decide +kernel
theorem dX9_init_31 : decode cX9_init 31 = .ok (.return_, 1) := by decide +kernel
theorem dX10_makeSurvey_0 : decode cX10_makeSurvey 0 = .ok (.aload_n 0, 1) := by decide +kernel
theorem dX10_makeSurvey_1 : decode cX10_makeSurvey 1 = .ok (.getfield 213, 3) := by decide +kernel
theorem dX10_makeSurvey_4 : decode cX10_makeSurvey 4 = .ok (.ifnull 10, 3) := by decide +kernel
theorem dX10_makeSurvey_7 : decode cX10_makeSurvey 7 = .ok (.aload_n 0, 1) := by decide +kernel
theorem dX10_makeSurvey_8 : decode cX10_makeSurvey 8 = .ok (.getfield 242, 3) := by decide +kernel
theorem dX10_makeSurvey_11 : decode cX10_makeSurvey 11 = .ok (.ifnonnull 34, 3) := by decide +kernel
theorem dX10_makeSurvey_14 : decode cX10_makeSurvey 14 = .ok (.aload_n 0, 1) := by decide +kernel
theorem dX10_makeSurvey_15 : decode cX10_makeSurvey 15 = .ok (.new 218, 3) := by decide +kernel
theorem dX10_makeSurvey_18 : decode cX10_makeSurvey 18 = .ok (.dup, 1) := by decide +kernel
theorem dX10_makeSurvey_19 : decode cX10_makeSurvey 19 = .ok (.aload_n 0, 1) := by decide +kernel
theorem dX10_makeSurvey_20 : decode cX10_makeSurvey 20 = .ok (.getfield 76, 3) := by decide +kernel
theorem dX10_makeSurvey_23 : decode cX10_makeSurvey 23 = .ok (.invokespecial 335, 3) := by decide +kernel
theorem dX10_makeSurvey_26 : decode cX10_makeSurvey 26 = .ok (.putfield 213, 3) := by decide +kernel
theorem dX10_makeSurvey_29 : decode cX10_makeSurvey 29 = .ok (.aload_n 0, 1) := by decide +kernel
theorem dX10_makeSurvey_30 : decode cX10_makeSurvey 30 = .ok (.new 254, 3) := by decide +kernel
theorem dX10_makeSurvey_33 : decode cX10_makeSurvey 33 = .ok (.dup, 1) := by decide +kernel
theorem dX10_makeSurvey_34 : decode cX10_makeSurvey 34 = .ok (.invokespecial 338, 3) := by decide +kernel
theorem dX10_makeSurvey_37 : decode cX10_makeSurvey 37 = .ok (.putfield 242, 3) := by decide +kernel
theorem dX10_makeSurvey_40 : decode cX10_makeSurvey 40 = .ok (.aload_n 0, 1) := by decide +kernel
theorem dX10_makeSurvey_41 : decode cX10_makeSurvey 41 = .ok (.iconst 0, 1) := by decide +kernel
theorem dX10_makeSurvey_42 : decode cX10_makeSurvey 42 = .ok (.putfield 199, 3) := by decide +kernel
theorem dX10_makeSurvey_45 : decode cX10_makeSurvey 45 = .ok (.aload_n 0, 1) := by decide +kernel
theorem dX10_makeSurvey_46 : decode cX10_makeSurvey 46 = .ok (.getfield 199, 3) := by decide +kernel
theorem dX10_makeSurvey_49 : decode cX10_makeSurvey 49 = .ok (.ifCond .ne 27, 3) := by decide +kernel
theorem dX10_makeSurvey_52 : decode cX10_makeSurvey 52 = .ok (.aload_n 0, 1) := by decide +kernel
theorem dX10_makeSurvey_53 : decode cX10_makeSurvey 53 = .ok (.invokevirtual 151, 3) := by decide +kernel
theorem dX10_makeSurvey_56 : decode cX10_makeSurvey 56 = .ok (.aload_n 0, 1) := by decide +kernel
theorem dX10_makeSurvey_57 : decode cX10_makeSurvey 57 = .ok (.getfield 213, 3) := by decide +kernel
theorem dX10_makeSurvey_60 : decode cX10_makeSurvey 60 = .ok (.aload_n 0, 1) := by decide +kernel
theorem dX10_makeSurvey_61 : decode cX10_makeSurvey 61 = .ok (.getfield 60, 3) := by decide +kernel
theorem dX10_makeSurvey_64 : decode cX10_makeSurvey 64 = .ok (.aload_n 0, 1) := by decide +kernel
theorem dX10_makeSurvey_65 : decode cX10_makeSurvey 65 = .ok (.invokevirtual 148, 3) := by decide +kernel
theorem dX10_makeSurvey_68 : decode cX10_makeSurvey 68 = .ok (.invokevirtual 339, 3) := by decide +kernel
theorem dX10_makeSurvey_71 : decode cX10_makeSurvey 71 = .ok (.aload_n 0, 1) := by decide +kernel
theorem dX10_makeSurvey_72 : decode cX10_makeSurvey 72 = .ok (.iconst 1, 1) := by decide +kernel
theorem dX10_makeSurvey_73 : decode cX10_makeSurvey 73 = .ok (.putfield 199, 3) := by decide +kernel
theorem dX10_makeSurvey_76 : decode cX10_makeSurvey 76 = .ok (.return_, 1) := by decide +kernel
theorem dX10_hangings_0 : decode cX10_hangings 0 = .ok (.aload_n 0, 1) := by decide +kernel
theorem dX10_hangings_1 : decode cX10_hangings 1 = .ok (.invokevirtual 210, 3) := by decide +kernel
theorem dX10_hangings_4 : decode cX10_hangings 4 = .ok (.aload_n 0, 1) := by decide +kernel
theorem dX10_hangings_5 : decode cX10_hangings 5 = .ok (.getfield 213, 3) := by decide +kernel
theorem dX10_hangings_8 : decode cX10_hangings 8 = .ok (.invokevirtual 217, 3) := by decide +kernel
theorem dX10_hangings_11 : decode cX10_hangings 11 = .ok (.ireturn, 1) := by decide +kernel
theorem dX10_nearest_0 : decode cX10_nearest 0 = .ok (.iload_n 1, 1) := by decide +kernel
theorem dX10_nearest_1 : decode cX10_nearest 1 = .ok (.iconst (-1), 1) := by decide +kernel
theorem dX10_nearest_2 : decode cX10_nearest 2 = .ok (.if_icmp .eq 13, 3) := by decide +kernel
theorem dX10_nearest_5 : decode cX10_nearest 5 = .ok (.aload_n 0, 1) := by decide +kernel
theorem dX10_nearest_6 : decode cX10_nearest 6 = .ok (.iload_n 1, 1) := by decide +kernel
theorem dX10_nearest_7 : decode cX10_nearest 7 = .ok (.invokevirtual 121, 3) := by decide +kernel
theorem dX10_nearest_10 : decode cX10_nearest 10 = .ok (.ifCond .ne 5, 3) := by decide +kernel
theorem dX10_nearest_13 : decode cX10_nearest 13 = .ok (.iconst (-1), 1) := by decide +kernel
theorem dX10_nearest_14 : decode cX10_nearest 14 = .ok (.ireturn, 1) := by decide +kernel
theorem dX10_nearest_15 : decode cX10_nearest 15 = .ok (.aload_n 0, 1) := by decide +kernel
theorem dX10_nearest_16 : decode cX10_nearest 16 = .ok (.invokevirtual 210, 3) := by decide +kernel
theorem dX10_nearest_19 : decode cX10_nearest 19 = .ok (.aload_n 0, 1) := by decide +kernel
theorem dX10_nearest_20 : decode cX10_nearest 20 = .ok (.getfield 213, 3) := by decide +kernel
theorem dX10_nearest_23 : decode cX10_nearest 23 = .ok (.invokevirtual 217, 3) := by decide +kernel
theorem dX10_nearest_26 : decode cX10_nearest 26 = .ok (.ifCond .ne 6, 3) := by decide +kernel
theorem dX10_nearest_29 : decode cX10_nearest 29 = .ok (.bipush (-2), 2) := by decide +kernel
theorem dX10_nearest_31 : decode cX10_nearest 31 = .ok (.ireturn, 1) := by decide +kernel
theorem dX10_nearest_32 : decode cX10_nearest 32 = .ok (.iload_n 1, 1) := by decide +kernel
theorem dX10_nearest_33 : decode cX10_nearest 33 = .ok (.iconst (-1), 1) := by decide +kernel
theorem dX10_nearest_34 : decode cX10_nearest 34 = .ok (.if_icmp .ne 13, 3) := by decide +kernel
theorem dX10_nearest_37 : decode cX10_nearest 37 = .ok (.aload_n 0, 1) := by decide +kernel
theorem dX10_nearest_38 : decode cX10_nearest 38 = .ok (.getfield 213, 3) := by decide +kernel
theorem dX10_nearest_41 : decode cX10_nearest 41 = .ok (.invokevirtual 222, 3) := by decide +kernel
theorem dX10_nearest_44 : decode cX10_nearest 44 = .ok (.goto 11, 3) := by decide +kernel
theorem dX10_nearest_47 : decode cX10_nearest 47 = .ok (.aload_n 0, 1) := by decide +kernel
theorem dX10_nearest_48 : decode cX10_nearest 48 = .ok (.getfield 213, 3) := by decide +kernel
theorem dX10_nearest_51 : decode cX10_nearest 51 = .ok (.iload_n 1, 1) := by decide +kernel
theorem dX10_nearest_52 : decode cX10_nearest 52 = .ok (.invokevirtual 225, 3) := by decide +kernel
theorem dX10_nearest_55 : decode cX10_nearest 55 = .ok (.ireturn, 1) := by decide +kernel
theorem dX10_quarrel_0 : decode cX10_quarrel 0 = .ok (.iload_n 1, 1) := by decide +kernel
theorem dX10_quarrel_1 : decode cX10_quarrel 1 = .ok (.ifCond .eq 10, 3) := by decide +kernel
theorem dX10_quarrel_4 : decode cX10_quarrel 4 = .ok (.iload_n 1, 1) := by decide +kernel
theorem dX10_quarrel_5 : decode cX10_quarrel 5 = .ok (.iconst 1, 1) := by decide +kernel
theorem dX10_quarrel_6 : decode cX10_quarrel 6 = .ok (.if_icmp .eq 5, 3) := by decide +kernel
theorem dX10_quarrel_9 : decode cX10_quarrel 9 = .ok (.iconst (-1), 1) := by decide +kernel
theorem dX10_quarrel_10 : decode cX10_quarrel 10 = .ok (.ireturn, 1) := by decide +kernel
theorem dX10_quarrel_11 : decode cX10_quarrel 11 = .ok (.aload_n 0, 1) := by decide +kernel
theorem dX10_quarrel_12 : decode cX10_quarrel 12 = .ok (.invokevirtual 210, 3) := by decide +kernel
theorem dX10_quarrel_15 : decode cX10_quarrel 15 = .ok (.aload_n 0, 1) := by decide +kernel
theorem dX10_quarrel_16 : decode cX10_quarrel 16 = .ok (.getfield 213, 3) := by decide +kernel
theorem dX10_quarrel_19 : decode cX10_quarrel 19 = .ok (.invokevirtual 217, 3) := by decide +kernel
theorem dX10_quarrel_22 : decode cX10_quarrel 22 = .ok (.ifCond .le 6, 3) := by decide +kernel
theorem dX10_quarrel_25 : decode cX10_quarrel 25 = .ok (.bipush (-2), 2) := by decide +kernel
theorem dX10_quarrel_27 : decode cX10_quarrel 27 = .ok (.ireturn, 1) := by decide +kernel
theorem dX10_quarrel_28 : decode cX10_quarrel 28 = .ok (.aload_n 0, 1) := by decide +kernel
theorem dX10_quarrel_29 : decode cX10_quarrel 29 = .ok (.getfield 213, 3) := by decide +kernel
theorem dX10_quarrel_32 : decode cX10_quarrel 32 = .ok (.invokevirtual 228, 3) := by decide +kernel
theorem dX10_quarrel_35 : decode cX10_quarrel 35 = .ok (.istore_n 2, 1) := by decide +kernel
theorem dX10_quarrel_36 : decode cX10_quarrel 36 = .ok (.iload_n 1, 1) := by decide +kernel
theorem dX10_quarrel_37 : decode cX10_quarrel 37 = .ok (.ifCond .ne 10, 3) := by decide +kernel
theorem dX10_quarrel_40 : decode cX10_quarrel 40 = .ok (.iload_n 2, 1) := by decide +kernel
theorem dX10_quarrel_41 : decode cX10_quarrel 41 = .ok (.invokestatic 231, 3) := by decide +kernel
theorem dX10_quarrel_44 : decode cX10_quarrel 44 = .ok (.goto 4, 3) := by decide +kernel
theorem dX10_quarrel_47 : decode cX10_quarrel 47 = .ok (.iload_n 2, 1) := by decide +kernel
theorem dX10_quarrel_48 : decode cX10_quarrel 48 = .ok (.ireturn, 1) := by decide +kernel
theorem dX10_home_0 : decode cX10_home 0 = .ok (.aload_n 0, 1) := by decide +kernel
theorem dX10_home_1 : decode cX10_home 1 = .ok (.invokevirtual 210, 3) := by decide +kernel
theorem dX10_home_4 : decode cX10_home 4 = .ok (.iconst 0, 1) := by decide +kernel
theorem dX10_home_5 : decode cX10_home 5 = .ok (.istore_n 2, 1) := by decide +kernel
theorem dX10_home_6 : decode cX10_home 6 = .ok (.iconst 0, 1) := by decide +kernel
theorem dX10_home_7 : decode cX10_home 7 = .ok (.istore_n 3, 1) := by decide +kernel
theorem dX10_home_8 : decode cX10_home 8 = .ok (.iconst 0, 1) := by decide +kernel
theorem dX10_home_9 : decode cX10_home 9 = .ok (.istore 4, 2) := by decide +kernel
theorem dX10_home_11 : decode cX10_home 11 = .ok (.iload 4, 2) := by decide +kernel
theorem dX10_home_13 : decode cX10_home 13 = .ok (.aload_n 0, 1) := by decide +kernel
theorem dX10_home_14 : decode cX10_home 14 = .ok (.getfield 60, 3) := by decide +kernel
theorem dX10_home_17 : decode cX10_home 17 = .ok (.getfield 236, 3) := by decide +kernel
theorem dX10_home_20 : decode cX10_home 20 = .ok (.if_icmp .ge 44, 3) := by decide +kernel
theorem dX10_home_23 : decode cX10_home 23 = .ok (.iload_n 2, 1) := by decide +kernel
theorem dX10_home_24 : decode cX10_home 24 = .ok (.iload 4, 2) := by decide +kernel
theorem dX10_home_26 : decode cX10_home 26 = .ok (.aload_n 0, 1) := by decide +kernel
theorem dX10_home_27 : decode cX10_home 27 = .ok (.getfield 32, 3) := by decide +kernel
theorem dX10_home_30 : decode cX10_home 30 = .ok (.iload 4, 2) := by decide +kernel
theorem dX10_home_32 : decode cX10_home 32 = .ok (.invokevirtual 130, 3) := by decide +kernel
theorem dX10_home_35 : decode cX10_home 35 = .ok (.invokestatic 239, 3) := by decide +kernel
theorem dX10_home_38 : decode cX10_home 38 = .ok (.iadd, 1) := by decide +kernel
theorem dX10_home_39 : decode cX10_home 39 = .ok (.istore_n 2, 1) := by decide +kernel
theorem dX10_home_40 : decode cX10_home 40 = .ok (.iload_n 3, 1) := by decide +kernel
theorem dX10_home_41 : decode cX10_home 41 = .ok (.iload 4, 2) := by decide +kernel
theorem dX10_home_43 : decode cX10_home 43 = .ok (.aload_n 0, 1) := by decide +kernel
theorem dX10_home_44 : decode cX10_home 44 = .ok (.getfield 60, 3) := by decide +kernel
theorem dX10_home_47 : decode cX10_home 47 = .ok (.getfield 127, 3) := by decide +kernel
theorem dX10_home_50 : decode cX10_home 50 = .ok (.iload 4, 2) := by decide +kernel
theorem dX10_home_52 : decode cX10_home 52 = .ok (.iaload, 1) := by decide +kernel
theorem dX10_home_53 : decode cX10_home 53 = .ok (.invokestatic 239, 3) := by decide +kernel
theorem dX10_home_56 : decode cX10_home 56 = .ok (.iadd, 1) := by decide +kernel
theorem dX10_home_57 : decode cX10_home 57 = .ok (.istore_n 3, 1) := by decide +kernel
theorem dX10_home_58 : decode cX10_home 58 = .ok (.iinc 4 1, 3) := by decide +kernel
theorem dX10_home_61 : decode cX10_home 61 = .ok (.goto (-50), 3) := by decide +kernel
theorem dX10_home_64 : decode cX10_home 64 = .ok (.aload_n 0, 1) := by decide +kernel
theorem dX10_home_65 : decode cX10_home 65 = .ok (.getfield 242, 3) := by decide +kernel
theorem dX10_home_68 : decode cX10_home 68 = .ok (.iload_n 1, 1) := by decide +kernel
theorem dX10_home_69 : decode cX10_home 69 = .ok (.ifCond .eq 13, 3) := by decide +kernel
theorem dX10_home_72 : decode cX10_home 72 = .ok (.aload_n 0, 1) := by decide +kernel
theorem dX10_home_73 : decode cX10_home 73 = .ok (.getfield 213, 3) := by decide +kernel
theorem dX10_home_76 : decode cX10_home 76 = .ok (.invokevirtual 246, 3) := by decide +kernel
theorem dX10_home_79 : decode cX10_home 79 = .ok (.goto 10, 3) := by decide +kernel
theorem dX10_home_82 : decode cX10_home 82 = .ok (.aload_n 0, 1) := by decide +kernel
theorem dX10_home_83 : decode cX10_home 83 = .ok (.getfield 213, 3) := by decide +kernel
theorem dX10_home_86 : decode cX10_home 86 = .ok (.invokevirtual 250, 3) := by decide +kernel
theorem dX10_home_89 : decode cX10_home 89 = .ok (.iload_n 2, 1) := by decide +kernel
theorem dX10_home_90 : decode cX10_home 90 = .ok (.iload_n 3, 1) := by decide +kernel
theorem dX10_home_91 : decode cX10_home 91 = .ok (.aload_n 0, 1) := by decide +kernel
theorem dX10_home_92 : decode cX10_home 92 = .ok (.getfield 60, 3) := by decide +kernel
theorem dX10_home_95 : decode cX10_home 95 = .ok (.getfield 236, 3) := by decide +kernel
theorem dX10_home_98 : decode cX10_home 98 = .ok (.invokevirtual 253, 3) := by decide +kernel
theorem dX10_home_101 : decode cX10_home 101 = .ok (.ireturn, 1) := by decide +kernel
