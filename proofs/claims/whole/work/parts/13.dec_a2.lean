theorem dX9_moveFirst_0 : decode cX9_moveFirst 0 = .ok (.lload_n 0, 1) := by decide +kernel
theorem dX9_moveFirst_1 : decode cX9_moveFirst 1 = .ok (.lload_n 0, 1) := by decide +kernel
theorem dX9_moveFirst_2 : decode cX9_moveFirst 2 = .ok (.iconst 1, 1) := by decide +kernel
theorem dX9_moveFirst_3 : decode cX9_moveFirst 3 = .ok (.lushr, 1) := by decide +kernel
theorem dX9_moveFirst_4 : decode cX9_moveFirst 4 = .ok (.lor, 1) := by decide +kernel
theorem dX9_moveFirst_5 : decode cX9_moveFirst 5 = .ok (.lload_n 0, 1) := by decide +kernel
theorem dX9_moveFirst_6 : decode cX9_moveFirst 6 = .ok (.iconst 2, 1) := by decide +kernel
theorem dX9_moveFirst_7 : decode cX9_moveFirst 7 = .ok (.lushr, 1) := by decide +kernel
theorem dX9_moveFirst_8 : decode cX9_moveFirst 8 = .ok (.lor, 1) := by decide +kernel
theorem dX9_moveFirst_9 : decode cX9_moveFirst 9 = .ok (.lload_n 0, 1) := by decide +kernel
theorem dX9_moveFirst_10 : decode cX9_moveFirst 10 = .ok (.iconst 3, 1) := by decide +kernel
theorem dX9_moveFirst_11 : decode cX9_moveFirst 11 = .ok (.lushr, 1) := by decide +kernel
theorem dX9_moveFirst_12 : decode cX9_moveFirst 12 = .ok (.lor, 1) := by decide +kernel
theorem dX9_moveFirst_13 : decode cX9_moveFirst 13 = .ok (.lload_n 0, 1) := by decide +kernel
theorem dX9_moveFirst_14 : decode cX9_moveFirst 14 = .ok (.iconst 4, 1) := by decide +kernel
theorem dX9_moveFirst_15 : decode cX9_moveFirst 15 = .ok (.lushr, 1) := by decide +kernel
theorem dX9_moveFirst_16 : decode cX9_moveFirst 16 = .ok (.lor, 1) := by decide +kernel
theorem dX9_moveFirst_17 : decode cX9_moveFirst 17 = .ok (.lstore_n 2, 1) := by decide +kernel
theorem dX9_moveFirst_18 : decode cX9_moveFirst 18 = .ok (.lload_n 2, 1) := by decide +kernel
theorem dX9_moveFirst_19 : decode cX9_moveFirst 19 = .ok (.ldc2_w 47, 3) := by decide +kernel
theorem dX9_moveFirst_22 : decode cX9_moveFirst 22 = .ok (.land, 1) := by decide +kernel
theorem dX9_moveFirst_23 : decode cX9_moveFirst 23 = .ok (.ldc2_w 49, 3) := by decide +kernel
theorem dX9_moveFirst_26 : decode cX9_moveFirst 26 = .ok (.lmul, 1) := by decide +kernel
theorem dX9_moveFirst_27 : decode cX9_moveFirst 27 = .ok (.lreturn, 1) := by decide +kernel
theorem dX9_moveSecond_0 : decode cX9_moveSecond 0 = .ok (.lload_n 0, 1) := by decide +kernel
theorem dX9_moveSecond_1 : decode cX9_moveSecond 1 = .ok (.lload_n 0, 1) := by decide +kernel
theorem dX9_moveSecond_2 : decode cX9_moveSecond 2 = .ok (.bipush 8, 2) := by decide +kernel
theorem dX9_moveSecond_4 : decode cX9_moveSecond 4 = .ok (.lushr, 1) := by decide +kernel
theorem dX9_moveSecond_5 : decode cX9_moveSecond 5 = .ok (.lor, 1) := by decide +kernel
theorem dX9_moveSecond_6 : decode cX9_moveSecond 6 = .ok (.lload_n 0, 1) := by decide +kernel
theorem dX9_moveSecond_7 : decode cX9_moveSecond 7 = .ok (.bipush 16, 2) := by decide +kernel
theorem dX9_moveSecond_9 : decode cX9_moveSecond 9 = .ok (.lushr, 1) := by decide +kernel
theorem dX9_moveSecond_10 : decode cX9_moveSecond 10 = .ok (.lor, 1) := by decide +kernel
theorem dX9_moveSecond_11 : decode cX9_moveSecond 11 = .ok (.lload_n 0, 1) := by decide +kernel
theorem dX9_moveSecond_12 : decode cX9_moveSecond 12 = .ok (.bipush 24, 2) := by decide +kernel
theorem dX9_moveSecond_14 : decode cX9_moveSecond 14 = .ok (.lushr, 1) := by decide +kernel
theorem dX9_moveSecond_15 : decode cX9_moveSecond 15 = .ok (.lor, 1) := by decide +kernel
theorem dX9_moveSecond_16 : decode cX9_moveSecond 16 = .ok (.lload_n 0, 1) := by decide +kernel
theorem dX9_moveSecond_17 : decode cX9_moveSecond 17 = .ok (.bipush 32, 2) := by decide +kernel
theorem dX9_moveSecond_19 : decode cX9_moveSecond 19 = .ok (.lushr, 1) := by decide +kernel
theorem dX9_moveSecond_20 : decode cX9_moveSecond 20 = .ok (.lor, 1) := by decide +kernel
theorem dX9_moveSecond_21 : decode cX9_moveSecond 21 = .ok (.lstore_n 2, 1) := by decide +kernel
theorem dX9_moveSecond_22 : decode cX9_moveSecond 22 = .ok (.lload_n 2, 1) := by decide +kernel
theorem dX9_moveSecond_23 : decode cX9_moveSecond 23 = .ok (.ldc2_w 51, 3) := by decide +kernel
theorem dX9_moveSecond_26 : decode cX9_moveSecond 26 = .ok (.land, 1) := by decide +kernel
theorem dX9_moveSecond_27 : decode cX9_moveSecond 27 = .ok (.ldc2_w 53, 3) := by decide +kernel
theorem dX9_moveSecond_30 : decode cX9_moveSecond 30 = .ok (.lmul, 1) := by decide +kernel
theorem dX9_moveSecond_31 : decode cX9_moveSecond 31 = .ok (.lreturn, 1) := by decide +kernel
theorem dX9_moveOther_0 : decode cX9_moveOther 0 = .ok (.iconst 0, 1) := by decide +kernel
theorem dX9_moveOther_1 : decode cX9_moveOther 1 = .ok (.istore_n 3, 1) := by decide +kernel
theorem dX9_moveOther_2 : decode cX9_moveOther 2 = .ok (.iload_n 3, 1) := by decide +kernel
theorem dX9_moveOther_3 : decode cX9_moveOther 3 = .ok (.iconst 5, 1) := by decide +kernel
theorem dX9_moveOther_4 : decode cX9_moveOther 4 = .ok (.iload_n 1, 1) := by decide +kernel
theorem dX9_moveOther_5 : decode cX9_moveOther 5 = .ok (.imul, 1) := by decide +kernel
theorem dX9_moveOther_6 : decode cX9_moveOther 6 = .ok (.iadd, 1) := by decide +kernel
theorem dX9_moveOther_7 : decode cX9_moveOther 7 = .ok (.iload_n 2, 1) := by decide +kernel
theorem dX9_moveOther_8 : decode cX9_moveOther 8 = .ok (.if_icmp .gt 103, 3) := by decide +kernel
theorem dX9_moveOther_11 : decode cX9_moveOther 11 = .ok (.iload_n 3, 1) := by decide +kernel
theorem dX9_moveOther_12 : decode cX9_moveOther 12 = .ok (.istore 4, 2) := by decide +kernel
theorem dX9_moveOther_14 : decode cX9_moveOther 14 = .ok (.iload 4, 2) := by decide +kernel
theorem dX9_moveOther_16 : decode cX9_moveOther 16 = .ok (.iload_n 3, 1) := by decide +kernel
theorem dX9_moveOther_17 : decode cX9_moveOther 17 = .ok (.iload_n 1, 1) := by decide +kernel
theorem dX9_moveOther_18 : decode cX9_moveOther 18 = .ok (.iadd, 1) := by decide +kernel
theorem dX9_moveOther_19 : decode cX9_moveOther 19 = .ok (.if_icmp .ge 83, 3) := by decide +kernel
theorem dX9_moveOther_22 : decode cX9_moveOther 22 = .ok (.lconst 0, 1) := by decide +kernel
theorem dX9_moveOther_23 : decode cX9_moveOther 23 = .ok (.lstore 5, 2) := by decide +kernel
theorem dX9_moveOther_25 : decode cX9_moveOther 25 = .ok (.iconst 0, 1) := by decide +kernel
theorem dX9_moveOther_26 : decode cX9_moveOther 26 = .ok (.istore 7, 2) := by decide +kernel
theorem dX9_moveOther_28 : decode cX9_moveOther 28 = .ok (.iload 7, 2) := by decide +kernel
theorem dX9_moveOther_30 : decode cX9_moveOther 30 = .ok (.iconst 5, 1) := by decide +kernel
theorem dX9_moveOther_31 : decode cX9_moveOther 31 = .ok (.if_icmp .ge 26, 3) := by decide +kernel
theorem dX9_moveOther_34 : decode cX9_moveOther 34 = .ok (.lload 5, 2) := by decide +kernel
theorem dX9_moveOther_36 : decode cX9_moveOther 36 = .ok (.aload_n 0, 1) := by decide +kernel
theorem dX9_moveOther_37 : decode cX9_moveOther 37 = .ok (.getfield 11, 3) := by decide +kernel
theorem dX9_moveOther_40 : decode cX9_moveOther 40 = .ok (.iload 4, 2) := by decide +kernel
theorem dX9_moveOther_42 : decode cX9_moveOther 42 = .ok (.iload 7, 2) := by decide +kernel
theorem dX9_moveOther_44 : decode cX9_moveOther 44 = .ok (.iload_n 1, 1) := by decide +kernel
theorem dX9_moveOther_45 : decode cX9_moveOther 45 = .ok (.imul, 1) := by decide +kernel
theorem dX9_moveOther_46 : decode cX9_moveOther 46 = .ok (.iadd, 1) := by decide +kernel
theorem dX9_moveOther_47 : decode cX9_moveOther 47 = .ok (.laload, 1) := by decide +kernel
theorem dX9_moveOther_48 : decode cX9_moveOther 48 = .ok (.lor, 1) := by decide +kernel
theorem dX9_moveOther_49 : decode cX9_moveOther 49 = .ok (.lstore 5, 2) := by decide +kernel
theorem dX9_moveOther_51 : decode cX9_moveOther 51 = .ok (.iinc 7 1, 3) := by decide +kernel
theorem dX9_moveOther_54 : decode cX9_moveOther 54 = .ok (.goto (-26), 3) := by decide +kernel
theorem dX9_moveOther_57 : decode cX9_moveOther 57 = .ok (.iconst 0, 1) := by decide +kernel
theorem dX9_moveOther_58 : decode cX9_moveOther 58 = .ok (.istore 7, 2) := by decide +kernel
theorem dX9_moveOther_60 : decode cX9_moveOther 60 = .ok (.iload 7, 2) := by decide +kernel
theorem dX9_moveOther_62 : decode cX9_moveOther 62 = .ok (.iconst 5, 1) := by decide +kernel
theorem dX9_moveOther_63 : decode cX9_moveOther 63 = .ok (.if_icmp .ge 33, 3) := by decide +kernel
theorem dX9_moveOther_66 : decode cX9_moveOther 66 = .ok (.lload 5, 2) := by decide +kernel
theorem dX9_moveOther_68 : decode cX9_moveOther 68 = .ok (.lconst 0, 1) := by decide +kernel
theorem dX9_moveOther_69 : decode cX9_moveOther 69 = .ok (.lcmp, 1) := by decide +kernel
theorem dX9_moveOther_70 : decode cX9_moveOther 70 = .ok (.ifCond .eq 26, 3) := by decide +kernel
theorem dX9_moveOther_73 : decode cX9_moveOther 73 = .ok (.aload_n 0, 1) := by decide +kernel
theorem dX9_moveOther_74 : decode cX9_moveOther 74 = .ok (.getfield 17, 3) := by decide +kernel
theorem dX9_moveOther_77 : decode cX9_moveOther 77 = .ok (.iload 4, 2) := by decide +kernel
theorem dX9_moveOther_79 : decode cX9_moveOther 79 = .ok (.iload 7, 2) := by decide +kernel
theorem dX9_moveOther_81 : decode cX9_moveOther 81 = .ok (.iload_n 1, 1) := by decide +kernel
theorem dX9_moveOther_82 : decode cX9_moveOther 82 = .ok (.imul, 1) := by decide +kernel
theorem dX9_moveOther_83 : decode cX9_moveOther 83 = .ok (.iadd, 1) := by decide +kernel
theorem dX9_moveOther_84 : decode cX9_moveOther 84 = .ok (.dup2, 1) := by decide +kernel
theorem dX9_moveOther_85 : decode cX9_moveOther 85 = .ok (.laload, 1) := by decide +kernel
theorem dX9_moveOther_86 : decode cX9_moveOther 86 = .ok (.lload 5, 2) := by decide +kernel
theorem dX9_moveOther_88 : decode cX9_moveOther 88 = .ok (.lor, 1) := by decide +kernel
theorem dX9_moveOther_89 : decode cX9_moveOther 89 = .ok (.lastore, 1) := by decide +kernel
theorem dX9_moveOther_90 : decode cX9_moveOther 90 = .ok (.iinc 7 1, 3) := by decide +kernel
theorem dX9_moveOther_93 : decode cX9_moveOther 93 = .ok (.goto (-33), 3) := by decide +kernel
theorem dX9_moveOther_96 : decode cX9_moveOther 96 = .ok (.iinc 4 1, 3) := by decide +kernel
theorem dX9_moveOther_99 : decode cX9_moveOther 99 = .ok (.goto (-85), 3) := by decide +kernel
theorem dX9_moveOther_102 : decode cX9_moveOther 102 = .ok (.iload_n 3, 1) := by decide +kernel
theorem dX9_moveOther_103 : decode cX9_moveOther 103 = .ok (.iconst 5, 1) := by decide +kernel
theorem dX9_moveOther_104 : decode cX9_moveOther 104 = .ok (.iload_n 1, 1) := by decide +kernel
theorem dX9_moveOther_105 : decode cX9_moveOther 105 = .ok (.imul, 1) := by decide +kernel
theorem dX9_moveOther_106 : decode cX9_moveOther 106 = .ok (.iadd, 1) := by decide +kernel
theorem dX9_moveOther_107 : decode cX9_moveOther 107 = .ok (.istore_n 3, 1) := by decide +kernel
theorem dX9_moveOther_108 : decode cX9_moveOther 108 = .ok (.goto (-106), 3) := by decide +kernel
theorem dX9_moveOther_111 : decode cX9_moveOther 111 = .ok (.return_, 1) := by decide +kernel
theorem dX9_goOneTrip_0 : decode cX9_goOneTrip 0 = .ok (.iconst 0, 1) := by decide +kernel
theorem dX9_goOneTrip_1 : decode cX9_goOneTrip 1 = .ok (.istore_n 3, 1) := by decide +kernel
theorem dX9_goOneTrip_2 : decode cX9_goOneTrip 2 = .ok (.iload_n 3, 1) := by decide +kernel
theorem dX9_goOneTrip_3 : decode cX9_goOneTrip 3 = .ok (.iload_n 2, 1) := by decide +kernel
theorem dX9_goOneTrip_4 : decode cX9_goOneTrip 4 = .ok (.if_icmp .ge 49, 3) := by decide +kernel
theorem dX9_goOneTrip_7 : decode cX9_goOneTrip 7 = .ok (.aload_n 0, 1) := by decide +kernel
theorem dX9_goOneTrip_8 : decode cX9_goOneTrip 8 = .ok (.getfield 17, 3) := by decide +kernel
theorem dX9_goOneTrip_11 : decode cX9_goOneTrip 11 = .ok (.iload_n 3, 1) := by decide +kernel
theorem dX9_goOneTrip_12 : decode cX9_goOneTrip 12 = .ok (.aload_n 0, 1) := by decide +kernel
theorem dX9_goOneTrip_13 : decode cX9_goOneTrip 13 = .ok (.getfield 11, 3) := by decide +kernel
theorem dX9_goOneTrip_16 : decode cX9_goOneTrip 16 = .ok (.iload_n 3, 1) := by decide +kernel
theorem dX9_goOneTrip_17 : decode cX9_goOneTrip 17 = .ok (.laload, 1) := by decide +kernel
theorem dX9_goOneTrip_18 : decode cX9_goOneTrip 18 = .ok (.lconst 0, 1) := by decide +kernel
theorem dX9_goOneTrip_19 : decode cX9_goOneTrip 19 = .ok (.lcmp, 1) := by decide +kernel
theorem dX9_goOneTrip_20 : decode cX9_goOneTrip 20 = .ok (.ifCond .ne 7, 3) := by decide +kernel
theorem dX9_goOneTrip_23 : decode cX9_goOneTrip 23 = .ok (.lconst 0, 1) := by decide +kernel
theorem dX9_goOneTrip_24 : decode cX9_goOneTrip 24 = .ok (.goto 22, 3) := by decide +kernel
theorem dX9_goOneTrip_27 : decode cX9_goOneTrip 27 = .ok (.aload_n 0, 1) := by decide +kernel
theorem dX9_goOneTrip_28 : decode cX9_goOneTrip 28 = .ok (.getfield 11, 3) := by decide +kernel
theorem dX9_goOneTrip_31 : decode cX9_goOneTrip 31 = .ok (.iload_n 3, 1) := by decide +kernel
theorem dX9_goOneTrip_32 : decode cX9_goOneTrip 32 = .ok (.laload, 1) := by decide +kernel
theorem dX9_goOneTrip_33 : decode cX9_goOneTrip 33 = .ok (.invokestatic 34, 3) := by decide +kernel
theorem dX9_goOneTrip_36 : decode cX9_goOneTrip 36 = .ok (.aload_n 0, 1) := by decide +kernel
theorem dX9_goOneTrip_37 : decode cX9_goOneTrip 37 = .ok (.getfield 11, 3) := by decide +kernel
theorem dX9_goOneTrip_40 : decode cX9_goOneTrip 40 = .ok (.iload_n 3, 1) := by decide +kernel
theorem dX9_goOneTrip_41 : decode cX9_goOneTrip 41 = .ok (.laload, 1) := by decide +kernel
theorem dX9_goOneTrip_42 : decode cX9_goOneTrip 42 = .ok (.invokestatic 38, 3) := by decide +kernel
theorem dX9_goOneTrip_45 : decode cX9_goOneTrip 45 = .ok (.lor, 1) := by decide +kernel
theorem dX9_goOneTrip_46 : decode cX9_goOneTrip 46 = .ok (.lastore, 1) := by decide +kernel
theorem dX9_goOneTrip_47 : decode cX9_goOneTrip 47 = .ok (.iinc 3 1, 3) := by decide +kernel
theorem dX9_goOneTrip_50 : decode cX9_goOneTrip 50 = .ok (.goto (-48), 3) := by decide +kernel
theorem dX9_goOneTrip_53 : decode cX9_goOneTrip 53 = .ok (.iconst 1, 1) := by decide +kernel
theorem dX9_goOneTrip_54 : decode cX9_goOneTrip 54 = .ok (.istore_n 3, 1) := by decide +kernel
theorem dX9_goOneTrip_55 : decode cX9_goOneTrip 55 = .ok (.iload_n 3, 1) := by decide +kernel
theorem dX9_goOneTrip_56 : decode cX9_goOneTrip 56 = .ok (.iload_n 2, 1) := by decide +kernel
theorem dX9_goOneTrip_57 : decode cX9_goOneTrip 57 = .ok (.if_icmp .ge 16, 3) := by decide +kernel
theorem dX9_goOneTrip_60 : decode cX9_goOneTrip 60 = .ok (.aload_n 0, 1) := by decide +kernel
theorem dX9_goOneTrip_61 : decode cX9_goOneTrip 61 = .ok (.iload_n 3, 1) := by decide +kernel
theorem dX9_goOneTrip_62 : decode cX9_goOneTrip 62 = .ok (.iload_n 2, 1) := by decide +kernel
theorem dX9_goOneTrip_63 : decode cX9_goOneTrip 63 = .ok (.invokevirtual 41, 3) := by decide +kernel
theorem dX9_goOneTrip_66 : decode cX9_goOneTrip 66 = .ok (.iload_n 3, 1) := by decide +kernel
theorem dX9_goOneTrip_67 : decode cX9_goOneTrip 67 = .ok (.iconst 5, 1) := by decide +kernel
theorem dX9_goOneTrip_68 : decode cX9_goOneTrip 68 = .ok (.imul, 1) := by decide +kernel
theorem dX9_goOneTrip_69 : decode cX9_goOneTrip 69 = .ok (.istore_n 3, 1) := by decide +kernel
theorem dX9_goOneTrip_70 : decode cX9_goOneTrip 70 = .ok (.goto (-15), 3) := by decide +kernel
theorem dX9_goOneTrip_73 : decode cX9_goOneTrip 73 = .ok (.lconst 0, 1) := by decide +kernel
theorem dX9_goOneTrip_74 : decode cX9_goOneTrip 74 = .ok (.lstore_n 3, 1) := by decide +kernel
theorem dX9_goOneTrip_75 : decode cX9_goOneTrip 75 = .ok (.iconst 0, 1) := by decide +kernel
theorem dX9_goOneTrip_76 : decode cX9_goOneTrip 76 = .ok (.istore 5, 2) := by decide +kernel
theorem dX9_goOneTrip_78 : decode cX9_goOneTrip 78 = .ok (.iload 5, 2) := by decide +kernel
theorem dX9_goOneTrip_80 : decode cX9_goOneTrip 80 = .ok (.iload_n 2, 1) := by decide +kernel
theorem dX9_goOneTrip_81 : decode cX9_goOneTrip 81 = .ok (.if_icmp .ge 61, 3) := by decide +kernel
theorem dX9_goOneTrip_84 : decode cX9_goOneTrip 84 = .ok (.aload_n 0, 1) := by decide +kernel
theorem dX9_goOneTrip_85 : decode cX9_goOneTrip 85 = .ok (.getfield 17, 3) := by decide +kernel
theorem dX9_goOneTrip_88 : decode cX9_goOneTrip 88 = .ok (.iload 5, 2) := by decide +kernel
theorem dX9_goOneTrip_90 : decode cX9_goOneTrip 90 = .ok (.laload, 1) := by decide +kernel
theorem dX9_goOneTrip_91 : decode cX9_goOneTrip 91 = .ok (.aload_n 1, 1) := by decide +kernel
theorem dX9_goOneTrip_92 : decode cX9_goOneTrip 92 = .ok (.iload 5, 2) := by decide +kernel
theorem dX9_goOneTrip_94 : decode cX9_goOneTrip 94 = .ok (.laload, 1) := by decide +kernel
theorem dX9_goOneTrip_95 : decode cX9_goOneTrip 95 = .ok (.land, 1) := by decide +kernel
theorem dX9_goOneTrip_96 : decode cX9_goOneTrip 96 = .ok (.aload_n 0, 1) := by decide +kernel
theorem dX9_goOneTrip_97 : decode cX9_goOneTrip 97 = .ok (.getfield 20, 3) := by decide +kernel
theorem dX9_goOneTrip_100 : decode cX9_goOneTrip 100 = .ok (.iload 5, 2) := by decide +kernel
theorem dX9_goOneTrip_102 : decode cX9_goOneTrip 102 = .ok (.laload, 1) := by decide +kernel
theorem dX9_goOneTrip_103 : decode cX9_goOneTrip 103 = .ok (.ldc2_w 45, 3) := by decide +kernel
theorem dX9_goOneTrip_106 : decode cX9_goOneTrip 106 = .ok (.lxor, 1) := by decide +kernel
theorem dX9_goOneTrip_107 : decode cX9_goOneTrip 107 = .ok (.land, 1) := by decide +kernel
theorem dX9_goOneTrip_108 : decode cX9_goOneTrip 108 = .ok (.lstore 6, 2) := by decide +kernel
theorem dX9_goOneTrip_110 : decode cX9_goOneTrip 110 = .ok (.aload_n 0, 1) := by decide +kernel
theorem dX9_goOneTrip_111 : decode cX9_goOneTrip 111 = .ok (.getfield 11, 3) := by decide +kernel
theorem dX9_goOneTrip_114 : decode cX9_goOneTrip 114 = .ok (.iload 5, 2) := by decide +kernel
theorem dX9_goOneTrip_116 : decode cX9_goOneTrip 116 = .ok (.lload 6, 2) := by decide +kernel
theorem dX9_goOneTrip_118 : decode cX9_goOneTrip 118 = .ok (.lastore, 1) := by decide +kernel
theorem dX9_goOneTrip_119 : decode cX9_goOneTrip 119 = .ok (.aload_n 0, 1) := by decide +kernel
theorem dX9_goOneTrip_120 : decode cX9_goOneTrip 120 = .ok (.getfield 20, 3) := by decide +kernel
theorem dX9_goOneTrip_123 : decode cX9_goOneTrip 123 = .ok (.iload 5, 2) := by decide +kernel
theorem dX9_goOneTrip_125 : decode cX9_goOneTrip 125 = .ok (.dup2, 1) := by decide +kernel
theorem dX9_goOneTrip_126 : decode cX9_goOneTrip 126 = .ok (.laload, 1) := by decide +kernel
theorem dX9_goOneTrip_127 : decode cX9_goOneTrip 127 = .ok (.lload 6, 2) := by decide +kernel
theorem dX9_goOneTrip_129 : decode cX9_goOneTrip 129 = .ok (.lor, 1) := by decide +kernel
theorem dX9_goOneTrip_130 : decode cX9_goOneTrip 130 = .ok (.lastore, 1) := by decide +kernel
theorem dX9_goOneTrip_131 : decode cX9_goOneTrip 131 = .ok (.lload_n 3, 1) := by decide +kernel
theorem dX9_goOneTrip_132 : decode cX9_goOneTrip 132 = .ok (.lload 6, 2) := by decide +kernel
theorem dX9_goOneTrip_134 : decode cX9_goOneTrip 134 = .ok (.lor, 1) := by decide +kernel
theorem dX9_goOneTrip_135 : decode cX9_goOneTrip 135 = .ok (.lstore_n 3, 1) := by decide +kernel
theorem dX9_goOneTrip_136 : decode cX9_goOneTrip 136 = .ok (.iinc 5 1, 3) := by decide +kernel
theorem dX9_goOneTrip_139 : decode cX9_goOneTrip 139 = .ok (.goto (-61), 3) := by decide +kernel
theorem dX9_goOneTrip_142 : decode cX9_goOneTrip 142 = .ok (.lload_n 3, 1) := by decide +kernel
theorem dX9_goOneTrip_143 : decode cX9_goOneTrip 143 = .ok (.lconst 0, 1) := by decide +kernel
theorem dX9_goOneTrip_144 : decode cX9_goOneTrip 144 = .ok (.lcmp, 1) := by decide +kernel
theorem dX9_goOneTrip_145 : decode cX9_goOneTrip 145 = .ok (.ifCond .eq 7, 3) := by decide +kernel
theorem dX9_goOneTrip_148 : decode cX9_goOneTrip 148 = .ok (.iconst 1, 1) := by decide +kernel
theorem dX9_goOneTrip_149 : decode cX9_goOneTrip 149 = .ok (.goto 4, 3) := by decide +kernel
theorem dX9_goOneTrip_152 : decode cX9_goOneTrip 152 = .ok (.iconst 0, 1) := by decide +kernel
theorem dX9_goOneTrip_153 : decode cX9_goOneTrip 153 = .ok (.ireturn, 1) := by decide +kernel
theorem dX9_fewestTrips_0 : decode cX9_fewestTrips 0 = .ok (.iload_n 2, 1) := by decide +kernel
theorem dX9_fewestTrips_1 : decode cX9_fewestTrips 1 = .ok (.iload_n 3, 1) := by decide +kernel
theorem dX9_fewestTrips_2 : decode cX9_fewestTrips 2 = .ok (.if_icmp .ne 5, 3) := by decide +kernel
theorem dX9_fewestTrips_5 : decode cX9_fewestTrips 5 = .ok (.iconst 0, 1) := by decide +kernel
theorem dX9_fewestTrips_6 : decode cX9_fewestTrips 6 = .ok (.ireturn, 1) := by decide +kernel
theorem dX9_fewestTrips_7 : decode cX9_fewestTrips 7 = .ok (.iload_n 2, 1) := by decide +kernel
theorem dX9_fewestTrips_8 : decode cX9_fewestTrips 8 = .ok (.bipush 6, 2) := by decide +kernel
theorem dX9_fewestTrips_10 : decode cX9_fewestTrips 10 = .ok (.ishr, 1) := by decide +kernel
theorem dX9_fewestTrips_11 : decode cX9_fewestTrips 11 = .ok (.istore 5, 2) := by decide +kernel
theorem dX9_fewestTrips_13 : decode cX9_fewestTrips 13 = .ok (.iload_n 3, 1) := by decide +kernel
theorem dX9_fewestTrips_14 : decode cX9_fewestTrips 14 = .ok (.bipush 6, 2) := by decide +kernel
theorem dX9_fewestTrips_16 : decode cX9_fewestTrips 16 = .ok (.ishr, 1) := by decide +kernel
theorem dX9_fewestTrips_17 : decode cX9_fewestTrips 17 = .ok (.istore 6, 2) := by decide +kernel
theorem dX9_fewestTrips_19 : decode cX9_fewestTrips 19 = .ok (.iload 5, 2) := by decide +kernel
theorem dX9_fewestTrips_21 : decode cX9_fewestTrips 21 = .ok (.ifCond .lt 28, 3) := by decide +kernel
theorem dX9_fewestTrips_24 : decode cX9_fewestTrips 24 = .ok (.iload 5, 2) := by decide +kernel
theorem dX9_fewestTrips_26 : decode cX9_fewestTrips 26 = .ok (.sipush 625, 3) := by decide +kernel
theorem dX9_fewestTrips_29 : decode cX9_fewestTrips 29 = .ok (.if_icmp .ge 20, 3) := by decide +kernel
theorem dX9_fewestTrips_32 : decode cX9_fewestTrips 32 = .ok (.iload 6, 2) := by decide +kernel
theorem dX9_fewestTrips_34 : decode cX9_fewestTrips 34 = .ok (.ifCond .lt 15, 3) := by decide +kernel
theorem dX9_fewestTrips_37 : decode cX9_fewestTrips 37 = .ok (.iload 6, 2) := by decide +kernel
theorem dX9_fewestTrips_39 : decode cX9_fewestTrips 39 = .ok (.sipush 625, 3) := by decide +kernel
theorem dX9_fewestTrips_42 : decode cX9_fewestTrips 42 = .ok (.if_icmp .ge 7, 3) := by decide +kernel
theorem dX9_fewestTrips_45 : decode cX9_fewestTrips 45 = .ok (.iconst 1, 1) := by decide +kernel
theorem dX9_fewestTrips_46 : decode cX9_fewestTrips 46 = .ok (.goto 4, 3) := by decide +kernel
theorem dX9_fewestTrips_49 : decode cX9_fewestTrips 49 = .ok (.iconst 0, 1) := by decide +kernel
theorem dX9_fewestTrips_50 : decode cX9_fewestTrips 50 = .ok (.istore 7, 2) := by decide +kernel
theorem dX9_fewestTrips_52 : decode cX9_fewestTrips 52 = .ok (.iload 7, 2) := by decide +kernel
theorem dX9_fewestTrips_54 : decode cX9_fewestTrips 54 = .ok (.ifCond .eq 19, 3) := by decide +kernel
theorem dX9_fewestTrips_57 : decode cX9_fewestTrips 57 = .ok (.aload_n 1, 1) := by decide +kernel
theorem dX9_fewestTrips_58 : decode cX9_fewestTrips 58 = .ok (.iload 6, 2) := by decide +kernel
theorem dX9_fewestTrips_60 : decode cX9_fewestTrips 60 = .ok (.laload, 1) := by decide +kernel
theorem dX9_fewestTrips_61 : decode cX9_fewestTrips 61 = .ok (.iload_n 3, 1) := by decide +kernel
theorem dX9_fewestTrips_62 : decode cX9_fewestTrips 62 = .ok (.bipush 63, 2) := by decide +kernel
theorem dX9_fewestTrips_64 : decode cX9_fewestTrips 64 = .ok (.iand, 1) := by decide +kernel
theorem dX9_fewestTrips_65 : decode cX9_fewestTrips 65 = .ok (.lshr, 1) := by decide +kernel
theorem dX9_fewestTrips_66 : decode cX9_fewestTrips 66 = .ok (.lconst 1, 1) := by decide +kernel
theorem dX9_fewestTrips_67 : decode cX9_fewestTrips 67 = .ok (.land, 1) := by decide +kernel
theorem dX9_fewestTrips_68 : decode cX9_fewestTrips 68 = .ok (.lconst 0, 1) := by decide +kernel
theorem dX9_fewestTrips_69 : decode cX9_fewestTrips 69 = .ok (.lcmp, 1) := by decide +kernel
theorem dX9_fewestTrips_70 : decode cX9_fewestTrips 70 = .ok (.ifCond .ne 6, 3) := by decide +kernel
theorem dX9_fewestTrips_73 : decode cX9_fewestTrips 73 = .ok (.bipush (-2), 2) := by decide +kernel
theorem dX9_fewestTrips_75 : decode cX9_fewestTrips 75 = .ok (.ireturn, 1) := by decide +kernel
theorem dX9_fewestTrips_76 : decode cX9_fewestTrips 76 = .ok (.aload_n 0, 1) := by decide +kernel
theorem dX9_fewestTrips_77 : decode cX9_fewestTrips 77 = .ok (.getfield 11, 3) := by decide +kernel
theorem dX9_fewestTrips_80 : decode cX9_fewestTrips 80 = .ok (.lconst 0, 1) := by decide +kernel
theorem dX9_fewestTrips_81 : decode cX9_fewestTrips 81 = .ok (.invokestatic 23, 3) := by decide +kernel
theorem dX9_fewestTrips_84 : decode cX9_fewestTrips 84 = .ok (.aload_n 0, 1) := by decide +kernel
theorem dX9_fewestTrips_85 : decode cX9_fewestTrips 85 = .ok (.getfield 20, 3) := by decide +kernel
theorem dX9_fewestTrips_88 : decode cX9_fewestTrips 88 = .ok (.lconst 0, 1) := by decide +kernel
theorem dX9_fewestTrips_89 : decode cX9_fewestTrips 89 = .ok (.invokestatic 23, 3) := by decide +kernel
theorem dX9_fewestTrips_92 : decode cX9_fewestTrips 92 = .ok (.aload_n 0, 1) := by decide +kernel
theorem dX9_fewestTrips_93 : decode cX9_fewestTrips 93 = .ok (.getfield 11, 3) := by decide +kernel
theorem dX9_fewestTrips_96 : decode cX9_fewestTrips 96 = .ok (.iload 5, 2) := by decide +kernel
theorem dX9_fewestTrips_98 : decode cX9_fewestTrips 98 = .ok (.lconst 1, 1) := by decide +kernel
theorem dX9_fewestTrips_99 : decode cX9_fewestTrips 99 = .ok (.iload_n 2, 1) := by decide +kernel
theorem dX9_fewestTrips_100 : decode cX9_fewestTrips 100 = .ok (.bipush 63, 2) := by decide +kernel
theorem dX9_fewestTrips_102 : decode cX9_fewestTrips 102 = .ok (.iand, 1) := by decide +kernel
theorem dX9_fewestTrips_103 : decode cX9_fewestTrips 103 = .ok (.lshl, 1) := by decide +kernel
theorem dX9_fewestTrips_104 : decode cX9_fewestTrips 104 = .ok (.lastore, 1) := by decide +kernel
theorem dX9_fewestTrips_105 : decode cX9_fewestTrips 105 = .ok (.aload_n 0, 1) := by decide +kernel
theorem dX9_fewestTrips_106 : decode cX9_fewestTrips 106 = .ok (.getfield 20, 3) := by decide +kernel
theorem dX9_fewestTrips_109 : decode cX9_fewestTrips 109 = .ok (.iload 5, 2) := by decide +kernel
theorem dX9_fewestTrips_111 : decode cX9_fewestTrips 111 = .ok (.aload_n 0, 1) := by decide +kernel
theorem dX9_fewestTrips_112 : decode cX9_fewestTrips 112 = .ok (.getfield 11, 3) := by decide +kernel
theorem dX9_fewestTrips_115 : decode cX9_fewestTrips 115 = .ok (.iload 5, 2) := by decide +kernel
theorem dX9_fewestTrips_117 : decode cX9_fewestTrips 117 = .ok (.laload, 1) := by decide +kernel
theorem dX9_fewestTrips_118 : decode cX9_fewestTrips 118 = .ok (.lastore, 1) := by decide +kernel
theorem dX9_fewestTrips_119 : decode cX9_fewestTrips 119 = .ok (.iconst 1, 1) := by decide +kernel
theorem dX9_fewestTrips_120 : decode cX9_fewestTrips 120 = .ok (.istore 8, 2) := by decide +kernel
theorem dX9_fewestTrips_122 : decode cX9_fewestTrips 122 = .ok (.iconst 2, 1) := by decide +kernel
theorem dX9_fewestTrips_123 : decode cX9_fewestTrips 123 = .ok (.istore 9, 2) := by decide +kernel
theorem dX9_fewestTrips_125 : decode cX9_fewestTrips 125 = .ok (.iload 9, 2) := by decide +kernel
theorem dX9_fewestTrips_127 : decode cX9_fewestTrips 127 = .ok (.iload 4, 2) := by decide +kernel
theorem dX9_fewestTrips_129 : decode cX9_fewestTrips 129 = .ok (.if_icmp .ge 22, 3) := by decide +kernel
theorem dX9_fewestTrips_132 : decode cX9_fewestTrips 132 = .ok (.iload 9, 2) := by decide +kernel
theorem dX9_fewestTrips_134 : decode cX9_fewestTrips 134 = .ok (.bipush 6, 2) := by decide +kernel
theorem dX9_fewestTrips_136 : decode cX9_fewestTrips 136 = .ok (.if_icmp .ge 15, 3) := by decide +kernel
theorem dX9_fewestTrips_139 : decode cX9_fewestTrips 139 = .ok (.iload 8, 2) := by decide +kernel
theorem dX9_fewestTrips_141 : decode cX9_fewestTrips 141 = .ok (.iconst 5, 1) := by decide +kernel
theorem dX9_fewestTrips_142 : decode cX9_fewestTrips 142 = .ok (.imul, 1) := by decide +kernel
theorem dX9_fewestTrips_143 : decode cX9_fewestTrips 143 = .ok (.istore 8, 2) := by decide +kernel
theorem dX9_fewestTrips_145 : decode cX9_fewestTrips 145 = .ok (.iinc 9 1, 3) := by decide +kernel
theorem dX9_fewestTrips_148 : decode cX9_fewestTrips 148 = .ok (.goto (-23), 3) := by decide +kernel
theorem dX9_fewestTrips_151 : decode cX9_fewestTrips 151 = .ok (.iconst 1, 1) := by decide +kernel
theorem dX9_fewestTrips_152 : decode cX9_fewestTrips 152 = .ok (.istore 9, 2) := by decide +kernel
theorem dX9_fewestTrips_154 : decode cX9_fewestTrips 154 = .ok (.iload 9, 2) := by decide +kernel
theorem dX9_fewestTrips_156 : decode cX9_fewestTrips 156 = .ok (.ldc 29, 2) := by decide +kernel
theorem dX9_fewestTrips_158 : decode cX9_fewestTrips 158 = .ok (.if_icmp .gt 44, 3) := by decide +kernel
theorem dX9_fewestTrips_161 : decode cX9_fewestTrips 161 = .ok (.aload_n 0, 1) := by decide +kernel
theorem dX9_fewestTrips_162 : decode cX9_fewestTrips 162 = .ok (.aload_n 1, 1) := by decide +kernel
theorem dX9_fewestTrips_163 : decode cX9_fewestTrips 163 = .ok (.iload 8, 2) := by decide +kernel
theorem dX9_fewestTrips_165 : decode cX9_fewestTrips 165 = .ok (.invokevirtual 30, 3) := by decide +kernel
theorem dX9_fewestTrips_168 : decode cX9_fewestTrips 168 = .ok (.ifCond .ne 6, 3) := by decide +kernel
theorem dX9_fewestTrips_171 : decode cX9_fewestTrips 171 = .ok (.bipush (-2), 2) := by decide +kernel
theorem dX9_fewestTrips_173 : decode cX9_fewestTrips 173 = .ok (.ireturn, 1) := by decide +kernel
theorem dX9_fewestTrips_174 : decode cX9_fewestTrips 174 = .ok (.aload_n 0, 1) := by decide +kernel
theorem dX9_fewestTrips_175 : decode cX9_fewestTrips 175 = .ok (.getfield 11, 3) := by decide +kernel
theorem dX9_fewestTrips_178 : decode cX9_fewestTrips 178 = .ok (.iload 6, 2) := by decide +kernel
theorem dX9_fewestTrips_180 : decode cX9_fewestTrips 180 = .ok (.laload, 1) := by decide +kernel
theorem dX9_fewestTrips_181 : decode cX9_fewestTrips 181 = .ok (.iload_n 3, 1) := by decide +kernel
theorem dX9_fewestTrips_182 : decode cX9_fewestTrips 182 = .ok (.bipush 63, 2) := by decide +kernel
theorem dX9_fewestTrips_184 : decode cX9_fewestTrips 184 = .ok (.iand, 1) := by decide +kernel
theorem dX9_fewestTrips_185 : decode cX9_fewestTrips 185 = .ok (.lshr, 1) := by decide +kernel
theorem dX9_fewestTrips_186 : decode cX9_fewestTrips 186 = .ok (.lconst 1, 1) := by decide +kernel
theorem dX9_fewestTrips_187 : decode cX9_fewestTrips 187 = .ok (.land, 1) := by decide +kernel
theorem dX9_fewestTrips_188 : decode cX9_fewestTrips 188 = .ok (.lconst 1, 1) := by decide +kernel
theorem dX9_fewestTrips_189 : decode cX9_fewestTrips 189 = .ok (.lcmp, 1) := by decide +kernel
theorem dX9_fewestTrips_190 : decode cX9_fewestTrips 190 = .ok (.ifCond .ne 6, 3) := by decide +kernel
theorem dX9_fewestTrips_193 : decode cX9_fewestTrips 193 = .ok (.iload 9, 2) := by decide +kernel
theorem dX9_fewestTrips_195 : decode cX9_fewestTrips 195 = .ok (.ireturn, 1) := by decide +kernel
theorem dX9_fewestTrips_196 : decode cX9_fewestTrips 196 = .ok (.iinc 9 1, 3) := by decide +kernel
theorem dX9_fewestTrips_199 : decode cX9_fewestTrips 199 = .ok (.goto (-45), 3) := by decide +kernel
theorem dX9_fewestTrips_202 : decode cX9_fewestTrips 202 = .ok (.bipush (-2), 2) := by decide +kernel
theorem dX9_fewestTrips_204 : decode cX9_fewestTrips 204 = .ok (.ireturn, 1) := by decide +kernel
