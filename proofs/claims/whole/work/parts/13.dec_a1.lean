theorem dX6_step_0 : decode cX6_step 0 = .ok (.iload_n 0, 1) := by decide +kernel
theorem dX6_step_1 : decode cX6_step 1 = .ok (.ifCond .lt 19, 3) := by decide +kernel
theorem dX6_step_4 : decode cX6_step 4 = .ok (.iload_n 0, 1) := by decide +kernel
theorem dX6_step_5 : decode cX6_step 5 = .ok (.bipush 6, 2) := by decide +kernel
theorem dX6_step_7 : decode cX6_step 7 = .ok (.if_icmp .ge 13, 3) := by decide +kernel
theorem dX6_step_10 : decode cX6_step 10 = .ok (.getstatic 48, 3) := by decide +kernel
theorem dX6_step_13 : decode cX6_step 13 = .ok (.iload_n 0, 1) := by decide +kernel
theorem dX6_step_14 : decode cX6_step 14 = .ok (.iaload, 1) := by decide +kernel
theorem dX6_step_15 : decode cX6_step 15 = .ok (.iload_n 1, 1) := by decide +kernel
theorem dX6_step_16 : decode cX6_step 16 = .ok (.imul, 1) := by decide +kernel
theorem dX6_step_17 : decode cX6_step 17 = .ok (.goto 4, 3) := by decide +kernel
theorem dX6_step_20 : decode cX6_step 20 = .ok (.iconst 0, 1) := by decide +kernel
theorem dX6_step_21 : decode cX6_step 21 = .ok (.ireturn, 1) := by decide +kernel
theorem dX6_roomyRows_0 : decode cX6_roomyRows 0 = .ok (.aload_n 0, 1) := by decide +kernel
theorem dX6_roomyRows_1 : decode cX6_roomyRows 1 = .ok (.getfield 11, 3) := by decide +kernel
theorem dX6_roomyRows_4 : decode cX6_roomyRows 4 = .ok (.areturn, 1) := by decide +kernel
theorem dX6_keptRows_0 : decode cX6_keptRows 0 = .ok (.aload_n 0, 1) := by decide +kernel
theorem dX6_keptRows_1 : decode cX6_keptRows 1 = .ok (.getfield 15, 3) := by decide +kernel
theorem dX6_keptRows_4 : decode cX6_keptRows 4 = .ok (.areturn, 1) := by decide +kernel
theorem dX6_rowsKept_0 : decode cX6_rowsKept 0 = .ok (.aload_n 0, 1) := by decide +kernel
theorem dX6_rowsKept_1 : decode cX6_rowsKept 1 = .ok (.getfield 51, 3) := by decide +kernel
theorem dX6_rowsKept_4 : decode cX6_rowsKept 4 = .ok (.ireturn, 1) := by decide +kernel
theorem dX6_fewestElsewhere_0 : decode cX6_fewestElsewhere 0 = .ok (.aload_n 0, 1) := by decide +kernel
theorem dX6_fewestElsewhere_1 : decode cX6_fewestElsewhere 1 = .ok (.getfield 55, 3) := by decide +kernel
theorem dX6_fewestElsewhere_4 : decode cX6_fewestElsewhere 4 = .ok (.ireturn, 1) := by decide +kernel
theorem dX6_nearHouse_0 : decode cX6_nearHouse 0 = .ok (.aload_n 0, 1) := by decide +kernel
theorem dX6_nearHouse_1 : decode cX6_nearHouse 1 = .ok (.getfield 25, 3) := by decide +kernel
theorem dX6_nearHouse_4 : decode cX6_nearHouse 4 = .ok (.iload_n 1, 1) := by decide +kernel
theorem dX6_nearHouse_5 : decode cX6_nearHouse 5 = .ok (.iaload, 1) := by decide +kernel
theorem dX6_nearHouse_6 : decode cX6_nearHouse 6 = .ok (.ireturn, 1) := by decide +kernel
theorem dX6_brokenAt_0 : decode cX6_brokenAt 0 = .ok (.iload_n 0, 1) := by decide +kernel
theorem dX6_brokenAt_1 : decode cX6_brokenAt 1 = .ok (.iconst 5, 1) := by decide +kernel
theorem dX6_brokenAt_2 : decode cX6_brokenAt 2 = .ok (.imul, 1) := by decide +kernel
theorem dX6_brokenAt_3 : decode cX6_brokenAt 3 = .ok (.iload_n 1, 1) := by decide +kernel
theorem dX6_brokenAt_4 : decode cX6_brokenAt 4 = .ok (.iadd, 1) := by decide +kernel
theorem dX6_brokenAt_5 : decode cX6_brokenAt 5 = .ok (.bipush 6, 2) := by decide +kernel
theorem dX6_brokenAt_7 : decode cX6_brokenAt 7 = .ok (.imul, 1) := by decide +kernel
theorem dX6_brokenAt_8 : decode cX6_brokenAt 8 = .ok (.iload_n 2, 1) := by decide +kernel
theorem dX6_brokenAt_9 : decode cX6_brokenAt 9 = .ok (.iadd, 1) := by decide +kernel
theorem dX6_brokenAt_10 : decode cX6_brokenAt 10 = .ok (.bipush 6, 2) := by decide +kernel
theorem dX6_brokenAt_12 : decode cX6_brokenAt 12 = .ok (.imul, 1) := by decide +kernel
theorem dX6_brokenAt_13 : decode cX6_brokenAt 13 = .ok (.iload_n 3, 1) := by decide +kernel
theorem dX6_brokenAt_14 : decode cX6_brokenAt 14 = .ok (.iadd, 1) := by decide +kernel
theorem dX6_brokenAt_15 : decode cX6_brokenAt 15 = .ok (.ireturn, 1) := by decide +kernel
theorem dX6_fillBroken_0 : decode cX6_fillBroken 0 = .ok (.iconst 0, 1) := by decide +kernel
theorem dX6_fillBroken_1 : decode cX6_fillBroken 1 = .ok (.istore_n 3, 1) := by decide +kernel
theorem dX6_fillBroken_2 : decode cX6_fillBroken 2 = .ok (.iconst 0, 1) := by decide +kernel
theorem dX6_fillBroken_3 : decode cX6_fillBroken 3 = .ok (.istore 4, 2) := by decide +kernel
theorem dX6_fillBroken_5 : decode cX6_fillBroken 5 = .ok (.iload 4, 2) := by decide +kernel
theorem dX6_fillBroken_7 : decode cX6_fillBroken 7 = .ok (.aload_n 0, 1) := by decide +kernel
theorem dX6_fillBroken_8 : decode cX6_fillBroken 8 = .ok (.getfield 47, 3) := by decide +kernel
theorem dX6_fillBroken_11 : decode cX6_fillBroken 11 = .ok (.getfield 74, 3) := by decide +kernel
theorem dX6_fillBroken_14 : decode cX6_fillBroken 14 = .ok (.if_icmp .ge 40, 3) := by decide +kernel
theorem dX6_fillBroken_17 : decode cX6_fillBroken 17 = .ok (.iload 4, 2) := by decide +kernel
theorem dX6_fillBroken_19 : decode cX6_fillBroken 19 = .ok (.iload_n 1, 1) := by decide +kernel
theorem dX6_fillBroken_20 : decode cX6_fillBroken 20 = .ok (.if_icmp .eq 28, 3) := by decide +kernel
theorem dX6_fillBroken_23 : decode cX6_fillBroken 23 = .ok (.aload_n 0, 1) := by decide +kernel
theorem dX6_fillBroken_24 : decode cX6_fillBroken 24 = .ok (.getfield 47, 3) := by decide +kernel
theorem dX6_fillBroken_27 : decode cX6_fillBroken 27 = .ok (.getfield 91, 3) := by decide +kernel
theorem dX6_fillBroken_30 : decode cX6_fillBroken 30 = .ok (.iload 4, 2) := by decide +kernel
theorem dX6_fillBroken_32 : decode cX6_fillBroken 32 = .ok (.iaload, 1) := by decide +kernel
theorem dX6_fillBroken_33 : decode cX6_fillBroken 33 = .ok (.aload_n 0, 1) := by decide +kernel
theorem dX6_fillBroken_34 : decode cX6_fillBroken 34 = .ok (.getfield 47, 3) := by decide +kernel
theorem dX6_fillBroken_37 : decode cX6_fillBroken 37 = .ok (.getfield 91, 3) := by decide +kernel
theorem dX6_fillBroken_40 : decode cX6_fillBroken 40 = .ok (.iload_n 1, 1) := by decide +kernel
theorem dX6_fillBroken_41 : decode cX6_fillBroken 41 = .ok (.iaload, 1) := by decide +kernel
theorem dX6_fillBroken_42 : decode cX6_fillBroken 42 = .ok (.if_icmp .ne 6, 3) := by decide +kernel
theorem dX6_fillBroken_45 : decode cX6_fillBroken 45 = .ok (.iinc 3 1, 3) := by decide +kernel
theorem dX6_fillBroken_48 : decode cX6_fillBroken 48 = .ok (.iinc 4 1, 3) := by decide +kernel
theorem dX6_fillBroken_51 : decode cX6_fillBroken 51 = .ok (.goto (-46), 3) := by decide +kernel
theorem dX6_fillBroken_54 : decode cX6_fillBroken 54 = .ok (.iconst 0, 1) := by decide +kernel
theorem dX6_fillBroken_55 : decode cX6_fillBroken 55 = .ok (.istore 4, 2) := by decide +kernel
theorem dX6_fillBroken_57 : decode cX6_fillBroken 57 = .ok (.iload 4, 2) := by decide +kernel
theorem dX6_fillBroken_59 : decode cX6_fillBroken 59 = .ok (.aload_n 0, 1) := by decide +kernel
theorem dX6_fillBroken_60 : decode cX6_fillBroken 60 = .ok (.getfield 47, 3) := by decide +kernel
theorem dX6_fillBroken_63 : decode cX6_fillBroken 63 = .ok (.getfield 94, 3) := by decide +kernel
theorem dX6_fillBroken_66 : decode cX6_fillBroken 66 = .ok (.if_icmp .ge 104, 3) := by decide +kernel
theorem dX6_fillBroken_69 : decode cX6_fillBroken 69 = .ok (.aload_n 0, 1) := by decide +kernel
theorem dX6_fillBroken_70 : decode cX6_fillBroken 70 = .ok (.getfield 47, 3) := by decide +kernel
theorem dX6_fillBroken_73 : decode cX6_fillBroken 73 = .ok (.getfield 74, 3) := by decide +kernel
theorem dX6_fillBroken_76 : decode cX6_fillBroken 76 = .ok (.aload_n 0, 1) := by decide +kernel
theorem dX6_fillBroken_77 : decode cX6_fillBroken 77 = .ok (.getfield 47, 3) := by decide +kernel
theorem dX6_fillBroken_80 : decode cX6_fillBroken 80 = .ok (.getfield 97, 3) := by decide +kernel
theorem dX6_fillBroken_83 : decode cX6_fillBroken 83 = .ok (.iload 4, 2) := by decide +kernel
theorem dX6_fillBroken_85 : decode cX6_fillBroken 85 = .ok (.iaload, 1) := by decide +kernel
theorem dX6_fillBroken_86 : decode cX6_fillBroken 86 = .ok (.invokestatic 100, 3) := by decide +kernel
theorem dX6_fillBroken_89 : decode cX6_fillBroken 89 = .ok (.istore 5, 2) := by decide +kernel
theorem dX6_fillBroken_91 : decode cX6_fillBroken 91 = .ok (.iconst 0, 1) := by decide +kernel
theorem dX6_fillBroken_92 : decode cX6_fillBroken 92 = .ok (.istore 6, 2) := by decide +kernel
theorem dX6_fillBroken_94 : decode cX6_fillBroken 94 = .ok (.iload 6, 2) := by decide +kernel
theorem dX6_fillBroken_96 : decode cX6_fillBroken 96 = .ok (.iload 5, 2) := by decide +kernel
theorem dX6_fillBroken_98 : decode cX6_fillBroken 98 = .ok (.if_icmp .ge 66, 3) := by decide +kernel
theorem dX6_fillBroken_101 : decode cX6_fillBroken 101 = .ok (.iconst 0, 1) := by decide +kernel
theorem dX6_fillBroken_102 : decode cX6_fillBroken 102 = .ok (.istore 7, 2) := by decide +kernel
theorem dX6_fillBroken_104 : decode cX6_fillBroken 104 = .ok (.iload 7, 2) := by decide +kernel
theorem dX6_fillBroken_106 : decode cX6_fillBroken 106 = .ok (.iload_n 3, 1) := by decide +kernel
theorem dX6_fillBroken_107 : decode cX6_fillBroken 107 = .ok (.iload 6, 2) := by decide +kernel
theorem dX6_fillBroken_109 : decode cX6_fillBroken 109 = .ok (.invokestatic 100, 3) := by decide +kernel
theorem dX6_fillBroken_112 : decode cX6_fillBroken 112 = .ok (.if_icmp .gt 46, 3) := by decide +kernel
theorem dX6_fillBroken_115 : decode cX6_fillBroken 115 = .ok (.aload_n 0, 1) := by decide +kernel
theorem dX6_fillBroken_116 : decode cX6_fillBroken 116 = .ok (.getfield 37, 3) := by decide +kernel
theorem dX6_fillBroken_119 : decode cX6_fillBroken 119 = .ok (.iload_n 1, 1) := by decide +kernel
theorem dX6_fillBroken_120 : decode cX6_fillBroken 120 = .ok (.iload 4, 2) := by decide +kernel
theorem dX6_fillBroken_122 : decode cX6_fillBroken 122 = .ok (.iload 6, 2) := by decide +kernel
theorem dX6_fillBroken_124 : decode cX6_fillBroken 124 = .ok (.iload 7, 2) := by decide +kernel
theorem dX6_fillBroken_126 : decode cX6_fillBroken 126 = .ok (.invokevirtual 106, 3) := by decide +kernel
theorem dX6_fillBroken_129 : decode cX6_fillBroken 129 = .ok (.aload_n 0, 1) := by decide +kernel
theorem dX6_fillBroken_130 : decode cX6_fillBroken 130 = .ok (.getfield 18, 3) := by decide +kernel
theorem dX6_fillBroken_133 : decode cX6_fillBroken 133 = .ok (.iload_n 1, 1) := by decide +kernel
theorem dX6_fillBroken_134 : decode cX6_fillBroken 134 = .ok (.iload 4, 2) := by decide +kernel
theorem dX6_fillBroken_136 : decode cX6_fillBroken 136 = .ok (.iload 6, 2) := by decide +kernel
theorem dX6_fillBroken_138 : decode cX6_fillBroken 138 = .ok (.iload 7, 2) := by decide +kernel
theorem dX6_fillBroken_140 : decode cX6_fillBroken 140 = .ok (.invokestatic 110, 3) := by decide +kernel
theorem dX6_fillBroken_143 : decode cX6_fillBroken 143 = .ok (.aload_n 0, 1) := by decide +kernel
theorem dX6_fillBroken_144 : decode cX6_fillBroken 144 = .ok (.getfield 37, 3) := by decide +kernel
theorem dX6_fillBroken_147 : decode cX6_fillBroken 147 = .ok (.iload_n 2, 1) := by decide +kernel
theorem dX6_fillBroken_148 : decode cX6_fillBroken 148 = .ok (.invokevirtual 114, 3) := by decide +kernel
theorem dX6_fillBroken_151 : decode cX6_fillBroken 151 = .ok (.iastore, 1) := by decide +kernel
theorem dX6_fillBroken_152 : decode cX6_fillBroken 152 = .ok (.iinc 7 1, 3) := by decide +kernel
theorem dX6_fillBroken_155 : decode cX6_fillBroken 155 = .ok (.goto (-51), 3) := by decide +kernel
theorem dX6_fillBroken_158 : decode cX6_fillBroken 158 = .ok (.iinc 6 1, 3) := by decide +kernel
theorem dX6_fillBroken_161 : decode cX6_fillBroken 161 = .ok (.goto (-67), 3) := by decide +kernel
theorem dX6_fillBroken_164 : decode cX6_fillBroken 164 = .ok (.iinc 4 1, 3) := by decide +kernel
theorem dX6_fillBroken_167 : decode cX6_fillBroken 167 = .ok (.goto (-110), 3) := by decide +kernel
theorem dX6_fillBroken_170 : decode cX6_fillBroken 170 = .ok (.return_, 1) := by decide +kernel
theorem dX6_brokenInRow_0 : decode cX6_brokenInRow 0 = .ok (.iconst 0, 1) := by decide +kernel
theorem dX6_brokenInRow_1 : decode cX6_brokenInRow 1 = .ok (.istore_n 1, 1) := by decide +kernel
theorem dX6_brokenInRow_2 : decode cX6_brokenInRow 2 = .ok (.iconst 0, 1) := by decide +kernel
theorem dX6_brokenInRow_3 : decode cX6_brokenInRow 3 = .ok (.istore_n 2, 1) := by decide +kernel
theorem dX6_brokenInRow_4 : decode cX6_brokenInRow 4 = .ok (.iload_n 2, 1) := by decide +kernel
theorem dX6_brokenInRow_5 : decode cX6_brokenInRow 5 = .ok (.aload_n 0, 1) := by decide +kernel
theorem dX6_brokenInRow_6 : decode cX6_brokenInRow 6 = .ok (.getfield 71, 3) := by decide +kernel
theorem dX6_brokenInRow_9 : decode cX6_brokenInRow 9 = .ok (.if_icmp .ge 73, 3) := by decide +kernel
theorem dX6_brokenInRow_12 : decode cX6_brokenInRow 12 = .ok (.aload_n 0, 1) := by decide +kernel
theorem dX6_brokenInRow_13 : decode cX6_brokenInRow 13 = .ok (.getfield 34, 3) := by decide +kernel
theorem dX6_brokenInRow_16 : decode cX6_brokenInRow 16 = .ok (.iload_n 2, 1) := by decide +kernel
theorem dX6_brokenInRow_17 : decode cX6_brokenInRow 17 = .ok (.iaload, 1) := by decide +kernel
theorem dX6_brokenInRow_18 : decode cX6_brokenInRow 18 = .ok (.istore_n 3, 1) := by decide +kernel
theorem dX6_brokenInRow_19 : decode cX6_brokenInRow 19 = .ok (.aload_n 0, 1) := by decide +kernel
theorem dX6_brokenInRow_20 : decode cX6_brokenInRow 20 = .ok (.getfield 22, 3) := by decide +kernel
theorem dX6_brokenInRow_23 : decode cX6_brokenInRow 23 = .ok (.iload_n 3, 1) := by decide +kernel
theorem dX6_brokenInRow_24 : decode cX6_brokenInRow 24 = .ok (.iaload, 1) := by decide +kernel
theorem dX6_brokenInRow_25 : decode cX6_brokenInRow 25 = .ok (.istore 4, 2) := by decide +kernel
theorem dX6_brokenInRow_27 : decode cX6_brokenInRow 27 = .ok (.aload_n 0, 1) := by decide +kernel
theorem dX6_brokenInRow_28 : decode cX6_brokenInRow 28 = .ok (.getfield 31, 3) := by decide +kernel
theorem dX6_brokenInRow_31 : decode cX6_brokenInRow 31 = .ok (.iload 4, 2) := by decide +kernel
theorem dX6_brokenInRow_33 : decode cX6_brokenInRow 33 = .ok (.bipush 10, 2) := by decide +kernel
theorem dX6_brokenInRow_35 : decode cX6_brokenInRow 35 = .ok (.imul, 1) := by decide +kernel
theorem dX6_brokenInRow_36 : decode cX6_brokenInRow 36 = .ok (.aload_n 0, 1) := by decide +kernel
theorem dX6_brokenInRow_37 : decode cX6_brokenInRow 37 = .ok (.getfield 47, 3) := by decide +kernel
theorem dX6_brokenInRow_40 : decode cX6_brokenInRow 40 = .ok (.getfield 91, 3) := by decide +kernel
theorem dX6_brokenInRow_43 : decode cX6_brokenInRow 43 = .ok (.iload_n 3, 1) := by decide +kernel
theorem dX6_brokenInRow_44 : decode cX6_brokenInRow 44 = .ok (.iaload, 1) := by decide +kernel
theorem dX6_brokenInRow_45 : decode cX6_brokenInRow 45 = .ok (.iadd, 1) := by decide +kernel
theorem dX6_brokenInRow_46 : decode cX6_brokenInRow 46 = .ok (.iaload, 1) := by decide +kernel
theorem dX6_brokenInRow_47 : decode cX6_brokenInRow 47 = .ok (.iconst 1, 1) := by decide +kernel
theorem dX6_brokenInRow_48 : decode cX6_brokenInRow 48 = .ok (.isub, 1) := by decide +kernel
theorem dX6_brokenInRow_49 : decode cX6_brokenInRow 49 = .ok (.istore 5, 2) := by decide +kernel
theorem dX6_brokenInRow_51 : decode cX6_brokenInRow 51 = .ok (.iload_n 1, 1) := by decide +kernel
theorem dX6_brokenInRow_52 : decode cX6_brokenInRow 52 = .ok (.aload_n 0, 1) := by decide +kernel
theorem dX6_brokenInRow_53 : decode cX6_brokenInRow 53 = .ok (.getfield 18, 3) := by decide +kernel
theorem dX6_brokenInRow_56 : decode cX6_brokenInRow 56 = .ok (.iload_n 3, 1) := by decide +kernel
theorem dX6_brokenInRow_57 : decode cX6_brokenInRow 57 = .ok (.iload 4, 2) := by decide +kernel
theorem dX6_brokenInRow_59 : decode cX6_brokenInRow 59 = .ok (.aload_n 0, 1) := by decide +kernel
theorem dX6_brokenInRow_60 : decode cX6_brokenInRow 60 = .ok (.getfield 28, 3) := by decide +kernel
theorem dX6_brokenInRow_63 : decode cX6_brokenInRow 63 = .ok (.iload 4, 2) := by decide +kernel
theorem dX6_brokenInRow_65 : decode cX6_brokenInRow 65 = .ok (.iaload, 1) := by decide +kernel
theorem dX6_brokenInRow_66 : decode cX6_brokenInRow 66 = .ok (.iconst 1, 1) := by decide +kernel
theorem dX6_brokenInRow_67 : decode cX6_brokenInRow 67 = .ok (.isub, 1) := by decide +kernel
theorem dX6_brokenInRow_68 : decode cX6_brokenInRow 68 = .ok (.iload 5, 2) := by decide +kernel
theorem dX6_brokenInRow_70 : decode cX6_brokenInRow 70 = .ok (.invokestatic 110, 3) := by decide +kernel
theorem dX6_brokenInRow_73 : decode cX6_brokenInRow 73 = .ok (.iaload, 1) := by decide +kernel
theorem dX6_brokenInRow_74 : decode cX6_brokenInRow 74 = .ok (.ior, 1) := by decide +kernel
theorem dX6_brokenInRow_75 : decode cX6_brokenInRow 75 = .ok (.istore_n 1, 1) := by decide +kernel
theorem dX6_brokenInRow_76 : decode cX6_brokenInRow 76 = .ok (.iinc 2 1, 3) := by decide +kernel
theorem dX6_brokenInRow_79 : decode cX6_brokenInRow 79 = .ok (.goto (-75), 3) := by decide +kernel
theorem dX6_brokenInRow_82 : decode cX6_brokenInRow 82 = .ok (.iload_n 1, 1) := by decide +kernel
theorem dX6_brokenInRow_83 : decode cX6_brokenInRow 83 = .ok (.ireturn, 1) := by decide +kernel
theorem dX6_keepRow_0 : decode cX6_keepRow 0 = .ok (.aload_n 0, 1) := by decide +kernel
theorem dX6_keepRow_1 : decode cX6_keepRow 1 = .ok (.invokevirtual 123, 3) := by decide +kernel
theorem dX6_keepRow_4 : decode cX6_keepRow 4 = .ok (.istore_n 3, 1) := by decide +kernel
theorem dX6_keepRow_5 : decode cX6_keepRow 5 = .ok (.aload_n 0, 1) := by decide +kernel
theorem dX6_keepRow_6 : decode cX6_keepRow 6 = .ok (.dup, 1) := by decide +kernel
theorem dX6_keepRow_7 : decode cX6_keepRow 7 = .ok (.getfield 67, 3) := by decide +kernel
theorem dX6_keepRow_10 : decode cX6_keepRow 10 = .ok (.lconst 1, 1) := by decide +kernel
theorem dX6_keepRow_11 : decode cX6_keepRow 11 = .ok (.iload_n 3, 1) := by decide +kernel
theorem dX6_keepRow_12 : decode cX6_keepRow 12 = .ok (.lshl, 1) := by decide +kernel
theorem dX6_keepRow_13 : decode cX6_keepRow 13 = .ok (.lor, 1) := by decide +kernel
theorem dX6_keepRow_14 : decode cX6_keepRow 14 = .ok (.putfield 67, 3) := by decide +kernel
theorem dX6_keepRow_17 : decode cX6_keepRow 17 = .ok (.iload_n 1, 1) := by decide +kernel
theorem dX6_keepRow_18 : decode cX6_keepRow 18 = .ok (.bipush 6, 2) := by decide +kernel
theorem dX6_keepRow_20 : decode cX6_keepRow 20 = .ok (.ishr, 1) := by decide +kernel
theorem dX6_keepRow_21 : decode cX6_keepRow 21 = .ok (.istore 4, 2) := by decide +kernel
theorem dX6_keepRow_23 : decode cX6_keepRow 23 = .ok (.iload 4, 2) := by decide +kernel
theorem dX6_keepRow_25 : decode cX6_keepRow 25 = .ok (.ifCond .lt 11, 3) := by decide +kernel
theorem dX6_keepRow_28 : decode cX6_keepRow 28 = .ok (.iload 4, 2) := by decide +kernel
theorem dX6_keepRow_30 : decode cX6_keepRow 30 = .ok (.sipush 625, 3) := by decide +kernel
theorem dX6_keepRow_33 : decode cX6_keepRow 33 = .ok (.if_icmp .lt 4, 3) := by decide +kernel
theorem dX6_keepRow_36 : decode cX6_keepRow 36 = .ok (.return_, 1) := by decide +kernel
theorem dX6_keepRow_37 : decode cX6_keepRow 37 = .ok (.lconst 1, 1) := by decide +kernel
theorem dX6_keepRow_38 : decode cX6_keepRow 38 = .ok (.iload_n 1, 1) := by decide +kernel
theorem dX6_keepRow_39 : decode cX6_keepRow 39 = .ok (.bipush 63, 2) := by decide +kernel
theorem dX6_keepRow_41 : decode cX6_keepRow 41 = .ok (.iand, 1) := by decide +kernel
theorem dX6_keepRow_42 : decode cX6_keepRow 42 = .ok (.lshl, 1) := by decide +kernel
theorem dX6_keepRow_43 : decode cX6_keepRow 43 = .ok (.lstore 5, 2) := by decide +kernel
theorem dX6_keepRow_45 : decode cX6_keepRow 45 = .ok (.aload_n 0, 1) := by decide +kernel
theorem dX6_keepRow_46 : decode cX6_keepRow 46 = .ok (.getfield 11, 3) := by decide +kernel
theorem dX6_keepRow_49 : decode cX6_keepRow 49 = .ok (.iload 4, 2) := by decide +kernel
theorem dX6_keepRow_51 : decode cX6_keepRow 51 = .ok (.dup2, 1) := by decide +kernel
theorem dX6_keepRow_52 : decode cX6_keepRow 52 = .ok (.laload, 1) := by decide +kernel
theorem dX6_keepRow_53 : decode cX6_keepRow 53 = .ok (.lload 5, 2) := by decide +kernel
theorem dX6_keepRow_55 : decode cX6_keepRow 55 = .ok (.lor, 1) := by decide +kernel
theorem dX6_keepRow_56 : decode cX6_keepRow 56 = .ok (.lastore, 1) := by decide +kernel
theorem dX6_keepRow_57 : decode cX6_keepRow 57 = .ok (.iload_n 3, 1) := by decide +kernel
theorem dX6_keepRow_58 : decode cX6_keepRow 58 = .ok (.ifCond .eq 4, 3) := by decide +kernel
theorem dX6_keepRow_61 : decode cX6_keepRow 61 = .ok (.return_, 1) := by decide +kernel
theorem dX6_keepRow_62 : decode cX6_keepRow 62 = .ok (.aload_n 0, 1) := by decide +kernel
theorem dX6_keepRow_63 : decode cX6_keepRow 63 = .ok (.getfield 15, 3) := by decide +kernel
theorem dX6_keepRow_66 : decode cX6_keepRow 66 = .ok (.iload 4, 2) := by decide +kernel
theorem dX6_keepRow_68 : decode cX6_keepRow 68 = .ok (.dup2, 1) := by decide +kernel
theorem dX6_keepRow_69 : decode cX6_keepRow 69 = .ok (.laload, 1) := by decide +kernel
theorem dX6_keepRow_70 : decode cX6_keepRow 70 = .ok (.lload 5, 2) := by decide +kernel
theorem dX6_keepRow_72 : decode cX6_keepRow 72 = .ok (.lor, 1) := by decide +kernel
theorem dX6_keepRow_73 : decode cX6_keepRow 73 = .ok (.lastore, 1) := by decide +kernel
theorem dX6_keepRow_74 : decode cX6_keepRow 74 = .ok (.aload_n 0, 1) := by decide +kernel
theorem dX6_keepRow_75 : decode cX6_keepRow 75 = .ok (.dup, 1) := by decide +kernel
theorem dX6_keepRow_76 : decode cX6_keepRow 76 = .ok (.getfield 51, 3) := by decide +kernel
theorem dX6_keepRow_79 : decode cX6_keepRow 79 = .ok (.iconst 1, 1) := by decide +kernel
theorem dX6_keepRow_80 : decode cX6_keepRow 80 = .ok (.iadd, 1) := by decide +kernel
theorem dX6_keepRow_81 : decode cX6_keepRow 81 = .ok (.putfield 51, 3) := by decide +kernel
theorem dX6_keepRow_84 : decode cX6_keepRow 84 = .ok (.iload_n 2, 1) := by decide +kernel
theorem dX6_keepRow_85 : decode cX6_keepRow 85 = .ok (.aload_n 0, 1) := by decide +kernel
theorem dX6_keepRow_86 : decode cX6_keepRow 86 = .ok (.getfield 55, 3) := by decide +kernel
theorem dX6_keepRow_89 : decode cX6_keepRow 89 = .ok (.if_icmp .ge 23, 3) := by decide +kernel
theorem dX6_keepRow_92 : decode cX6_keepRow 92 = .ok (.aload_n 0, 1) := by decide +kernel
theorem dX6_keepRow_93 : decode cX6_keepRow 93 = .ok (.iload_n 2, 1) := by decide +kernel
theorem dX6_keepRow_94 : decode cX6_keepRow 94 = .ok (.putfield 55, 3) := by decide +kernel
theorem dX6_keepRow_97 : decode cX6_keepRow 97 = .ok (.aload_n 0, 1) := by decide +kernel
theorem dX6_keepRow_98 : decode cX6_keepRow 98 = .ok (.getfield 22, 3) := by decide +kernel
theorem dX6_keepRow_101 : decode cX6_keepRow 101 = .ok (.iconst 0, 1) := by decide +kernel
theorem dX6_keepRow_102 : decode cX6_keepRow 102 = .ok (.aload_n 0, 1) := by decide +kernel
theorem dX6_keepRow_103 : decode cX6_keepRow 103 = .ok (.getfield 25, 3) := by decide +kernel
theorem dX6_keepRow_106 : decode cX6_keepRow 106 = .ok (.iconst 0, 1) := by decide +kernel
theorem dX6_keepRow_107 : decode cX6_keepRow 107 = .ok (.bipush 6, 2) := by decide +kernel
theorem dX6_keepRow_109 : decode cX6_keepRow 109 = .ok (.invokestatic 127, 3) := by decide +kernel
theorem dX6_keepRow_112 : decode cX6_keepRow 112 = .ok (.return_, 1) := by decide +kernel
theorem dX6_canKeep_0 : decode cX6_canKeep 0 = .ok (.iconst 0, 1) := by decide +kernel
theorem dX6_canKeep_1 : decode cX6_canKeep 1 = .ok (.istore_n 2, 1) := by decide +kernel
theorem dX6_canKeep_2 : decode cX6_canKeep 2 = .ok (.iload_n 2, 1) := by decide +kernel
theorem dX6_canKeep_3 : decode cX6_canKeep 3 = .ok (.bipush 64, 2) := by decide +kernel
theorem dX6_canKeep_5 : decode cX6_canKeep 5 = .ok (.if_icmp .ge 30, 3) := by decide +kernel
theorem dX6_canKeep_8 : decode cX6_canKeep 8 = .ok (.aload_n 0, 1) := by decide +kernel
theorem dX6_canKeep_9 : decode cX6_canKeep 9 = .ok (.getfield 67, 3) := by decide +kernel
theorem dX6_canKeep_12 : decode cX6_canKeep 12 = .ok (.iload_n 2, 1) := by decide +kernel
theorem dX6_canKeep_13 : decode cX6_canKeep 13 = .ok (.lshr, 1) := by decide +kernel
theorem dX6_canKeep_14 : decode cX6_canKeep 14 = .ok (.lconst 1, 1) := by decide +kernel
theorem dX6_canKeep_15 : decode cX6_canKeep 15 = .ok (.land, 1) := by decide +kernel
theorem dX6_canKeep_16 : decode cX6_canKeep 16 = .ok (.lconst 1, 1) := by decide +kernel
theorem dX6_canKeep_17 : decode cX6_canKeep 17 = .ok (.lcmp, 1) := by decide +kernel
theorem dX6_canKeep_18 : decode cX6_canKeep 18 = .ok (.ifCond .ne 11, 3) := by decide +kernel
theorem dX6_canKeep_21 : decode cX6_canKeep 21 = .ok (.iload_n 2, 1) := by decide +kernel
theorem dX6_canKeep_22 : decode cX6_canKeep 22 = .ok (.iload_n 1, 1) := by decide +kernel
theorem dX6_canKeep_23 : decode cX6_canKeep 23 = .ok (.iand, 1) := by decide +kernel
theorem dX6_canKeep_24 : decode cX6_canKeep 24 = .ok (.ifCond .ne 5, 3) := by decide +kernel
theorem dX6_canKeep_27 : decode cX6_canKeep 27 = .ok (.iconst 1, 1) := by decide +kernel
theorem dX6_canKeep_28 : decode cX6_canKeep 28 = .ok (.ireturn, 1) := by decide +kernel
theorem dX6_canKeep_29 : decode cX6_canKeep 29 = .ok (.iinc 2 1, 3) := by decide +kernel
theorem dX6_canKeep_32 : decode cX6_canKeep 32 = .ok (.goto (-30), 3) := by decide +kernel
theorem dX6_canKeep_35 : decode cX6_canKeep 35 = .ok (.iconst 0, 1) := by decide +kernel
theorem dX6_canKeep_36 : decode cX6_canKeep 36 = .ok (.ireturn, 1) := by decide +kernel
theorem dX6_smallestQuarrel_0 : decode cX6_smallestQuarrel 0 = .ok (.aload_n 0, 1) := by decide +kernel
theorem dX6_smallestQuarrel_1 : decode cX6_smallestQuarrel 1 = .ok (.getfield 58, 3) := by decide +kernel
theorem dX6_smallestQuarrel_4 : decode cX6_smallestQuarrel 4 = .ok (.istore_n 1, 1) := by decide +kernel
theorem dX6_smallestQuarrel_5 : decode cX6_smallestQuarrel 5 = .ok (.bipush 63, 2) := by decide +kernel
theorem dX6_smallestQuarrel_7 : decode cX6_smallestQuarrel 7 = .ok (.istore_n 2, 1) := by decide +kernel
theorem dX6_smallestQuarrel_8 : decode cX6_smallestQuarrel 8 = .ok (.iload_n 2, 1) := by decide +kernel
theorem dX6_smallestQuarrel_9 : decode cX6_smallestQuarrel 9 = .ok (.ifCond .lt 51, 3) := by decide +kernel
theorem dX6_smallestQuarrel_12 : decode cX6_smallestQuarrel 12 = .ok (.iload_n 2, 1) := by decide +kernel
theorem dX6_smallestQuarrel_13 : decode cX6_smallestQuarrel 13 = .ok (.invokestatic 133, 3) := by decide +kernel
theorem dX6_smallestQuarrel_16 : decode cX6_smallestQuarrel 16 = .ok (.iload_n 1, 1) := by decide +kernel
theorem dX6_smallestQuarrel_17 : decode cX6_smallestQuarrel 17 = .ok (.invokestatic 133, 3) := by decide +kernel
theorem dX6_smallestQuarrel_20 : decode cX6_smallestQuarrel 20 = .ok (.if_icmp .gt 7, 3) := by decide +kernel
theorem dX6_smallestQuarrel_23 : decode cX6_smallestQuarrel 23 = .ok (.iconst 1, 1) := by decide +kernel
theorem dX6_smallestQuarrel_24 : decode cX6_smallestQuarrel 24 = .ok (.goto 4, 3) := by decide +kernel
theorem dX6_smallestQuarrel_27 : decode cX6_smallestQuarrel 27 = .ok (.iconst 0, 1) := by decide +kernel
theorem dX6_smallestQuarrel_28 : decode cX6_smallestQuarrel 28 = .ok (.istore_n 3, 1) := by decide +kernel
theorem dX6_smallestQuarrel_29 : decode cX6_smallestQuarrel 29 = .ok (.iload_n 2, 1) := by decide +kernel
theorem dX6_smallestQuarrel_30 : decode cX6_smallestQuarrel 30 = .ok (.aload_n 0, 1) := by decide +kernel
theorem dX6_smallestQuarrel_31 : decode cX6_smallestQuarrel 31 = .ok (.getfield 58, 3) := by decide +kernel
theorem dX6_smallestQuarrel_34 : decode cX6_smallestQuarrel 34 = .ok (.iconst (-1), 1) := by decide +kernel
theorem dX6_smallestQuarrel_35 : decode cX6_smallestQuarrel 35 = .ok (.ixor, 1) := by decide +kernel
theorem dX6_smallestQuarrel_36 : decode cX6_smallestQuarrel 36 = .ok (.iand, 1) := by decide +kernel
theorem dX6_smallestQuarrel_37 : decode cX6_smallestQuarrel 37 = .ok (.ifCond .ne 17, 3) := by decide +kernel
theorem dX6_smallestQuarrel_40 : decode cX6_smallestQuarrel 40 = .ok (.iload_n 3, 1) := by decide +kernel
theorem dX6_smallestQuarrel_41 : decode cX6_smallestQuarrel 41 = .ok (.ifCond .eq 13, 3) := by decide +kernel
theorem dX6_smallestQuarrel_44 : decode cX6_smallestQuarrel 44 = .ok (.aload_n 0, 1) := by decide +kernel
theorem dX6_smallestQuarrel_45 : decode cX6_smallestQuarrel 45 = .ok (.iload_n 2, 1) := by decide +kernel
theorem dX6_smallestQuarrel_46 : decode cX6_smallestQuarrel 46 = .ok (.invokevirtual 138, 3) := by decide +kernel
theorem dX6_smallestQuarrel_49 : decode cX6_smallestQuarrel 49 = .ok (.ifCond .ne 5, 3) := by decide +kernel
theorem dX6_smallestQuarrel_52 : decode cX6_smallestQuarrel 52 = .ok (.iload_n 2, 1) := by decide +kernel
theorem dX6_smallestQuarrel_53 : decode cX6_smallestQuarrel 53 = .ok (.istore_n 1, 1) := by decide +kernel
theorem dX6_smallestQuarrel_54 : decode cX6_smallestQuarrel 54 = .ok (.iinc 2 (-1), 3) := by decide +kernel
theorem dX6_smallestQuarrel_57 : decode cX6_smallestQuarrel 57 = .ok (.goto (-49), 3) := by decide +kernel
theorem dX6_smallestQuarrel_60 : decode cX6_smallestQuarrel 60 = .ok (.iload_n 1, 1) := by decide +kernel
theorem dX6_smallestQuarrel_61 : decode cX6_smallestQuarrel 61 = .ok (.ireturn, 1) := by decide +kernel
theorem dX7_withLetter_0 : decode cX7_withLetter 0 = .ok (.lload_n 0, 1) := by decide +kernel
theorem dX7_withLetter_1 : decode cX7_withLetter 1 = .ok (.ldc2_w 76, 3) := by decide +kernel
theorem dX7_withLetter_4 : decode cX7_withLetter 4 = .ok (.lmul, 1) := by decide +kernel
theorem dX7_withLetter_5 : decode cX7_withLetter 5 = .ok (.iload_n 2, 1) := by decide +kernel
theorem dX7_withLetter_6 : decode cX7_withLetter 6 = .ok (.bipush 97, 2) := by decide +kernel
theorem dX7_withLetter_8 : decode cX7_withLetter 8 = .ok (.isub, 1) := by decide +kernel
theorem dX7_withLetter_9 : decode cX7_withLetter 9 = .ok (.iconst 1, 1) := by decide +kernel
theorem dX7_withLetter_10 : decode cX7_withLetter 10 = .ok (.iadd, 1) := by decide +kernel
theorem dX7_withLetter_11 : decode cX7_withLetter 11 = .ok (.i2l, 1) := by decide +kernel
theorem dX7_withLetter_12 : decode cX7_withLetter 12 = .ok (.ladd, 1) := by decide +kernel
theorem dX7_withLetter_13 : decode cX7_withLetter 13 = .ok (.lreturn, 1) := by decide +kernel
theorem dX7_isBlank_0 : decode cX7_isBlank 0 = .ok (.iload_n 0, 1) := by decide +kernel
theorem dX7_isBlank_1 : decode cX7_isBlank 1 = .ok (.bipush 9, 2) := by decide +kernel
theorem dX7_isBlank_3 : decode cX7_isBlank 3 = .ok (.if_icmp .eq 21, 3) := by decide +kernel
theorem dX7_isBlank_6 : decode cX7_isBlank 6 = .ok (.iload_n 0, 1) := by decide +kernel
theorem dX7_isBlank_7 : decode cX7_isBlank 7 = .ok (.bipush 10, 2) := by decide +kernel
theorem dX7_isBlank_9 : decode cX7_isBlank 9 = .ok (.if_icmp .eq 15, 3) := by decide +kernel
theorem dX7_isBlank_12 : decode cX7_isBlank 12 = .ok (.iload_n 0, 1) := by decide +kernel
theorem dX7_isBlank_13 : decode cX7_isBlank 13 = .ok (.bipush 13, 2) := by decide +kernel
theorem dX7_isBlank_15 : decode cX7_isBlank 15 = .ok (.if_icmp .eq 9, 3) := by decide +kernel
theorem dX7_isBlank_18 : decode cX7_isBlank 18 = .ok (.iload_n 0, 1) := by decide +kernel
theorem dX7_isBlank_19 : decode cX7_isBlank 19 = .ok (.bipush 32, 2) := by decide +kernel
theorem dX7_isBlank_21 : decode cX7_isBlank 21 = .ok (.if_icmp .ne 7, 3) := by decide +kernel
theorem dX7_isBlank_24 : decode cX7_isBlank 24 = .ok (.iconst 1, 1) := by decide +kernel
theorem dX7_isBlank_25 : decode cX7_isBlank 25 = .ok (.goto 4, 3) := by decide +kernel
theorem dX7_isBlank_28 : decode cX7_isBlank 28 = .ok (.iconst 0, 1) := by decide +kernel
theorem dX7_isBlank_29 : decode cX7_isBlank 29 = .ok (.ireturn, 1) := by decide +kernel
theorem dX7_isLetter_0 : decode cX7_isLetter 0 = .ok (.iload_n 0, 1) := by decide +kernel
theorem dX7_isLetter_1 : decode cX7_isLetter 1 = .ok (.bipush 97, 2) := by decide +kernel
theorem dX7_isLetter_3 : decode cX7_isLetter 3 = .ok (.if_icmp .lt 13, 3) := by decide +kernel
theorem dX7_isLetter_6 : decode cX7_isLetter 6 = .ok (.iload_n 0, 1) := by decide +kernel
theorem dX7_isLetter_7 : decode cX7_isLetter 7 = .ok (.bipush 122, 2) := by decide +kernel
theorem dX7_isLetter_9 : decode cX7_isLetter 9 = .ok (.if_icmp .gt 7, 3) := by decide +kernel
theorem dX7_isLetter_12 : decode cX7_isLetter 12 = .ok (.iconst 1, 1) := by decide +kernel
theorem dX7_isLetter_13 : decode cX7_isLetter 13 = .ok (.goto 4, 3) := by decide +kernel
theorem dX7_isLetter_16 : decode cX7_isLetter 16 = .ok (.iconst 0, 1) := by decide +kernel
theorem dX7_isLetter_17 : decode cX7_isLetter 17 = .ok (.ireturn, 1) := by decide +kernel
theorem dX7_sortOf_0 : decode cX7_sortOf 0 = .ok (.iconst 0, 1) := by decide +kernel
theorem dX7_sortOf_1 : decode cX7_sortOf 1 = .ok (.istore_n 3, 1) := by decide +kernel
theorem dX7_sortOf_2 : decode cX7_sortOf 2 = .ok (.iload_n 3, 1) := by decide +kernel
theorem dX7_sortOf_3 : decode cX7_sortOf 3 = .ok (.bipush 20, 2) := by decide +kernel
theorem dX7_sortOf_5 : decode cX7_sortOf 5 = .ok (.if_icmp .ge 26, 3) := by decide +kernel
theorem dX7_sortOf_8 : decode cX7_sortOf 8 = .ok (.aload_n 0, 1) := by decide +kernel
theorem dX7_sortOf_9 : decode cX7_sortOf 9 = .ok (.getfield 22, 3) := by decide +kernel
theorem dX7_sortOf_12 : decode cX7_sortOf 12 = .ok (.iload_n 3, 1) := by decide +kernel
theorem dX7_sortOf_13 : decode cX7_sortOf 13 = .ok (.laload, 1) := by decide +kernel
theorem dX7_sortOf_14 : decode cX7_sortOf 14 = .ok (.lload_n 1, 1) := by decide +kernel
theorem dX7_sortOf_15 : decode cX7_sortOf 15 = .ok (.lcmp, 1) := by decide +kernel
theorem dX7_sortOf_16 : decode cX7_sortOf 16 = .ok (.ifCond .ne 9, 3) := by decide +kernel
theorem dX7_sortOf_19 : decode cX7_sortOf 19 = .ok (.sipush 256, 3) := by decide +kernel
theorem dX7_sortOf_22 : decode cX7_sortOf 22 = .ok (.iload_n 3, 1) := by decide +kernel
theorem dX7_sortOf_23 : decode cX7_sortOf 23 = .ok (.iadd, 1) := by decide +kernel
theorem dX7_sortOf_24 : decode cX7_sortOf 24 = .ok (.ireturn, 1) := by decide +kernel
theorem dX7_sortOf_25 : decode cX7_sortOf 25 = .ok (.iinc 3 1, 3) := by decide +kernel
theorem dX7_sortOf_28 : decode cX7_sortOf 28 = .ok (.goto (-26), 3) := by decide +kernel
theorem dX7_sortOf_31 : decode cX7_sortOf 31 = .ok (.iconst 2, 1) := by decide +kernel
theorem dX7_sortOf_32 : decode cX7_sortOf 32 = .ok (.ireturn, 1) := by decide +kernel
theorem dX7_add_0 : decode cX7_add 0 = .ok (.aload_n 0, 1) := by decide +kernel
theorem dX7_add_1 : decode cX7_add 1 = .ok (.getfield 41, 3) := by decide +kernel
theorem dX7_add_4 : decode cX7_add 4 = .ok (.sipush 401, 3) := by decide +kernel
theorem dX7_add_7 : decode cX7_add 7 = .ok (.if_icmp .gt 43, 3) := by decide +kernel
theorem dX7_add_10 : decode cX7_add 10 = .ok (.aload_n 0, 1) := by decide +kernel
theorem dX7_add_11 : decode cX7_add 11 = .ok (.getfield 11, 3) := by decide +kernel
theorem dX7_add_14 : decode cX7_add 14 = .ok (.aload_n 0, 1) := by decide +kernel
theorem dX7_add_15 : decode cX7_add 15 = .ok (.getfield 41, 3) := by decide +kernel
theorem dX7_add_18 : decode cX7_add 18 = .ok (.iload_n 1, 1) := by decide +kernel
theorem dX7_add_19 : decode cX7_add 19 = .ok (.iastore, 1) := by decide +kernel
theorem dX7_add_20 : decode cX7_add 20 = .ok (.aload_n 0, 1) := by decide +kernel
theorem dX7_add_21 : decode cX7_add 21 = .ok (.getfield 15, 3) := by decide +kernel
theorem dX7_add_24 : decode cX7_add 24 = .ok (.aload_n 0, 1) := by decide +kernel
theorem dX7_add_25 : decode cX7_add 25 = .ok (.getfield 41, 3) := by decide +kernel
theorem dX7_add_28 : decode cX7_add 28 = .ok (.iload_n 2, 1) := by decide +kernel
theorem dX7_add_29 : decode cX7_add 29 = .ok (.iastore, 1) := by decide +kernel
theorem dX7_add_30 : decode cX7_add 30 = .ok (.aload_n 0, 1) := by decide +kernel
theorem dX7_add_31 : decode cX7_add 31 = .ok (.getfield 18, 3) := by decide +kernel
theorem dX7_add_34 : decode cX7_add 34 = .ok (.aload_n 0, 1) := by decide +kernel
theorem dX7_add_35 : decode cX7_add 35 = .ok (.getfield 41, 3) := by decide +kernel
theorem dX7_add_38 : decode cX7_add 38 = .ok (.lload_n 3, 1) := by decide +kernel
theorem dX7_add_39 : decode cX7_add 39 = .ok (.lastore, 1) := by decide +kernel
theorem dX7_add_40 : decode cX7_add 40 = .ok (.aload_n 0, 1) := by decide +kernel
theorem dX7_add_41 : decode cX7_add 41 = .ok (.dup, 1) := by decide +kernel
theorem dX7_add_42 : decode cX7_add 42 = .ok (.getfield 41, 3) := by decide +kernel
theorem dX7_add_45 : decode cX7_add 45 = .ok (.iconst 1, 1) := by decide +kernel
theorem dX7_add_46 : decode cX7_add 46 = .ok (.iadd, 1) := by decide +kernel
theorem dX7_add_47 : decode cX7_add 47 = .ok (.putfield 41, 3) := by decide +kernel
theorem dX7_add_50 : decode cX7_add 50 = .ok (.return_, 1) := by decide +kernel
theorem dX7_cutWord_0 : decode cX7_cutWord 0 = .ok (.lconst 0, 1) := by decide +kernel
theorem dX7_cutWord_1 : decode cX7_cutWord 1 = .ok (.lstore 4, 2) := by decide +kernel
theorem dX7_cutWord_3 : decode cX7_cutWord 3 = .ok (.iload_n 3, 1) := by decide +kernel
theorem dX7_cutWord_4 : decode cX7_cutWord 4 = .ok (.istore 6, 2) := by decide +kernel
theorem dX7_cutWord_6 : decode cX7_cutWord 6 = .ok (.iload 6, 2) := by decide +kernel
theorem dX7_cutWord_8 : decode cX7_cutWord 8 = .ok (.iload_n 2, 1) := by decide +kernel
theorem dX7_cutWord_9 : decode cX7_cutWord 9 = .ok (.if_icmp .ge 48, 3) := by decide +kernel
theorem dX7_cutWord_12 : decode cX7_cutWord 12 = .ok (.aload_n 1, 1) := by decide +kernel
theorem dX7_cutWord_13 : decode cX7_cutWord 13 = .ok (.iload 6, 2) := by decide +kernel
theorem dX7_cutWord_15 : decode cX7_cutWord 15 = .ok (.baload, 1) := by decide +kernel
theorem dX7_cutWord_16 : decode cX7_cutWord 16 = .ok (.sipush 255, 3) := by decide +kernel
theorem dX7_cutWord_19 : decode cX7_cutWord 19 = .ok (.iand, 1) := by decide +kernel
theorem dX7_cutWord_20 : decode cX7_cutWord 20 = .ok (.invokestatic 49, 3) := by decide +kernel
theorem dX7_cutWord_23 : decode cX7_cutWord 23 = .ok (.ifCond .eq 34, 3) := by decide +kernel
theorem dX7_cutWord_26 : decode cX7_cutWord 26 = .ok (.iload 6, 2) := by decide +kernel
theorem dX7_cutWord_28 : decode cX7_cutWord 28 = .ok (.iload_n 3, 1) := by decide +kernel
theorem dX7_cutWord_29 : decode cX7_cutWord 29 = .ok (.isub, 1) := by decide +kernel
theorem dX7_cutWord_30 : decode cX7_cutWord 30 = .ok (.bipush 8, 2) := by decide +kernel
theorem dX7_cutWord_32 : decode cX7_cutWord 32 = .ok (.if_icmp .ge 19, 3) := by decide +kernel
theorem dX7_cutWord_35 : decode cX7_cutWord 35 = .ok (.lload 4, 2) := by decide +kernel
theorem dX7_cutWord_37 : decode cX7_cutWord 37 = .ok (.aload_n 1, 1) := by decide +kernel
theorem dX7_cutWord_38 : decode cX7_cutWord 38 = .ok (.iload 6, 2) := by decide +kernel
theorem dX7_cutWord_40 : decode cX7_cutWord 40 = .ok (.baload, 1) := by decide +kernel
theorem dX7_cutWord_41 : decode cX7_cutWord 41 = .ok (.sipush 255, 3) := by decide +kernel
theorem dX7_cutWord_44 : decode cX7_cutWord 44 = .ok (.iand, 1) := by decide +kernel
theorem dX7_cutWord_45 : decode cX7_cutWord 45 = .ok (.i2c, 1) := by decide +kernel
theorem dX7_cutWord_46 : decode cX7_cutWord 46 = .ok (.invokestatic 37, 3) := by decide +kernel
theorem dX7_cutWord_49 : decode cX7_cutWord 49 = .ok (.lstore 4, 2) := by decide +kernel
theorem dX7_cutWord_51 : decode cX7_cutWord 51 = .ok (.iinc 6 1, 3) := by decide +kernel
theorem dX7_cutWord_54 : decode cX7_cutWord 54 = .ok (.goto (-48), 3) := by decide +kernel
theorem dX7_cutWord_57 : decode cX7_cutWord 57 = .ok (.aload_n 0, 1) := by decide +kernel
theorem dX7_cutWord_58 : decode cX7_cutWord 58 = .ok (.iload 6, 2) := by decide +kernel
theorem dX7_cutWord_60 : decode cX7_cutWord 60 = .ok (.iload_n 3, 1) := by decide +kernel
theorem dX7_cutWord_61 : decode cX7_cutWord 61 = .ok (.isub, 1) := by decide +kernel
theorem dX7_cutWord_62 : decode cX7_cutWord 62 = .ok (.bipush 8, 2) := by decide +kernel
theorem dX7_cutWord_64 : decode cX7_cutWord 64 = .ok (.if_icmp .le 7, 3) := by decide +kernel
theorem dX7_cutWord_67 : decode cX7_cutWord 67 = .ok (.iconst 1, 1) := by decide +kernel
theorem dX7_cutWord_68 : decode cX7_cutWord 68 = .ok (.goto 9, 3) := by decide +kernel
theorem dX7_cutWord_71 : decode cX7_cutWord 71 = .ok (.aload_n 0, 1) := by decide +kernel
theorem dX7_cutWord_72 : decode cX7_cutWord 72 = .ok (.lload 4, 2) := by decide +kernel
theorem dX7_cutWord_74 : decode cX7_cutWord 74 = .ok (.invokevirtual 72, 3) := by decide +kernel
theorem dX7_cutWord_77 : decode cX7_cutWord 77 = .ok (.iload_n 3, 1) := by decide +kernel
theorem dX7_cutWord_78 : decode cX7_cutWord 78 = .ok (.lload 4, 2) := by decide +kernel
theorem dX7_cutWord_80 : decode cX7_cutWord 80 = .ok (.invokevirtual 68, 3) := by decide +kernel
theorem dX7_cutWord_83 : decode cX7_cutWord 83 = .ok (.iload 6, 2) := by decide +kernel
theorem dX7_cutWord_85 : decode cX7_cutWord 85 = .ok (.ireturn, 1) := by decide +kernel
theorem dX7_isDigit_0 : decode cX7_isDigit 0 = .ok (.iload_n 0, 1) := by decide +kernel
theorem dX7_isDigit_1 : decode cX7_isDigit 1 = .ok (.bipush 48, 2) := by decide +kernel
theorem dX7_isDigit_3 : decode cX7_isDigit 3 = .ok (.if_icmp .lt 13, 3) := by decide +kernel
theorem dX7_isDigit_6 : decode cX7_isDigit 6 = .ok (.iload_n 0, 1) := by decide +kernel
theorem dX7_isDigit_7 : decode cX7_isDigit 7 = .ok (.bipush 57, 2) := by decide +kernel
theorem dX7_isDigit_9 : decode cX7_isDigit 9 = .ok (.if_icmp .gt 7, 3) := by decide +kernel
theorem dX7_isDigit_12 : decode cX7_isDigit 12 = .ok (.iconst 1, 1) := by decide +kernel
theorem dX7_isDigit_13 : decode cX7_isDigit 13 = .ok (.goto 4, 3) := by decide +kernel
theorem dX7_isDigit_16 : decode cX7_isDigit 16 = .ok (.iconst 0, 1) := by decide +kernel
theorem dX7_isDigit_17 : decode cX7_isDigit 17 = .ok (.ireturn, 1) := by decide +kernel
theorem dX7_cutNumber_0 : decode cX7_cutNumber 0 = .ok (.iconst 0, 1) := by decide +kernel
theorem dX7_cutNumber_1 : decode cX7_cutNumber 1 = .ok (.istore 4, 2) := by decide +kernel
theorem dX7_cutNumber_3 : decode cX7_cutNumber 3 = .ok (.iload_n 3, 1) := by decide +kernel
theorem dX7_cutNumber_4 : decode cX7_cutNumber 4 = .ok (.istore 5, 2) := by decide +kernel
theorem dX7_cutNumber_6 : decode cX7_cutNumber 6 = .ok (.iload 5, 2) := by decide +kernel
theorem dX7_cutNumber_8 : decode cX7_cutNumber 8 = .ok (.iload_n 2, 1) := by decide +kernel
theorem dX7_cutNumber_9 : decode cX7_cutNumber 9 = .ok (.if_icmp .ge 46, 3) := by decide +kernel
theorem dX7_cutNumber_12 : decode cX7_cutNumber 12 = .ok (.aload_n 1, 1) := by decide +kernel
theorem dX7_cutNumber_13 : decode cX7_cutNumber 13 = .ok (.iload 5, 2) := by decide +kernel
theorem dX7_cutNumber_15 : decode cX7_cutNumber 15 = .ok (.baload, 1) := by decide +kernel
theorem dX7_cutNumber_16 : decode cX7_cutNumber 16 = .ok (.sipush 255, 3) := by decide +kernel
theorem dX7_cutNumber_19 : decode cX7_cutNumber 19 = .ok (.iand, 1) := by decide +kernel
theorem dX7_cutNumber_20 : decode cX7_cutNumber 20 = .ok (.invokestatic 56, 3) := by decide +kernel
theorem dX7_cutNumber_23 : decode cX7_cutNumber 23 = .ok (.ifCond .eq 32, 3) := by decide +kernel
theorem dX7_cutNumber_26 : decode cX7_cutNumber 26 = .ok (.iload 5, 2) := by decide +kernel
theorem dX7_cutNumber_28 : decode cX7_cutNumber 28 = .ok (.iload_n 3, 1) := by decide +kernel
theorem dX7_cutNumber_29 : decode cX7_cutNumber 29 = .ok (.isub, 1) := by decide +kernel
theorem dX7_cutNumber_30 : decode cX7_cutNumber 30 = .ok (.iconst 4, 1) := by decide +kernel
theorem dX7_cutNumber_31 : decode cX7_cutNumber 31 = .ok (.if_icmp .ge 18, 3) := by decide +kernel
theorem dX7_cutNumber_34 : decode cX7_cutNumber 34 = .ok (.iload 4, 2) := by decide +kernel
theorem dX7_cutNumber_36 : decode cX7_cutNumber 36 = .ok (.bipush 10, 2) := by decide +kernel
theorem dX7_cutNumber_38 : decode cX7_cutNumber 38 = .ok (.imul, 1) := by decide +kernel
theorem dX7_cutNumber_39 : decode cX7_cutNumber 39 = .ok (.aload_n 1, 1) := by decide +kernel
theorem dX7_cutNumber_40 : decode cX7_cutNumber 40 = .ok (.iload 5, 2) := by decide +kernel
theorem dX7_cutNumber_42 : decode cX7_cutNumber 42 = .ok (.baload, 1) := by decide +kernel
theorem dX7_cutNumber_43 : decode cX7_cutNumber 43 = .ok (.bipush 48, 2) := by decide +kernel
theorem dX7_cutNumber_45 : decode cX7_cutNumber 45 = .ok (.isub, 1) := by decide +kernel
theorem dX7_cutNumber_46 : decode cX7_cutNumber 46 = .ok (.iadd, 1) := by decide +kernel
theorem dX7_cutNumber_47 : decode cX7_cutNumber 47 = .ok (.istore 4, 2) := by decide +kernel
theorem dX7_cutNumber_49 : decode cX7_cutNumber 49 = .ok (.iinc 5 1, 3) := by decide +kernel
theorem dX7_cutNumber_52 : decode cX7_cutNumber 52 = .ok (.goto (-46), 3) := by decide +kernel
theorem dX7_cutNumber_55 : decode cX7_cutNumber 55 = .ok (.aload_n 0, 1) := by decide +kernel
theorem dX7_cutNumber_56 : decode cX7_cutNumber 56 = .ok (.iload 5, 2) := by decide +kernel
theorem dX7_cutNumber_58 : decode cX7_cutNumber 58 = .ok (.iload_n 3, 1) := by decide +kernel
theorem dX7_cutNumber_59 : decode cX7_cutNumber 59 = .ok (.isub, 1) := by decide +kernel
theorem dX7_cutNumber_60 : decode cX7_cutNumber 60 = .ok (.iconst 4, 1) := by decide +kernel
theorem dX7_cutNumber_61 : decode cX7_cutNumber 61 = .ok (.if_icmp .le 7, 3) := by decide +kernel
theorem dX7_cutNumber_64 : decode cX7_cutNumber 64 = .ok (.iconst 1, 1) := by decide +kernel
theorem dX7_cutNumber_65 : decode cX7_cutNumber 65 = .ok (.goto 4, 3) := by decide +kernel
theorem dX7_cutNumber_68 : decode cX7_cutNumber 68 = .ok (.iconst 3, 1) := by decide +kernel
theorem dX7_cutNumber_69 : decode cX7_cutNumber 69 = .ok (.iload_n 3, 1) := by decide +kernel
theorem dX7_cutNumber_70 : decode cX7_cutNumber 70 = .ok (.iload 4, 2) := by decide +kernel
theorem dX7_cutNumber_72 : decode cX7_cutNumber 72 = .ok (.i2l, 1) := by decide +kernel
theorem dX7_cutNumber_73 : decode cX7_cutNumber 73 = .ok (.invokevirtual 68, 3) := by decide +kernel
theorem dX7_cutNumber_76 : decode cX7_cutNumber 76 = .ok (.iload 5, 2) := by decide +kernel
theorem dX7_cutNumber_78 : decode cX7_cutNumber 78 = .ok (.ireturn, 1) := by decide +kernel
theorem dX9_moveFirst_0 : decode cX9_moveFirst 0 = .ok (.lload_n 0, 1) := by decide +kernel
theorem dX9_moveFirst_1 : decode cX9_moveFirst 1 = .ok (.lload_n 0, 1) := by decide +kernel
theorem dX9_moveFirst_2 : decode cX9_moveFirst 2 = .ok (.iconst 1, 1) := by decide +kernel
theorem dX9_moveFirst_3 : decode cX9_moveFirst 3 = .ok (.lushr, 1) := by decide +kernel
theorem dX9_moveFirst_4 : decode cX9_moveFirst 4 = .ok (.lor, 1) := by decide +kernel
theorem dX9_moveFirst_5 : decode cX9_moveFirst 5 = .ok (.lload_n 0, 1) := by decide +kernel
theorem dX9_moveFirst_6 : decode cX9_moveFirst 6 = .ok (.iconst 2, 1) := by decide +kernel
theorem dX9_moveFirst_7 : decode cX9_moveFirst 7 = .ok (.lushr, 1) := by decide +kernel
theorem dX9_moveFirst_8 : decode cX9_moveFirst 8 = .ok (.lor, 1) := by decide +kernel
theorem dX9_moveFirst_9 : decode cX9_moveFirst 9 = .ok (.lload_n 0, 1) := by decide +kernel
theorem dX9_moveFirst_10 : decode cX9_moveFirst 10 = .ok (.iconst 3, 1) := by decide +kernel
theorem dX9_moveFirst_11 : decode cX9_moveFirst 11 = .ok (.lushr, 1) := by decide +kernel
theorem dX9_moveFirst_12 : decode cX9_moveFirst 12 = .ok (.lor, 1) := by decide +kernel
theorem dX9_moveFirst_13 : decode cX9_moveFirst 13 = .ok (.lload_n 0, 1) := by decide +kernel
theorem dX9_moveFirst_14 : decode cX9_moveFirst 14 = .ok (.iconst 4, 1) := by decide +kernel
theorem dX9_moveFirst_15 : decode cX9_moveFirst 15 = .ok (.lushr, 1) := by decide +kernel
theorem dX9_moveFirst_16 : decode cX9_moveFirst 16 = .ok (.lor, 1) := by decide +kernel
theorem dX9_moveFirst_17 : decode cX9_moveFirst 17 = .ok (.lstore_n 2, 1) := by decide +kernel
theorem dX9_moveFirst_18 : decode cX9_moveFirst 18 = .ok (.lload_n 2, 1) := by decide +kernel
theorem dX9_moveFirst_19 : decode cX9_moveFirst 19 = .ok (.ldc2_w 47, 3) := by decide +kernel
theorem dX9_moveFirst_22 : decode cX9_moveFirst 22 = .ok (.land, 1) := by decide +kernel
theorem dX9_moveFirst_23 : decode cX9_moveFirst 23 = .ok (.ldc2_w 49, 3) := by decide +kernel
theorem dX9_moveFirst_26 : decode cX9_moveFirst 26 = .ok (.lmul, 1) := by decide +kernel
theorem dX9_moveFirst_27 : decode cX9_moveFirst 27 = .ok (.lreturn, 1) := by decide +kernel
theorem dX9_moveSecond_0 : decode cX9_moveSecond 0 = .ok (.lload_n 0, 1) := by decide +kernel
theorem dX9_moveSecond_1 : decode cX9_moveSecond 1 = .ok (.lload_n 0, 1) := by decide +kernel
theorem dX9_moveSecond_2 : decode cX9_moveSecond 2 = .ok (.bipush 8, 2) := by decide +kernel
theorem dX9_moveSecond_4 : decode cX9_moveSecond 4 = .ok (.lushr, 1) := by decide +kernel
theorem dX9_moveSecond_5 : decode cX9_moveSecond 5 = .ok (.lor, 1) := by decide +kernel
theorem dX9_moveSecond_6 : decode cX9_moveSecond 6 = .ok (.lload_n 0, 1) := by decide +kernel
theorem dX9_moveSecond_7 : decode cX9_moveSecond 7 = .ok (.bipush 16, 2) := by decide +kernel
theorem dX9_moveSecond_9 : decode cX9_moveSecond 9 = .ok (.lushr, 1) := by decide +kernel
theorem dX9_moveSecond_10 : decode cX9_moveSecond 10 = .ok (.lor, 1) := by decide +kernel
theorem dX9_moveSecond_11 : decode cX9_moveSecond 11 = .ok (.lload_n 0, 1) := by decide +kernel
theorem dX9_moveSecond_12 : decode cX9_moveSecond 12 = .ok (.bipush 24, 2) := by decide +kernel
theorem dX9_moveSecond_14 : decode cX9_moveSecond 14 = .ok (.lushr, 1) := by decide +kernel
theorem dX9_moveSecond_15 : decode cX9_moveSecond 15 = .ok (.lor, 1) := by decide +kernel
theorem dX9_moveSecond_16 : decode cX9_moveSecond 16 = .ok (.lload_n 0, 1) := by decide +kernel
theorem dX9_moveSecond_17 : decode cX9_moveSecond 17 = .ok (.bipush 32, 2) := by decide +kernel
theorem dX9_moveSecond_19 : decode cX9_moveSecond 19 = .ok (.lushr, 1) := by decide +kernel
theorem dX9_moveSecond_20 : decode cX9_moveSecond 20 = .ok (.lor, 1) := by decide +kernel
theorem dX9_moveSecond_21 : decode cX9_moveSecond 21 = .ok (.lstore_n 2, 1) := by decide +kernel
theorem dX9_moveSecond_22 : decode cX9_moveSecond 22 = .ok (.lload_n 2, 1) := by decide +kernel
theorem dX9_moveSecond_23 : decode cX9_moveSecond 23 = .ok (.ldc2_w 51, 3) := by decide +kernel
theorem dX9_moveSecond_26 : decode cX9_moveSecond 26 = .ok (.land, 1) := by decide +kernel
theorem dX9_moveSecond_27 : decode cX9_moveSecond 27 = .ok (.ldc2_w 53, 3) := by decide +kernel
theorem dX9_moveSecond_30 : decode cX9_moveSecond 30 = .ok (.lmul, 1) := by decide +kernel
theorem dX9_moveSecond_31 : decode cX9_moveSecond 31 = .ok (.lreturn, 1) := by decide +kernel
theorem dX9_moveOther_0 : decode cX9_moveOther 0 = .ok (.iconst 0, 1) := by decide +kernel
theorem dX9_moveOther_1 : decode cX9_moveOther 1 = .ok (.istore_n 3, 1) := by decide +kernel
theorem dX9_moveOther_2 : decode cX9_moveOther 2 = .ok (.iload_n 3, 1) := by decide +kernel
theorem dX9_moveOther_3 : decode cX9_moveOther 3 = .ok (.iconst 5, 1) := by decide +kernel
theorem dX9_moveOther_4 : decode cX9_moveOther 4 = .ok (.iload_n 1, 1) := by decide +kernel
theorem dX9_moveOther_5 : decode cX9_moveOther 5 = .ok (.imul, 1) := by decide +kernel
theorem dX9_moveOther_6 : decode cX9_moveOther 6 = .ok (.iadd, 1) := by decide +kernel
theorem dX9_moveOther_7 : decode cX9_moveOther 7 = .ok (.iload_n 2, 1) := by decide +kernel
theorem dX9_moveOther_8 : decode cX9_moveOther 8 = .ok (.if_icmp .gt 103, 3) := by decide +kernel
theorem dX9_moveOther_11 : decode cX9_moveOther 11 = .ok (.iload_n 3, 1) := by decide +kernel
theorem dX9_moveOther_12 : decode cX9_moveOther 12 = .ok (.istore 4, 2) := by decide +kernel
theorem dX9_moveOther_14 : decode cX9_moveOther 14 = .ok (.iload 4, 2) := by decide +kernel
theorem dX9_moveOther_16 : decode cX9_moveOther 16 = .ok (.iload_n 3, 1) := by decide +kernel
theorem dX9_moveOther_17 : decode cX9_moveOther 17 = .ok (.iload_n 1, 1) := by decide +kernel
theorem dX9_moveOther_18 : decode cX9_moveOther 18 = .ok (.iadd, 1) := by decide +kernel
theorem dX9_moveOther_19 : decode cX9_moveOther 19 = .ok (.if_icmp .ge 83, 3) := by decide +kernel
theorem dX9_moveOther_22 : decode cX9_moveOther 22 = .ok (.lconst 0, 1) := by decide +kernel
theorem dX9_moveOther_23 : decode cX9_moveOther 23 = .ok (.lstore 5, 2) := by decide +kernel
theorem dX9_moveOther_25 : decode cX9_moveOther 25 = .ok (.iconst 0, 1) := by decide +kernel
theorem dX9_moveOther_26 : decode cX9_moveOther 26 = .ok (.istore 7, 2) := by decide +kernel
theorem dX9_moveOther_28 : decode cX9_moveOther 28 = .ok (.iload 7, 2) := by decide +kernel
theorem dX9_moveOther_30 : decode cX9_moveOther 30 = .ok (.iconst 5, 1) := by decide +kernel
theorem dX9_moveOther_31 : decode cX9_moveOther 31 = .ok (.if_icmp .ge 26, 3) := by decide +kernel
theorem dX9_moveOther_34 : decode cX9_moveOther 34 = .ok (.lload 5, 2) := by decide +kernel
theorem dX9_moveOther_36 : decode cX9_moveOther 36 = .ok (.aload_n 0, 1) := by decide +kernel
theorem dX9_moveOther_37 : decode cX9_moveOther 37 = .ok (.getfield 11, 3) := by decide +kernel
theorem dX9_moveOther_40 : decode cX9_moveOther 40 = .ok (.iload 4, 2) := by decide +kernel
theorem dX9_moveOther_42 : decode cX9_moveOther 42 = .ok (.iload 7, 2) := by decide +kernel
theorem dX9_moveOther_44 : decode cX9_moveOther 44 = .ok (.iload_n 1, 1) := by decide +kernel
theorem dX9_moveOther_45 : decode cX9_moveOther 45 = .ok (.imul, 1) := by decide +kernel
theorem dX9_moveOther_46 : decode cX9_moveOther 46 = .ok (.iadd, 1) := by decide +kernel
theorem dX9_moveOther_47 : decode cX9_moveOther 47 = .ok (.laload, 1) := by decide +kernel
theorem dX9_moveOther_48 : decode cX9_moveOther 48 = .ok (.lor, 1) := by decide +kernel
theorem dX9_moveOther_49 : decode cX9_moveOther 49 = .ok (.lstore 5, 2) := by decide +kernel
theorem dX9_moveOther_51 : decode cX9_moveOther 51 = .ok (.iinc 7 1, 3) := by decide +kernel
theorem dX9_moveOther_54 : decode cX9_moveOther 54 = .ok (.goto (-26), 3) := by decide +kernel
theorem dX9_moveOther_57 : decode cX9_moveOther 57 = .ok (.iconst 0, 1) := by decide +kernel
theorem dX9_moveOther_58 : decode cX9_moveOther 58 = .ok (.istore 7, 2) := by decide +kernel
theorem dX9_moveOther_60 : decode cX9_moveOther 60 = .ok (.iload 7, 2) := by decide +kernel
theorem dX9_moveOther_62 : decode cX9_moveOther 62 = .ok (.iconst 5, 1) := by decide +kernel
theorem dX9_moveOther_63 : decode cX9_moveOther 63 = .ok (.if_icmp .ge 33, 3) := by decide +kernel
theorem dX9_moveOther_66 : decode cX9_moveOther 66 = .ok (.lload 5, 2) := by decide +kernel
theorem dX9_moveOther_68 : decode cX9_moveOther 68 = .ok (.lconst 0, 1) := by decide +kernel
theorem dX9_moveOther_69 : decode cX9_moveOther 69 = .ok (.lcmp, 1) := by decide +kernel
theorem dX9_moveOther_70 : decode cX9_moveOther 70 = .ok (.ifCond .eq 26, 3) := by decide +kernel
theorem dX9_moveOther_73 : decode cX9_moveOther 73 = .ok (.aload_n 0, 1) := by decide +kernel
theorem dX9_moveOther_74 : decode cX9_moveOther 74 = .ok (.getfield 17, 3) := by decide +kernel
theorem dX9_moveOther_77 : decode cX9_moveOther 77 = .ok (.iload 4, 2) := by decide +kernel
theorem dX9_moveOther_79 : decode cX9_moveOther 79 = .ok (.iload 7, 2) := by decide +kernel
theorem dX9_moveOther_81 : decode cX9_moveOther 81 = .ok (.iload_n 1, 1) := by decide +kernel
theorem dX9_moveOther_82 : decode cX9_moveOther 82 = .ok (.imul, 1) := by decide +kernel
theorem dX9_moveOther_83 : decode cX9_moveOther 83 = .ok (.iadd, 1) := by decide +kernel
theorem dX9_moveOther_84 : decode cX9_moveOther 84 = .ok (.dup2, 1) := by decide +kernel
theorem dX9_moveOther_85 : decode cX9_moveOther 85 = .ok (.laload, 1) := by decide +kernel
theorem dX9_moveOther_86 : decode cX9_moveOther 86 = .ok (.lload 5, 2) := by decide +kernel
theorem dX9_moveOther_88 : decode cX9_moveOther 88 = .ok (.lor, 1) := by decide +kernel
theorem dX9_moveOther_89 : decode cX9_moveOther 89 = .ok (.lastore, 1) := by decide +kernel
theorem dX9_moveOther_90 : decode cX9_moveOther 90 = .ok (.iinc 7 1, 3) := by decide +kernel
theorem dX9_moveOther_93 : decode cX9_moveOther 93 = .ok (.goto (-33), 3) := by decide +kernel
theorem dX9_moveOther_96 : decode cX9_moveOther 96 = .ok (.iinc 4 1, 3) := by decide +kernel
theorem dX9_moveOther_99 : decode cX9_moveOther 99 = .ok (.goto (-85), 3) := by decide +kernel
theorem dX9_moveOther_102 : decode cX9_moveOther 102 = .ok (.iload_n 3, 1) := by decide +kernel
theorem dX9_moveOther_103 : decode cX9_moveOther 103 = .ok (.iconst 5, 1) := by decide +kernel
theorem dX9_moveOther_104 : decode cX9_moveOther 104 = .ok (.iload_n 1, 1) := by decide +kernel
theorem dX9_moveOther_105 : decode cX9_moveOther 105 = .ok (.imul, 1) := by decide +kernel
theorem dX9_moveOther_106 : decode cX9_moveOther 106 = .ok (.iadd, 1) := by decide +kernel
theorem dX9_moveOther_107 : decode cX9_moveOther 107 = .ok (.istore_n 3, 1) := by decide +kernel
theorem dX9_moveOther_108 : decode cX9_moveOther 108 = .ok (.goto (-106), 3) := by decide +kernel
theorem dX9_moveOther_111 : decode cX9_moveOther 111 = .ok (.return_, 1) := by decide +kernel
theorem dX9_goOneTrip_0 : decode cX9_goOneTrip 0 = .ok (.iconst 0, 1) := by decide +kernel
theorem dX9_goOneTrip_1 : decode cX9_goOneTrip 1 = .ok (.istore_n 3, 1) := by decide +kernel
theorem dX9_goOneTrip_2 : decode cX9_goOneTrip 2 = .ok (.iload_n 3, 1) := by decide +kernel
theorem dX9_goOneTrip_3 : decode cX9_goOneTrip 3 = .ok (.iload_n 2, 1) := by decide +kernel
theorem dX9_goOneTrip_4 : decode cX9_goOneTrip 4 = .ok (.if_icmp .ge 49, 3) := by decide +kernel
theorem dX9_goOneTrip_7 : decode cX9_goOneTrip 7 = .ok (.aload_n 0, 1) := by decide +kernel
theorem dX9_goOneTrip_8 : decode cX9_goOneTrip 8 = .ok (.getfield 17, 3) := by decide +kernel
theorem dX9_goOneTrip_11 : decode cX9_goOneTrip 11 = .ok (.iload_n 3, 1) := by decide +kernel
theorem dX9_goOneTrip_12 : decode cX9_goOneTrip 12 = .ok (.aload_n 0, 1) := by decide +kernel
theorem dX9_goOneTrip_13 : decode cX9_goOneTrip 13 = .ok (.getfield 11, 3) := by decide +kernel
theorem dX9_goOneTrip_16 : decode cX9_goOneTrip 16 = .ok (.iload_n 3, 1) := by decide +kernel
theorem dX9_goOneTrip_17 : decode cX9_goOneTrip 17 = .ok (.laload, 1) := by decide +kernel
theorem dX9_goOneTrip_18 : decode cX9_goOneTrip 18 = .ok (.lconst 0, 1) := by decide +kernel
theorem dX9_goOneTrip_19 : decode cX9_goOneTrip 19 = .ok (.lcmp, 1) := by decide +kernel
theorem dX9_goOneTrip_20 : decode cX9_goOneTrip 20 = .ok (.ifCond .ne 7, 3) := by decide +kernel
theorem dX9_goOneTrip_23 : decode cX9_goOneTrip 23 = .ok (.lconst 0, 1) := by decide +kernel
theorem dX9_goOneTrip_24 : decode cX9_goOneTrip 24 = .ok (.goto 22, 3) := by decide +kernel
theorem dX9_goOneTrip_27 : decode cX9_goOneTrip 27 = .ok (.aload_n 0, 1) := by decide +kernel
theorem dX9_goOneTrip_28 : decode cX9_goOneTrip 28 = .ok (.getfield 11, 3) := by decide +kernel
theorem dX9_goOneTrip_31 : decode cX9_goOneTrip 31 = .ok (.iload_n 3, 1) := by decide +kernel
theorem dX9_goOneTrip_32 : decode cX9_goOneTrip 32 = .ok (.laload, 1) := by decide +kernel
theorem dX9_goOneTrip_33 : decode cX9_goOneTrip 33 = .ok (.invokestatic 34, 3) := by decide +kernel
theorem dX9_goOneTrip_36 : decode cX9_goOneTrip 36 = .ok (.aload_n 0, 1) := by decide +kernel
theorem dX9_goOneTrip_37 : decode cX9_goOneTrip 37 = .ok (.getfield 11, 3) := by decide +kernel
theorem dX9_goOneTrip_40 : decode cX9_goOneTrip 40 = .ok (.iload_n 3, 1) := by decide +kernel
theorem dX9_goOneTrip_41 : decode cX9_goOneTrip 41 = .ok (.laload, 1) := by decide +kernel
theorem dX9_goOneTrip_42 : decode cX9_goOneTrip 42 = .ok (.invokestatic 38, 3) := by decide +kernel
theorem dX9_goOneTrip_45 : decode cX9_goOneTrip 45 = .ok (.lor, 1) := by decide +kernel
theorem dX9_goOneTrip_46 : decode cX9_goOneTrip 46 = .ok (.lastore, 1) := by decide +kernel
theorem dX9_goOneTrip_47 : decode cX9_goOneTrip 47 = .ok (.iinc 3 1, 3) := by decide +kernel
theorem dX9_goOneTrip_50 : decode cX9_goOneTrip 50 = .ok (.goto (-48), 3) := by decide +kernel
theorem dX9_goOneTrip_53 : decode cX9_goOneTrip 53 = .ok (.iconst 1, 1) := by decide +kernel
theorem dX9_goOneTrip_54 : decode cX9_goOneTrip 54 = .ok (.istore_n 3, 1) := by decide +kernel
theorem dX9_goOneTrip_55 : decode cX9_goOneTrip 55 = .ok (.iload_n 3, 1) := by decide +kernel
theorem dX9_goOneTrip_56 : decode cX9_goOneTrip 56 = .ok (.iload_n 2, 1) := by decide +kernel
theorem dX9_goOneTrip_57 : decode cX9_goOneTrip 57 = .ok (.if_icmp .ge 16, 3) := by decide +kernel
theorem dX9_goOneTrip_60 : decode cX9_goOneTrip 60 = .ok (.aload_n 0, 1) := by decide +kernel
theorem dX9_goOneTrip_61 : decode cX9_goOneTrip 61 = .ok (.iload_n 3, 1) := by decide +kernel
theorem dX9_goOneTrip_62 : decode cX9_goOneTrip 62 = .ok (.iload_n 2, 1) := by decide +kernel
theorem dX9_goOneTrip_63 : decode cX9_goOneTrip 63 = .ok (.invokevirtual 41, 3) := by decide +kernel
theorem dX9_goOneTrip_66 : decode cX9_goOneTrip 66 = .ok (.iload_n 3, 1) := by decide +kernel
theorem dX9_goOneTrip_67 : decode cX9_goOneTrip 67 = .ok (.iconst 5, 1) := by decide +kernel
theorem dX9_goOneTrip_68 : decode cX9_goOneTrip 68 = .ok (.imul, 1) := by decide +kernel
theorem dX9_goOneTrip_69 : decode cX9_goOneTrip 69 = .ok (.istore_n 3, 1) := by decide +kernel
theorem dX9_goOneTrip_70 : decode cX9_goOneTrip 70 = .ok (.goto (-15), 3) := by decide +kernel
theorem dX9_goOneTrip_73 : decode cX9_goOneTrip 73 = .ok (.lconst 0, 1) := by decide +kernel
theorem dX9_goOneTrip_74 : decode cX9_goOneTrip 74 = .ok (.lstore_n 3, 1) := by decide +kernel
theorem dX9_goOneTrip_75 : decode cX9_goOneTrip 75 = .ok (.iconst 0, 1) := by decide +kernel
theorem dX9_goOneTrip_76 : decode cX9_goOneTrip 76 = .ok (.istore 5, 2) := by decide +kernel
theorem dX9_goOneTrip_78 : decode cX9_goOneTrip 78 = .ok (.iload 5, 2) := by decide +kernel
theorem dX9_goOneTrip_80 : decode cX9_goOneTrip 80 = .ok (.iload_n 2, 1) := by decide +kernel
theorem dX9_goOneTrip_81 : decode cX9_goOneTrip 81 = .ok (.if_icmp .ge 61, 3) := by decide +kernel
theorem dX9_goOneTrip_84 : decode cX9_goOneTrip 84 = .ok (.aload_n 0, 1) := by decide +kernel
theorem dX9_goOneTrip_85 : decode cX9_goOneTrip 85 = .ok (.getfield 17, 3) := by decide +kernel
theorem dX9_goOneTrip_88 : decode cX9_goOneTrip 88 = .ok (.iload 5, 2) := by decide +kernel
theorem dX9_goOneTrip_90 : decode cX9_goOneTrip 90 = .ok (.laload, 1) := by decide +kernel
theorem dX9_goOneTrip_91 : decode cX9_goOneTrip 91 = .ok (.aload_n 1, 1) := by decide +kernel
theorem dX9_goOneTrip_92 : decode cX9_goOneTrip 92 = .ok (.iload 5, 2) := by decide +kernel
theorem dX9_goOneTrip_94 : decode cX9_goOneTrip 94 = .ok (.laload, 1) := by decide +kernel
theorem dX9_goOneTrip_95 : decode cX9_goOneTrip 95 = .ok (.land, 1) := by decide +kernel
theorem dX9_goOneTrip_96 : decode cX9_goOneTrip 96 = .ok (.aload_n 0, 1) := by decide +kernel
theorem dX9_goOneTrip_97 : decode cX9_goOneTrip 97 = .ok (.getfield 20, 3) := by decide +kernel
theorem dX9_goOneTrip_100 : decode cX9_goOneTrip 100 = .ok (.iload 5, 2) := by decide +kernel
theorem dX9_goOneTrip_102 : decode cX9_goOneTrip 102 = .ok (.laload, 1) := by decide +kernel
theorem dX9_goOneTrip_103 : decode cX9_goOneTrip 103 = .ok (.ldc2_w 45, 3) := by decide +kernel
theorem dX9_goOneTrip_106 : decode cX9_goOneTrip 106 = .ok (.lxor, 1) := by decide +kernel
theorem dX9_goOneTrip_107 : decode cX9_goOneTrip 107 = .ok (.land, 1) := by decide +kernel
theorem dX9_goOneTrip_108 : decode cX9_goOneTrip 108 = .ok (.lstore 6, 2) := by decide +kernel
theorem dX9_goOneTrip_110 : decode cX9_goOneTrip 110 = .ok (.aload_n 0, 1) := by decide +kernel
theorem dX9_goOneTrip_111 : decode cX9_goOneTrip 111 = .ok (.getfield 11, 3) := by decide +kernel
theorem dX9_goOneTrip_114 : decode cX9_goOneTrip 114 = .ok (.iload 5, 2) := by decide +kernel
theorem dX9_goOneTrip_116 : decode cX9_goOneTrip 116 = .ok (.lload 6, 2) := by decide +kernel
theorem dX9_goOneTrip_118 : decode cX9_goOneTrip 118 = .ok (.lastore, 1) := by decide +kernel
theorem dX9_goOneTrip_119 : decode cX9_goOneTrip 119 = .ok (.aload_n 0, 1) := by decide +kernel
theorem dX9_goOneTrip_120 : decode cX9_goOneTrip 120 = .ok (.getfield 20, 3) := by decide +kernel
theorem dX9_goOneTrip_123 : decode cX9_goOneTrip 123 = .ok (.iload 5, 2) := by decide +kernel
theorem dX9_goOneTrip_125 : decode cX9_goOneTrip 125 = .ok (.dup2, 1) := by decide +kernel
theorem dX9_goOneTrip_126 : decode cX9_goOneTrip 126 = .ok (.laload, 1) := by decide +kernel
theorem dX9_goOneTrip_127 : decode cX9_goOneTrip 127 = .ok (.lload 6, 2) := by decide +kernel
theorem dX9_goOneTrip_129 : decode cX9_goOneTrip 129 = .ok (.lor, 1) := by decide +kernel
theorem dX9_goOneTrip_130 : decode cX9_goOneTrip 130 = .ok (.lastore, 1) := by decide +kernel
theorem dX9_goOneTrip_131 : decode cX9_goOneTrip 131 = .ok (.lload_n 3, 1) := by decide +kernel
theorem dX9_goOneTrip_132 : decode cX9_goOneTrip 132 = .ok (.lload 6, 2) := by decide +kernel
theorem dX9_goOneTrip_134 : decode cX9_goOneTrip 134 = .ok (.lor, 1) := by decide +kernel
theorem dX9_goOneTrip_135 : decode cX9_goOneTrip 135 = .ok (.lstore_n 3, 1) := by decide +kernel
theorem dX9_goOneTrip_136 : decode cX9_goOneTrip 136 = .ok (.iinc 5 1, 3) := by decide +kernel
theorem dX9_goOneTrip_139 : decode cX9_goOneTrip 139 = .ok (.goto (-61), 3) := by decide +kernel
theorem dX9_goOneTrip_142 : decode cX9_goOneTrip 142 = .ok (.lload_n 3, 1) := by decide +kernel
theorem dX9_goOneTrip_143 : decode cX9_goOneTrip 143 = .ok (.lconst 0, 1) := by decide +kernel
theorem dX9_goOneTrip_144 : decode cX9_goOneTrip 144 = .ok (.lcmp, 1) := by decide +kernel
theorem dX9_goOneTrip_145 : decode cX9_goOneTrip 145 = .ok (.ifCond .eq 7, 3) := by decide +kernel
theorem dX9_goOneTrip_148 : decode cX9_goOneTrip 148 = .ok (.iconst 1, 1) := by decide +kernel
theorem dX9_goOneTrip_149 : decode cX9_goOneTrip 149 = .ok (.goto 4, 3) := by decide +kernel
theorem dX9_goOneTrip_152 : decode cX9_goOneTrip 152 = .ok (.iconst 0, 1) := by decide +kernel
theorem dX9_goOneTrip_153 : decode cX9_goOneTrip 153 = .ok (.ireturn, 1) := by decide +kernel
theorem dX9_fewestTrips_0 : decode cX9_fewestTrips 0 = .ok (.iload_n 2, 1) := by decide +kernel
theorem dX9_fewestTrips_1 : decode cX9_fewestTrips 1 = .ok (.iload_n 3, 1) := by decide +kernel
theorem dX9_fewestTrips_2 : decode cX9_fewestTrips 2 = .ok (.if_icmp .ne 5, 3) := by decide +kernel
theorem dX9_fewestTrips_5 : decode cX9_fewestTrips 5 = .ok (.iconst 0, 1) := by decide +kernel
theorem dX9_fewestTrips_6 : decode cX9_fewestTrips 6 = .ok (.ireturn, 1) := by decide +kernel
theorem dX9_fewestTrips_7 : decode cX9_fewestTrips 7 = .ok (.iload_n 2, 1) := by decide +kernel
theorem dX9_fewestTrips_8 : decode cX9_fewestTrips 8 = .ok (.bipush 6, 2) := by decide +kernel
theorem dX9_fewestTrips_10 : decode cX9_fewestTrips 10 = .ok (.ishr, 1) := by decide +kernel
theorem dX9_fewestTrips_11 : decode cX9_fewestTrips 11 = .ok (.istore 5, 2) := by decide +kernel
theorem dX9_fewestTrips_13 : decode cX9_fewestTrips 13 = .ok (.iload_n 3, 1) := by decide +kernel
theorem dX9_fewestTrips_14 : decode cX9_fewestTrips 14 = .ok (.bipush 6, 2) := by decide +kernel
theorem dX9_fewestTrips_16 : decode cX9_fewestTrips 16 = .ok (.ishr, 1) := by decide +kernel
theorem dX9_fewestTrips_17 : decode cX9_fewestTrips 17 = .ok (.istore 6, 2) := by decide +kernel
theorem dX9_fewestTrips_19 : decode cX9_fewestTrips 19 = .ok (.iload 5, 2) := by decide +kernel
theorem dX9_fewestTrips_21 : decode cX9_fewestTrips 21 = .ok (.ifCond .lt 28, 3) := by decide +kernel
theorem dX9_fewestTrips_24 : decode cX9_fewestTrips 24 = .ok (.iload 5, 2) := by decide +kernel
theorem dX9_fewestTrips_26 : decode cX9_fewestTrips 26 = .ok (.sipush 625, 3) := by decide +kernel
theorem dX9_fewestTrips_29 : decode cX9_fewestTrips 29 = .ok (.if_icmp .ge 20, 3) := by decide +kernel
theorem dX9_fewestTrips_32 : decode cX9_fewestTrips 32 = .ok (.iload 6, 2) := by decide +kernel
theorem dX9_fewestTrips_34 : decode cX9_fewestTrips 34 = .ok (.ifCond .lt 15, 3) := by decide +kernel
theorem dX9_fewestTrips_37 : decode cX9_fewestTrips 37 = .ok (.iload 6, 2) := by decide +kernel
theorem dX9_fewestTrips_39 : decode cX9_fewestTrips 39 = .ok (.sipush 625, 3) := by decide +kernel
theorem dX9_fewestTrips_42 : decode cX9_fewestTrips 42 = .ok (.if_icmp .ge 7, 3) := by decide +kernel
theorem dX9_fewestTrips_45 : decode cX9_fewestTrips 45 = .ok (.iconst 1, 1) := by decide +kernel
theorem dX9_fewestTrips_46 : decode cX9_fewestTrips 46 = .ok (.goto 4, 3) := by decide +kernel
theorem dX9_fewestTrips_49 : decode cX9_fewestTrips 49 = .ok (.iconst 0, 1) := by decide +kernel
theorem dX9_fewestTrips_50 : decode cX9_fewestTrips 50 = .ok (.istore 7, 2) := by decide +kernel
theorem dX9_fewestTrips_52 : decode cX9_fewestTrips 52 = .ok (.iload 7, 2) := by decide +kernel
theorem dX9_fewestTrips_54 : decode cX9_fewestTrips 54 = .ok (.ifCond .eq 19, 3) := by decide +kernel
theorem dX9_fewestTrips_57 : decode cX9_fewestTrips 57 = .ok (.aload_n 1, 1) := by decide +kernel
theorem dX9_fewestTrips_58 : decode cX9_fewestTrips 58 = .ok (.iload 6, 2) := by decide +kernel
theorem dX9_fewestTrips_60 : decode cX9_fewestTrips 60 = .ok (.laload, 1) := by decide +kernel
theorem dX9_fewestTrips_61 : decode cX9_fewestTrips 61 = .ok (.iload_n 3, 1) := by decide +kernel
theorem dX9_fewestTrips_62 : decode cX9_fewestTrips 62 = .ok (.bipush 63, 2) := by decide +kernel
theorem dX9_fewestTrips_64 : decode cX9_fewestTrips 64 = .ok (.iand, 1) := by decide +kernel
theorem dX9_fewestTrips_65 : decode cX9_fewestTrips 65 = .ok (.lshr, 1) := by decide +kernel
theorem dX9_fewestTrips_66 : decode cX9_fewestTrips 66 = .ok (.lconst 1, 1) := by decide +kernel
theorem dX9_fewestTrips_67 : decode cX9_fewestTrips 67 = .ok (.land, 1) := by decide +kernel
theorem dX9_fewestTrips_68 : decode cX9_fewestTrips 68 = .ok (.lconst 0, 1) := by decide +kernel
theorem dX9_fewestTrips_69 : decode cX9_fewestTrips 69 = .ok (.lcmp, 1) := by decide +kernel
theorem dX9_fewestTrips_70 : decode cX9_fewestTrips 70 = .ok (.ifCond .ne 6, 3) := by decide +kernel
theorem dX9_fewestTrips_73 : decode cX9_fewestTrips 73 = .ok (.bipush (-2), 2) := by decide +kernel
theorem dX9_fewestTrips_75 : decode cX9_fewestTrips 75 = .ok (.ireturn, 1) := by decide +kernel
theorem dX9_fewestTrips_76 : decode cX9_fewestTrips 76 = .ok (.aload_n 0, 1) := by decide +kernel
theorem dX9_fewestTrips_77 : decode cX9_fewestTrips 77 = .ok (.getfield 11, 3) := by decide +kernel
theorem dX9_fewestTrips_80 : decode cX9_fewestTrips 80 = .ok (.lconst 0, 1) := by decide +kernel
theorem dX9_fewestTrips_81 : decode cX9_fewestTrips 81 = .ok (.invokestatic 23, 3) := by decide +kernel
theorem dX9_fewestTrips_84 : decode cX9_fewestTrips 84 = .ok (.aload_n 0, 1) := by decide +kernel
theorem dX9_fewestTrips_85 : decode cX9_fewestTrips 85 = .ok (.getfield 20, 3) := by decide +kernel
theorem dX9_fewestTrips_88 : decode cX9_fewestTrips 88 = .ok (.lconst 0, 1) := by decide +kernel
theorem dX9_fewestTrips_89 : decode cX9_fewestTrips 89 = .ok (.invokestatic 23, 3) := by decide +kernel
theorem dX9_fewestTrips_92 : decode cX9_fewestTrips 92 = .ok (.aload_n 0, 1) := by decide +kernel
theorem dX9_fewestTrips_93 : decode cX9_fewestTrips 93 = .ok (.getfield 11, 3) := by decide +kernel
theorem dX9_fewestTrips_96 : decode cX9_fewestTrips 96 = .ok (.iload 5, 2) := by decide +kernel
theorem dX9_fewestTrips_98 : decode cX9_fewestTrips 98 = .ok (.lconst 1, 1) := by decide +kernel
theorem dX9_fewestTrips_99 : decode cX9_fewestTrips 99 = .ok (.iload_n 2, 1) := by decide +kernel
theorem dX9_fewestTrips_100 : decode cX9_fewestTrips 100 = .ok (.bipush 63, 2) := by decide +kernel
theorem dX9_fewestTrips_102 : decode cX9_fewestTrips 102 = .ok (.iand, 1) := by decide +kernel
theorem dX9_fewestTrips_103 : decode cX9_fewestTrips 103 = .ok (.lshl, 1) := by decide +kernel
theorem dX9_fewestTrips_104 : decode cX9_fewestTrips 104 = .ok (.lastore, 1) := by decide +kernel
theorem dX9_fewestTrips_105 : decode cX9_fewestTrips 105 = .ok (.aload_n 0, 1) := by decide +kernel
theorem dX9_fewestTrips_106 : decode cX9_fewestTrips 106 = .ok (.getfield 20, 3) := by decide +kernel
theorem dX9_fewestTrips_109 : decode cX9_fewestTrips 109 = .ok (.iload 5, 2) := by decide +kernel
theorem dX9_fewestTrips_111 : decode cX9_fewestTrips 111 = .ok (.aload_n 0, 1) := by decide +kernel
theorem dX9_fewestTrips_112 : decode cX9_fewestTrips 112 = .ok (.getfield 11, 3) := by decide +kernel
theorem dX9_fewestTrips_115 : decode cX9_fewestTrips 115 = .ok (.iload 5, 2) := by decide +kernel
theorem dX9_fewestTrips_117 : decode cX9_fewestTrips 117 = .ok (.laload, 1) := by decide +kernel
theorem dX9_fewestTrips_118 : decode cX9_fewestTrips 118 = .ok (.lastore, 1) := by decide +kernel
theorem dX9_fewestTrips_119 : decode cX9_fewestTrips 119 = .ok (.iconst 1, 1) := by decide +kernel
theorem dX9_fewestTrips_120 : decode cX9_fewestTrips 120 = .ok (.istore 8, 2) := by decide +kernel
theorem dX9_fewestTrips_122 : decode cX9_fewestTrips 122 = .ok (.iconst 2, 1) := by decide +kernel
theorem dX9_fewestTrips_123 : decode cX9_fewestTrips 123 = .ok (.istore 9, 2) := by decide +kernel
theorem dX9_fewestTrips_125 : decode cX9_fewestTrips 125 = .ok (.iload 9, 2) := by decide +kernel
theorem dX9_fewestTrips_127 : decode cX9_fewestTrips 127 = .ok (.iload 4, 2) := by decide +kernel
theorem dX9_fewestTrips_129 : decode cX9_fewestTrips 129 = .ok (.if_icmp .ge 22, 3) := by decide +kernel
theorem dX9_fewestTrips_132 : decode cX9_fewestTrips 132 = .ok (.iload 9, 2) := by decide +kernel
theorem dX9_fewestTrips_134 : decode cX9_fewestTrips 134 = .ok (.bipush 6, 2) := by decide +kernel
theorem dX9_fewestTrips_136 : decode cX9_fewestTrips 136 = .ok (.if_icmp .ge 15, 3) := by decide +kernel
theorem dX9_fewestTrips_139 : decode cX9_fewestTrips 139 = .ok (.iload 8, 2) := by decide +kernel
theorem dX9_fewestTrips_141 : decode cX9_fewestTrips 141 = .ok (.iconst 5, 1) := by decide +kernel
theorem dX9_fewestTrips_142 : decode cX9_fewestTrips 142 = .ok (.imul, 1) := by decide +kernel
theorem dX9_fewestTrips_143 : decode cX9_fewestTrips 143 = .ok (.istore 8, 2) := by decide +kernel
theorem dX9_fewestTrips_145 : decode cX9_fewestTrips 145 = .ok (.iinc 9 1, 3) := by decide +kernel
theorem dX9_fewestTrips_148 : decode cX9_fewestTrips 148 = .ok (.goto (-23), 3) := by decide +kernel
theorem dX9_fewestTrips_151 : decode cX9_fewestTrips 151 = .ok (.iconst 1, 1) := by decide +kernel
theorem dX9_fewestTrips_152 : decode cX9_fewestTrips 152 = .ok (.istore 9, 2) := by decide +kernel
theorem dX9_fewestTrips_154 : decode cX9_fewestTrips 154 = .ok (.iload 9, 2) := by decide +kernel
theorem dX9_fewestTrips_156 : decode cX9_fewestTrips 156 = .ok (.ldc 29, 2) := by decide +kernel
theorem dX9_fewestTrips_158 : decode cX9_fewestTrips 158 = .ok (.if_icmp .gt 44, 3) := by decide +kernel
theorem dX9_fewestTrips_161 : decode cX9_fewestTrips 161 = .ok (.aload_n 0, 1) := by decide +kernel
theorem dX9_fewestTrips_162 : decode cX9_fewestTrips 162 = .ok (.aload_n 1, 1) := by decide +kernel
theorem dX9_fewestTrips_163 : decode cX9_fewestTrips 163 = .ok (.iload 8, 2) := by decide +kernel
theorem dX9_fewestTrips_165 : decode cX9_fewestTrips 165 = .ok (.invokevirtual 30, 3) := by decide +kernel
theorem dX9_fewestTrips_168 : decode cX9_fewestTrips 168 = .ok (.ifCond .ne 6, 3) := by decide +kernel
theorem dX9_fewestTrips_171 : decode cX9_fewestTrips 171 = .ok (.bipush (-2), 2) := by decide +kernel
theorem dX9_fewestTrips_173 : decode cX9_fewestTrips 173 = .ok (.ireturn, 1) := by decide +kernel
theorem dX9_fewestTrips_174 : decode cX9_fewestTrips 174 = .ok (.aload_n 0, 1) := by decide +kernel
theorem dX9_fewestTrips_175 : decode cX9_fewestTrips 175 = .ok (.getfield 11, 3) := by decide +kernel
theorem dX9_fewestTrips_178 : decode cX9_fewestTrips 178 = .ok (.iload 6, 2) := by decide +kernel
theorem dX9_fewestTrips_180 : decode cX9_fewestTrips 180 = .ok (.laload, 1) := by decide +kernel
theorem dX9_fewestTrips_181 : decode cX9_fewestTrips 181 = .ok (.iload_n 3, 1) := by decide +kernel
theorem dX9_fewestTrips_182 : decode cX9_fewestTrips 182 = .ok (.bipush 63, 2) := by decide +kernel
theorem dX9_fewestTrips_184 : decode cX9_fewestTrips 184 = .ok (.iand, 1) := by decide +kernel
theorem dX9_fewestTrips_185 : decode cX9_fewestTrips 185 = .ok (.lshr, 1) := by decide +kernel
theorem dX9_fewestTrips_186 : decode cX9_fewestTrips 186 = .ok (.lconst 1, 1) := by decide +kernel
theorem dX9_fewestTrips_187 : decode cX9_fewestTrips 187 = .ok (.land, 1) := by decide +kernel
theorem dX9_fewestTrips_188 : decode cX9_fewestTrips 188 = .ok (.lconst 1, 1) := by decide +kernel
theorem dX9_fewestTrips_189 : decode cX9_fewestTrips 189 = .ok (.lcmp, 1) := by decide +kernel
theorem dX9_fewestTrips_190 : decode cX9_fewestTrips 190 = .ok (.ifCond .ne 6, 3) := by decide +kernel
theorem dX9_fewestTrips_193 : decode cX9_fewestTrips 193 = .ok (.iload 9, 2) := by decide +kernel
theorem dX9_fewestTrips_195 : decode cX9_fewestTrips 195 = .ok (.ireturn, 1) := by decide +kernel
theorem dX9_fewestTrips_196 : decode cX9_fewestTrips 196 = .ok (.iinc 9 1, 3) := by decide +kernel
theorem dX9_fewestTrips_199 : decode cX9_fewestTrips 199 = .ok (.goto (-45), 3) := by decide +kernel
theorem dX9_fewestTrips_202 : decode cX9_fewestTrips 202 = .ok (.bipush (-2), 2) := by decide +kernel
theorem dX9_fewestTrips_204 : decode cX9_fewestTrips 204 = .ok (.ireturn, 1) := by decide +kernel
