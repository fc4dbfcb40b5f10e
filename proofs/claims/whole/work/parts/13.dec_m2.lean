theorem dX11_work_0 : decode cX11_work 0 = .ok (.aload_n 0, 1) := by decide +kernel
theorem dX11_work_1 : decode cX11_work 1 = .ok (.iload_n 1, 1) := by decide +kernel
theorem dX11_work_2 : decode cX11_work 2 = .ok (.invokevirtual 398, 3) := by decide +kernel
theorem dX11_work_5 : decode cX11_work 5 = .ok (.ifCond .ne 5, 3) := by decide +kernel
theorem dX11_work_8 : decode cX11_work 8 = .ok (.iconst (-1), 1) := by decide +kernel
theorem dX11_work_9 : decode cX11_work 9 = .ok (.ireturn, 1) := by decide +kernel
theorem dX11_work_10 : decode cX11_work 10 = .ok (.aload_n 0, 1) := by decide +kernel
theorem dX11_work_11 : decode cX11_work 11 = .ok (.invokevirtual 388, 3) := by decide +kernel
theorem dX11_work_14 : decode cX11_work 14 = .ok (.iload_n 2, 1) := by decide +kernel
theorem dX11_work_15 : decode cX11_work 15 = .ok (.tableswitch 160 0 7 #[45, 51, 58, 73, 88, 88, 88, 102], 45) := by decide +kernel
theorem dX11_work_60 : decode cX11_work 60 = .ok (.aload_n 0, 1) := by decide +kernel
theorem dX11_work_61 : decode cX11_work 61 = .ok (.iload_n 1, 1) := by decide +kernel
theorem dX11_work_62 : decode cX11_work 62 = .ok (.invokevirtual 343, 3) := by decide +kernel
theorem dX11_work_65 : decode cX11_work 65 = .ok (.ireturn, 1) := by decide +kernel
theorem dX11_work_66 : decode cX11_work 66 = .ok (.aload_n 0, 1) := by decide +kernel
theorem dX11_work_67 : decode cX11_work 67 = .ok (.getfield 137, 3) := by decide +kernel
theorem dX11_work_70 : decode cX11_work 70 = .ok (.iload_n 1, 1) := by decide +kernel
theorem dX11_work_71 : decode cX11_work 71 = .ok (.iaload, 1) := by decide +kernel
theorem dX11_work_72 : decode cX11_work 72 = .ok (.ireturn, 1) := by decide +kernel
theorem dX11_work_73 : decode cX11_work 73 = .ok (.aload_n 0, 1) := by decide +kernel
theorem dX11_work_74 : decode cX11_work 74 = .ok (.getfield 67, 3) := by decide +kernel
theorem dX11_work_77 : decode cX11_work 77 = .ok (.bipush 6, 2) := by decide +kernel
theorem dX11_work_79 : decode cX11_work 79 = .ok (.aload_n 0, 1) := by decide +kernel
theorem dX11_work_80 : decode cX11_work 80 = .ok (.getfield 251, 3) := by decide +kernel
theorem dX11_work_83 : decode cX11_work 83 = .ok (.imul, 1) := by decide +kernel
theorem dX11_work_84 : decode cX11_work 84 = .ok (.iload_n 1, 1) := by decide +kernel
theorem dX11_work_85 : decode cX11_work 85 = .ok (.iadd, 1) := by decide +kernel
theorem dX11_work_86 : decode cX11_work 86 = .ok (.iaload, 1) := by decide +kernel
theorem dX11_work_87 : decode cX11_work 87 = .ok (.ireturn, 1) := by decide +kernel
theorem dX11_work_88 : decode cX11_work 88 = .ok (.aload_n 0, 1) := by decide +kernel
theorem dX11_work_89 : decode cX11_work 89 = .ok (.getfield 70, 3) := by decide +kernel
theorem dX11_work_92 : decode cX11_work 92 = .ok (.bipush 6, 2) := by decide +kernel
theorem dX11_work_94 : decode cX11_work 94 = .ok (.aload_n 0, 1) := by decide +kernel
theorem dX11_work_95 : decode cX11_work 95 = .ok (.getfield 251, 3) := by decide +kernel
theorem dX11_work_98 : decode cX11_work 98 = .ok (.imul, 1) := by decide +kernel
theorem dX11_work_99 : decode cX11_work 99 = .ok (.iload_n 1, 1) := by decide +kernel
theorem dX11_work_100 : decode cX11_work 100 = .ok (.iadd, 1) := by decide +kernel
theorem dX11_work_101 : decode cX11_work 101 = .ok (.iaload, 1) := by decide +kernel
theorem dX11_work_102 : decode cX11_work 102 = .ok (.ireturn, 1) := by decide +kernel
theorem dX11_work_103 : decode cX11_work 103 = .ok (.aload_n 0, 1) := by decide +kernel
theorem dX11_work_104 : decode cX11_work 104 = .ok (.getfield 137, 3) := by decide +kernel
theorem dX11_work_107 : decode cX11_work 107 = .ok (.bipush 6, 2) := by decide +kernel
theorem dX11_work_109 : decode cX11_work 109 = .ok (.iload_n 2, 1) := by decide +kernel
theorem dX11_work_110 : decode cX11_work 110 = .ok (.iconst 3, 1) := by decide +kernel
theorem dX11_work_111 : decode cX11_work 111 = .ok (.isub, 1) := by decide +kernel
theorem dX11_work_112 : decode cX11_work 112 = .ok (.imul, 1) := by decide +kernel
theorem dX11_work_113 : decode cX11_work 113 = .ok (.iload_n 1, 1) := by decide +kernel
theorem dX11_work_114 : decode cX11_work 114 = .ok (.iadd, 1) := by decide +kernel
theorem dX11_work_115 : decode cX11_work 115 = .ok (.iaload, 1) := by decide +kernel
theorem dX11_work_116 : decode cX11_work 116 = .ok (.ireturn, 1) := by decide +kernel
theorem dX11_work_117 : decode cX11_work 117 = .ok (.iconst 0, 1) := by decide +kernel
theorem dX11_work_118 : decode cX11_work 118 = .ok (.istore_n 3, 1) := by decide +kernel
theorem dX11_work_119 : decode cX11_work 119 = .ok (.iconst 0, 1) := by decide +kernel
theorem dX11_work_120 : decode cX11_work 120 = .ok (.istore 4, 2) := by decide +kernel
theorem dX11_work_122 : decode cX11_work 122 = .ok (.iload 4, 2) := by decide +kernel
theorem dX11_work_124 : decode cX11_work 124 = .ok (.aload_n 0, 1) := by decide +kernel
theorem dX11_work_125 : decode cX11_work 125 = .ok (.getfield 73, 3) := by decide +kernel
theorem dX11_work_128 : decode cX11_work 128 = .ok (.aload_n 0, 1) := by decide +kernel
theorem dX11_work_129 : decode cX11_work 129 = .ok (.getfield 251, 3) := by decide +kernel
theorem dX11_work_132 : decode cX11_work 132 = .ok (.iaload, 1) := by decide +kernel
theorem dX11_work_133 : decode cX11_work 133 = .ok (.if_icmp .ge 35, 3) := by decide +kernel
theorem dX11_work_136 : decode cX11_work 136 = .ok (.aload_n 0, 1) := by decide +kernel
theorem dX11_work_137 : decode cX11_work 137 = .ok (.getfield 76, 3) := by decide +kernel
theorem dX11_work_140 : decode cX11_work 140 = .ok (.bipush 6, 2) := by decide +kernel
theorem dX11_work_142 : decode cX11_work 142 = .ok (.aload_n 0, 1) := by decide +kernel
theorem dX11_work_143 : decode cX11_work 143 = .ok (.getfield 251, 3) := by decide +kernel
theorem dX11_work_146 : decode cX11_work 146 = .ok (.imul, 1) := by decide +kernel
theorem dX11_work_147 : decode cX11_work 147 = .ok (.iload 4, 2) := by decide +kernel
theorem dX11_work_149 : decode cX11_work 149 = .ok (.iadd, 1) := by decide +kernel
theorem dX11_work_150 : decode cX11_work 150 = .ok (.iaload, 1) := by decide +kernel
theorem dX11_work_151 : decode cX11_work 151 = .ok (.iload_n 1, 1) := by decide +kernel
theorem dX11_work_152 : decode cX11_work 152 = .ok (.if_icmp .ne 10, 3) := by decide +kernel
theorem dX11_work_155 : decode cX11_work 155 = .ok (.iload_n 3, 1) := by decide +kernel
theorem dX11_work_156 : decode cX11_work 156 = .ok (.iconst 1, 1) := by decide +kernel
theorem dX11_work_157 : decode cX11_work 157 = .ok (.iload 4, 2) := by decide +kernel
theorem dX11_work_159 : decode cX11_work 159 = .ok (.ishl, 1) := by decide +kernel
theorem dX11_work_160 : decode cX11_work 160 = .ok (.ior, 1) := by decide +kernel
theorem dX11_work_161 : decode cX11_work 161 = .ok (.istore_n 3, 1) := by decide +kernel
theorem dX11_work_162 : decode cX11_work 162 = .ok (.iinc 4 1, 3) := by decide +kernel
theorem dX11_work_165 : decode cX11_work 165 = .ok (.goto (-43), 3) := by decide +kernel
theorem dX11_work_168 : decode cX11_work 168 = .ok (.iload_n 3, 1) := by decide +kernel
theorem dX11_work_169 : decode cX11_work 169 = .ok (.aload_n 0, 1) := by decide +kernel
theorem dX11_work_170 : decode cX11_work 170 = .ok (.invokevirtual 372, 3) := by decide +kernel
theorem dX11_work_173 : decode cX11_work 173 = .ok (.iand, 1) := by decide +kernel
theorem dX11_work_174 : decode cX11_work 174 = .ok (.ireturn, 1) := by decide +kernel
theorem dX11_work_175 : decode cX11_work 175 = .ok (.iconst (-1), 1) := by decide +kernel
theorem dX11_work_176 : decode cX11_work 176 = .ok (.ireturn, 1) := by decide +kernel
theorem dX11_isPair_0 : decode cX11_isPair 0 = .ok (.aload_n 0, 1) := by decide +kernel
theorem dX11_isPair_1 : decode cX11_isPair 1 = .ok (.iload_n 1, 1) := by decide +kernel
theorem dX11_isPair_2 : decode cX11_isPair 2 = .ok (.invokevirtual 398, 3) := by decide +kernel
theorem dX11_isPair_5 : decode cX11_isPair 5 = .ok (.ifCond .eq 15, 3) := by decide +kernel
theorem dX11_isPair_8 : decode cX11_isPair 8 = .ok (.aload_n 0, 1) := by decide +kernel
theorem dX11_isPair_9 : decode cX11_isPair 9 = .ok (.iload_n 2, 1) := by decide +kernel
theorem dX11_isPair_10 : decode cX11_isPair 10 = .ok (.invokevirtual 385, 3) := by decide +kernel
theorem dX11_isPair_13 : decode cX11_isPair 13 = .ok (.ifCond .eq 7, 3) := by decide +kernel
theorem dX11_isPair_16 : decode cX11_isPair 16 = .ok (.iconst 1, 1) := by decide +kernel
theorem dX11_isPair_17 : decode cX11_isPair 17 = .ok (.goto 4, 3) := by decide +kernel
theorem dX11_isPair_20 : decode cX11_isPair 20 = .ok (.iconst 0, 1) := by decide +kernel
theorem dX11_isPair_21 : decode cX11_isPair 21 = .ok (.ireturn, 1) := by decide +kernel
theorem dX11_may_0 : decode cX11_may 0 = .ok (.aload_n 0, 1) := by decide +kernel
theorem dX11_may_1 : decode cX11_may 1 = .ok (.iload_n 1, 1) := by decide +kernel
theorem dX11_may_2 : decode cX11_may 2 = .ok (.iload_n 2, 1) := by decide +kernel
theorem dX11_may_3 : decode cX11_may 3 = .ok (.invokevirtual 401, 3) := by decide +kernel
theorem dX11_may_6 : decode cX11_may 6 = .ok (.ifCond .ne 5, 3) := by decide +kernel
theorem dX11_may_9 : decode cX11_may 9 = .ok (.iconst (-1), 1) := by decide +kernel
theorem dX11_may_10 : decode cX11_may 10 = .ok (.ireturn, 1) := by decide +kernel
theorem dX11_may_11 : decode cX11_may 11 = .ok (.aload_n 0, 1) := by decide +kernel
theorem dX11_may_12 : decode cX11_may 12 = .ok (.invokevirtual 388, 3) := by decide +kernel
theorem dX11_may_15 : decode cX11_may 15 = .ok (.aload_n 0, 1) := by decide +kernel
theorem dX11_may_16 : decode cX11_may 16 = .ok (.iload_n 1, 1) := by decide +kernel
theorem dX11_may_17 : decode cX11_may 17 = .ok (.iload_n 2, 1) := by decide +kernel
theorem dX11_may_18 : decode cX11_may 18 = .ok (.invokevirtual 375, 3) := by decide +kernel
theorem dX11_may_21 : decode cX11_may 21 = .ok (.ifCond .eq 7, 3) := by decide +kernel
theorem dX11_may_24 : decode cX11_may 24 = .ok (.iconst 1, 1) := by decide +kernel
theorem dX11_may_25 : decode cX11_may 25 = .ok (.goto 4, 3) := by decide +kernel
theorem dX11_may_28 : decode cX11_may 28 = .ok (.iconst 0, 1) := by decide +kernel
theorem dX11_may_29 : decode cX11_may 29 = .ok (.ireturn, 1) := by decide +kernel
theorem dX11_holds_0 : decode cX11_holds 0 = .ok (.aload_n 0, 1) := by decide +kernel
theorem dX11_holds_1 : decode cX11_holds 1 = .ok (.iload_n 1, 1) := by decide +kernel
theorem dX11_holds_2 : decode cX11_holds 2 = .ok (.invokevirtual 404, 3) := by decide +kernel
theorem dX11_holds_5 : decode cX11_holds 5 = .ok (.ifCond .eq 11, 3) := by decide +kernel
theorem dX11_holds_8 : decode cX11_holds 8 = .ok (.aload_n 0, 1) := by decide +kernel
theorem dX11_holds_9 : decode cX11_holds 9 = .ok (.iload_n 2, 1) := by decide +kernel
theorem dX11_holds_10 : decode cX11_holds 10 = .ok (.invokevirtual 385, 3) := by decide +kernel
theorem dX11_holds_13 : decode cX11_holds 13 = .ok (.ifCond .ne 5, 3) := by decide +kernel
theorem dX11_holds_16 : decode cX11_holds 16 = .ok (.iconst (-1), 1) := by decide +kernel
theorem dX11_holds_17 : decode cX11_holds 17 = .ok (.ireturn, 1) := by decide +kernel
theorem dX11_holds_18 : decode cX11_holds 18 = .ok (.aload_n 0, 1) := by decide +kernel
theorem dX11_holds_19 : decode cX11_holds 19 = .ok (.invokevirtual 388, 3) := by decide +kernel
theorem dX11_holds_22 : decode cX11_holds 22 = .ok (.aload_n 0, 1) := by decide +kernel
theorem dX11_holds_23 : decode cX11_holds 23 = .ok (.aload_n 0, 1) := by decide +kernel
theorem dX11_holds_24 : decode cX11_holds 24 = .ok (.getfield 76, 3) := by decide +kernel
theorem dX11_holds_27 : decode cX11_holds 27 = .ok (.bipush 6, 2) := by decide +kernel
theorem dX11_holds_29 : decode cX11_holds 29 = .ok (.aload_n 0, 1) := by decide +kernel
theorem dX11_holds_30 : decode cX11_holds 30 = .ok (.getfield 251, 3) := by decide +kernel
theorem dX11_holds_33 : decode cX11_holds 33 = .ok (.imul, 1) := by decide +kernel
theorem dX11_holds_34 : decode cX11_holds 34 = .ok (.iload_n 1, 1) := by decide +kernel
theorem dX11_holds_35 : decode cX11_holds 35 = .ok (.iadd, 1) := by decide +kernel
theorem dX11_holds_36 : decode cX11_holds 36 = .ok (.iaload, 1) := by decide +kernel
theorem dX11_holds_37 : decode cX11_holds 37 = .ok (.iload_n 2, 1) := by decide +kernel
theorem dX11_holds_38 : decode cX11_holds 38 = .ok (.invokevirtual 369, 3) := by decide +kernel
theorem dX11_holds_41 : decode cX11_holds 41 = .ok (.iload_n 1, 1) := by decide +kernel
theorem dX11_holds_42 : decode cX11_holds 42 = .ok (.ishr, 1) := by decide +kernel
theorem dX11_holds_43 : decode cX11_holds 43 = .ok (.iconst 1, 1) := by decide +kernel
theorem dX11_holds_44 : decode cX11_holds 44 = .ok (.iand, 1) := by decide +kernel
theorem dX11_holds_45 : decode cX11_holds 45 = .ok (.iconst 1, 1) := by decide +kernel
theorem dX11_holds_46 : decode cX11_holds 46 = .ok (.if_icmp .ne 7, 3) := by decide +kernel
theorem dX11_holds_49 : decode cX11_holds 49 = .ok (.iconst 0, 1) := by decide +kernel
theorem dX11_holds_50 : decode cX11_holds 50 = .ok (.goto 4, 3) := by decide +kernel
theorem dX11_holds_53 : decode cX11_holds 53 = .ok (.iconst 1, 1) := by decide +kernel
theorem dX11_holds_54 : decode cX11_holds 54 = .ok (.ireturn, 1) := by decide +kernel
theorem dX11_likes_0 : decode cX11_likes 0 = .ok (.aload_n 0, 1) := by decide +kernel
theorem dX11_likes_1 : decode cX11_likes 1 = .ok (.iload_n 2, 1) := by decide +kernel
theorem dX11_likes_2 : decode cX11_likes 2 = .ok (.iload_n 1, 1) := by decide +kernel
theorem dX11_likes_3 : decode cX11_likes 3 = .ok (.invokevirtual 401, 3) := by decide +kernel
theorem dX11_likes_6 : decode cX11_likes 6 = .ok (.ifCond .ne 5, 3) := by decide +kernel
theorem dX11_likes_9 : decode cX11_likes 9 = .ok (.iconst (-1), 1) := by decide +kernel
theorem dX11_likes_10 : decode cX11_likes 10 = .ok (.ireturn, 1) := by decide +kernel
theorem dX11_likes_11 : decode cX11_likes 11 = .ok (.aload_n 0, 1) := by decide +kernel
theorem dX11_likes_12 : decode cX11_likes 12 = .ok (.invokevirtual 388, 3) := by decide +kernel
theorem dX11_likes_15 : decode cX11_likes 15 = .ok (.aload_n 0, 1) := by decide +kernel
theorem dX11_likes_16 : decode cX11_likes 16 = .ok (.iload_n 1, 1) := by decide +kernel
theorem dX11_likes_17 : decode cX11_likes 17 = .ok (.iload_n 2, 1) := by decide +kernel
theorem dX11_likes_18 : decode cX11_likes 18 = .ok (.iconst 0, 1) := by decide +kernel
theorem dX11_likes_19 : decode cX11_likes 19 = .ok (.iconst (-1), 1) := by decide +kernel
theorem dX11_likes_20 : decode cX11_likes 20 = .ok (.invokevirtual 394, 3) := by decide +kernel
theorem dX11_likes_23 : decode cX11_likes 23 = .ok (.ireturn, 1) := by decide +kernel
theorem dX11_trip_0 : decode cX11_trip 0 = .ok (.aload_n 0, 1) := by decide +kernel
theorem dX11_trip_1 : decode cX11_trip 1 = .ok (.iload_n 1, 1) := by decide +kernel
theorem dX11_trip_2 : decode cX11_trip 2 = .ok (.iload_n 2, 1) := by decide +kernel
theorem dX11_trip_3 : decode cX11_trip 3 = .ok (.invokevirtual 401, 3) := by decide +kernel
theorem dX11_trip_6 : decode cX11_trip 6 = .ok (.ifCond .ne 5, 3) := by decide +kernel
theorem dX11_trip_9 : decode cX11_trip 9 = .ok (.iconst (-1), 1) := by decide +kernel
theorem dX11_trip_10 : decode cX11_trip 10 = .ok (.ireturn, 1) := by decide +kernel
theorem dX11_trip_11 : decode cX11_trip 11 = .ok (.aload_n 0, 1) := by decide +kernel
theorem dX11_trip_12 : decode cX11_trip 12 = .ok (.invokevirtual 388, 3) := by decide +kernel
theorem dX11_trip_15 : decode cX11_trip 15 = .ok (.aload_n 0, 1) := by decide +kernel
theorem dX11_trip_16 : decode cX11_trip 16 = .ok (.iload_n 1, 1) := by decide +kernel
theorem dX11_trip_17 : decode cX11_trip 17 = .ok (.iload_n 2, 1) := by decide +kernel
theorem dX11_trip_18 : decode cX11_trip 18 = .ok (.invokevirtual 407, 3) := by decide +kernel
theorem dX11_trip_21 : decode cX11_trip 21 = .ok (.ireturn, 1) := by decide +kernel
theorem dX11_keeps_0 : decode cX11_keeps 0 = .ok (.aload_n 0, 1) := by decide +kernel
theorem dX11_keeps_1 : decode cX11_keeps 1 = .ok (.getfield 269, 3) := by decide +kernel
theorem dX11_keeps_4 : decode cX11_keeps 4 = .ok (.bipush 40, 2) := by decide +kernel
theorem dX11_keeps_6 : decode cX11_keeps 6 = .ok (.if_icmp .ne 43, 3) := by decide +kernel
theorem dX11_keeps_9 : decode cX11_keeps 9 = .ok (.iconst 0, 1) := by decide +kernel
theorem dX11_keeps_10 : decode cX11_keeps 10 = .ok (.istore_n 1, 1) := by decide +kernel
theorem dX11_keeps_11 : decode cX11_keeps 11 = .ok (.iload_n 1, 1) := by decide +kernel
theorem dX11_keeps_12 : decode cX11_keeps 12 = .ok (.sipush 2340, 3) := by decide +kernel
theorem dX11_keeps_15 : decode cX11_keeps 15 = .ok (.if_icmp .ge 24, 3) := by decide +kernel
theorem dX11_keeps_18 : decode cX11_keeps 18 = .ok (.aload_n 0, 1) := by decide +kernel
theorem dX11_keeps_19 : decode cX11_keeps 19 = .ok (.getfield 140, 3) := by decide +kernel
theorem dX11_keeps_22 : decode cX11_keeps 22 = .ok (.iload_n 1, 1) := by decide +kernel
theorem dX11_keeps_23 : decode cX11_keeps 23 = .ok (.aload_n 0, 1) := by decide +kernel
theorem dX11_keeps_24 : decode cX11_keeps 24 = .ok (.getfield 140, 3) := by decide +kernel
theorem dX11_keeps_27 : decode cX11_keeps 27 = .ok (.iload_n 1, 1) := by decide +kernel
theorem dX11_keeps_28 : decode cX11_keeps 28 = .ok (.bipush 60, 2) := by decide +kernel
theorem dX11_keeps_30 : decode cX11_keeps 30 = .ok (.iadd, 1) := by decide +kernel
theorem dX11_keeps_31 : decode cX11_keeps 31 = .ok (.iaload, 1) := by decide +kernel
theorem dX11_keeps_32 : decode cX11_keeps 32 = .ok (.iastore, 1) := by decide +kernel
theorem dX11_keeps_33 : decode cX11_keeps 33 = .ok (.iinc 1 1, 3) := by decide +kernel
theorem dX11_keeps_36 : decode cX11_keeps 36 = .ok (.goto (-25), 3) := by decide +kernel
theorem dX11_keeps_39 : decode cX11_keeps 39 = .ok (.aload_n 0, 1) := by decide +kernel
theorem dX11_keeps_40 : decode cX11_keeps 40 = .ok (.dup, 1) := by decide +kernel
theorem dX11_keeps_41 : decode cX11_keeps 41 = .ok (.getfield 269, 3) := by decide +kernel
theorem dX11_keeps_44 : decode cX11_keeps 44 = .ok (.iconst 1, 1) := by decide +kernel
theorem dX11_keeps_45 : decode cX11_keeps 45 = .ok (.isub, 1) := by decide +kernel
theorem dX11_keeps_46 : decode cX11_keeps 46 = .ok (.putfield 269, 3) := by decide +kernel
theorem dX11_keeps_49 : decode cX11_keeps 49 = .ok (.iconst 0, 1) := by decide +kernel
theorem dX11_keeps_50 : decode cX11_keeps 50 = .ok (.istore_n 1, 1) := by decide +kernel
theorem dX11_keeps_51 : decode cX11_keeps 51 = .ok (.iload_n 1, 1) := by decide +kernel
theorem dX11_keeps_52 : decode cX11_keeps 52 = .ok (.bipush 60, 2) := by decide +kernel
theorem dX11_keeps_54 : decode cX11_keeps 54 = .ok (.if_icmp .ge 29, 3) := by decide +kernel
theorem dX11_keeps_57 : decode cX11_keeps 57 = .ok (.aload_n 0, 1) := by decide +kernel
theorem dX11_keeps_58 : decode cX11_keeps 58 = .ok (.getfield 140, 3) := by decide +kernel
theorem dX11_keeps_61 : decode cX11_keeps 61 = .ok (.bipush 60, 2) := by decide +kernel
theorem dX11_keeps_63 : decode cX11_keeps 63 = .ok (.aload_n 0, 1) := by decide +kernel
theorem dX11_keeps_64 : decode cX11_keeps 64 = .ok (.getfield 269, 3) := by decide +kernel
theorem dX11_keeps_67 : decode cX11_keeps 67 = .ok (.imul, 1) := by decide +kernel
theorem dX11_keeps_68 : decode cX11_keeps 68 = .ok (.iload_n 1, 1) := by decide +kernel
theorem dX11_keeps_69 : decode cX11_keeps 69 = .ok (.iadd, 1) := by decide +kernel
theorem dX11_keeps_70 : decode cX11_keeps 70 = .ok (.aload_n 0, 1) := by decide +kernel
theorem dX11_keeps_71 : decode cX11_keeps 71 = .ok (.getfield 134, 3) := by decide +kernel
theorem dX11_keeps_74 : decode cX11_keeps 74 = .ok (.iload_n 1, 1) := by decide +kernel
theorem dX11_keeps_75 : decode cX11_keeps 75 = .ok (.iaload, 1) := by decide +kernel
theorem dX11_keeps_76 : decode cX11_keeps 76 = .ok (.iastore, 1) := by decide +kernel
theorem dX11_keeps_77 : decode cX11_keeps 77 = .ok (.iinc 1 1, 3) := by decide +kernel
theorem dX11_keeps_80 : decode cX11_keeps 80 = .ok (.goto (-29), 3) := by decide +kernel
theorem dX11_keeps_83 : decode cX11_keeps 83 = .ok (.aload_n 0, 1) := by decide +kernel
theorem dX11_keeps_84 : decode cX11_keeps 84 = .ok (.dup, 1) := by decide +kernel
theorem dX11_keeps_85 : decode cX11_keeps 85 = .ok (.getfield 269, 3) := by decide +kernel
theorem dX11_keeps_88 : decode cX11_keeps 88 = .ok (.iconst 1, 1) := by decide +kernel
theorem dX11_keeps_89 : decode cX11_keeps 89 = .ok (.iadd, 1) := by decide +kernel
theorem dX11_keeps_90 : decode cX11_keeps 90 = .ok (.putfield 269, 3) := by decide +kernel
theorem dX11_keeps_93 : decode cX11_keeps 93 = .ok (.aload_n 0, 1) := by decide +kernel
theorem dX11_keeps_94 : decode cX11_keeps 94 = .ok (.invokevirtual 185, 3) := by decide +kernel
theorem dX11_keeps_97 : decode cX11_keeps 97 = .ok (.return_, 1) := by decide +kernel
theorem dX11_send_0 : decode cX11_send 0 = .ok (.aload_n 0, 1) := by decide +kernel
theorem dX11_send_1 : decode cX11_send 1 = .ok (.iload_n 1, 1) := by decide +kernel
theorem dX11_send_2 : decode cX11_send 2 = .ok (.iload_n 2, 1) := by decide +kernel
theorem dX11_send_3 : decode cX11_send 3 = .ok (.invokevirtual 401, 3) := by decide +kernel
theorem dX11_send_6 : decode cX11_send 6 = .ok (.ifCond .ne 5, 3) := by decide +kernel
theorem dX11_send_9 : decode cX11_send 9 = .ok (.iconst (-1), 1) := by decide +kernel
theorem dX11_send_10 : decode cX11_send 10 = .ok (.ireturn, 1) := by decide +kernel
theorem dX11_send_11 : decode cX11_send 11 = .ok (.aload_n 0, 1) := by decide +kernel
theorem dX11_send_12 : decode cX11_send 12 = .ok (.getfield 134, 3) := by decide +kernel
theorem dX11_send_15 : decode cX11_send 15 = .ok (.iload_n 1, 1) := by decide +kernel
theorem dX11_send_16 : decode cX11_send 16 = .ok (.iaload, 1) := by decide +kernel
theorem dX11_send_17 : decode cX11_send 17 = .ok (.ifCond .lt 13, 3) := by decide +kernel
theorem dX11_send_20 : decode cX11_send 20 = .ok (.aload_n 0, 1) := by decide +kernel
theorem dX11_send_21 : decode cX11_send 21 = .ok (.getfield 134, 3) := by decide +kernel
theorem dX11_send_24 : decode cX11_send 24 = .ok (.iload_n 1, 1) := by decide +kernel
theorem dX11_send_25 : decode cX11_send 25 = .ok (.iaload, 1) := by decide +kernel
theorem dX11_send_26 : decode cX11_send 26 = .ok (.iload_n 2, 1) := by decide +kernel
theorem dX11_send_27 : decode cX11_send 27 = .ok (.if_icmp .ne 6, 3) := by decide +kernel
theorem dX11_send_30 : decode cX11_send 30 = .ok (.bipush (-2), 2) := by decide +kernel
theorem dX11_send_32 : decode cX11_send 32 = .ok (.ireturn, 1) := by decide +kernel
theorem dX11_send_33 : decode cX11_send 33 = .ok (.aload_n 0, 1) := by decide +kernel
theorem dX11_send_34 : decode cX11_send 34 = .ok (.invokevirtual 388, 3) := by decide +kernel
theorem dX11_send_37 : decode cX11_send 37 = .ok (.aload_n 0, 1) := by decide +kernel
theorem dX11_send_38 : decode cX11_send 38 = .ok (.invokevirtual 410, 3) := by decide +kernel
theorem dX11_send_41 : decode cX11_send 41 = .ok (.istore_n 3, 1) := by decide +kernel
theorem dX11_send_42 : decode cX11_send 42 = .ok (.aload_n 0, 1) := by decide +kernel
theorem dX11_send_43 : decode cX11_send 43 = .ok (.getfield 137, 3) := by decide +kernel
theorem dX11_send_46 : decode cX11_send 46 = .ok (.bipush 33, 2) := by decide +kernel
theorem dX11_send_48 : decode cX11_send 48 = .ok (.iconst 5, 1) := by decide +kernel
theorem dX11_send_49 : decode cX11_send 49 = .ok (.aload_n 0, 1) := by decide +kernel
theorem dX11_send_50 : decode cX11_send 50 = .ok (.getfield 137, 3) := by decide +kernel
theorem dX11_send_53 : decode cX11_send 53 = .ok (.iload_n 1, 1) := by decide +kernel
theorem dX11_send_54 : decode cX11_send 54 = .ok (.iaload, 1) := by decide +kernel
theorem dX11_send_55 : decode cX11_send 55 = .ok (.imul, 1) := by decide +kernel
theorem dX11_send_56 : decode cX11_send 56 = .ok (.iadd, 1) := by decide +kernel
theorem dX11_send_57 : decode cX11_send 57 = .ok (.iload_n 2, 1) := by decide +kernel
theorem dX11_send_58 : decode cX11_send 58 = .ok (.iadd, 1) := by decide +kernel
theorem dX11_send_59 : decode cX11_send 59 = .ok (.dup2, 1) := by decide +kernel
theorem dX11_send_60 : decode cX11_send 60 = .ok (.iaload, 1) := by decide +kernel
theorem dX11_send_61 : decode cX11_send 61 = .ok (.iconst 1, 1) := by decide +kernel
theorem dX11_send_62 : decode cX11_send 62 = .ok (.iadd, 1) := by decide +kernel
theorem dX11_send_63 : decode cX11_send 63 = .ok (.iastore, 1) := by decide +kernel
theorem dX11_send_64 : decode cX11_send 64 = .ok (.aload_n 0, 1) := by decide +kernel
theorem dX11_send_65 : decode cX11_send 65 = .ok (.getfield 137, 3) := by decide +kernel
theorem dX11_send_68 : decode cX11_send 68 = .ok (.bipush 12, 2) := by decide +kernel
theorem dX11_send_70 : decode cX11_send 70 = .ok (.iload_n 1, 1) := by decide +kernel
theorem dX11_send_71 : decode cX11_send 71 = .ok (.iadd, 1) := by decide +kernel
theorem dX11_send_72 : decode cX11_send 72 = .ok (.aload_n 0, 1) := by decide +kernel
theorem dX11_send_73 : decode cX11_send 73 = .ok (.getfield 137, 3) := by decide +kernel
theorem dX11_send_76 : decode cX11_send 76 = .ok (.bipush 30, 2) := by decide +kernel
theorem dX11_send_78 : decode cX11_send 78 = .ok (.iaload, 1) := by decide +kernel
theorem dX11_send_79 : decode cX11_send 79 = .ok (.aload_n 0, 1) := by decide +kernel
theorem dX11_send_80 : decode cX11_send 80 = .ok (.iload_n 1, 1) := by decide +kernel
theorem dX11_send_81 : decode cX11_send 81 = .ok (.iload_n 2, 1) := by decide +kernel
theorem dX11_send_82 : decode cX11_send 82 = .ok (.invokevirtual 407, 3) := by decide +kernel
theorem dX11_send_85 : decode cX11_send 85 = .ok (.iadd, 1) := by decide +kernel
theorem dX11_send_86 : decode cX11_send 86 = .ok (.iload_n 3, 1) := by decide +kernel
theorem dX11_send_87 : decode cX11_send 87 = .ok (.ifCond .eq 7, 3) := by decide +kernel
theorem dX11_send_90 : decode cX11_send 90 = .ok (.iconst 5, 1) := by decide +kernel
theorem dX11_send_91 : decode cX11_send 91 = .ok (.goto 4, 3) := by decide +kernel
theorem dX11_send_94 : decode cX11_send 94 = .ok (.iconst 0, 1) := by decide +kernel
theorem dX11_send_95 : decode cX11_send 95 = .ok (.iadd, 1) := by decide +kernel
theorem dX11_send_96 : decode cX11_send 96 = .ok (.iastore, 1) := by decide +kernel
theorem dX11_send_97 : decode cX11_send 97 = .ok (.aload_n 0, 1) := by decide +kernel
theorem dX11_send_98 : decode cX11_send 98 = .ok (.getfield 137, 3) := by decide +kernel
theorem dX11_send_101 : decode cX11_send 101 = .ok (.bipush 6, 2) := by decide +kernel
theorem dX11_send_103 : decode cX11_send 103 = .ok (.iload_n 1, 1) := by decide +kernel
theorem dX11_send_104 : decode cX11_send 104 = .ok (.iadd, 1) := by decide +kernel
theorem dX11_send_105 : decode cX11_send 105 = .ok (.iload_n 2, 1) := by decide +kernel
theorem dX11_send_106 : decode cX11_send 106 = .ok (.iastore, 1) := by decide +kernel
theorem dX11_send_107 : decode cX11_send 107 = .ok (.aload_n 0, 1) := by decide +kernel
theorem dX11_send_108 : decode cX11_send 108 = .ok (.getfield 137, 3) := by decide +kernel
theorem dX11_send_111 : decode cX11_send 111 = .ok (.iload_n 1, 1) := by decide +kernel
theorem dX11_send_112 : decode cX11_send 112 = .ok (.bipush (-2), 2) := by decide +kernel
theorem dX11_send_114 : decode cX11_send 114 = .ok (.iastore, 1) := by decide +kernel
theorem dX11_send_115 : decode cX11_send 115 = .ok (.aload_n 0, 1) := by decide +kernel
theorem dX11_send_116 : decode cX11_send 116 = .ok (.getfield 137, 3) := by decide +kernel
theorem dX11_send_119 : decode cX11_send 119 = .ok (.bipush 18, 2) := by decide +kernel
theorem dX11_send_121 : decode cX11_send 121 = .ok (.iload_n 1, 1) := by decide +kernel
theorem dX11_send_122 : decode cX11_send 122 = .ok (.iadd, 1) := by decide +kernel
theorem dX11_send_123 : decode cX11_send 123 = .ok (.dup2, 1) := by decide +kernel
theorem dX11_send_124 : decode cX11_send 124 = .ok (.iaload, 1) := by decide +kernel
theorem dX11_send_125 : decode cX11_send 125 = .ok (.iconst 1, 1) := by decide +kernel
theorem dX11_send_126 : decode cX11_send 126 = .ok (.iadd, 1) := by decide +kernel
theorem dX11_send_127 : decode cX11_send 127 = .ok (.iastore, 1) := by decide +kernel
theorem dX11_send_128 : decode cX11_send 128 = .ok (.aload_n 0, 1) := by decide +kernel
theorem dX11_send_129 : decode cX11_send 129 = .ok (.getfield 137, 3) := by decide +kernel
theorem dX11_send_132 : decode cX11_send 132 = .ok (.bipush 31, 2) := by decide +kernel
theorem dX11_send_134 : decode cX11_send 134 = .ok (.dup2, 1) := by decide +kernel
theorem dX11_send_135 : decode cX11_send 135 = .ok (.iaload, 1) := by decide +kernel
theorem dX11_send_136 : decode cX11_send 136 = .ok (.iconst 1, 1) := by decide +kernel
theorem dX11_send_137 : decode cX11_send 137 = .ok (.iadd, 1) := by decide +kernel
theorem dX11_send_138 : decode cX11_send 138 = .ok (.iastore, 1) := by decide +kernel
theorem dX11_send_139 : decode cX11_send 139 = .ok (.iload_n 3, 1) := by decide +kernel
theorem dX11_send_140 : decode cX11_send 140 = .ok (.ifCond .eq 14, 3) := by decide +kernel
theorem dX11_send_143 : decode cX11_send 143 = .ok (.aload_n 0, 1) := by decide +kernel
theorem dX11_send_144 : decode cX11_send 144 = .ok (.getfield 137, 3) := by decide +kernel
theorem dX11_send_147 : decode cX11_send 147 = .ok (.bipush 32, 2) := by decide +kernel
theorem dX11_send_149 : decode cX11_send 149 = .ok (.dup2, 1) := by decide +kernel
theorem dX11_send_150 : decode cX11_send 150 = .ok (.iaload, 1) := by decide +kernel
theorem dX11_send_151 : decode cX11_send 151 = .ok (.iconst 1, 1) := by decide +kernel
theorem dX11_send_152 : decode cX11_send 152 = .ok (.iadd, 1) := by decide +kernel
theorem dX11_send_153 : decode cX11_send 153 = .ok (.iastore, 1) := by decide +kernel
theorem dX11_send_154 : decode cX11_send 154 = .ok (.aload_n 0, 1) := by decide +kernel
theorem dX11_send_155 : decode cX11_send 155 = .ok (.invokevirtual 414, 3) := by decide +kernel
theorem dX11_send_158 : decode cX11_send 158 = .ok (.aload_n 0, 1) := by decide +kernel
theorem dX11_send_159 : decode cX11_send 159 = .ok (.getfield 134, 3) := by decide +kernel
theorem dX11_send_162 : decode cX11_send 162 = .ok (.bipush 12, 2) := by decide +kernel
theorem dX11_send_164 : decode cX11_send 164 = .ok (.iload_n 1, 1) := by decide +kernel
theorem dX11_send_165 : decode cX11_send 165 = .ok (.iadd, 1) := by decide +kernel
theorem dX11_send_166 : decode cX11_send 166 = .ok (.iaload, 1) := by decide +kernel
theorem dX11_send_167 : decode cX11_send 167 = .ok (.ireturn, 1) := by decide +kernel
theorem dX11_lift_0 : decode cX11_lift 0 = .ok (.aload_n 0, 1) := by decide +kernel
theorem dX11_lift_1 : decode cX11_lift 1 = .ok (.iload_n 1, 1) := by decide +kernel
theorem dX11_lift_2 : decode cX11_lift 2 = .ok (.invokevirtual 404, 3) := by decide +kernel
theorem dX11_lift_5 : decode cX11_lift 5 = .ok (.ifCond .eq 25, 3) := by decide +kernel
theorem dX11_lift_8 : decode cX11_lift 8 = .ok (.aload_n 0, 1) := by decide +kernel
theorem dX11_lift_9 : decode cX11_lift 9 = .ok (.getfield 134, 3) := by decide +kernel
theorem dX11_lift_12 : decode cX11_lift 12 = .ok (.bipush 24, 2) := by decide +kernel
theorem dX11_lift_14 : decode cX11_lift 14 = .ok (.iload_n 1, 1) := by decide +kernel
theorem dX11_lift_15 : decode cX11_lift 15 = .ok (.iadd, 1) := by decide +kernel
theorem dX11_lift_16 : decode cX11_lift 16 = .ok (.iaload, 1) := by decide +kernel
theorem dX11_lift_17 : decode cX11_lift 17 = .ok (.iconst 1, 1) := by decide +kernel
theorem dX11_lift_18 : decode cX11_lift 18 = .ok (.if_icmp .ne 7, 3) := by decide +kernel
theorem dX11_lift_21 : decode cX11_lift 21 = .ok (.iconst 1, 1) := by decide +kernel
theorem dX11_lift_22 : decode cX11_lift 22 = .ok (.goto 4, 3) := by decide +kernel
theorem dX11_lift_25 : decode cX11_lift 25 = .ok (.iconst 0, 1) := by decide +kernel
theorem dX11_lift_26 : decode cX11_lift 26 = .ok (.iload_n 2, 1) := by decide +kernel
theorem dX11_lift_27 : decode cX11_lift 27 = .ok (.if_icmp .ne 5, 3) := by decide +kernel
theorem dX11_lift_30 : decode cX11_lift 30 = .ok (.iconst 0, 1) := by decide +kernel
theorem dX11_lift_31 : decode cX11_lift 31 = .ok (.ireturn, 1) := by decide +kernel
theorem dX11_lift_32 : decode cX11_lift 32 = .ok (.aload_n 0, 1) := by decide +kernel
theorem dX11_lift_33 : decode cX11_lift 33 = .ok (.invokevirtual 388, 3) := by decide +kernel
theorem dX11_lift_36 : decode cX11_lift 36 = .ok (.aload_n 0, 1) := by decide +kernel
theorem dX11_lift_37 : decode cX11_lift 37 = .ok (.getfield 137, 3) := by decide +kernel
theorem dX11_lift_40 : decode cX11_lift 40 = .ok (.bipush 24, 2) := by decide +kernel
theorem dX11_lift_42 : decode cX11_lift 42 = .ok (.iload_n 1, 1) := by decide +kernel
theorem dX11_lift_43 : decode cX11_lift 43 = .ok (.iadd, 1) := by decide +kernel
theorem dX11_lift_44 : decode cX11_lift 44 = .ok (.iload_n 2, 1) := by decide +kernel
theorem dX11_lift_45 : decode cX11_lift 45 = .ok (.ifCond .eq 7, 3) := by decide +kernel
theorem dX11_lift_48 : decode cX11_lift 48 = .ok (.iconst 1, 1) := by decide +kernel
theorem dX11_lift_49 : decode cX11_lift 49 = .ok (.goto 4, 3) := by decide +kernel
theorem dX11_lift_52 : decode cX11_lift 52 = .ok (.iconst 0, 1) := by decide +kernel
theorem dX11_lift_53 : decode cX11_lift 53 = .ok (.iastore, 1) := by decide +kernel
theorem dX11_lift_54 : decode cX11_lift 54 = .ok (.aload_n 0, 1) := by decide +kernel
theorem dX11_lift_55 : decode cX11_lift 55 = .ok (.invokevirtual 414, 3) := by decide +kernel
theorem dX11_lift_58 : decode cX11_lift 58 = .ok (.iconst 1, 1) := by decide +kernel
theorem dX11_lift_59 : decode cX11_lift 59 = .ok (.ireturn, 1) := by decide +kernel
theorem dX11_days_0 : decode cX11_days 0 = .ok (.iload_n 1, 1) := by decide +kernel
theorem dX11_days_1 : decode cX11_days 1 = .ok (.iconst 0, 1) := by decide +kernel
theorem dX11_days_2 : decode cX11_days 2 = .ok (.bipush 99, 2) := by decide +kernel
theorem dX11_days_4 : decode cX11_days 4 = .ok (.invokestatic 335, 3) := by decide +kernel
theorem dX11_days_7 : decode cX11_days 7 = .ok (.ifCond .ne 5, 3) := by decide +kernel
theorem dX11_days_10 : decode cX11_days 10 = .ok (.iconst (-1), 1) := by decide +kernel
theorem dX11_days_11 : decode cX11_days 11 = .ok (.ireturn, 1) := by decide +kernel
theorem dX11_days_12 : decode cX11_days 12 = .ok (.iload_n 1, 1) := by decide +kernel
theorem dX11_days_13 : decode cX11_days 13 = .ok (.ifCond .ne 11, 3) := by decide +kernel
theorem dX11_days_16 : decode cX11_days 16 = .ok (.aload_n 0, 1) := by decide +kernel
theorem dX11_days_17 : decode cX11_days 17 = .ok (.getfield 134, 3) := by decide +kernel
theorem dX11_days_20 : decode cX11_days 20 = .ok (.bipush 30, 2) := by decide +kernel
theorem dX11_days_22 : decode cX11_days 22 = .ok (.iaload, 1) := by decide +kernel
theorem dX11_days_23 : decode cX11_days 23 = .ok (.ireturn, 1) := by decide +kernel
theorem dX11_days_24 : decode cX11_days 24 = .ok (.aload_n 0, 1) := by decide +kernel
theorem dX11_days_25 : decode cX11_days 25 = .ok (.invokevirtual 388, 3) := by decide +kernel
theorem dX11_days_28 : decode cX11_days 28 = .ok (.aload_n 0, 1) := by decide +kernel
theorem dX11_days_29 : decode cX11_days 29 = .ok (.getfield 137, 3) := by decide +kernel
theorem dX11_days_32 : decode cX11_days 32 = .ok (.bipush 30, 2) := by decide +kernel
theorem dX11_days_34 : decode cX11_days 34 = .ok (.dup2, 1) := by decide +kernel
theorem dX11_days_35 : decode cX11_days 35 = .ok (.iaload, 1) := by decide +kernel
theorem dX11_days_36 : decode cX11_days 36 = .ok (.iload_n 1, 1) := by decide +kernel
theorem dX11_days_37 : decode cX11_days 37 = .ok (.iadd, 1) := by decide +kernel
theorem dX11_days_38 : decode cX11_days 38 = .ok (.iastore, 1) := by decide +kernel
theorem dX11_days_39 : decode cX11_days 39 = .ok (.aload_n 0, 1) := by decide +kernel
theorem dX11_days_40 : decode cX11_days 40 = .ok (.invokevirtual 417, 3) := by decide +kernel
theorem dX11_days_43 : decode cX11_days 43 = .ok (.aload_n 0, 1) := by decide +kernel
theorem dX11_days_44 : decode cX11_days 44 = .ok (.invokevirtual 414, 3) := by decide +kernel
theorem dX11_days_47 : decode cX11_days 47 = .ok (.aload_n 0, 1) := by decide +kernel
theorem dX11_days_48 : decode cX11_days 48 = .ok (.getfield 134, 3) := by decide +kernel
theorem dX11_days_51 : decode cX11_days 51 = .ok (.bipush 30, 2) := by decide +kernel
theorem dX11_days_53 : decode cX11_days 53 = .ok (.iaload, 1) := by decide +kernel
theorem dX11_days_54 : decode cX11_days 54 = .ok (.ireturn, 1) := by decide +kernel
theorem dX11_undo_0 : decode cX11_undo 0 = .ok (.aload_n 0, 1) := by decide +kernel
theorem dX11_undo_1 : decode cX11_undo 1 = .ok (.getfield 269, 3) := by decide +kernel
theorem dX11_undo_4 : decode cX11_undo 4 = .ok (.ifCond .ne 5, 3) := by decide +kernel
theorem dX11_undo_7 : decode cX11_undo 7 = .ok (.iconst 0, 1) := by decide +kernel
theorem dX11_undo_8 : decode cX11_undo 8 = .ok (.ireturn, 1) := by decide +kernel
theorem dX11_undo_9 : decode cX11_undo 9 = .ok (.aload_n 0, 1) := by decide +kernel
theorem dX11_undo_10 : decode cX11_undo 10 = .ok (.dup, 1) := by decide +kernel
theorem dX11_undo_11 : decode cX11_undo 11 = .ok (.getfield 269, 3) := by decide +kernel
theorem dX11_undo_14 : decode cX11_undo 14 = .ok (.iconst 1, 1) := by decide +kernel
theorem dX11_undo_15 : decode cX11_undo 15 = .ok (.isub, 1) := by decide +kernel
theorem dX11_undo_16 : decode cX11_undo 16 = .ok (.putfield 269, 3) := by decide +kernel
theorem dX11_undo_19 : decode cX11_undo 19 = .ok (.iconst 0, 1) := by decide +kernel
theorem dX11_undo_20 : decode cX11_undo 20 = .ok (.istore_n 1, 1) := by decide +kernel
theorem dX11_undo_21 : decode cX11_undo 21 = .ok (.iload_n 1, 1) := by decide +kernel
theorem dX11_undo_22 : decode cX11_undo 22 = .ok (.bipush 60, 2) := by decide +kernel
theorem dX11_undo_24 : decode cX11_undo 24 = .ok (.if_icmp .ge 29, 3) := by decide +kernel
theorem dX11_undo_27 : decode cX11_undo 27 = .ok (.aload_n 0, 1) := by decide +kernel
theorem dX11_undo_28 : decode cX11_undo 28 = .ok (.getfield 134, 3) := by decide +kernel
theorem dX11_undo_31 : decode cX11_undo 31 = .ok (.iload_n 1, 1) := by decide +kernel
theorem dX11_undo_32 : decode cX11_undo 32 = .ok (.aload_n 0, 1) := by decide +kernel
theorem dX11_undo_33 : decode cX11_undo 33 = .ok (.getfield 140, 3) := by decide +kernel
theorem dX11_undo_36 : decode cX11_undo 36 = .ok (.bipush 60, 2) := by decide +kernel
theorem dX11_undo_38 : decode cX11_undo 38 = .ok (.aload_n 0, 1) := by decide +kernel
theorem dX11_undo_39 : decode cX11_undo 39 = .ok (.getfield 269, 3) := by decide +kernel
theorem dX11_undo_42 : decode cX11_undo 42 = .ok (.imul, 1) := by decide +kernel
theorem dX11_undo_43 : decode cX11_undo 43 = .ok (.iload_n 1, 1) := by decide +kernel
theorem dX11_undo_44 : decode cX11_undo 44 = .ok (.iadd, 1) := by decide +kernel
theorem dX11_undo_45 : decode cX11_undo 45 = .ok (.iaload, 1) := by decide +kernel
theorem dX11_undo_46 : decode cX11_undo 46 = .ok (.iastore, 1) := by decide +kernel
theorem dX11_undo_47 : decode cX11_undo 47 = .ok (.iinc 1 1, 3) := by decide +kernel
theorem dX11_undo_50 : decode cX11_undo 50 = .ok (.goto (-29), 3) := by decide +kernel
theorem dX11_undo_53 : decode cX11_undo 53 = .ok (.iconst 1, 1) := by decide +kernel
theorem dX11_undo_54 : decode cX11_undo 54 = .ok (.ireturn, 1) := by decide +kernel
theorem dX11_well_0 : decode cX11_well 0 = .ok (.aload_n 0, 1) := by decide +kernel
theorem dX11_well_1 : decode cX11_well 1 = .ok (.invokevirtual 388, 3) := by decide +kernel
theorem dX11_well_4 : decode cX11_well 4 = .ok (.aload_n 0, 1) := by decide +kernel
theorem dX11_well_5 : decode cX11_well 5 = .ok (.invokevirtual 420, 3) := by decide +kernel
theorem dX11_well_8 : decode cX11_well 8 = .ok (.ireturn, 1) := by decide +kernel
theorem dX11_bad_0 : decode cX11_bad 0 = .ok (.aload_n 0, 1) := by decide +kernel
theorem dX11_bad_1 : decode cX11_bad 1 = .ok (.invokevirtual 388, 3) := by decide +kernel
theorem dX11_bad_4 : decode cX11_bad 4 = .ok (.iconst 0, 1) := by decide +kernel
theorem dX11_bad_5 : decode cX11_bad 5 = .ok (.istore_n 1, 1) := by decide +kernel
theorem dX11_bad_6 : decode cX11_bad 6 = .ok (.iload_n 1, 1) := by decide +kernel
theorem dX11_bad_7 : decode cX11_bad 7 = .ok (.sipush 200, 3) := by decide +kernel
theorem dX11_bad_10 : decode cX11_bad 10 = .ok (.if_icmp .gt 33, 3) := by decide +kernel
theorem dX11_bad_13 : decode cX11_bad 13 = .ok (.aload_n 0, 1) := by decide +kernel
theorem dX11_bad_14 : decode cX11_bad 14 = .ok (.invokevirtual 420, 3) := by decide +kernel
theorem dX11_bad_17 : decode cX11_bad 17 = .ok (.ifCond .ne 5, 3) := by decide +kernel
theorem dX11_bad_20 : decode cX11_bad 20 = .ok (.iload_n 1, 1) := by decide +kernel
theorem dX11_bad_21 : decode cX11_bad 21 = .ok (.ireturn, 1) := by decide +kernel
theorem dX11_bad_22 : decode cX11_bad 22 = .ok (.aload_n 0, 1) := by decide +kernel
theorem dX11_bad_23 : decode cX11_bad 23 = .ok (.getfield 137, 3) := by decide +kernel
theorem dX11_bad_26 : decode cX11_bad 26 = .ok (.bipush 30, 2) := by decide +kernel
theorem dX11_bad_28 : decode cX11_bad 28 = .ok (.dup2, 1) := by decide +kernel
theorem dX11_bad_29 : decode cX11_bad 29 = .ok (.iaload, 1) := by decide +kernel
theorem dX11_bad_30 : decode cX11_bad 30 = .ok (.iconst 1, 1) := by decide +kernel
theorem dX11_bad_31 : decode cX11_bad 31 = .ok (.iadd, 1) := by decide +kernel
theorem dX11_bad_32 : decode cX11_bad 32 = .ok (.iastore, 1) := by decide +kernel
theorem dX11_bad_33 : decode cX11_bad 33 = .ok (.aload_n 0, 1) := by decide +kernel
theorem dX11_bad_34 : decode cX11_bad 34 = .ok (.invokevirtual 417, 3) := by decide +kernel
theorem dX11_bad_37 : decode cX11_bad 37 = .ok (.iinc 1 1, 3) := by decide +kernel
theorem dX11_bad_40 : decode cX11_bad 40 = .ok (.goto (-34), 3) := by decide +kernel
theorem dX11_bad_43 : decode cX11_bad 43 = .ok (.bipush (-2), 2) := by decide +kernel
theorem dX11_bad_45 : decode cX11_bad 45 = .ok (.ireturn, 1) := by decide +kernel
theorem dX11_fives_0 : decode cX11_fives 0 = .ok (.iconst 1, 1) := by decide +kernel
theorem dX11_fives_1 : decode cX11_fives 1 = .ok (.istore_n 1, 1) := by decide +kernel
theorem dX11_fives_2 : decode cX11_fives 2 = .ok (.iconst 0, 1) := by decide +kernel
theorem dX11_fives_3 : decode cX11_fives 3 = .ok (.istore_n 2, 1) := by decide +kernel
theorem dX11_fives_4 : decode cX11_fives 4 = .ok (.iload_n 2, 1) := by decide +kernel
theorem dX11_fives_5 : decode cX11_fives 5 = .ok (.iload_n 0, 1) := by decide +kernel
theorem dX11_fives_6 : decode cX11_fives 6 = .ok (.if_icmp .ge 13, 3) := by decide +kernel
theorem dX11_fives_9 : decode cX11_fives 9 = .ok (.iload_n 1, 1) := by decide +kernel
theorem dX11_fives_10 : decode cX11_fives 10 = .ok (.iconst 5, 1) := by decide +kernel
theorem dX11_fives_11 : decode cX11_fives 11 = .ok (.imul, 1) := by decide +kernel
theorem dX11_fives_12 : decode cX11_fives 12 = .ok (.istore_n 1, 1) := by decide +kernel
theorem dX11_fives_13 : decode cX11_fives 13 = .ok (.iinc 2 1, 3) := by decide +kernel
theorem dX11_fives_16 : decode cX11_fives 16 = .ok (.goto (-12), 3) := by decide +kernel
theorem dX11_fives_19 : decode cX11_fives 19 = .ok (.iload_n 1, 1) := by decide +kernel
theorem dX11_fives_20 : decode cX11_fives 20 = .ok (.ireturn, 1) := by decide +kernel
theorem dX11_houseIn_0 : decode cX11_houseIn 0 = .ok (.iload_n 1, 1) := by decide +kernel
theorem dX11_houseIn_1 : decode cX11_houseIn 1 = .ok (.aload_n 0, 1) := by decide +kernel
theorem dX11_houseIn_2 : decode cX11_houseIn 2 = .ok (.getfield 58, 3) := by decide +kernel
theorem dX11_houseIn_5 : decode cX11_houseIn 5 = .ok (.aload_n 0, 1) := by decide +kernel
theorem dX11_houseIn_6 : decode cX11_houseIn 6 = .ok (.getfield 251, 3) := by decide +kernel
theorem dX11_houseIn_9 : decode cX11_houseIn 9 = .ok (.iaload, 1) := by decide +kernel
theorem dX11_houseIn_10 : decode cX11_houseIn 10 = .ok (.iconst 1, 1) := by decide +kernel
theorem dX11_houseIn_11 : decode cX11_houseIn 11 = .ok (.isub, 1) := by decide +kernel
theorem dX11_houseIn_12 : decode cX11_houseIn 12 = .ok (.iload_n 2, 1) := by decide +kernel
theorem dX11_houseIn_13 : decode cX11_houseIn 13 = .ok (.isub, 1) := by decide +kernel
theorem dX11_houseIn_14 : decode cX11_houseIn 14 = .ok (.invokestatic 423, 3) := by decide +kernel
theorem dX11_houseIn_17 : decode cX11_houseIn 17 = .ok (.idiv, 1) := by decide +kernel
theorem dX11_houseIn_18 : decode cX11_houseIn 18 = .ok (.iconst 5, 1) := by decide +kernel
theorem dX11_houseIn_19 : decode cX11_houseIn 19 = .ok (.irem, 1) := by decide +kernel
theorem dX11_houseIn_20 : decode cX11_houseIn 20 = .ok (.ireturn, 1) := by decide +kernel
theorem dX11_hangs_0 : decode cX11_hangs 0 = .ok (.iconst 0, 1) := by decide +kernel
theorem dX11_hangs_1 : decode cX11_hangs 1 = .ok (.istore_n 2, 1) := by decide +kernel
theorem dX11_hangs_2 : decode cX11_hangs 2 = .ok (.iload_n 2, 1) := by decide +kernel
theorem dX11_hangs_3 : decode cX11_hangs 3 = .ok (.aload_n 0, 1) := by decide +kernel
theorem dX11_hangs_4 : decode cX11_hangs 4 = .ok (.getfield 58, 3) := by decide +kernel
theorem dX11_hangs_7 : decode cX11_hangs 7 = .ok (.aload_n 0, 1) := by decide +kernel
theorem dX11_hangs_8 : decode cX11_hangs 8 = .ok (.getfield 251, 3) := by decide +kernel
theorem dX11_hangs_11 : decode cX11_hangs 11 = .ok (.iaload, 1) := by decide +kernel
theorem dX11_hangs_12 : decode cX11_hangs 12 = .ok (.if_icmp .ge 21, 3) := by decide +kernel
theorem dX11_hangs_15 : decode cX11_hangs 15 = .ok (.aload_n 0, 1) := by decide +kernel
theorem dX11_hangs_16 : decode cX11_hangs 16 = .ok (.getfield 137, 3) := by decide +kernel
theorem dX11_hangs_19 : decode cX11_hangs 19 = .ok (.iload_n 2, 1) := by decide +kernel
theorem dX11_hangs_20 : decode cX11_hangs 20 = .ok (.aload_n 0, 1) := by decide +kernel
theorem dX11_hangs_21 : decode cX11_hangs 21 = .ok (.iload_n 1, 1) := by decide +kernel
theorem dX11_hangs_22 : decode cX11_hangs 22 = .ok (.iload_n 2, 1) := by decide +kernel
theorem dX11_hangs_23 : decode cX11_hangs 23 = .ok (.invokevirtual 426, 3) := by decide +kernel
theorem dX11_hangs_26 : decode cX11_hangs 26 = .ok (.iastore, 1) := by decide +kernel
theorem dX11_hangs_27 : decode cX11_hangs 27 = .ok (.iinc 2 1, 3) := by decide +kernel
theorem dX11_hangs_30 : decode cX11_hangs 30 = .ok (.goto (-28), 3) := by decide +kernel
theorem dX11_hangs_33 : decode cX11_hangs 33 = .ok (.iconst 0, 1) := by decide +kernel
theorem dX11_hangs_34 : decode cX11_hangs 34 = .ok (.istore_n 2, 1) := by decide +kernel
theorem dX11_hangs_35 : decode cX11_hangs 35 = .ok (.iload_n 2, 1) := by decide +kernel
theorem dX11_hangs_36 : decode cX11_hangs 36 = .ok (.aload_n 0, 1) := by decide +kernel
theorem dX11_hangs_37 : decode cX11_hangs 37 = .ok (.getfield 58, 3) := by decide +kernel
theorem dX11_hangs_40 : decode cX11_hangs 40 = .ok (.aload_n 0, 1) := by decide +kernel
theorem dX11_hangs_41 : decode cX11_hangs 41 = .ok (.getfield 251, 3) := by decide +kernel
theorem dX11_hangs_44 : decode cX11_hangs 44 = .ok (.iaload, 1) := by decide +kernel
theorem dX11_hangs_45 : decode cX11_hangs 45 = .ok (.if_icmp .ge 38, 3) := by decide +kernel
theorem dX11_hangs_48 : decode cX11_hangs 48 = .ok (.aload_n 0, 1) := by decide +kernel
theorem dX11_hangs_49 : decode cX11_hangs 49 = .ok (.aload_n 0, 1) := by decide +kernel
theorem dX11_hangs_50 : decode cX11_hangs 50 = .ok (.getfield 137, 3) := by decide +kernel
theorem dX11_hangs_53 : decode cX11_hangs 53 = .ok (.iload_n 2, 1) := by decide +kernel
theorem dX11_hangs_54 : decode cX11_hangs 54 = .ok (.iaload, 1) := by decide +kernel
theorem dX11_hangs_55 : decode cX11_hangs 55 = .ok (.invokevirtual 385, 3) := by decide +kernel
theorem dX11_hangs_58 : decode cX11_hangs 58 = .ok (.ifCond .eq 17, 3) := by decide +kernel
theorem dX11_hangs_61 : decode cX11_hangs 61 = .ok (.aload_n 0, 1) := by decide +kernel
theorem dX11_hangs_62 : decode cX11_hangs 62 = .ok (.iload_n 2, 1) := by decide +kernel
theorem dX11_hangs_63 : decode cX11_hangs 63 = .ok (.aload_n 0, 1) := by decide +kernel
theorem dX11_hangs_64 : decode cX11_hangs 64 = .ok (.getfield 137, 3) := by decide +kernel
theorem dX11_hangs_67 : decode cX11_hangs 67 = .ok (.iload_n 2, 1) := by decide +kernel
theorem dX11_hangs_68 : decode cX11_hangs 68 = .ok (.iaload, 1) := by decide +kernel
theorem dX11_hangs_69 : decode cX11_hangs 69 = .ok (.invokevirtual 365, 3) := by decide +kernel
theorem dX11_hangs_72 : decode cX11_hangs 72 = .ok (.ifCond .ne 5, 3) := by decide +kernel
theorem dX11_hangs_75 : decode cX11_hangs 75 = .ok (.iconst 0, 1) := by decide +kernel
theorem dX11_hangs_76 : decode cX11_hangs 76 = .ok (.ireturn, 1) := by decide +kernel
theorem dX11_hangs_77 : decode cX11_hangs 77 = .ok (.iinc 2 1, 3) := by decide +kernel
theorem dX11_hangs_80 : decode cX11_hangs 80 = .ok (.goto (-45), 3) := by decide +kernel
theorem dX11_hangs_83 : decode cX11_hangs 83 = .ok (.iconst 1, 1) := by decide +kernel
theorem dX11_hangs_84 : decode cX11_hangs 84 = .ok (.ireturn, 1) := by decide +kernel
theorem dX11_brokenAll_0 : decode cX11_brokenAll 0 = .ok (.iconst 0, 1) := by decide +kernel
theorem dX11_brokenAll_1 : decode cX11_brokenAll 1 = .ok (.istore_n 1, 1) := by decide +kernel
theorem dX11_brokenAll_2 : decode cX11_brokenAll 2 = .ok (.iconst 0, 1) := by decide +kernel
theorem dX11_brokenAll_3 : decode cX11_brokenAll 3 = .ok (.istore_n 2, 1) := by decide +kernel
theorem dX11_brokenAll_4 : decode cX11_brokenAll 4 = .ok (.iload_n 2, 1) := by decide +kernel
theorem dX11_brokenAll_5 : decode cX11_brokenAll 5 = .ok (.aload_n 0, 1) := by decide +kernel
theorem dX11_brokenAll_6 : decode cX11_brokenAll 6 = .ok (.getfield 58, 3) := by decide +kernel
theorem dX11_brokenAll_9 : decode cX11_brokenAll 9 = .ok (.aload_n 0, 1) := by decide +kernel
theorem dX11_brokenAll_10 : decode cX11_brokenAll 10 = .ok (.getfield 251, 3) := by decide +kernel
theorem dX11_brokenAll_13 : decode cX11_brokenAll 13 = .ok (.iaload, 1) := by decide +kernel
theorem dX11_brokenAll_14 : decode cX11_brokenAll 14 = .ok (.if_icmp .ge 23, 3) := by decide +kernel
theorem dX11_brokenAll_17 : decode cX11_brokenAll 17 = .ok (.iload_n 1, 1) := by decide +kernel
theorem dX11_brokenAll_18 : decode cX11_brokenAll 18 = .ok (.aload_n 0, 1) := by decide +kernel
theorem dX11_brokenAll_19 : decode cX11_brokenAll 19 = .ok (.iload_n 2, 1) := by decide +kernel
theorem dX11_brokenAll_20 : decode cX11_brokenAll 20 = .ok (.aload_n 0, 1) := by decide +kernel
theorem dX11_brokenAll_21 : decode cX11_brokenAll 21 = .ok (.getfield 137, 3) := by decide +kernel
theorem dX11_brokenAll_24 : decode cX11_brokenAll 24 = .ok (.iload_n 2, 1) := by decide +kernel
theorem dX11_brokenAll_25 : decode cX11_brokenAll 25 = .ok (.iaload, 1) := by decide +kernel
theorem dX11_brokenAll_26 : decode cX11_brokenAll 26 = .ok (.invokevirtual 369, 3) := by decide +kernel
theorem dX11_brokenAll_29 : decode cX11_brokenAll 29 = .ok (.ior, 1) := by decide +kernel
theorem dX11_brokenAll_30 : decode cX11_brokenAll 30 = .ok (.istore_n 1, 1) := by decide +kernel
theorem dX11_brokenAll_31 : decode cX11_brokenAll 31 = .ok (.iinc 2 1, 3) := by decide +kernel
theorem dX11_brokenAll_34 : decode cX11_brokenAll 34 = .ok (.goto (-30), 3) := by decide +kernel
theorem dX11_brokenAll_37 : decode cX11_brokenAll 37 = .ok (.iload_n 1, 1) := by decide +kernel
theorem dX11_brokenAll_38 : decode cX11_brokenAll 38 = .ok (.ireturn, 1) := by decide +kernel
theorem dX11_isHanging_0 : decode cX11_isHanging 0 = .ok (.aload_n 0, 1) := by decide +kernel
theorem dX11_isHanging_1 : decode cX11_isHanging 1 = .ok (.iload_n 1, 1) := by decide +kernel
theorem dX11_isHanging_2 : decode cX11_isHanging 2 = .ok (.invokevirtual 429, 3) := by decide +kernel
theorem dX11_isHanging_5 : decode cX11_isHanging 5 = .ok (.ifCond .eq 19, 3) := by decide +kernel
theorem dX11_isHanging_8 : decode cX11_isHanging 8 = .ok (.aload_n 0, 1) := by decide +kernel
theorem dX11_isHanging_9 : decode cX11_isHanging 9 = .ok (.invokevirtual 432, 3) := by decide +kernel
theorem dX11_isHanging_12 : decode cX11_isHanging 12 = .ok (.aload_n 0, 1) := by decide +kernel
theorem dX11_isHanging_13 : decode cX11_isHanging 13 = .ok (.invokevirtual 372, 3) := by decide +kernel
theorem dX11_isHanging_16 : decode cX11_isHanging 16 = .ok (.iand, 1) := by decide +kernel
theorem dX11_isHanging_17 : decode cX11_isHanging 17 = .ok (.ifCond .ne 7, 3) := by decide +kernel
theorem dX11_isHanging_20 : decode cX11_isHanging 20 = .ok (.iconst 1, 1) := by decide +kernel
theorem dX11_isHanging_21 : decode cX11_isHanging 21 = .ok (.goto 4, 3) := by decide +kernel
theorem dX11_isHanging_24 : decode cX11_isHanging 24 = .ok (.iconst 0, 1) := by decide +kernel
theorem dX11_isHanging_25 : decode cX11_isHanging 25 = .ok (.ireturn, 1) := by decide +kernel
theorem dX11_hangings_0 : decode cX11_hangings 0 = .ok (.aload_n 0, 1) := by decide +kernel
theorem dX11_hangings_1 : decode cX11_hangings 1 = .ok (.invokevirtual 388, 3) := by decide +kernel
theorem dX11_hangings_4 : decode cX11_hangings 4 = .ok (.iconst 0, 1) := by decide +kernel
theorem dX11_hangings_5 : decode cX11_hangings 5 = .ok (.istore_n 1, 1) := by decide +kernel
theorem dX11_hangings_6 : decode cX11_hangings 6 = .ok (.iconst 0, 1) := by decide +kernel
theorem dX11_hangings_7 : decode cX11_hangings 7 = .ok (.istore_n 2, 1) := by decide +kernel
theorem dX11_hangings_8 : decode cX11_hangings 8 = .ok (.iload_n 2, 1) := by decide +kernel
theorem dX11_hangings_9 : decode cX11_hangings 9 = .ok (.aload_n 0, 1) := by decide +kernel
theorem dX11_hangings_10 : decode cX11_hangings 10 = .ok (.getfield 58, 3) := by decide +kernel
theorem dX11_hangings_13 : decode cX11_hangings 13 = .ok (.aload_n 0, 1) := by decide +kernel
theorem dX11_hangings_14 : decode cX11_hangings 14 = .ok (.getfield 251, 3) := by decide +kernel
theorem dX11_hangings_17 : decode cX11_hangings 17 = .ok (.iaload, 1) := by decide +kernel
theorem dX11_hangings_18 : decode cX11_hangings 18 = .ok (.invokestatic 423, 3) := by decide +kernel
theorem dX11_hangings_21 : decode cX11_hangings 21 = .ok (.if_icmp .ge 20, 3) := by decide +kernel
theorem dX11_hangings_24 : decode cX11_hangings 24 = .ok (.aload_n 0, 1) := by decide +kernel
theorem dX11_hangings_25 : decode cX11_hangings 25 = .ok (.iload_n 2, 1) := by decide +kernel
theorem dX11_hangings_26 : decode cX11_hangings 26 = .ok (.invokevirtual 435, 3) := by decide +kernel
theorem dX11_hangings_29 : decode cX11_hangings 29 = .ok (.ifCond .eq 6, 3) := by decide +kernel
theorem dX11_hangings_32 : decode cX11_hangings 32 = .ok (.iinc 1 1, 3) := by decide +kernel
theorem dX11_hangings_35 : decode cX11_hangings 35 = .ok (.iinc 2 1, 3) := by decide +kernel
theorem dX11_hangings_38 : decode cX11_hangings 38 = .ok (.goto (-30), 3) := by decide +kernel
theorem dX11_hangings_41 : decode cX11_hangings 41 = .ok (.iload_n 1, 1) := by decide +kernel
theorem dX11_hangings_42 : decode cX11_hangings 42 = .ok (.ireturn, 1) := by decide +kernel
theorem dX11_nearest_0 : decode cX11_nearest 0 = .ok (.iload_n 1, 1) := by decide +kernel
theorem dX11_nearest_1 : decode cX11_nearest 1 = .ok (.iconst (-1), 1) := by decide +kernel
theorem dX11_nearest_2 : decode cX11_nearest 2 = .ok (.if_icmp .eq 13, 3) := by decide +kernel
theorem dX11_nearest_5 : decode cX11_nearest 5 = .ok (.aload_n 0, 1) := by decide +kernel
theorem dX11_nearest_6 : decode cX11_nearest 6 = .ok (.iload_n 1, 1) := by decide +kernel
theorem dX11_nearest_7 : decode cX11_nearest 7 = .ok (.invokevirtual 398, 3) := by decide +kernel
theorem dX11_nearest_10 : decode cX11_nearest 10 = .ok (.ifCond .ne 5, 3) := by decide +kernel
theorem dX11_nearest_13 : decode cX11_nearest 13 = .ok (.iconst (-1), 1) := by decide +kernel
theorem dX11_nearest_14 : decode cX11_nearest 14 = .ok (.ireturn, 1) := by decide +kernel
theorem dX11_nearest_15 : decode cX11_nearest 15 = .ok (.aload_n 0, 1) := by decide +kernel
theorem dX11_nearest_16 : decode cX11_nearest 16 = .ok (.invokevirtual 388, 3) := by decide +kernel
theorem dX11_nearest_19 : decode cX11_nearest 19 = .ok (.iconst (-1), 1) := by decide +kernel
theorem dX11_nearest_20 : decode cX11_nearest 20 = .ok (.istore_n 2, 1) := by decide +kernel
theorem dX11_nearest_21 : decode cX11_nearest 21 = .ok (.iconst 0, 1) := by decide +kernel
theorem dX11_nearest_22 : decode cX11_nearest 22 = .ok (.istore_n 3, 1) := by decide +kernel
theorem dX11_nearest_23 : decode cX11_nearest 23 = .ok (.iconst 0, 1) := by decide +kernel
theorem dX11_nearest_24 : decode cX11_nearest 24 = .ok (.istore 4, 2) := by decide +kernel
theorem dX11_nearest_26 : decode cX11_nearest 26 = .ok (.iload 4, 2) := by decide +kernel
theorem dX11_nearest_28 : decode cX11_nearest 28 = .ok (.aload_n 0, 1) := by decide +kernel
theorem dX11_nearest_29 : decode cX11_nearest 29 = .ok (.getfield 58, 3) := by decide +kernel
theorem dX11_nearest_32 : decode cX11_nearest 32 = .ok (.aload_n 0, 1) := by decide +kernel
theorem dX11_nearest_33 : decode cX11_nearest 33 = .ok (.getfield 251, 3) := by decide +kernel
theorem dX11_nearest_36 : decode cX11_nearest 36 = .ok (.iaload, 1) := by decide +kernel
theorem dX11_nearest_37 : decode cX11_nearest 37 = .ok (.invokestatic 423, 3) := by decide +kernel
theorem dX11_nearest_40 : decode cX11_nearest 40 = .ok (.if_icmp .ge 84, 3) := by decide +kernel
theorem dX11_nearest_43 : decode cX11_nearest 43 = .ok (.iconst 0, 1) := by decide +kernel
theorem dX11_nearest_44 : decode cX11_nearest 44 = .ok (.istore 5, 2) := by decide +kernel
theorem dX11_nearest_46 : decode cX11_nearest 46 = .ok (.iconst 0, 1) := by decide +kernel
theorem dX11_nearest_47 : decode cX11_nearest 47 = .ok (.istore 6, 2) := by decide +kernel
theorem dX11_nearest_49 : decode cX11_nearest 49 = .ok (.iload 6, 2) := by decide +kernel
theorem dX11_nearest_51 : decode cX11_nearest 51 = .ok (.aload_n 0, 1) := by decide +kernel
theorem dX11_nearest_52 : decode cX11_nearest 52 = .ok (.getfield 58, 3) := by decide +kernel
theorem dX11_nearest_55 : decode cX11_nearest 55 = .ok (.aload_n 0, 1) := by decide +kernel
theorem dX11_nearest_56 : decode cX11_nearest 56 = .ok (.getfield 251, 3) := by decide +kernel
theorem dX11_nearest_59 : decode cX11_nearest 59 = .ok (.iaload, 1) := by decide +kernel
theorem dX11_nearest_60 : decode cX11_nearest 60 = .ok (.if_icmp .ge 30, 3) := by decide +kernel
theorem dX11_nearest_63 : decode cX11_nearest 63 = .ok (.aload_n 0, 1) := by decide +kernel
theorem dX11_nearest_64 : decode cX11_nearest 64 = .ok (.getfield 134, 3) := by decide +kernel
theorem dX11_nearest_67 : decode cX11_nearest 67 = .ok (.iload 6, 2) := by decide +kernel
theorem dX11_nearest_69 : decode cX11_nearest 69 = .ok (.iaload, 1) := by decide +kernel
theorem dX11_nearest_70 : decode cX11_nearest 70 = .ok (.aload_n 0, 1) := by decide +kernel
theorem dX11_nearest_71 : decode cX11_nearest 71 = .ok (.iload 4, 2) := by decide +kernel
theorem dX11_nearest_73 : decode cX11_nearest 73 = .ok (.iload 6, 2) := by decide +kernel
theorem dX11_nearest_75 : decode cX11_nearest 75 = .ok (.invokevirtual 426, 3) := by decide +kernel
theorem dX11_nearest_78 : decode cX11_nearest 78 = .ok (.if_icmp .eq 6, 3) := by decide +kernel
theorem dX11_nearest_81 : decode cX11_nearest 81 = .ok (.iinc 5 1, 3) := by decide +kernel
theorem dX11_nearest_84 : decode cX11_nearest 84 = .ok (.iinc 6 1, 3) := by decide +kernel
theorem dX11_nearest_87 : decode cX11_nearest 87 = .ok (.goto (-38), 3) := by decide +kernel
theorem dX11_nearest_90 : decode cX11_nearest 90 = .ok (.iload_n 2, 1) := by decide +kernel
theorem dX11_nearest_91 : decode cX11_nearest 91 = .ok (.ifCond .lt 9, 3) := by decide +kernel
theorem dX11_nearest_94 : decode cX11_nearest 94 = .ok (.iload 5, 2) := by decide +kernel
theorem dX11_nearest_96 : decode cX11_nearest 96 = .ok (.iload_n 3, 1) := by decide +kernel
theorem dX11_nearest_97 : decode cX11_nearest 97 = .ok (.if_icmp .ge 21, 3) := by decide +kernel
theorem dX11_nearest_100 : decode cX11_nearest 100 = .ok (.aload_n 0, 1) := by decide +kernel
theorem dX11_nearest_101 : decode cX11_nearest 101 = .ok (.iload 4, 2) := by decide +kernel
theorem dX11_nearest_103 : decode cX11_nearest 103 = .ok (.invokevirtual 435, 3) := by decide +kernel
theorem dX11_nearest_106 : decode cX11_nearest 106 = .ok (.ifCond .ne 6, 3) := by decide +kernel
theorem dX11_nearest_109 : decode cX11_nearest 109 = .ok (.goto 9, 3) := by decide +kernel
theorem dX11_nearest_112 : decode cX11_nearest 112 = .ok (.iload 4, 2) := by decide +kernel
theorem dX11_nearest_114 : decode cX11_nearest 114 = .ok (.istore_n 2, 1) := by decide +kernel
theorem dX11_nearest_115 : decode cX11_nearest 115 = .ok (.iload 5, 2) := by decide +kernel
theorem dX11_nearest_117 : decode cX11_nearest 117 = .ok (.istore_n 3, 1) := by decide +kernel
theorem dX11_nearest_118 : decode cX11_nearest 118 = .ok (.iinc 4 1, 3) := by decide +kernel
theorem dX11_nearest_121 : decode cX11_nearest 121 = .ok (.goto (-95), 3) := by decide +kernel
theorem dX11_nearest_124 : decode cX11_nearest 124 = .ok (.iload_n 2, 1) := by decide +kernel
theorem dX11_nearest_125 : decode cX11_nearest 125 = .ok (.ifCond .ge 6, 3) := by decide +kernel
theorem dX11_nearest_128 : decode cX11_nearest 128 = .ok (.bipush (-2), 2) := by decide +kernel
theorem dX11_nearest_130 : decode cX11_nearest 130 = .ok (.ireturn, 1) := by decide +kernel
theorem dX11_nearest_131 : decode cX11_nearest 131 = .ok (.iload_n 1, 1) := by decide +kernel
theorem dX11_nearest_132 : decode cX11_nearest 132 = .ok (.iconst (-1), 1) := by decide +kernel
theorem dX11_nearest_133 : decode cX11_nearest 133 = .ok (.if_icmp .ne 7, 3) := by decide +kernel
theorem dX11_nearest_136 : decode cX11_nearest 136 = .ok (.iload_n 3, 1) := by decide +kernel
theorem dX11_nearest_137 : decode cX11_nearest 137 = .ok (.goto 9, 3) := by decide +kernel
theorem dX11_nearest_140 : decode cX11_nearest 140 = .ok (.aload_n 0, 1) := by decide +kernel
theorem dX11_nearest_141 : decode cX11_nearest 141 = .ok (.iload_n 2, 1) := by decide +kernel
theorem dX11_nearest_142 : decode cX11_nearest 142 = .ok (.iload_n 1, 1) := by decide +kernel
theorem dX11_nearest_143 : decode cX11_nearest 143 = .ok (.invokevirtual 426, 3) := by decide +kernel
theorem dX11_nearest_146 : decode cX11_nearest 146 = .ok (.ireturn, 1) := by decide +kernel
theorem dX11_isQuarrel_0 : decode cX11_isQuarrel 0 = .ok (.iconst 0, 1) := by decide +kernel
theorem dX11_isQuarrel_1 : decode cX11_isQuarrel 1 = .ok (.istore_n 2, 1) := by decide +kernel
theorem dX11_isQuarrel_2 : decode cX11_isQuarrel 2 = .ok (.iload_n 2, 1) := by decide +kernel
theorem dX11_isQuarrel_3 : decode cX11_isQuarrel 3 = .ok (.bipush 64, 2) := by decide +kernel
theorem dX11_isQuarrel_5 : decode cX11_isQuarrel 5 = .ok (.if_icmp .ge 26, 3) := by decide +kernel
theorem dX11_isQuarrel_8 : decode cX11_isQuarrel 8 = .ok (.aload_n 0, 1) := by decide +kernel
theorem dX11_isQuarrel_9 : decode cX11_isQuarrel 9 = .ok (.getfield 143, 3) := by decide +kernel
theorem dX11_isQuarrel_12 : decode cX11_isQuarrel 12 = .ok (.iload_n 2, 1) := by decide +kernel
theorem dX11_isQuarrel_13 : decode cX11_isQuarrel 13 = .ok (.baload, 1) := by decide +kernel
theorem dX11_isQuarrel_14 : decode cX11_isQuarrel 14 = .ok (.ifCond .eq 11, 3) := by decide +kernel
theorem dX11_isQuarrel_17 : decode cX11_isQuarrel 17 = .ok (.iload_n 2, 1) := by decide +kernel
theorem dX11_isQuarrel_18 : decode cX11_isQuarrel 18 = .ok (.iload_n 1, 1) := by decide +kernel
theorem dX11_isQuarrel_19 : decode cX11_isQuarrel 19 = .ok (.iand, 1) := by decide +kernel
theorem dX11_isQuarrel_20 : decode cX11_isQuarrel 20 = .ok (.ifCond .ne 5, 3) := by decide +kernel
theorem dX11_isQuarrel_23 : decode cX11_isQuarrel 23 = .ok (.iconst 0, 1) := by decide +kernel
theorem dX11_isQuarrel_24 : decode cX11_isQuarrel 24 = .ok (.ireturn, 1) := by decide +kernel
theorem dX11_isQuarrel_25 : decode cX11_isQuarrel 25 = .ok (.iinc 2 1, 3) := by decide +kernel
theorem dX11_isQuarrel_28 : decode cX11_isQuarrel 28 = .ok (.goto (-26), 3) := by decide +kernel
theorem dX11_isQuarrel_31 : decode cX11_isQuarrel 31 = .ok (.iconst 1, 1) := by decide +kernel
theorem dX11_isQuarrel_32 : decode cX11_isQuarrel 32 = .ok (.ireturn, 1) := by decide +kernel
theorem dX11_quarrel_0 : decode cX11_quarrel 0 = .ok (.iload_n 1, 1) := by decide +kernel
theorem dX11_quarrel_1 : decode cX11_quarrel 1 = .ok (.iconst 0, 1) := by decide +kernel
theorem dX11_quarrel_2 : decode cX11_quarrel 2 = .ok (.iconst 1, 1) := by decide +kernel
theorem dX11_quarrel_3 : decode cX11_quarrel 3 = .ok (.invokestatic 335, 3) := by decide +kernel
theorem dX11_quarrel_6 : decode cX11_quarrel 6 = .ok (.ifCond .ne 5, 3) := by decide +kernel
theorem dX11_quarrel_9 : decode cX11_quarrel 9 = .ok (.iconst (-1), 1) := by decide +kernel
theorem dX11_quarrel_10 : decode cX11_quarrel 10 = .ok (.ireturn, 1) := by decide +kernel
theorem dX11_quarrel_11 : decode cX11_quarrel 11 = .ok (.aload_n 0, 1) := by decide +kernel
theorem dX11_quarrel_12 : decode cX11_quarrel 12 = .ok (.invokevirtual 388, 3) := by decide +kernel
theorem dX11_quarrel_15 : decode cX11_quarrel 15 = .ok (.iconst 0, 1) := by decide +kernel
theorem dX11_quarrel_16 : decode cX11_quarrel 16 = .ok (.istore_n 2, 1) := by decide +kernel
theorem dX11_quarrel_17 : decode cX11_quarrel 17 = .ok (.iload_n 2, 1) := by decide +kernel
theorem dX11_quarrel_18 : decode cX11_quarrel 18 = .ok (.bipush 64, 2) := by decide +kernel
theorem dX11_quarrel_20 : decode cX11_quarrel 20 = .ok (.if_icmp .ge 16, 3) := by decide +kernel
theorem dX11_quarrel_23 : decode cX11_quarrel 23 = .ok (.aload_n 0, 1) := by decide +kernel
theorem dX11_quarrel_24 : decode cX11_quarrel 24 = .ok (.getfield 143, 3) := by decide +kernel
theorem dX11_quarrel_27 : decode cX11_quarrel 27 = .ok (.iload_n 2, 1) := by decide +kernel
theorem dX11_quarrel_28 : decode cX11_quarrel 28 = .ok (.iconst 0, 1) := by decide +kernel
theorem dX11_quarrel_29 : decode cX11_quarrel 29 = .ok (.bastore, 1) := by decide +kernel
theorem dX11_quarrel_30 : decode cX11_quarrel 30 = .ok (.iinc 2 1, 3) := by decide +kernel
theorem dX11_quarrel_33 : decode cX11_quarrel 33 = .ok (.goto (-16), 3) := by decide +kernel
theorem dX11_quarrel_36 : decode cX11_quarrel 36 = .ok (.iconst 0, 1) := by decide +kernel
theorem dX11_quarrel_37 : decode cX11_quarrel 37 = .ok (.istore_n 2, 1) := by decide +kernel
theorem dX11_quarrel_38 : decode cX11_quarrel 38 = .ok (.iload_n 2, 1) := by decide +kernel
theorem dX11_quarrel_39 : decode cX11_quarrel 39 = .ok (.aload_n 0, 1) := by decide +kernel
theorem dX11_quarrel_40 : decode cX11_quarrel 40 = .ok (.getfield 58, 3) := by decide +kernel
theorem dX11_quarrel_43 : decode cX11_quarrel 43 = .ok (.aload_n 0, 1) := by decide +kernel
theorem dX11_quarrel_44 : decode cX11_quarrel 44 = .ok (.getfield 251, 3) := by decide +kernel
theorem dX11_quarrel_47 : decode cX11_quarrel 47 = .ok (.iaload, 1) := by decide +kernel
theorem dX11_quarrel_48 : decode cX11_quarrel 48 = .ok (.invokestatic 423, 3) := by decide +kernel
theorem dX11_quarrel_51 : decode cX11_quarrel 51 = .ok (.if_icmp .ge 27, 3) := by decide +kernel
theorem dX11_quarrel_54 : decode cX11_quarrel 54 = .ok (.aload_n 0, 1) := by decide +kernel
theorem dX11_quarrel_55 : decode cX11_quarrel 55 = .ok (.iload_n 2, 1) := by decide +kernel
theorem dX11_quarrel_56 : decode cX11_quarrel 56 = .ok (.invokevirtual 429, 3) := by decide +kernel
theorem dX11_quarrel_59 : decode cX11_quarrel 59 = .ok (.ifCond .eq 13, 3) := by decide +kernel
theorem dX11_quarrel_62 : decode cX11_quarrel 62 = .ok (.aload_n 0, 1) := by decide +kernel
theorem dX11_quarrel_63 : decode cX11_quarrel 63 = .ok (.getfield 143, 3) := by decide +kernel
theorem dX11_quarrel_66 : decode cX11_quarrel 66 = .ok (.aload_n 0, 1) := by decide +kernel
theorem dX11_quarrel_67 : decode cX11_quarrel 67 = .ok (.invokevirtual 432, 3) := by decide +kernel
theorem dX11_quarrel_70 : decode cX11_quarrel 70 = .ok (.iconst 1, 1) := by decide +kernel
theorem dX11_quarrel_71 : decode cX11_quarrel 71 = .ok (.bastore, 1) := by decide +kernel
theorem dX11_quarrel_72 : decode cX11_quarrel 72 = .ok (.iinc 2 1, 3) := by decide +kernel
theorem dX11_quarrel_75 : decode cX11_quarrel 75 = .ok (.goto (-37), 3) := by decide +kernel
theorem dX11_quarrel_78 : decode cX11_quarrel 78 = .ok (.aload_n 0, 1) := by decide +kernel
theorem dX11_quarrel_79 : decode cX11_quarrel 79 = .ok (.invokevirtual 372, 3) := by decide +kernel
theorem dX11_quarrel_82 : decode cX11_quarrel 82 = .ok (.istore_n 2, 1) := by decide +kernel
theorem dX11_quarrel_83 : decode cX11_quarrel 83 = .ok (.bipush (-2), 2) := by decide +kernel
theorem dX11_quarrel_85 : decode cX11_quarrel 85 = .ok (.istore_n 3, 1) := by decide +kernel
theorem dX11_quarrel_86 : decode cX11_quarrel 86 = .ok (.iconst 0, 1) := by decide +kernel
theorem dX11_quarrel_87 : decode cX11_quarrel 87 = .ok (.istore 4, 2) := by decide +kernel
theorem dX11_quarrel_89 : decode cX11_quarrel 89 = .ok (.iload 4, 2) := by decide +kernel
theorem dX11_quarrel_91 : decode cX11_quarrel 91 = .ok (.iload_n 2, 1) := by decide +kernel
theorem dX11_quarrel_92 : decode cX11_quarrel 92 = .ok (.if_icmp .gt 46, 3) := by decide +kernel
theorem dX11_quarrel_95 : decode cX11_quarrel 95 = .ok (.iload 4, 2) := by decide +kernel
theorem dX11_quarrel_97 : decode cX11_quarrel 97 = .ok (.iload_n 2, 1) := by decide +kernel
theorem dX11_quarrel_98 : decode cX11_quarrel 98 = .ok (.iconst (-1), 1) := by decide +kernel
theorem dX11_quarrel_99 : decode cX11_quarrel 99 = .ok (.ixor, 1) := by decide +kernel
theorem dX11_quarrel_100 : decode cX11_quarrel 100 = .ok (.iand, 1) := by decide +kernel
theorem dX11_quarrel_101 : decode cX11_quarrel 101 = .ok (.ifCond .ne 31, 3) := by decide +kernel
theorem dX11_quarrel_104 : decode cX11_quarrel 104 = .ok (.iload_n 3, 1) := by decide +kernel
theorem dX11_quarrel_105 : decode cX11_quarrel 105 = .ok (.ifCond .lt 15, 3) := by decide +kernel
theorem dX11_quarrel_108 : decode cX11_quarrel 108 = .ok (.iload 4, 2) := by decide +kernel
theorem dX11_quarrel_110 : decode cX11_quarrel 110 = .ok (.invokestatic 438, 3) := by decide +kernel
theorem dX11_quarrel_113 : decode cX11_quarrel 113 = .ok (.iload_n 3, 1) := by decide +kernel
theorem dX11_quarrel_114 : decode cX11_quarrel 114 = .ok (.invokestatic 438, 3) := by decide +kernel
theorem dX11_quarrel_117 : decode cX11_quarrel 117 = .ok (.if_icmp .ge 15, 3) := by decide +kernel
theorem dX11_quarrel_120 : decode cX11_quarrel 120 = .ok (.aload_n 0, 1) := by decide +kernel
theorem dX11_quarrel_121 : decode cX11_quarrel 121 = .ok (.iload 4, 2) := by decide +kernel
theorem dX11_quarrel_123 : decode cX11_quarrel 123 = .ok (.invokevirtual 441, 3) := by decide +kernel
theorem dX11_quarrel_126 : decode cX11_quarrel 126 = .ok (.ifCond .eq 6, 3) := by decide +kernel
theorem dX11_quarrel_129 : decode cX11_quarrel 129 = .ok (.iload 4, 2) := by decide +kernel
theorem dX11_quarrel_131 : decode cX11_quarrel 131 = .ok (.istore_n 3, 1) := by decide +kernel
theorem dX11_quarrel_132 : decode cX11_quarrel 132 = .ok (.iinc 4 1, 3) := by decide +kernel
theorem dX11_quarrel_135 : decode cX11_quarrel 135 = .ok (.goto (-46), 3) := by decide +kernel
theorem dX11_quarrel_138 : decode cX11_quarrel 138 = .ok (.iload_n 3, 1) := by decide +kernel
theorem dX11_quarrel_139 : decode cX11_quarrel 139 = .ok (.ifCond .lt 8, 3) := by decide +kernel
theorem dX11_quarrel_142 : decode cX11_quarrel 142 = .ok (.iload_n 1, 1) := by decide +kernel
theorem dX11_quarrel_143 : decode cX11_quarrel 143 = .ok (.iconst 1, 1) := by decide +kernel
theorem dX11_quarrel_144 : decode cX11_quarrel 144 = .ok (.if_icmp .ne 7, 3) := by decide +kernel
theorem dX11_quarrel_147 : decode cX11_quarrel 147 = .ok (.iload_n 3, 1) := by decide +kernel
theorem dX11_quarrel_148 : decode cX11_quarrel 148 = .ok (.goto 7, 3) := by decide +kernel
theorem dX11_quarrel_151 : decode cX11_quarrel 151 = .ok (.iload_n 3, 1) := by decide +kernel
theorem dX11_quarrel_152 : decode cX11_quarrel 152 = .ok (.invokestatic 438, 3) := by decide +kernel
theorem dX11_quarrel_155 : decode cX11_quarrel 155 = .ok (.ireturn, 1) := by decide +kernel
theorem dX11_fillsMayBe_0 : decode cX11_fillsMayBe 0 = .ok (.aload_n 0, 1) := by decide +kernel
theorem dX11_fillsMayBe_1 : decode cX11_fillsMayBe 1 = .ok (.invokevirtual 388, 3) := by decide +kernel
theorem dX11_fillsMayBe_4 : decode cX11_fillsMayBe 4 = .ok (.iconst 0, 1) := by decide +kernel
theorem dX11_fillsMayBe_5 : decode cX11_fillsMayBe 5 = .ok (.istore_n 2, 1) := by decide +kernel
theorem dX11_fillsMayBe_6 : decode cX11_fillsMayBe 6 = .ok (.iload_n 2, 1) := by decide +kernel
theorem dX11_fillsMayBe_7 : decode cX11_fillsMayBe 7 = .ok (.aload_n 0, 1) := by decide +kernel
theorem dX11_fillsMayBe_8 : decode cX11_fillsMayBe 8 = .ok (.getfield 58, 3) := by decide +kernel
theorem dX11_fillsMayBe_11 : decode cX11_fillsMayBe 11 = .ok (.aload_n 0, 1) := by decide +kernel
theorem dX11_fillsMayBe_12 : decode cX11_fillsMayBe 12 = .ok (.getfield 251, 3) := by decide +kernel
theorem dX11_fillsMayBe_15 : decode cX11_fillsMayBe 15 = .ok (.iaload, 1) := by decide +kernel
theorem dX11_fillsMayBe_16 : decode cX11_fillsMayBe 16 = .ok (.invokestatic 423, 3) := by decide +kernel
theorem dX11_fillsMayBe_19 : decode cX11_fillsMayBe 19 = .ok (.if_icmp .ge 45, 3) := by decide +kernel
theorem dX11_fillsMayBe_22 : decode cX11_fillsMayBe 22 = .ok (.aload_n 0, 1) := by decide +kernel
theorem dX11_fillsMayBe_23 : decode cX11_fillsMayBe 23 = .ok (.getfield 146, 3) := by decide +kernel
theorem dX11_fillsMayBe_26 : decode cX11_fillsMayBe 26 = .ok (.iload_n 2, 1) := by decide +kernel
theorem dX11_fillsMayBe_27 : decode cX11_fillsMayBe 27 = .ok (.aload_n 0, 1) := by decide +kernel
theorem dX11_fillsMayBe_28 : decode cX11_fillsMayBe 28 = .ok (.iload_n 2, 1) := by decide +kernel
theorem dX11_fillsMayBe_29 : decode cX11_fillsMayBe 29 = .ok (.invokevirtual 429, 3) := by decide +kernel
theorem dX11_fillsMayBe_32 : decode cX11_fillsMayBe 32 = .ok (.ifCond .eq 23, 3) := by decide +kernel
theorem dX11_fillsMayBe_35 : decode cX11_fillsMayBe 35 = .ok (.iload_n 1, 1) := by decide +kernel
theorem dX11_fillsMayBe_36 : decode cX11_fillsMayBe 36 = .ok (.ifCond .eq 15, 3) := by decide +kernel
theorem dX11_fillsMayBe_39 : decode cX11_fillsMayBe 39 = .ok (.aload_n 0, 1) := by decide +kernel
theorem dX11_fillsMayBe_40 : decode cX11_fillsMayBe 40 = .ok (.invokevirtual 432, 3) := by decide +kernel
theorem dX11_fillsMayBe_43 : decode cX11_fillsMayBe 43 = .ok (.aload_n 0, 1) := by decide +kernel
theorem dX11_fillsMayBe_44 : decode cX11_fillsMayBe 44 = .ok (.invokevirtual 372, 3) := by decide +kernel
theorem dX11_fillsMayBe_47 : decode cX11_fillsMayBe 47 = .ok (.iand, 1) := by decide +kernel
theorem dX11_fillsMayBe_48 : decode cX11_fillsMayBe 48 = .ok (.ifCond .ne 7, 3) := by decide +kernel
theorem dX11_fillsMayBe_51 : decode cX11_fillsMayBe 51 = .ok (.iconst (-1), 1) := by decide +kernel
theorem dX11_fillsMayBe_52 : decode cX11_fillsMayBe 52 = .ok (.goto 5, 3) := by decide +kernel
theorem dX11_fillsMayBe_55 : decode cX11_fillsMayBe 55 = .ok (.bipush (-2), 2) := by decide +kernel
theorem dX11_fillsMayBe_57 : decode cX11_fillsMayBe 57 = .ok (.iastore, 1) := by decide +kernel
theorem dX11_fillsMayBe_58 : decode cX11_fillsMayBe 58 = .ok (.iinc 2 1, 3) := by decide +kernel
theorem dX11_fillsMayBe_61 : decode cX11_fillsMayBe 61 = .ok (.goto (-55), 3) := by decide +kernel
theorem dX11_fillsMayBe_64 : decode cX11_fillsMayBe 64 = .ok (.return_, 1) := by decide +kernel
theorem dX11_isNextTo_0 : decode cX11_isNextTo 0 = .ok (.iconst 0, 1) := by decide +kernel
theorem dX11_isNextTo_1 : decode cX11_isNextTo 1 = .ok (.istore_n 3, 1) := by decide +kernel
theorem dX11_isNextTo_2 : decode cX11_isNextTo 2 = .ok (.iload_n 3, 1) := by decide +kernel
theorem dX11_isNextTo_3 : decode cX11_isNextTo 3 = .ok (.aload_n 0, 1) := by decide +kernel
theorem dX11_isNextTo_4 : decode cX11_isNextTo 4 = .ok (.getfield 58, 3) := by decide +kernel
theorem dX11_isNextTo_7 : decode cX11_isNextTo 7 = .ok (.aload_n 0, 1) := by decide +kernel
theorem dX11_isNextTo_8 : decode cX11_isNextTo 8 = .ok (.getfield 251, 3) := by decide +kernel
theorem dX11_isNextTo_11 : decode cX11_isNextTo 11 = .ok (.iaload, 1) := by decide +kernel
theorem dX11_isNextTo_12 : decode cX11_isNextTo 12 = .ok (.if_icmp .ge 86, 3) := by decide +kernel
theorem dX11_isNextTo_15 : decode cX11_isNextTo 15 = .ok (.aload_n 0, 1) := by decide +kernel
theorem dX11_isNextTo_16 : decode cX11_isNextTo 16 = .ok (.getfield 58, 3) := by decide +kernel
theorem dX11_isNextTo_19 : decode cX11_isNextTo 19 = .ok (.aload_n 0, 1) := by decide +kernel
theorem dX11_isNextTo_20 : decode cX11_isNextTo 20 = .ok (.getfield 251, 3) := by decide +kernel
theorem dX11_isNextTo_23 : decode cX11_isNextTo 23 = .ok (.iaload, 1) := by decide +kernel
theorem dX11_isNextTo_24 : decode cX11_isNextTo 24 = .ok (.iconst 1, 1) := by decide +kernel
theorem dX11_isNextTo_25 : decode cX11_isNextTo 25 = .ok (.isub, 1) := by decide +kernel
theorem dX11_isNextTo_26 : decode cX11_isNextTo 26 = .ok (.iload_n 3, 1) := by decide +kernel
theorem dX11_isNextTo_27 : decode cX11_isNextTo 27 = .ok (.isub, 1) := by decide +kernel
theorem dX11_isNextTo_28 : decode cX11_isNextTo 28 = .ok (.invokestatic 423, 3) := by decide +kernel
theorem dX11_isNextTo_31 : decode cX11_isNextTo 31 = .ok (.istore 4, 2) := by decide +kernel
theorem dX11_isNextTo_33 : decode cX11_isNextTo 33 = .ok (.aload_n 0, 1) := by decide +kernel
theorem dX11_isNextTo_34 : decode cX11_isNextTo 34 = .ok (.iload_n 1, 1) := by decide +kernel
theorem dX11_isNextTo_35 : decode cX11_isNextTo 35 = .ok (.iload_n 3, 1) := by decide +kernel
theorem dX11_isNextTo_36 : decode cX11_isNextTo 36 = .ok (.invokevirtual 426, 3) := by decide +kernel
theorem dX11_isNextTo_39 : decode cX11_isNextTo 39 = .ok (.istore 5, 2) := by decide +kernel
theorem dX11_isNextTo_41 : decode cX11_isNextTo 41 = .ok (.iconst 0, 1) := by decide +kernel
theorem dX11_isNextTo_42 : decode cX11_isNextTo 42 = .ok (.istore 6, 2) := by decide +kernel
theorem dX11_isNextTo_44 : decode cX11_isNextTo 44 = .ok (.iload 6, 2) := by decide +kernel
theorem dX11_isNextTo_46 : decode cX11_isNextTo 46 = .ok (.aload_n 0, 1) := by decide +kernel
theorem dX11_isNextTo_47 : decode cX11_isNextTo 47 = .ok (.getfield 49, 3) := by decide +kernel
theorem dX11_isNextTo_50 : decode cX11_isNextTo 50 = .ok (.aload_n 0, 1) := by decide +kernel
theorem dX11_isNextTo_51 : decode cX11_isNextTo 51 = .ok (.getfield 251, 3) := by decide +kernel
theorem dX11_isNextTo_54 : decode cX11_isNextTo 54 = .ok (.iaload, 1) := by decide +kernel
theorem dX11_isNextTo_55 : decode cX11_isNextTo 55 = .ok (.if_icmp .ge 37, 3) := by decide +kernel
theorem dX11_isNextTo_58 : decode cX11_isNextTo 58 = .ok (.iload 6, 2) := by decide +kernel
theorem dX11_isNextTo_60 : decode cX11_isNextTo 60 = .ok (.iload 5, 2) := by decide +kernel
theorem dX11_isNextTo_62 : decode cX11_isNextTo 62 = .ok (.if_icmp .eq 24, 3) := by decide +kernel
theorem dX11_isNextTo_65 : decode cX11_isNextTo 65 = .ok (.aload_n 0, 1) := by decide +kernel
theorem dX11_isNextTo_66 : decode cX11_isNextTo 66 = .ok (.getfield 146, 3) := by decide +kernel
theorem dX11_isNextTo_69 : decode cX11_isNextTo 69 = .ok (.iload_n 1, 1) := by decide +kernel
theorem dX11_isNextTo_70 : decode cX11_isNextTo 70 = .ok (.iload 6, 2) := by decide +kernel
theorem dX11_isNextTo_72 : decode cX11_isNextTo 72 = .ok (.iload 5, 2) := by decide +kernel
theorem dX11_isNextTo_74 : decode cX11_isNextTo 74 = .ok (.isub, 1) := by decide +kernel
theorem dX11_isNextTo_75 : decode cX11_isNextTo 75 = .ok (.iload 4, 2) := by decide +kernel
theorem dX11_isNextTo_77 : decode cX11_isNextTo 77 = .ok (.imul, 1) := by decide +kernel
theorem dX11_isNextTo_78 : decode cX11_isNextTo 78 = .ok (.iadd, 1) := by decide +kernel
theorem dX11_isNextTo_79 : decode cX11_isNextTo 79 = .ok (.iaload, 1) := by decide +kernel
theorem dX11_isNextTo_80 : decode cX11_isNextTo 80 = .ok (.iload_n 2, 1) := by decide +kernel
theorem dX11_isNextTo_81 : decode cX11_isNextTo 81 = .ok (.if_icmp .ne 5, 3) := by decide +kernel
theorem dX11_isNextTo_84 : decode cX11_isNextTo 84 = .ok (.iconst 1, 1) := by decide +kernel
theorem dX11_isNextTo_85 : decode cX11_isNextTo 85 = .ok (.ireturn, 1) := by decide +kernel
theorem dX11_isNextTo_86 : decode cX11_isNextTo 86 = .ok (.iinc 6 1, 3) := by decide +kernel
theorem dX11_isNextTo_89 : decode cX11_isNextTo 89 = .ok (.goto (-45), 3) := by decide +kernel
theorem dX11_isNextTo_92 : decode cX11_isNextTo 92 = .ok (.iinc 3 1, 3) := by decide +kernel
theorem dX11_isNextTo_95 : decode cX11_isNextTo 95 = .ok (.goto (-93), 3) := by decide +kernel
theorem dX11_isNextTo_98 : decode cX11_isNextTo 98 = .ok (.iconst 0, 1) := by decide +kernel
theorem dX11_isNextTo_99 : decode cX11_isNextTo 99 = .ok (.ireturn, 1) := by decide +kernel
theorem dX11_home_0 : decode cX11_home 0 = .ok (.iconst 0, 1) := by decide +kernel
theorem dX11_home_1 : decode cX11_home 1 = .ok (.istore_n 2, 1) := by decide +kernel
theorem dX11_home_2 : decode cX11_home 2 = .ok (.iconst 0, 1) := by decide +kernel
theorem dX11_home_3 : decode cX11_home 3 = .ok (.istore_n 3, 1) := by decide +kernel
theorem dX11_home_4 : decode cX11_home 4 = .ok (.iconst 0, 1) := by decide +kernel
theorem dX11_home_5 : decode cX11_home 5 = .ok (.istore 4, 2) := by decide +kernel
theorem dX11_home_7 : decode cX11_home 7 = .ok (.iload 4, 2) := by decide +kernel
theorem dX11_home_9 : decode cX11_home 9 = .ok (.aload_n 0, 1) := by decide +kernel
theorem dX11_home_10 : decode cX11_home 10 = .ok (.getfield 58, 3) := by decide +kernel
theorem dX11_home_13 : decode cX11_home 13 = .ok (.aload_n 0, 1) := by decide +kernel
theorem dX11_home_14 : decode cX11_home 14 = .ok (.getfield 251, 3) := by decide +kernel
theorem dX11_home_17 : decode cX11_home 17 = .ok (.iaload, 1) := by decide +kernel
theorem dX11_home_18 : decode cX11_home 18 = .ok (.if_icmp .ge 55, 3) := by decide +kernel
theorem dX11_home_21 : decode cX11_home 21 = .ok (.iconst 5, 1) := by decide +kernel
theorem dX11_home_22 : decode cX11_home 22 = .ok (.iload_n 2, 1) := by decide +kernel
theorem dX11_home_23 : decode cX11_home 23 = .ok (.imul, 1) := by decide +kernel
theorem dX11_home_24 : decode cX11_home 24 = .ok (.aload_n 0, 1) := by decide +kernel
theorem dX11_home_25 : decode cX11_home 25 = .ok (.getfield 134, 3) := by decide +kernel
theorem dX11_home_28 : decode cX11_home 28 = .ok (.iload 4, 2) := by decide +kernel
theorem dX11_home_30 : decode cX11_home 30 = .ok (.iaload, 1) := by decide +kernel
theorem dX11_home_31 : decode cX11_home 31 = .ok (.ifCond .ge 16, 3) := by decide +kernel
theorem dX11_home_34 : decode cX11_home 34 = .ok (.aload_n 0, 1) := by decide +kernel
theorem dX11_home_35 : decode cX11_home 35 = .ok (.getfield 134, 3) := by decide +kernel
theorem dX11_home_38 : decode cX11_home 38 = .ok (.bipush 6, 2) := by decide +kernel
theorem dX11_home_40 : decode cX11_home 40 = .ok (.iload 4, 2) := by decide +kernel
theorem dX11_home_42 : decode cX11_home 42 = .ok (.iadd, 1) := by decide +kernel
theorem dX11_home_43 : decode cX11_home 43 = .ok (.iaload, 1) := by decide +kernel
theorem dX11_home_44 : decode cX11_home 44 = .ok (.goto 10, 3) := by decide +kernel
theorem dX11_home_47 : decode cX11_home 47 = .ok (.aload_n 0, 1) := by decide +kernel
theorem dX11_home_48 : decode cX11_home 48 = .ok (.getfield 134, 3) := by decide +kernel
theorem dX11_home_51 : decode cX11_home 51 = .ok (.iload 4, 2) := by decide +kernel
theorem dX11_home_53 : decode cX11_home 53 = .ok (.iaload, 1) := by decide +kernel
theorem dX11_home_54 : decode cX11_home 54 = .ok (.iadd, 1) := by decide +kernel
theorem dX11_home_55 : decode cX11_home 55 = .ok (.istore_n 2, 1) := by decide +kernel
theorem dX11_home_56 : decode cX11_home 56 = .ok (.iconst 5, 1) := by decide +kernel
theorem dX11_home_57 : decode cX11_home 57 = .ok (.iload_n 3, 1) := by decide +kernel
theorem dX11_home_58 : decode cX11_home 58 = .ok (.imul, 1) := by decide +kernel
theorem dX11_home_59 : decode cX11_home 59 = .ok (.aload_n 0, 1) := by decide +kernel
theorem dX11_home_60 : decode cX11_home 60 = .ok (.iload 4, 2) := by decide +kernel
theorem dX11_home_62 : decode cX11_home 62 = .ok (.invokevirtual 343, 3) := by decide +kernel
theorem dX11_home_65 : decode cX11_home 65 = .ok (.iadd, 1) := by decide +kernel
theorem dX11_home_66 : decode cX11_home 66 = .ok (.istore_n 3, 1) := by decide +kernel
theorem dX11_home_67 : decode cX11_home 67 = .ok (.iinc 4 1, 3) := by decide +kernel
theorem dX11_home_70 : decode cX11_home 70 = .ok (.goto (-63), 3) := by decide +kernel
theorem dX11_home_73 : decode cX11_home 73 = .ok (.iload_n 2, 1) := by decide +kernel
theorem dX11_home_74 : decode cX11_home 74 = .ok (.iload_n 3, 1) := by decide +kernel
theorem dX11_home_75 : decode cX11_home 75 = .ok (.if_icmp .ne 5, 3) := by decide +kernel
theorem dX11_home_78 : decode cX11_home 78 = .ok (.iconst 0, 1) := by decide +kernel
theorem dX11_home_79 : decode cX11_home 79 = .ok (.ireturn, 1) := by decide +kernel
theorem dX11_home_80 : decode cX11_home 80 = .ok (.aload_n 0, 1) := by decide +kernel
theorem dX11_home_81 : decode cX11_home 81 = .ok (.iload_n 1, 1) := by decide +kernel
theorem dX11_home_82 : decode cX11_home 82 = .ok (.invokevirtual 444, 3) := by decide +kernel
theorem dX11_home_85 : decode cX11_home 85 = .ok (.aload_n 0, 1) := by decide +kernel
theorem dX11_home_86 : decode cX11_home 86 = .ok (.getfield 146, 3) := by decide +kernel
theorem dX11_home_89 : decode cX11_home 89 = .ok (.iload_n 3, 1) := by decide +kernel
theorem dX11_home_90 : decode cX11_home 90 = .ok (.iaload, 1) := by decide +kernel
theorem dX11_home_91 : decode cX11_home 91 = .ok (.bipush (-2), 2) := by decide +kernel
theorem dX11_home_93 : decode cX11_home 93 = .ok (.if_icmp .ne 6, 3) := by decide +kernel
theorem dX11_home_96 : decode cX11_home 96 = .ok (.bipush (-2), 2) := by decide +kernel
theorem dX11_home_98 : decode cX11_home 98 = .ok (.ireturn, 1) := by decide +kernel
theorem dX11_home_99 : decode cX11_home 99 = .ok (.aload_n 0, 1) := by decide +kernel
theorem dX11_home_100 : decode cX11_home 100 = .ok (.getfield 146, 3) := by decide +kernel
theorem dX11_home_103 : decode cX11_home 103 = .ok (.iload_n 2, 1) := by decide +kernel
theorem dX11_home_104 : decode cX11_home 104 = .ok (.iconst 0, 1) := by decide +kernel
theorem dX11_home_105 : decode cX11_home 105 = .ok (.iastore, 1) := by decide +kernel
theorem dX11_home_106 : decode cX11_home 106 = .ok (.iconst 1, 1) := by decide +kernel
theorem dX11_home_107 : decode cX11_home 107 = .ok (.istore 4, 2) := by decide +kernel
theorem dX11_home_109 : decode cX11_home 109 = .ok (.iconst 1, 1) := by decide +kernel
theorem dX11_home_110 : decode cX11_home 110 = .ok (.istore 5, 2) := by decide +kernel
theorem dX11_home_112 : decode cX11_home 112 = .ok (.iload 4, 2) := by decide +kernel
theorem dX11_home_114 : decode cX11_home 114 = .ok (.ifCond .eq 77, 3) := by decide +kernel
theorem dX11_home_117 : decode cX11_home 117 = .ok (.iconst 0, 1) := by decide +kernel
theorem dX11_home_118 : decode cX11_home 118 = .ok (.istore 4, 2) := by decide +kernel
theorem dX11_home_120 : decode cX11_home 120 = .ok (.iconst 0, 1) := by decide +kernel
theorem dX11_home_121 : decode cX11_home 121 = .ok (.istore 6, 2) := by decide +kernel
theorem dX11_home_123 : decode cX11_home 123 = .ok (.iload 6, 2) := by decide +kernel
theorem dX11_home_125 : decode cX11_home 125 = .ok (.aload_n 0, 1) := by decide +kernel
theorem dX11_home_126 : decode cX11_home 126 = .ok (.getfield 58, 3) := by decide +kernel
theorem dX11_home_129 : decode cX11_home 129 = .ok (.aload_n 0, 1) := by decide +kernel
theorem dX11_home_130 : decode cX11_home 130 = .ok (.getfield 251, 3) := by decide +kernel
theorem dX11_home_133 : decode cX11_home 133 = .ok (.iaload, 1) := by decide +kernel
theorem dX11_home_134 : decode cX11_home 134 = .ok (.invokestatic 423, 3) := by decide +kernel
theorem dX11_home_137 : decode cX11_home 137 = .ok (.if_icmp .ge 48, 3) := by decide +kernel
theorem dX11_home_140 : decode cX11_home 140 = .ok (.aload_n 0, 1) := by decide +kernel
theorem dX11_home_141 : decode cX11_home 141 = .ok (.getfield 146, 3) := by decide +kernel
theorem dX11_home_144 : decode cX11_home 144 = .ok (.iload 6, 2) := by decide +kernel
theorem dX11_home_146 : decode cX11_home 146 = .ok (.iaload, 1) := by decide +kernel
theorem dX11_home_147 : decode cX11_home 147 = .ok (.iconst (-1), 1) := by decide +kernel
theorem dX11_home_148 : decode cX11_home 148 = .ok (.if_icmp .ne 31, 3) := by decide +kernel
theorem dX11_home_151 : decode cX11_home 151 = .ok (.aload_n 0, 1) := by decide +kernel
theorem dX11_home_152 : decode cX11_home 152 = .ok (.iload 6, 2) := by decide +kernel
theorem dX11_home_154 : decode cX11_home 154 = .ok (.iload 5, 2) := by decide +kernel
theorem dX11_home_156 : decode cX11_home 156 = .ok (.iconst 1, 1) := by decide +kernel
theorem dX11_home_157 : decode cX11_home 157 = .ok (.isub, 1) := by decide +kernel
theorem dX11_home_158 : decode cX11_home 158 = .ok (.invokevirtual 447, 3) := by decide +kernel
theorem dX11_home_161 : decode cX11_home 161 = .ok (.ifCond .ne 6, 3) := by decide +kernel
theorem dX11_home_164 : decode cX11_home 164 = .ok (.goto 15, 3) := by decide +kernel
theorem dX11_home_167 : decode cX11_home 167 = .ok (.aload_n 0, 1) := by decide +kernel
theorem dX11_home_168 : decode cX11_home 168 = .ok (.getfield 146, 3) := by decide +kernel
theorem dX11_home_171 : decode cX11_home 171 = .ok (.iload 6, 2) := by decide +kernel
theorem dX11_home_173 : decode cX11_home 173 = .ok (.iload 5, 2) := by decide +kernel
theorem dX11_home_175 : decode cX11_home 175 = .ok (.iastore, 1) := by decide +kernel
theorem dX11_home_176 : decode cX11_home 176 = .ok (.iconst 1, 1) := by decide +kernel
theorem dX11_home_177 : decode cX11_home 177 = .ok (.istore 4, 2) := by decide +kernel
theorem dX11_home_179 : decode cX11_home 179 = .ok (.iinc 6 1, 3) := by decide +kernel
theorem dX11_home_182 : decode cX11_home 182 = .ok (.goto (-59), 3) := by decide +kernel
theorem dX11_home_185 : decode cX11_home 185 = .ok (.iinc 5 1, 3) := by decide +kernel
theorem dX11_home_188 : decode cX11_home 188 = .ok (.goto (-76), 3) := by decide +kernel
theorem dX11_home_191 : decode cX11_home 191 = .ok (.aload_n 0, 1) := by decide +kernel
theorem dX11_home_192 : decode cX11_home 192 = .ok (.getfield 146, 3) := by decide +kernel
theorem dX11_home_195 : decode cX11_home 195 = .ok (.iload_n 3, 1) := by decide +kernel
theorem dX11_home_196 : decode cX11_home 196 = .ok (.iaload, 1) := by decide +kernel
theorem dX11_home_197 : decode cX11_home 197 = .ok (.ifCond .ge 8, 3) := by decide +kernel
theorem dX11_home_200 : decode cX11_home 200 = .ok (.bipush (-2), 2) := by decide +kernel
theorem dX11_home_202 : decode cX11_home 202 = .ok (.goto 9, 3) := by decide +kernel
theorem dX11_home_205 : decode cX11_home 205 = .ok (.aload_n 0, 1) := by decide +kernel
theorem dX11_home_206 : decode cX11_home 206 = .ok (.getfield 146, 3) := by decide +kernel
theorem dX11_home_209 : decode cX11_home 209 = .ok (.iload_n 3, 1) := by decide +kernel
theorem dX11_home_210 : decode cX11_home 210 = .ok (.iaload, 1) := by decide +kernel
theorem dX11_home_211 : decode cX11_home 211 = .ok (.ireturn, 1) := by decide +kernel
theorem dX11_gainOf_0 : decode cX11_gainOf 0 = .ok (.aload_n 0, 1) := by decide +kernel
theorem dX11_gainOf_1 : decode cX11_gainOf 1 = .ok (.getfield 137, 3) := by decide +kernel
theorem dX11_gainOf_4 : decode cX11_gainOf 4 = .ok (.iload_n 1, 1) := by decide +kernel
theorem dX11_gainOf_5 : decode cX11_gainOf 5 = .ok (.iaload, 1) := by decide +kernel
theorem dX11_gainOf_6 : decode cX11_gainOf 6 = .ok (.istore_n 3, 1) := by decide +kernel
theorem dX11_gainOf_7 : decode cX11_gainOf 7 = .ok (.aload_n 0, 1) := by decide +kernel
theorem dX11_gainOf_8 : decode cX11_gainOf 8 = .ok (.iload_n 3, 1) := by decide +kernel
theorem dX11_gainOf_9 : decode cX11_gainOf 9 = .ok (.iload_n 2, 1) := by decide +kernel
theorem dX11_gainOf_10 : decode cX11_gainOf 10 = .ok (.iconst 0, 1) := by decide +kernel
theorem dX11_gainOf_11 : decode cX11_gainOf 11 = .ok (.iload_n 1, 1) := by decide +kernel
theorem dX11_gainOf_12 : decode cX11_gainOf 12 = .ok (.invokevirtual 394, 3) := by decide +kernel
theorem dX11_gainOf_15 : decode cX11_gainOf 15 = .ok (.aload_n 0, 1) := by decide +kernel
theorem dX11_gainOf_16 : decode cX11_gainOf 16 = .ok (.iload_n 3, 1) := by decide +kernel
theorem dX11_gainOf_17 : decode cX11_gainOf 17 = .ok (.iload_n 1, 1) := by decide +kernel
theorem dX11_gainOf_18 : decode cX11_gainOf 18 = .ok (.iconst 0, 1) := by decide +kernel
theorem dX11_gainOf_19 : decode cX11_gainOf 19 = .ok (.iconst (-1), 1) := by decide +kernel
theorem dX11_gainOf_20 : decode cX11_gainOf 20 = .ok (.invokevirtual 394, 3) := by decide +kernel
theorem dX11_gainOf_23 : decode cX11_gainOf 23 = .ok (.isub, 1) := by decide +kernel
theorem dX11_gainOf_24 : decode cX11_gainOf 24 = .ok (.ireturn, 1) := by decide +kernel
theorem dX11_isSwap_0 : decode cX11_isSwap 0 = .ok (.aload_n 0, 1) := by decide +kernel
theorem dX11_isSwap_1 : decode cX11_isSwap 1 = .ok (.getfield 137, 3) := by decide +kernel
theorem dX11_isSwap_4 : decode cX11_isSwap 4 = .ok (.iload_n 1, 1) := by decide +kernel
theorem dX11_isSwap_5 : decode cX11_isSwap 5 = .ok (.iaload, 1) := by decide +kernel
theorem dX11_isSwap_6 : decode cX11_isSwap 6 = .ok (.ifCond .lt 49, 3) := by decide +kernel
theorem dX11_isSwap_9 : decode cX11_isSwap 9 = .ok (.aload_n 0, 1) := by decide +kernel
theorem dX11_isSwap_10 : decode cX11_isSwap 10 = .ok (.getfield 137, 3) := by decide +kernel
theorem dX11_isSwap_13 : decode cX11_isSwap 13 = .ok (.iload_n 2, 1) := by decide +kernel
theorem dX11_isSwap_14 : decode cX11_isSwap 14 = .ok (.iaload, 1) := by decide +kernel
theorem dX11_isSwap_15 : decode cX11_isSwap 15 = .ok (.ifCond .lt 40, 3) := by decide +kernel
theorem dX11_isSwap_18 : decode cX11_isSwap 18 = .ok (.aload_n 0, 1) := by decide +kernel
theorem dX11_isSwap_19 : decode cX11_isSwap 19 = .ok (.getfield 137, 3) := by decide +kernel
theorem dX11_isSwap_22 : decode cX11_isSwap 22 = .ok (.iload_n 1, 1) := by decide +kernel
theorem dX11_isSwap_23 : decode cX11_isSwap 23 = .ok (.iaload, 1) := by decide +kernel
theorem dX11_isSwap_24 : decode cX11_isSwap 24 = .ok (.aload_n 0, 1) := by decide +kernel
theorem dX11_isSwap_25 : decode cX11_isSwap 25 = .ok (.getfield 137, 3) := by decide +kernel
theorem dX11_isSwap_28 : decode cX11_isSwap 28 = .ok (.iload_n 2, 1) := by decide +kernel
theorem dX11_isSwap_29 : decode cX11_isSwap 29 = .ok (.iaload, 1) := by decide +kernel
theorem dX11_isSwap_30 : decode cX11_isSwap 30 = .ok (.if_icmp .eq 25, 3) := by decide +kernel
theorem dX11_isSwap_33 : decode cX11_isSwap 33 = .ok (.aload_n 0, 1) := by decide +kernel
theorem dX11_isSwap_34 : decode cX11_isSwap 34 = .ok (.iload_n 1, 1) := by decide +kernel
theorem dX11_isSwap_35 : decode cX11_isSwap 35 = .ok (.iload_n 2, 1) := by decide +kernel
theorem dX11_isSwap_36 : decode cX11_isSwap 36 = .ok (.invokevirtual 450, 3) := by decide +kernel
theorem dX11_isSwap_39 : decode cX11_isSwap 39 = .ok (.ifCond .le 16, 3) := by decide +kernel
theorem dX11_isSwap_42 : decode cX11_isSwap 42 = .ok (.aload_n 0, 1) := by decide +kernel
theorem dX11_isSwap_43 : decode cX11_isSwap 43 = .ok (.iload_n 2, 1) := by decide +kernel
theorem dX11_isSwap_44 : decode cX11_isSwap 44 = .ok (.iload_n 1, 1) := by decide +kernel
theorem dX11_isSwap_45 : decode cX11_isSwap 45 = .ok (.invokevirtual 450, 3) := by decide +kernel
theorem dX11_isSwap_48 : decode cX11_isSwap 48 = .ok (.ifCond .le 7, 3) := by decide +kernel
theorem dX11_isSwap_51 : decode cX11_isSwap 51 = .ok (.iconst 1, 1) := by decide +kernel
theorem dX11_isSwap_52 : decode cX11_isSwap 52 = .ok (.goto 4, 3) := by decide +kernel
theorem dX11_isSwap_55 : decode cX11_isSwap 55 = .ok (.iconst 0, 1) := by decide +kernel
theorem dX11_isSwap_56 : decode cX11_isSwap 56 = .ok (.ireturn, 1) := by decide +kernel
theorem dX11_swaps_0 : decode cX11_swaps 0 = .ok (.iload_n 1, 1) := by decide +kernel
theorem dX11_swaps_1 : decode cX11_swaps 1 = .ok (.iconst (-1), 1) := by decide +kernel
theorem dX11_swaps_2 : decode cX11_swaps 2 = .ok (.iconst 2, 1) := by decide +kernel
theorem dX11_swaps_3 : decode cX11_swaps 3 = .ok (.invokestatic 335, 3) := by decide +kernel
theorem dX11_swaps_6 : decode cX11_swaps 6 = .ok (.ifCond .ne 5, 3) := by decide +kernel
theorem dX11_swaps_9 : decode cX11_swaps 9 = .ok (.iconst (-1), 1) := by decide +kernel
theorem dX11_swaps_10 : decode cX11_swaps 10 = .ok (.ireturn, 1) := by decide +kernel
theorem dX11_swaps_11 : decode cX11_swaps 11 = .ok (.aload_n 0, 1) := by decide +kernel
theorem dX11_swaps_12 : decode cX11_swaps 12 = .ok (.invokevirtual 388, 3) := by decide +kernel
theorem dX11_swaps_15 : decode cX11_swaps 15 = .ok (.iconst 0, 1) := by decide +kernel
theorem dX11_swaps_16 : decode cX11_swaps 16 = .ok (.istore_n 2, 1) := by decide +kernel
theorem dX11_swaps_17 : decode cX11_swaps 17 = .ok (.bipush (-2), 2) := by decide +kernel
theorem dX11_swaps_19 : decode cX11_swaps 19 = .ok (.istore_n 3, 1) := by decide +kernel
theorem dX11_swaps_20 : decode cX11_swaps 20 = .ok (.bipush (-2), 2) := by decide +kernel
theorem dX11_swaps_22 : decode cX11_swaps 22 = .ok (.istore 4, 2) := by decide +kernel
theorem dX11_swaps_24 : decode cX11_swaps 24 = .ok (.bipush (-2), 2) := by decide +kernel
theorem dX11_swaps_26 : decode cX11_swaps 26 = .ok (.istore 5, 2) := by decide +kernel
theorem dX11_swaps_28 : decode cX11_swaps 28 = .ok (.iconst 0, 1) := by decide +kernel
theorem dX11_swaps_29 : decode cX11_swaps 29 = .ok (.istore 6, 2) := by decide +kernel
theorem dX11_swaps_31 : decode cX11_swaps 31 = .ok (.iload 6, 2) := by decide +kernel
theorem dX11_swaps_33 : decode cX11_swaps 33 = .ok (.aload_n 0, 1) := by decide +kernel
theorem dX11_swaps_34 : decode cX11_swaps 34 = .ok (.getfield 58, 3) := by decide +kernel
theorem dX11_swaps_37 : decode cX11_swaps 37 = .ok (.aload_n 0, 1) := by decide +kernel
theorem dX11_swaps_38 : decode cX11_swaps 38 = .ok (.getfield 251, 3) := by decide +kernel
theorem dX11_swaps_41 : decode cX11_swaps 41 = .ok (.iaload, 1) := by decide +kernel
theorem dX11_swaps_42 : decode cX11_swaps 42 = .ok (.if_icmp .ge 103, 3) := by decide +kernel
theorem dX11_swaps_45 : decode cX11_swaps 45 = .ok (.iload 6, 2) := by decide +kernel
theorem dX11_swaps_47 : decode cX11_swaps 47 = .ok (.iconst 1, 1) := by decide +kernel
theorem dX11_swaps_48 : decode cX11_swaps 48 = .ok (.iadd, 1) := by decide +kernel
theorem dX11_swaps_49 : decode cX11_swaps 49 = .ok (.istore 7, 2) := by decide +kernel
theorem dX11_swaps_51 : decode cX11_swaps 51 = .ok (.iload 7, 2) := by decide +kernel
theorem dX11_swaps_53 : decode cX11_swaps 53 = .ok (.aload_n 0, 1) := by decide +kernel
theorem dX11_swaps_54 : decode cX11_swaps 54 = .ok (.getfield 58, 3) := by decide +kernel
theorem dX11_swaps_57 : decode cX11_swaps 57 = .ok (.aload_n 0, 1) := by decide +kernel
theorem dX11_swaps_58 : decode cX11_swaps 58 = .ok (.getfield 251, 3) := by decide +kernel
theorem dX11_swaps_61 : decode cX11_swaps 61 = .ok (.iaload, 1) := by decide +kernel
theorem dX11_swaps_62 : decode cX11_swaps 62 = .ok (.if_icmp .ge 77, 3) := by decide +kernel
theorem dX11_swaps_65 : decode cX11_swaps 65 = .ok (.aload_n 0, 1) := by decide +kernel
theorem dX11_swaps_66 : decode cX11_swaps 66 = .ok (.iload 6, 2) := by decide +kernel
theorem dX11_swaps_68 : decode cX11_swaps 68 = .ok (.iload 7, 2) := by decide +kernel
theorem dX11_swaps_70 : decode cX11_swaps 70 = .ok (.invokevirtual 453, 3) := by decide +kernel
theorem dX11_swaps_73 : decode cX11_swaps 73 = .ok (.ifCond .ne 6, 3) := by decide +kernel
theorem dX11_swaps_76 : decode cX11_swaps 76 = .ok (.goto 57, 3) := by decide +kernel
theorem dX11_swaps_79 : decode cX11_swaps 79 = .ok (.iinc 2 1, 3) := by decide +kernel
theorem dX11_swaps_82 : decode cX11_swaps 82 = .ok (.aload_n 0, 1) := by decide +kernel
theorem dX11_swaps_83 : decode cX11_swaps 83 = .ok (.iload 6, 2) := by decide +kernel
theorem dX11_swaps_85 : decode cX11_swaps 85 = .ok (.iload 7, 2) := by decide +kernel
theorem dX11_swaps_87 : decode cX11_swaps 87 = .ok (.invokevirtual 450, 3) := by decide +kernel
theorem dX11_swaps_90 : decode cX11_swaps 90 = .ok (.aload_n 0, 1) := by decide +kernel
theorem dX11_swaps_91 : decode cX11_swaps 91 = .ok (.iload 7, 2) := by decide +kernel
theorem dX11_swaps_93 : decode cX11_swaps 93 = .ok (.iload 6, 2) := by decide +kernel
theorem dX11_swaps_95 : decode cX11_swaps 95 = .ok (.invokevirtual 450, 3) := by decide +kernel
theorem dX11_swaps_98 : decode cX11_swaps 98 = .ok (.iadd, 1) := by decide +kernel
theorem dX11_swaps_99 : decode cX11_swaps 99 = .ok (.iload 5, 2) := by decide +kernel
theorem dX11_swaps_101 : decode cX11_swaps 101 = .ok (.if_icmp .gt 6, 3) := by decide +kernel
theorem dX11_swaps_104 : decode cX11_swaps 104 = .ok (.goto 29, 3) := by decide +kernel
theorem dX11_swaps_107 : decode cX11_swaps 107 = .ok (.aload_n 0, 1) := by decide +kernel
theorem dX11_swaps_108 : decode cX11_swaps 108 = .ok (.iload 6, 2) := by decide +kernel
theorem dX11_swaps_110 : decode cX11_swaps 110 = .ok (.iload 7, 2) := by decide +kernel
theorem dX11_swaps_112 : decode cX11_swaps 112 = .ok (.invokevirtual 450, 3) := by decide +kernel
theorem dX11_swaps_115 : decode cX11_swaps 115 = .ok (.aload_n 0, 1) := by decide +kernel
theorem dX11_swaps_116 : decode cX11_swaps 116 = .ok (.iload 7, 2) := by decide +kernel
theorem dX11_swaps_118 : decode cX11_swaps 118 = .ok (.iload 6, 2) := by decide +kernel
theorem dX11_swaps_120 : decode cX11_swaps 120 = .ok (.invokevirtual 450, 3) := by decide +kernel
theorem dX11_swaps_123 : decode cX11_swaps 123 = .ok (.iadd, 1) := by decide +kernel
theorem dX11_swaps_124 : decode cX11_swaps 124 = .ok (.istore 5, 2) := by decide +kernel
theorem dX11_swaps_126 : decode cX11_swaps 126 = .ok (.iload 6, 2) := by decide +kernel
theorem dX11_swaps_128 : decode cX11_swaps 128 = .ok (.istore_n 3, 1) := by decide +kernel
theorem dX11_swaps_129 : decode cX11_swaps 129 = .ok (.iload 7, 2) := by decide +kernel
theorem dX11_swaps_131 : decode cX11_swaps 131 = .ok (.istore 4, 2) := by decide +kernel
theorem dX11_swaps_133 : decode cX11_swaps 133 = .ok (.iinc 7 1, 3) := by decide +kernel
theorem dX11_swaps_136 : decode cX11_swaps 136 = .ok (.goto (-85), 3) := by decide +kernel
theorem dX11_swaps_139 : decode cX11_swaps 139 = .ok (.iinc 6 1, 3) := by decide +kernel
theorem dX11_swaps_142 : decode cX11_swaps 142 = .ok (.goto (-111), 3) := by decide +kernel
theorem dX11_swaps_145 : decode cX11_swaps 145 = .ok (.iload_n 1, 1) := by decide +kernel
theorem dX11_swaps_146 : decode cX11_swaps 146 = .ok (.iconst (-1), 1) := by decide +kernel
theorem dX11_swaps_147 : decode cX11_swaps 147 = .ok (.if_icmp .ne 7, 3) := by decide +kernel
theorem dX11_swaps_150 : decode cX11_swaps 150 = .ok (.iload_n 2, 1) := by decide +kernel
theorem dX11_swaps_151 : decode cX11_swaps 151 = .ok (.goto 23, 3) := by decide +kernel
theorem dX11_swaps_154 : decode cX11_swaps 154 = .ok (.iload_n 1, 1) := by decide +kernel
theorem dX11_swaps_155 : decode cX11_swaps 155 = .ok (.ifCond .ne 7, 3) := by decide +kernel
theorem dX11_swaps_158 : decode cX11_swaps 158 = .ok (.iload_n 3, 1) := by decide +kernel
theorem dX11_swaps_159 : decode cX11_swaps 159 = .ok (.goto 15, 3) := by decide +kernel
theorem dX11_swaps_162 : decode cX11_swaps 162 = .ok (.iload_n 1, 1) := by decide +kernel
theorem dX11_swaps_163 : decode cX11_swaps 163 = .ok (.iconst 1, 1) := by decide +kernel
theorem dX11_swaps_164 : decode cX11_swaps 164 = .ok (.if_icmp .ne 8, 3) := by decide +kernel
theorem dX11_swaps_167 : decode cX11_swaps 167 = .ok (.iload 4, 2) := by decide +kernel
theorem dX11_swaps_169 : decode cX11_swaps 169 = .ok (.goto 5, 3) := by decide +kernel
theorem dX11_swaps_172 : decode cX11_swaps 172 = .ok (.iload 5, 2) := by decide +kernel
theorem dX11_swaps_174 : decode cX11_swaps 174 = .ok (.ireturn, 1) := by decide +kernel
theorem dX11_fillsLikes_0 : decode cX11_fillsLikes 0 = .ok (.aload_n 0, 1) := by decide +kernel
theorem dX11_fillsLikes_1 : decode cX11_fillsLikes 1 = .ok (.invokevirtual 388, 3) := by decide +kernel
theorem dX11_fillsLikes_4 : decode cX11_fillsLikes 4 = .ok (.iconst 0, 1) := by decide +kernel
theorem dX11_fillsLikes_5 : decode cX11_fillsLikes 5 = .ok (.istore_n 2, 1) := by decide +kernel
theorem dX11_fillsLikes_6 : decode cX11_fillsLikes 6 = .ok (.iload_n 2, 1) := by decide +kernel
theorem dX11_fillsLikes_7 : decode cX11_fillsLikes 7 = .ok (.aload_n 0, 1) := by decide +kernel
theorem dX11_fillsLikes_8 : decode cX11_fillsLikes 8 = .ok (.getfield 49, 3) := by decide +kernel
theorem dX11_fillsLikes_11 : decode cX11_fillsLikes 11 = .ok (.aload_n 0, 1) := by decide +kernel
theorem dX11_fillsLikes_12 : decode cX11_fillsLikes 12 = .ok (.getfield 251, 3) := by decide +kernel
theorem dX11_fillsLikes_15 : decode cX11_fillsLikes 15 = .ok (.iaload, 1) := by decide +kernel
theorem dX11_fillsLikes_16 : decode cX11_fillsLikes 16 = .ok (.if_icmp .ge 20, 3) := by decide +kernel
theorem dX11_fillsLikes_19 : decode cX11_fillsLikes 19 = .ok (.aload_n 0, 1) := by decide +kernel
theorem dX11_fillsLikes_20 : decode cX11_fillsLikes 20 = .ok (.getfield 149, 3) := by decide +kernel
theorem dX11_fillsLikes_23 : decode cX11_fillsLikes 23 = .ok (.iconst 5, 1) := by decide +kernel
theorem dX11_fillsLikes_24 : decode cX11_fillsLikes 24 = .ok (.iload_n 1, 1) := by decide +kernel
theorem dX11_fillsLikes_25 : decode cX11_fillsLikes 25 = .ok (.imul, 1) := by decide +kernel
theorem dX11_fillsLikes_26 : decode cX11_fillsLikes 26 = .ok (.iload_n 2, 1) := by decide +kernel
theorem dX11_fillsLikes_27 : decode cX11_fillsLikes 27 = .ok (.iadd, 1) := by decide +kernel
theorem dX11_fillsLikes_28 : decode cX11_fillsLikes 28 = .ok (.iconst 0, 1) := by decide +kernel
theorem dX11_fillsLikes_29 : decode cX11_fillsLikes 29 = .ok (.iastore, 1) := by decide +kernel
theorem dX11_fillsLikes_30 : decode cX11_fillsLikes 30 = .ok (.iinc 2 1, 3) := by decide +kernel
theorem dX11_fillsLikes_33 : decode cX11_fillsLikes 33 = .ok (.goto (-27), 3) := by decide +kernel
theorem dX11_fillsLikes_36 : decode cX11_fillsLikes 36 = .ok (.iconst 0, 1) := by decide +kernel
theorem dX11_fillsLikes_37 : decode cX11_fillsLikes 37 = .ok (.istore_n 2, 1) := by decide +kernel
theorem dX11_fillsLikes_38 : decode cX11_fillsLikes 38 = .ok (.iload_n 2, 1) := by decide +kernel
theorem dX11_fillsLikes_39 : decode cX11_fillsLikes 39 = .ok (.aload_n 0, 1) := by decide +kernel
theorem dX11_fillsLikes_40 : decode cX11_fillsLikes 40 = .ok (.getfield 58, 3) := by decide +kernel
theorem dX11_fillsLikes_43 : decode cX11_fillsLikes 43 = .ok (.aload_n 0, 1) := by decide +kernel
theorem dX11_fillsLikes_44 : decode cX11_fillsLikes 44 = .ok (.getfield 251, 3) := by decide +kernel
theorem dX11_fillsLikes_47 : decode cX11_fillsLikes 47 = .ok (.iaload, 1) := by decide +kernel
theorem dX11_fillsLikes_48 : decode cX11_fillsLikes 48 = .ok (.if_icmp .ge 73, 3) := by decide +kernel
theorem dX11_fillsLikes_51 : decode cX11_fillsLikes 51 = .ok (.aload_n 0, 1) := by decide +kernel
theorem dX11_fillsLikes_52 : decode cX11_fillsLikes 52 = .ok (.getfield 137, 3) := by decide +kernel
theorem dX11_fillsLikes_55 : decode cX11_fillsLikes 55 = .ok (.iload_n 2, 1) := by decide +kernel
theorem dX11_fillsLikes_56 : decode cX11_fillsLikes 56 = .ok (.iaload, 1) := by decide +kernel
theorem dX11_fillsLikes_57 : decode cX11_fillsLikes 57 = .ok (.ifCond .ge 15, 3) := by decide +kernel
theorem dX11_fillsLikes_60 : decode cX11_fillsLikes 60 = .ok (.aload_n 0, 1) := by decide +kernel
theorem dX11_fillsLikes_61 : decode cX11_fillsLikes 61 = .ok (.getfield 137, 3) := by decide +kernel
theorem dX11_fillsLikes_64 : decode cX11_fillsLikes 64 = .ok (.bipush 6, 2) := by decide +kernel
theorem dX11_fillsLikes_66 : decode cX11_fillsLikes 66 = .ok (.iload_n 2, 1) := by decide +kernel
theorem dX11_fillsLikes_67 : decode cX11_fillsLikes 67 = .ok (.iadd, 1) := by decide +kernel
theorem dX11_fillsLikes_68 : decode cX11_fillsLikes 68 = .ok (.iaload, 1) := by decide +kernel
theorem dX11_fillsLikes_69 : decode cX11_fillsLikes 69 = .ok (.goto 9, 3) := by decide +kernel
theorem dX11_fillsLikes_72 : decode cX11_fillsLikes 72 = .ok (.aload_n 0, 1) := by decide +kernel
theorem dX11_fillsLikes_73 : decode cX11_fillsLikes 73 = .ok (.getfield 137, 3) := by decide +kernel
theorem dX11_fillsLikes_76 : decode cX11_fillsLikes 76 = .ok (.iload_n 2, 1) := by decide +kernel
theorem dX11_fillsLikes_77 : decode cX11_fillsLikes 77 = .ok (.iaload, 1) := by decide +kernel
theorem dX11_fillsLikes_78 : decode cX11_fillsLikes 78 = .ok (.istore_n 3, 1) := by decide +kernel
theorem dX11_fillsLikes_79 : decode cX11_fillsLikes 79 = .ok (.iload_n 1, 1) := by decide +kernel
theorem dX11_fillsLikes_80 : decode cX11_fillsLikes 80 = .ok (.iload_n 3, 1) := by decide +kernel
theorem dX11_fillsLikes_81 : decode cX11_fillsLikes 81 = .ok (.ishr, 1) := by decide +kernel
theorem dX11_fillsLikes_82 : decode cX11_fillsLikes 82 = .ok (.iconst 1, 1) := by decide +kernel
theorem dX11_fillsLikes_83 : decode cX11_fillsLikes 83 = .ok (.iand, 1) := by decide +kernel
theorem dX11_fillsLikes_84 : decode cX11_fillsLikes 84 = .ok (.iconst 1, 1) := by decide +kernel
theorem dX11_fillsLikes_85 : decode cX11_fillsLikes 85 = .ok (.if_icmp .ne 9, 3) := by decide +kernel
theorem dX11_fillsLikes_88 : decode cX11_fillsLikes 88 = .ok (.aload_n 0, 1) := by decide +kernel
theorem dX11_fillsLikes_89 : decode cX11_fillsLikes 89 = .ok (.iload_n 2, 1) := by decide +kernel
theorem dX11_fillsLikes_90 : decode cX11_fillsLikes 90 = .ok (.invokevirtual 343, 3) := by decide +kernel
theorem dX11_fillsLikes_93 : decode cX11_fillsLikes 93 = .ok (.istore_n 3, 1) := by decide +kernel
theorem dX11_fillsLikes_94 : decode cX11_fillsLikes 94 = .ok (.aload_n 0, 1) := by decide +kernel
theorem dX11_fillsLikes_95 : decode cX11_fillsLikes 95 = .ok (.getfield 149, 3) := by decide +kernel
theorem dX11_fillsLikes_98 : decode cX11_fillsLikes 98 = .ok (.iconst 5, 1) := by decide +kernel
theorem dX11_fillsLikes_99 : decode cX11_fillsLikes 99 = .ok (.iload_n 1, 1) := by decide +kernel
theorem dX11_fillsLikes_100 : decode cX11_fillsLikes 100 = .ok (.imul, 1) := by decide +kernel
theorem dX11_fillsLikes_101 : decode cX11_fillsLikes 101 = .ok (.iload_n 3, 1) := by decide +kernel
theorem dX11_fillsLikes_102 : decode cX11_fillsLikes 102 = .ok (.iadd, 1) := by decide +kernel
theorem dX11_fillsLikes_103 : decode cX11_fillsLikes 103 = .ok (.dup2, 1) := by decide +kernel
theorem dX11_fillsLikes_104 : decode cX11_fillsLikes 104 = .ok (.iaload, 1) := by decide +kernel
theorem dX11_fillsLikes_105 : decode cX11_fillsLikes 105 = .ok (.aload_n 0, 1) := by decide +kernel
theorem dX11_fillsLikes_106 : decode cX11_fillsLikes 106 = .ok (.iload_n 3, 1) := by decide +kernel
theorem dX11_fillsLikes_107 : decode cX11_fillsLikes 107 = .ok (.iload_n 2, 1) := by decide +kernel
theorem dX11_fillsLikes_108 : decode cX11_fillsLikes 108 = .ok (.iconst 1, 1) := by decide +kernel
theorem dX11_fillsLikes_109 : decode cX11_fillsLikes 109 = .ok (.iconst (-1), 1) := by decide +kernel
theorem dX11_fillsLikes_110 : decode cX11_fillsLikes 110 = .ok (.invokevirtual 394, 3) := by decide +kernel
theorem dX11_fillsLikes_113 : decode cX11_fillsLikes 113 = .ok (.iadd, 1) := by decide +kernel
theorem dX11_fillsLikes_114 : decode cX11_fillsLikes 114 = .ok (.iastore, 1) := by decide +kernel
theorem dX11_fillsLikes_115 : decode cX11_fillsLikes 115 = .ok (.iinc 2 1, 3) := by decide +kernel
theorem dX11_fillsLikes_118 : decode cX11_fillsLikes 118 = .ok (.goto (-80), 3) := by decide +kernel
theorem dX11_fillsLikes_121 : decode cX11_fillsLikes 121 = .ok (.return_, 1) := by decide +kernel
