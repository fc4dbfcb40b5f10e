theorem dX11_term_0 : decode cX11_term 0 = .ok (.aload_n 0, 1) := by decide +kernel
theorem dX11_term_1 : decode cX11_term 1 = .ok (.getfield 113, 3) := by decide +kernel
theorem dX11_term_4 : decode cX11_term 4 = .ok (.aload_n 0, 1) := by decide +kernel
theorem dX11_term_5 : decode cX11_term 5 = .ok (.getfield 260, 3) := by decide +kernel
theorem dX11_term_8 : decode cX11_term 8 = .ok (.aload_n 0, 1) := by decide +kernel
theorem dX11_term_9 : decode cX11_term 9 = .ok (.getfield 263, 3) := by decide +kernel
theorem dX11_term_12 : decode cX11_term 12 = .ok (.iastore, 1) := by decide +kernel
theorem dX11_term_13 : decode cX11_term 13 = .ok (.aload_n 0, 1) := by decide +kernel
theorem dX11_term_14 : decode cX11_term 14 = .ok (.getfield 221, 3) := by decide +kernel
theorem dX11_term_17 : decode cX11_term 17 = .ok (.ifCond .ne 7, 3) := by decide +kernel
theorem dX11_term_20 : decode cX11_term 20 = .ok (.aload_n 0, 1) := by decide +kernel
theorem dX11_term_21 : decode cX11_term 21 = .ok (.invokevirtual 312, 3) := by decide +kernel
theorem dX11_term_24 : decode cX11_term 24 = .ok (.aload_n 0, 1) := by decide +kernel
theorem dX11_term_25 : decode cX11_term 25 = .ok (.getfield 116, 3) := by decide +kernel
theorem dX11_term_28 : decode cX11_term 28 = .ok (.aload_n 0, 1) := by decide +kernel
theorem dX11_term_29 : decode cX11_term 29 = .ok (.getfield 260, 3) := by decide +kernel
theorem dX11_term_32 : decode cX11_term 32 = .ok (.aload_n 0, 1) := by decide +kernel
theorem dX11_term_33 : decode cX11_term 33 = .ok (.getfield 263, 3) := by decide +kernel
theorem dX11_term_36 : decode cX11_term 36 = .ok (.iastore, 1) := by decide +kernel
theorem dX11_term_37 : decode cX11_term 37 = .ok (.aload_n 0, 1) := by decide +kernel
theorem dX11_term_38 : decode cX11_term 38 = .ok (.dup, 1) := by decide +kernel
theorem dX11_term_39 : decode cX11_term 39 = .ok (.getfield 260, 3) := by decide +kernel
theorem dX11_term_42 : decode cX11_term 42 = .ok (.iconst 1, 1) := by decide +kernel
theorem dX11_term_43 : decode cX11_term 43 = .ok (.iadd, 1) := by decide +kernel
theorem dX11_term_44 : decode cX11_term 44 = .ok (.putfield 260, 3) := by decide +kernel
theorem dX11_term_47 : decode cX11_term 47 = .ok (.return_, 1) := by decide +kernel
theorem dX11_tellLaw_0 : decode cX11_tellLaw 0 = .ok (.aload_n 0, 1) := by decide +kernel
theorem dX11_tellLaw_1 : decode cX11_tellLaw 1 = .ok (.iconst 5, 1) := by decide +kernel
theorem dX11_tellLaw_2 : decode cX11_tellLaw 2 = .ok (.invokevirtual 292, 3) := by decide +kernel
theorem dX11_tellLaw_5 : decode cX11_tellLaw 5 = .ok (.aload_n 0, 1) := by decide +kernel
theorem dX11_tellLaw_6 : decode cX11_tellLaw 6 = .ok (.getfield 260, 3) := by decide +kernel
theorem dX11_tellLaw_9 : decode cX11_tellLaw 9 = .ok (.istore_n 2, 1) := by decide +kernel
theorem dX11_tellLaw_10 : decode cX11_tellLaw 10 = .ok (.iconst 0, 1) := by decide +kernel
theorem dX11_tellLaw_11 : decode cX11_tellLaw 11 = .ok (.istore_n 3, 1) := by decide +kernel
theorem dX11_tellLaw_12 : decode cX11_tellLaw 12 = .ok (.aload_n 0, 1) := by decide +kernel
theorem dX11_tellLaw_13 : decode cX11_tellLaw 13 = .ok (.getfield 221, 3) := by decide +kernel
theorem dX11_tellLaw_16 : decode cX11_tellLaw 16 = .ok (.ifCond .ne 113, 3) := by decide +kernel
theorem dX11_tellLaw_19 : decode cX11_tellLaw 19 = .ok (.aload_n 0, 1) := by decide +kernel
theorem dX11_tellLaw_20 : decode cX11_tellLaw 20 = .ok (.bipush 28, 2) := by decide +kernel
theorem dX11_tellLaw_22 : decode cX11_tellLaw 22 = .ok (.invokevirtual 239, 3) := by decide +kernel
theorem dX11_tellLaw_25 : decode cX11_tellLaw 25 = .ok (.ifCond .eq 104, 3) := by decide +kernel
theorem dX11_tellLaw_28 : decode cX11_tellLaw 28 = .ok (.iload_n 3, 1) := by decide +kernel
theorem dX11_tellLaw_29 : decode cX11_tellLaw 29 = .ok (.iconst 4, 1) := by decide +kernel
theorem dX11_tellLaw_30 : decode cX11_tellLaw 30 = .ok (.if_icmp .ne 8, 3) := by decide +kernel
theorem dX11_tellLaw_33 : decode cX11_tellLaw 33 = .ok (.aload_n 0, 1) := by decide +kernel
theorem dX11_tellLaw_34 : decode cX11_tellLaw 34 = .ok (.iconst 2, 1) := by decide +kernel
theorem dX11_tellLaw_35 : decode cX11_tellLaw 35 = .ok (.invokevirtual 236, 3) := by decide +kernel
theorem dX11_tellLaw_38 : decode cX11_tellLaw 38 = .ok (.aload_n 0, 1) := by decide +kernel
theorem dX11_tellLaw_39 : decode cX11_tellLaw 39 = .ok (.getfield 221, 3) := by decide +kernel
theorem dX11_tellLaw_42 : decode cX11_tellLaw 42 = .ok (.ifCond .le 4, 3) := by decide +kernel
theorem dX11_tellLaw_45 : decode cX11_tellLaw 45 = .ok (.return_, 1) := by decide +kernel
theorem dX11_tellLaw_46 : decode cX11_tellLaw 46 = .ok (.iinc 3 1, 3) := by decide +kernel
theorem dX11_tellLaw_49 : decode cX11_tellLaw 49 = .ok (.aload_n 0, 1) := by decide +kernel
theorem dX11_tellLaw_50 : decode cX11_tellLaw 50 = .ok (.invokevirtual 242, 3) := by decide +kernel
theorem dX11_tellLaw_53 : decode cX11_tellLaw 53 = .ok (.aload_n 0, 1) := by decide +kernel
theorem dX11_tellLaw_54 : decode cX11_tellLaw 54 = .ok (.getfield 103, 3) := by decide +kernel
theorem dX11_tellLaw_57 : decode cX11_tellLaw 57 = .ok (.aload_n 0, 1) := by decide +kernel
theorem dX11_tellLaw_58 : decode cX11_tellLaw 58 = .ok (.getfield 260, 3) := by decide +kernel
theorem dX11_tellLaw_61 : decode cX11_tellLaw 61 = .ok (.iconst 1, 1) := by decide +kernel
theorem dX11_tellLaw_62 : decode cX11_tellLaw 62 = .ok (.bastore, 1) := by decide +kernel
theorem dX11_tellLaw_63 : decode cX11_tellLaw 63 = .ok (.aload_n 0, 1) := by decide +kernel
theorem dX11_tellLaw_64 : decode cX11_tellLaw 64 = .ok (.getfield 107, 3) := by decide +kernel
theorem dX11_tellLaw_67 : decode cX11_tellLaw 67 = .ok (.aload_n 0, 1) := by decide +kernel
theorem dX11_tellLaw_68 : decode cX11_tellLaw 68 = .ok (.getfield 260, 3) := by decide +kernel
theorem dX11_tellLaw_71 : decode cX11_tellLaw 71 = .ok (.aload_n 0, 1) := by decide +kernel
theorem dX11_tellLaw_72 : decode cX11_tellLaw 72 = .ok (.getfield 263, 3) := by decide +kernel
theorem dX11_tellLaw_75 : decode cX11_tellLaw 75 = .ok (.iastore, 1) := by decide +kernel
theorem dX11_tellLaw_76 : decode cX11_tellLaw 76 = .ok (.aload_n 0, 1) := by decide +kernel
theorem dX11_tellLaw_77 : decode cX11_tellLaw 77 = .ok (.invokevirtual 312, 3) := by decide +kernel
theorem dX11_tellLaw_80 : decode cX11_tellLaw 80 = .ok (.aload_n 0, 1) := by decide +kernel
theorem dX11_tellLaw_81 : decode cX11_tellLaw 81 = .ok (.bipush 13, 2) := by decide +kernel
theorem dX11_tellLaw_83 : decode cX11_tellLaw 83 = .ok (.invokevirtual 292, 3) := by decide +kernel
theorem dX11_tellLaw_86 : decode cX11_tellLaw 86 = .ok (.aload_n 0, 1) := by decide +kernel
theorem dX11_tellLaw_87 : decode cX11_tellLaw 87 = .ok (.getfield 110, 3) := by decide +kernel
theorem dX11_tellLaw_90 : decode cX11_tellLaw 90 = .ok (.aload_n 0, 1) := by decide +kernel
theorem dX11_tellLaw_91 : decode cX11_tellLaw 91 = .ok (.getfield 260, 3) := by decide +kernel
theorem dX11_tellLaw_94 : decode cX11_tellLaw 94 = .ok (.aload_n 0, 1) := by decide +kernel
theorem dX11_tellLaw_95 : decode cX11_tellLaw 95 = .ok (.getfield 263, 3) := by decide +kernel
theorem dX11_tellLaw_98 : decode cX11_tellLaw 98 = .ok (.iastore, 1) := by decide +kernel
theorem dX11_tellLaw_99 : decode cX11_tellLaw 99 = .ok (.aload_n 0, 1) := by decide +kernel
theorem dX11_tellLaw_100 : decode cX11_tellLaw 100 = .ok (.getfield 221, 3) := by decide +kernel
theorem dX11_tellLaw_103 : decode cX11_tellLaw 103 = .ok (.ifCond .ne 7, 3) := by decide +kernel
theorem dX11_tellLaw_106 : decode cX11_tellLaw 106 = .ok (.aload_n 0, 1) := by decide +kernel
theorem dX11_tellLaw_107 : decode cX11_tellLaw 107 = .ok (.invokevirtual 312, 3) := by decide +kernel
theorem dX11_tellLaw_110 : decode cX11_tellLaw 110 = .ok (.aload_n 0, 1) := by decide +kernel
theorem dX11_tellLaw_111 : decode cX11_tellLaw 111 = .ok (.bipush 29, 2) := by decide +kernel
theorem dX11_tellLaw_113 : decode cX11_tellLaw 113 = .ok (.invokevirtual 292, 3) := by decide +kernel
theorem dX11_tellLaw_116 : decode cX11_tellLaw 116 = .ok (.aload_n 0, 1) := by decide +kernel
theorem dX11_tellLaw_117 : decode cX11_tellLaw 117 = .ok (.invokevirtual 315, 3) := by decide +kernel
theorem dX11_tellLaw_120 : decode cX11_tellLaw 120 = .ok (.aload_n 0, 1) := by decide +kernel
theorem dX11_tellLaw_121 : decode cX11_tellLaw 121 = .ok (.bipush 30, 2) := by decide +kernel
theorem dX11_tellLaw_123 : decode cX11_tellLaw 123 = .ok (.invokevirtual 292, 3) := by decide +kernel
theorem dX11_tellLaw_126 : decode cX11_tellLaw 126 = .ok (.goto (-114), 3) := by decide +kernel
theorem dX11_tellLaw_129 : decode cX11_tellLaw 129 = .ok (.aload_n 0, 1) := by decide +kernel
theorem dX11_tellLaw_130 : decode cX11_tellLaw 130 = .ok (.getfield 103, 3) := by decide +kernel
theorem dX11_tellLaw_133 : decode cX11_tellLaw 133 = .ok (.aload_n 0, 1) := by decide +kernel
theorem dX11_tellLaw_134 : decode cX11_tellLaw 134 = .ok (.getfield 260, 3) := by decide +kernel
theorem dX11_tellLaw_137 : decode cX11_tellLaw 137 = .ok (.iconst 0, 1) := by decide +kernel
theorem dX11_tellLaw_138 : decode cX11_tellLaw 138 = .ok (.bastore, 1) := by decide +kernel
theorem dX11_tellLaw_139 : decode cX11_tellLaw 139 = .ok (.aload_n 0, 1) := by decide +kernel
theorem dX11_tellLaw_140 : decode cX11_tellLaw 140 = .ok (.invokevirtual 315, 3) := by decide +kernel
theorem dX11_tellLaw_143 : decode cX11_tellLaw 143 = .ok (.aload_n 0, 1) := by decide +kernel
theorem dX11_tellLaw_144 : decode cX11_tellLaw 144 = .ok (.iconst 4, 1) := by decide +kernel
theorem dX11_tellLaw_145 : decode cX11_tellLaw 145 = .ok (.invokevirtual 292, 3) := by decide +kernel
theorem dX11_tellLaw_148 : decode cX11_tellLaw 148 = .ok (.aload_n 0, 1) := by decide +kernel
theorem dX11_tellLaw_149 : decode cX11_tellLaw 149 = .ok (.getfield 221, 3) := by decide +kernel
theorem dX11_tellLaw_152 : decode cX11_tellLaw 152 = .ok (.ifCond .le 4, 3) := by decide +kernel
theorem dX11_tellLaw_155 : decode cX11_tellLaw 155 = .ok (.return_, 1) := by decide +kernel
theorem dX11_tellLaw_156 : decode cX11_tellLaw 156 = .ok (.aload_n 0, 1) := by decide +kernel
theorem dX11_tellLaw_157 : decode cX11_tellLaw 157 = .ok (.getfield 97, 3) := by decide +kernel
theorem dX11_tellLaw_160 : decode cX11_tellLaw 160 = .ok (.iconst 2, 1) := by decide +kernel
theorem dX11_tellLaw_161 : decode cX11_tellLaw 161 = .ok (.aload_n 0, 1) := by decide +kernel
theorem dX11_tellLaw_162 : decode cX11_tellLaw 162 = .ok (.getfield 254, 3) := by decide +kernel
theorem dX11_tellLaw_165 : decode cX11_tellLaw 165 = .ok (.imul, 1) := by decide +kernel
theorem dX11_tellLaw_166 : decode cX11_tellLaw 166 = .ok (.iload_n 1, 1) := by decide +kernel
theorem dX11_tellLaw_167 : decode cX11_tellLaw 167 = .ok (.iadd, 1) := by decide +kernel
theorem dX11_tellLaw_168 : decode cX11_tellLaw 168 = .ok (.iload_n 2, 1) := by decide +kernel
theorem dX11_tellLaw_169 : decode cX11_tellLaw 169 = .ok (.iastore, 1) := by decide +kernel
theorem dX11_tellLaw_170 : decode cX11_tellLaw 170 = .ok (.aload_n 0, 1) := by decide +kernel
theorem dX11_tellLaw_171 : decode cX11_tellLaw 171 = .ok (.getfield 100, 3) := by decide +kernel
theorem dX11_tellLaw_174 : decode cX11_tellLaw 174 = .ok (.iconst 2, 1) := by decide +kernel
theorem dX11_tellLaw_175 : decode cX11_tellLaw 175 = .ok (.aload_n 0, 1) := by decide +kernel
theorem dX11_tellLaw_176 : decode cX11_tellLaw 176 = .ok (.getfield 254, 3) := by decide +kernel
theorem dX11_tellLaw_179 : decode cX11_tellLaw 179 = .ok (.imul, 1) := by decide +kernel
theorem dX11_tellLaw_180 : decode cX11_tellLaw 180 = .ok (.iload_n 1, 1) := by decide +kernel
theorem dX11_tellLaw_181 : decode cX11_tellLaw 181 = .ok (.iadd, 1) := by decide +kernel
theorem dX11_tellLaw_182 : decode cX11_tellLaw 182 = .ok (.aload_n 0, 1) := by decide +kernel
theorem dX11_tellLaw_183 : decode cX11_tellLaw 183 = .ok (.getfield 260, 3) := by decide +kernel
theorem dX11_tellLaw_186 : decode cX11_tellLaw 186 = .ok (.iastore, 1) := by decide +kernel
theorem dX11_tellLaw_187 : decode cX11_tellLaw 187 = .ok (.return_, 1) := by decide +kernel
theorem dX11_tellOne_0 : decode cX11_tellOne 0 = .ok (.aload_n 0, 1) := by decide +kernel
theorem dX11_tellOne_1 : decode cX11_tellOne 1 = .ok (.getfield 20, 3) := by decide +kernel
theorem dX11_tellOne_4 : decode cX11_tellOne 4 = .ok (.aload_n 0, 1) := by decide +kernel
theorem dX11_tellOne_5 : decode cX11_tellOne 5 = .ok (.getfield 224, 3) := by decide +kernel
theorem dX11_tellOne_8 : decode cX11_tellOne 8 = .ok (.iaload, 1) := by decide +kernel
theorem dX11_tellOne_9 : decode cX11_tellOne 9 = .ok (.tableswitch 217 20 27 #[47, 75, 104, 217, 217, 133, 161, 188], 47) := by decide +kernel
theorem dX11_tellOne_56 : decode cX11_tellOne 56 = .ok (.aload_n 0, 1) := by decide +kernel
theorem dX11_tellOne_57 : decode cX11_tellOne 57 = .ok (.aload_n 0, 1) := by decide +kernel
theorem dX11_tellOne_58 : decode cX11_tellOne 58 = .ok (.getfield 49, 3) := by decide +kernel
theorem dX11_tellOne_61 : decode cX11_tellOne 61 = .ok (.aload_n 0, 1) := by decide +kernel
theorem dX11_tellOne_62 : decode cX11_tellOne 62 = .ok (.getfield 254, 3) := by decide +kernel
theorem dX11_tellOne_65 : decode cX11_tellOne 65 = .ok (.iaload, 1) := by decide +kernel
theorem dX11_tellOne_66 : decode cX11_tellOne 66 = .ok (.iconst 5, 1) := by decide +kernel
theorem dX11_tellOne_67 : decode cX11_tellOne 67 = .ok (.invokevirtual 275, 3) := by decide +kernel
theorem dX11_tellOne_70 : decode cX11_tellOne 70 = .ok (.aload_n 0, 1) := by decide +kernel
theorem dX11_tellOne_71 : decode cX11_tellOne 71 = .ok (.getfield 221, 3) := by decide +kernel
theorem dX11_tellOne_74 : decode cX11_tellOne 74 = .ok (.ifCond .ne 205, 3) := by decide +kernel
theorem dX11_tellOne_77 : decode cX11_tellOne 77 = .ok (.aload_n 0, 1) := by decide +kernel
theorem dX11_tellOne_78 : decode cX11_tellOne 78 = .ok (.invokevirtual 279, 3) := by decide +kernel
theorem dX11_tellOne_81 : decode cX11_tellOne 81 = .ok (.goto 198, 3) := by decide +kernel
theorem dX11_tellOne_84 : decode cX11_tellOne 84 = .ok (.aload_n 0, 1) := by decide +kernel
theorem dX11_tellOne_85 : decode cX11_tellOne 85 = .ok (.aload_n 0, 1) := by decide +kernel
theorem dX11_tellOne_86 : decode cX11_tellOne 86 = .ok (.getfield 58, 3) := by decide +kernel
theorem dX11_tellOne_89 : decode cX11_tellOne 89 = .ok (.aload_n 0, 1) := by decide +kernel
theorem dX11_tellOne_90 : decode cX11_tellOne 90 = .ok (.getfield 254, 3) := by decide +kernel
theorem dX11_tellOne_93 : decode cX11_tellOne 93 = .ok (.iaload, 1) := by decide +kernel
theorem dX11_tellOne_94 : decode cX11_tellOne 94 = .ok (.bipush 6, 2) := by decide +kernel
theorem dX11_tellOne_96 : decode cX11_tellOne 96 = .ok (.invokevirtual 275, 3) := by decide +kernel
theorem dX11_tellOne_99 : decode cX11_tellOne 99 = .ok (.aload_n 0, 1) := by decide +kernel
theorem dX11_tellOne_100 : decode cX11_tellOne 100 = .ok (.getfield 221, 3) := by decide +kernel
theorem dX11_tellOne_103 : decode cX11_tellOne 103 = .ok (.ifCond .ne 176, 3) := by decide +kernel
theorem dX11_tellOne_106 : decode cX11_tellOne 106 = .ok (.aload_n 0, 1) := by decide +kernel
theorem dX11_tellOne_107 : decode cX11_tellOne 107 = .ok (.invokevirtual 282, 3) := by decide +kernel
theorem dX11_tellOne_110 : decode cX11_tellOne 110 = .ok (.goto 169, 3) := by decide +kernel
theorem dX11_tellOne_113 : decode cX11_tellOne 113 = .ok (.aload_n 0, 1) := by decide +kernel
theorem dX11_tellOne_114 : decode cX11_tellOne 114 = .ok (.aload_n 0, 1) := by decide +kernel
theorem dX11_tellOne_115 : decode cX11_tellOne 115 = .ok (.getfield 73, 3) := by decide +kernel
theorem dX11_tellOne_118 : decode cX11_tellOne 118 = .ok (.aload_n 0, 1) := by decide +kernel
theorem dX11_tellOne_119 : decode cX11_tellOne 119 = .ok (.getfield 254, 3) := by decide +kernel
theorem dX11_tellOne_122 : decode cX11_tellOne 122 = .ok (.iaload, 1) := by decide +kernel
theorem dX11_tellOne_123 : decode cX11_tellOne 123 = .ok (.bipush 6, 2) := by decide +kernel
theorem dX11_tellOne_125 : decode cX11_tellOne 125 = .ok (.invokevirtual 275, 3) := by decide +kernel
theorem dX11_tellOne_128 : decode cX11_tellOne 128 = .ok (.aload_n 0, 1) := by decide +kernel
theorem dX11_tellOne_129 : decode cX11_tellOne 129 = .ok (.getfield 221, 3) := by decide +kernel
theorem dX11_tellOne_132 : decode cX11_tellOne 132 = .ok (.ifCond .ne 147, 3) := by decide +kernel
theorem dX11_tellOne_135 : decode cX11_tellOne 135 = .ok (.aload_n 0, 1) := by decide +kernel
theorem dX11_tellOne_136 : decode cX11_tellOne 136 = .ok (.invokevirtual 285, 3) := by decide +kernel
theorem dX11_tellOne_139 : decode cX11_tellOne 139 = .ok (.goto 140, 3) := by decide +kernel
theorem dX11_tellOne_142 : decode cX11_tellOne 142 = .ok (.aload_n 0, 1) := by decide +kernel
theorem dX11_tellOne_143 : decode cX11_tellOne 143 = .ok (.invokevirtual 242, 3) := by decide +kernel
theorem dX11_tellOne_146 : decode cX11_tellOne 146 = .ok (.aload_n 0, 1) := by decide +kernel
theorem dX11_tellOne_147 : decode cX11_tellOne 147 = .ok (.getfield 88, 3) := by decide +kernel
theorem dX11_tellOne_150 : decode cX11_tellOne 150 = .ok (.aload_n 0, 1) := by decide +kernel
theorem dX11_tellOne_151 : decode cX11_tellOne 151 = .ok (.getfield 254, 3) := by decide +kernel
theorem dX11_tellOne_154 : decode cX11_tellOne 154 = .ok (.aload_n 0, 1) := by decide +kernel
theorem dX11_tellOne_155 : decode cX11_tellOne 155 = .ok (.iconst 0, 1) := by decide +kernel
theorem dX11_tellOne_156 : decode cX11_tellOne 156 = .ok (.bipush 100, 2) := by decide +kernel
theorem dX11_tellOne_158 : decode cX11_tellOne 158 = .ok (.invokevirtual 288, 3) := by decide +kernel
theorem dX11_tellOne_161 : decode cX11_tellOne 161 = .ok (.iastore, 1) := by decide +kernel
theorem dX11_tellOne_162 : decode cX11_tellOne 162 = .ok (.aload_n 0, 1) := by decide +kernel
theorem dX11_tellOne_163 : decode cX11_tellOne 163 = .ok (.iconst 4, 1) := by decide +kernel
theorem dX11_tellOne_164 : decode cX11_tellOne 164 = .ok (.invokevirtual 292, 3) := by decide +kernel
theorem dX11_tellOne_167 : decode cX11_tellOne 167 = .ok (.goto 112, 3) := by decide +kernel
theorem dX11_tellOne_170 : decode cX11_tellOne 170 = .ok (.aload_n 0, 1) := by decide +kernel
theorem dX11_tellOne_171 : decode cX11_tellOne 171 = .ok (.invokevirtual 242, 3) := by decide +kernel
theorem dX11_tellOne_174 : decode cX11_tellOne 174 = .ok (.aload_n 0, 1) := by decide +kernel
theorem dX11_tellOne_175 : decode cX11_tellOne 175 = .ok (.getfield 91, 3) := by decide +kernel
theorem dX11_tellOne_178 : decode cX11_tellOne 178 = .ok (.aload_n 0, 1) := by decide +kernel
theorem dX11_tellOne_179 : decode cX11_tellOne 179 = .ok (.getfield 254, 3) := by decide +kernel
theorem dX11_tellOne_182 : decode cX11_tellOne 182 = .ok (.aload_n 0, 1) := by decide +kernel
theorem dX11_tellOne_183 : decode cX11_tellOne 183 = .ok (.iconst 1, 1) := by decide +kernel
theorem dX11_tellOne_184 : decode cX11_tellOne 184 = .ok (.iconst 3, 1) := by decide +kernel
theorem dX11_tellOne_185 : decode cX11_tellOne 185 = .ok (.invokevirtual 288, 3) := by decide +kernel
theorem dX11_tellOne_188 : decode cX11_tellOne 188 = .ok (.iastore, 1) := by decide +kernel
theorem dX11_tellOne_189 : decode cX11_tellOne 189 = .ok (.aload_n 0, 1) := by decide +kernel
theorem dX11_tellOne_190 : decode cX11_tellOne 190 = .ok (.iconst 4, 1) := by decide +kernel
theorem dX11_tellOne_191 : decode cX11_tellOne 191 = .ok (.invokevirtual 292, 3) := by decide +kernel
theorem dX11_tellOne_194 : decode cX11_tellOne 194 = .ok (.goto 85, 3) := by decide +kernel
theorem dX11_tellOne_197 : decode cX11_tellOne 197 = .ok (.aload_n 0, 1) := by decide +kernel
theorem dX11_tellOne_198 : decode cX11_tellOne 198 = .ok (.invokevirtual 242, 3) := by decide +kernel
theorem dX11_tellOne_201 : decode cX11_tellOne 201 = .ok (.aload_n 0, 1) := by decide +kernel
theorem dX11_tellOne_202 : decode cX11_tellOne 202 = .ok (.getfield 94, 3) := by decide +kernel
theorem dX11_tellOne_205 : decode cX11_tellOne 205 = .ok (.aload_n 0, 1) := by decide +kernel
theorem dX11_tellOne_206 : decode cX11_tellOne 206 = .ok (.getfield 254, 3) := by decide +kernel
theorem dX11_tellOne_209 : decode cX11_tellOne 209 = .ok (.aload_n 0, 1) := by decide +kernel
theorem dX11_tellOne_210 : decode cX11_tellOne 210 = .ok (.iconst 0, 1) := by decide +kernel
theorem dX11_tellOne_211 : decode cX11_tellOne 211 = .ok (.sipush 9999, 3) := by decide +kernel
theorem dX11_tellOne_214 : decode cX11_tellOne 214 = .ok (.invokevirtual 288, 3) := by decide +kernel
theorem dX11_tellOne_217 : decode cX11_tellOne 217 = .ok (.iastore, 1) := by decide +kernel
theorem dX11_tellOne_218 : decode cX11_tellOne 218 = .ok (.aload_n 0, 1) := by decide +kernel
theorem dX11_tellOne_219 : decode cX11_tellOne 219 = .ok (.iconst 4, 1) := by decide +kernel
theorem dX11_tellOne_220 : decode cX11_tellOne 220 = .ok (.invokevirtual 292, 3) := by decide +kernel
theorem dX11_tellOne_223 : decode cX11_tellOne 223 = .ok (.goto 56, 3) := by decide +kernel
theorem dX11_tellOne_226 : decode cX11_tellOne 226 = .ok (.aload_n 0, 1) := by decide +kernel
theorem dX11_tellOne_227 : decode cX11_tellOne 227 = .ok (.getfield 20, 3) := by decide +kernel
theorem dX11_tellOne_230 : decode cX11_tellOne 230 = .ok (.aload_n 0, 1) := by decide +kernel
theorem dX11_tellOne_231 : decode cX11_tellOne 231 = .ok (.getfield 224, 3) := by decide +kernel
theorem dX11_tellOne_234 : decode cX11_tellOne 234 = .ok (.iaload, 1) := by decide +kernel
theorem dX11_tellOne_235 : decode cX11_tellOne 235 = .ok (.bipush 23, 2) := by decide +kernel
theorem dX11_tellOne_237 : decode cX11_tellOne 237 = .ok (.isub, 1) := by decide +kernel
theorem dX11_tellOne_238 : decode cX11_tellOne 238 = .ok (.istore_n 1, 1) := by decide +kernel
theorem dX11_tellOne_239 : decode cX11_tellOne 239 = .ok (.iload_n 1, 1) := by decide +kernel
theorem dX11_tellOne_240 : decode cX11_tellOne 240 = .ok (.ifCond .lt 17, 3) := by decide +kernel
theorem dX11_tellOne_243 : decode cX11_tellOne 243 = .ok (.aload_n 0, 1) := by decide +kernel
theorem dX11_tellOne_244 : decode cX11_tellOne 244 = .ok (.getfield 20, 3) := by decide +kernel
theorem dX11_tellOne_247 : decode cX11_tellOne 247 = .ok (.aload_n 0, 1) := by decide +kernel
theorem dX11_tellOne_248 : decode cX11_tellOne 248 = .ok (.getfield 224, 3) := by decide +kernel
theorem dX11_tellOne_251 : decode cX11_tellOne 251 = .ok (.iaload, 1) := by decide +kernel
theorem dX11_tellOne_252 : decode cX11_tellOne 252 = .ok (.bipush 24, 2) := by decide +kernel
theorem dX11_tellOne_254 : decode cX11_tellOne 254 = .ok (.if_icmp .le 8, 3) := by decide +kernel
theorem dX11_tellOne_257 : decode cX11_tellOne 257 = .ok (.aload_n 0, 1) := by decide +kernel
theorem dX11_tellOne_258 : decode cX11_tellOne 258 = .ok (.iconst 1, 1) := by decide +kernel
theorem dX11_tellOne_259 : decode cX11_tellOne 259 = .ok (.invokevirtual 236, 3) := by decide +kernel
theorem dX11_tellOne_262 : decode cX11_tellOne 262 = .ok (.aload_n 0, 1) := by decide +kernel
theorem dX11_tellOne_263 : decode cX11_tellOne 263 = .ok (.getfield 221, 3) := by decide +kernel
theorem dX11_tellOne_266 : decode cX11_tellOne 266 = .ok (.ifCond .le 4, 3) := by decide +kernel
theorem dX11_tellOne_269 : decode cX11_tellOne 269 = .ok (.return_, 1) := by decide +kernel
theorem dX11_tellOne_270 : decode cX11_tellOne 270 = .ok (.aload_n 0, 1) := by decide +kernel
theorem dX11_tellOne_271 : decode cX11_tellOne 271 = .ok (.invokevirtual 242, 3) := by decide +kernel
theorem dX11_tellOne_274 : decode cX11_tellOne 274 = .ok (.aload_n 0, 1) := by decide +kernel
theorem dX11_tellOne_275 : decode cX11_tellOne 275 = .ok (.iload_n 1, 1) := by decide +kernel
theorem dX11_tellOne_276 : decode cX11_tellOne 276 = .ok (.invokevirtual 295, 3) := by decide +kernel
theorem dX11_tellOne_279 : decode cX11_tellOne 279 = .ok (.return_, 1) := by decide +kernel
theorem dX11_read_0 : decode cX11_read 0 = .ok (.aload_n 0, 1) := by decide +kernel
theorem dX11_read_1 : decode cX11_read 1 = .ok (.aload_n 0, 1) := by decide +kernel
theorem dX11_read_2 : decode cX11_read 2 = .ok (.getfield 188, 3) := by decide +kernel
theorem dX11_read_5 : decode cX11_read 5 = .ok (.putfield 194, 3) := by decide +kernel
theorem dX11_read_8 : decode cX11_read 8 = .ok (.iconst 0, 1) := by decide +kernel
theorem dX11_read_9 : decode cX11_read 9 = .ok (.istore_n 1, 1) := by decide +kernel
theorem dX11_read_10 : decode cX11_read 10 = .ok (.iload_n 1, 1) := by decide +kernel
theorem dX11_read_11 : decode cX11_read 11 = .ok (.aload_n 0, 1) := by decide +kernel
theorem dX11_read_12 : decode cX11_read 12 = .ok (.getfield 194, 3) := by decide +kernel
theorem dX11_read_15 : decode cX11_read 15 = .ok (.if_icmp .ge 21, 3) := by decide +kernel
theorem dX11_read_18 : decode cX11_read 18 = .ok (.aload_n 0, 1) := by decide +kernel
theorem dX11_read_19 : decode cX11_read 19 = .ok (.getfield 17, 3) := by decide +kernel
theorem dX11_read_22 : decode cX11_read 22 = .ok (.iload_n 1, 1) := by decide +kernel
theorem dX11_read_23 : decode cX11_read 23 = .ok (.aload_n 0, 1) := by decide +kernel
theorem dX11_read_24 : decode cX11_read 24 = .ok (.getfield 13, 3) := by decide +kernel
theorem dX11_read_27 : decode cX11_read 27 = .ok (.iload_n 1, 1) := by decide +kernel
theorem dX11_read_28 : decode cX11_read 28 = .ok (.baload, 1) := by decide +kernel
theorem dX11_read_29 : decode cX11_read 29 = .ok (.bastore, 1) := by decide +kernel
theorem dX11_read_30 : decode cX11_read 30 = .ok (.iinc 1 1, 3) := by decide +kernel
theorem dX11_read_33 : decode cX11_read 33 = .ok (.goto (-23), 3) := by decide +kernel
theorem dX11_read_36 : decode cX11_read 36 = .ok (.aload_n 0, 1) := by decide +kernel
theorem dX11_read_37 : decode cX11_read 37 = .ok (.iconst 0, 1) := by decide +kernel
theorem dX11_read_38 : decode cX11_read 38 = .ok (.putfield 188, 3) := by decide +kernel
theorem dX11_read_41 : decode cX11_read 41 = .ok (.aload_n 0, 1) := by decide +kernel
theorem dX11_read_42 : decode cX11_read 42 = .ok (.invokevirtual 245, 3) := by decide +kernel
theorem dX11_read_45 : decode cX11_read 45 = .ok (.aload_n 0, 1) := by decide +kernel
theorem dX11_read_46 : decode cX11_read 46 = .ok (.iconst 0, 1) := by decide +kernel
theorem dX11_read_47 : decode cX11_read 47 = .ok (.putfield 224, 3) := by decide +kernel
theorem dX11_read_50 : decode cX11_read 50 = .ok (.aload_n 0, 1) := by decide +kernel
theorem dX11_read_51 : decode cX11_read 51 = .ok (.iconst 0, 1) := by decide +kernel
theorem dX11_read_52 : decode cX11_read 52 = .ok (.putfield 248, 3) := by decide +kernel
theorem dX11_read_55 : decode cX11_read 55 = .ok (.aload_n 0, 1) := by decide +kernel
theorem dX11_read_56 : decode cX11_read 56 = .ok (.iconst 0, 1) := by decide +kernel
theorem dX11_read_57 : decode cX11_read 57 = .ok (.putfield 221, 3) := by decide +kernel
theorem dX11_read_60 : decode cX11_read 60 = .ok (.aload_n 0, 1) := by decide +kernel
theorem dX11_read_61 : decode cX11_read 61 = .ok (.iconst 0, 1) := by decide +kernel
theorem dX11_read_62 : decode cX11_read 62 = .ok (.putfield 230, 3) := by decide +kernel
theorem dX11_read_65 : decode cX11_read 65 = .ok (.aload_n 0, 1) := by decide +kernel
theorem dX11_read_66 : decode cX11_read 66 = .ok (.iconst 1, 1) := by decide +kernel
theorem dX11_read_67 : decode cX11_read 67 = .ok (.aload_n 0, 1) := by decide +kernel
theorem dX11_read_68 : decode cX11_read 68 = .ok (.getfield 251, 3) := by decide +kernel
theorem dX11_read_71 : decode cX11_read 71 = .ok (.isub, 1) := by decide +kernel
theorem dX11_read_72 : decode cX11_read 72 = .ok (.putfield 254, 3) := by decide +kernel
theorem dX11_read_75 : decode cX11_read 75 = .ok (.aload_n 0, 1) := by decide +kernel
theorem dX11_read_76 : decode cX11_read 76 = .ok (.iconst 0, 1) := by decide +kernel
theorem dX11_read_77 : decode cX11_read 77 = .ok (.putfield 257, 3) := by decide +kernel
theorem dX11_read_80 : decode cX11_read 80 = .ok (.aload_n 0, 1) := by decide +kernel
theorem dX11_read_81 : decode cX11_read 81 = .ok (.aload_n 0, 1) := by decide +kernel
theorem dX11_read_82 : decode cX11_read 82 = .ok (.getfield 254, 3) := by decide +kernel
theorem dX11_read_85 : decode cX11_read 85 = .ok (.invokevirtual 170, 3) := by decide +kernel
theorem dX11_read_88 : decode cX11_read 88 = .ok (.aload_n 0, 1) := by decide +kernel
theorem dX11_read_89 : decode cX11_read 89 = .ok (.sipush 130, 3) := by decide +kernel
theorem dX11_read_92 : decode cX11_read 92 = .ok (.aload_n 0, 1) := by decide +kernel
theorem dX11_read_93 : decode cX11_read 93 = .ok (.getfield 254, 3) := by decide +kernel
theorem dX11_read_96 : decode cX11_read 96 = .ok (.imul, 1) := by decide +kernel
theorem dX11_read_97 : decode cX11_read 97 = .ok (.putfield 260, 3) := by decide +kernel
theorem dX11_read_100 : decode cX11_read 100 = .ok (.aload_n 0, 1) := by decide +kernel
theorem dX11_read_101 : decode cX11_read 101 = .ok (.sipush 420, 3) := by decide +kernel
theorem dX11_read_104 : decode cX11_read 104 = .ok (.aload_n 0, 1) := by decide +kernel
theorem dX11_read_105 : decode cX11_read 105 = .ok (.getfield 254, 3) := by decide +kernel
theorem dX11_read_108 : decode cX11_read 108 = .ok (.imul, 1) := by decide +kernel
theorem dX11_read_109 : decode cX11_read 109 = .ok (.putfield 263, 3) := by decide +kernel
theorem dX11_read_112 : decode cX11_read 112 = .ok (.aload_n 0, 1) := by decide +kernel
theorem dX11_read_113 : decode cX11_read 113 = .ok (.getfield 221, 3) := by decide +kernel
theorem dX11_read_116 : decode cX11_read 116 = .ok (.ifCond .ne 18, 3) := by decide +kernel
theorem dX11_read_119 : decode cX11_read 119 = .ok (.aload_n 0, 1) := by decide +kernel
theorem dX11_read_120 : decode cX11_read 120 = .ok (.iconst 0, 1) := by decide +kernel
theorem dX11_read_121 : decode cX11_read 121 = .ok (.invokevirtual 239, 3) := by decide +kernel
theorem dX11_read_124 : decode cX11_read 124 = .ok (.ifCond .ne 10, 3) := by decide +kernel
theorem dX11_read_127 : decode cX11_read 127 = .ok (.aload_n 0, 1) := by decide +kernel
theorem dX11_read_128 : decode cX11_read 128 = .ok (.invokevirtual 266, 3) := by decide +kernel
theorem dX11_read_131 : decode cX11_read 131 = .ok (.goto (-19), 3) := by decide +kernel
theorem dX11_read_134 : decode cX11_read 134 = .ok (.aload_n 0, 1) := by decide +kernel
theorem dX11_read_135 : decode cX11_read 135 = .ok (.aload_n 0, 1) := by decide +kernel
theorem dX11_read_136 : decode cX11_read 136 = .ok (.getfield 221, 3) := by decide +kernel
theorem dX11_read_139 : decode cX11_read 139 = .ok (.ifCond .le 10, 3) := by decide +kernel
theorem dX11_read_142 : decode cX11_read 142 = .ok (.aload_n 0, 1) := by decide +kernel
theorem dX11_read_143 : decode cX11_read 143 = .ok (.getfield 227, 3) := by decide +kernel
theorem dX11_read_146 : decode cX11_read 146 = .ok (.goto 18, 3) := by decide +kernel
theorem dX11_read_149 : decode cX11_read 149 = .ok (.aload_n 0, 1) := by decide +kernel
theorem dX11_read_150 : decode cX11_read 150 = .ok (.getfield 230, 3) := by decide +kernel
theorem dX11_read_153 : decode cX11_read 153 = .ok (.ifCond .le 10, 3) := by decide +kernel
theorem dX11_read_156 : decode cX11_read 156 = .ok (.aload_n 0, 1) := by decide +kernel
theorem dX11_read_157 : decode cX11_read 157 = .ok (.getfield 233, 3) := by decide +kernel
theorem dX11_read_160 : decode cX11_read 160 = .ok (.goto 4, 3) := by decide +kernel
theorem dX11_read_163 : decode cX11_read 163 = .ok (.iconst (-1), 1) := by decide +kernel
theorem dX11_read_164 : decode cX11_read 164 = .ok (.putfield 37, 3) := by decide +kernel
theorem dX11_read_167 : decode cX11_read 167 = .ok (.aload_n 0, 1) := by decide +kernel
theorem dX11_read_168 : decode cX11_read 168 = .ok (.getfield 221, 3) := by decide +kernel
theorem dX11_read_171 : decode cX11_read 171 = .ok (.ifCond .le 8, 3) := by decide +kernel
theorem dX11_read_174 : decode cX11_read 174 = .ok (.aload_n 0, 1) := by decide +kernel
theorem dX11_read_175 : decode cX11_read 175 = .ok (.getfield 221, 3) := by decide +kernel
theorem dX11_read_178 : decode cX11_read 178 = .ok (.ireturn, 1) := by decide +kernel
theorem dX11_read_179 : decode cX11_read 179 = .ok (.aload_n 0, 1) := by decide +kernel
theorem dX11_read_180 : decode cX11_read 180 = .ok (.getfield 230, 3) := by decide +kernel
theorem dX11_read_183 : decode cX11_read 183 = .ok (.ifCond .le 8, 3) := by decide +kernel
theorem dX11_read_186 : decode cX11_read 186 = .ok (.aload_n 0, 1) := by decide +kernel
theorem dX11_read_187 : decode cX11_read 187 = .ok (.getfield 230, 3) := by decide +kernel
theorem dX11_read_190 : decode cX11_read 190 = .ok (.ireturn, 1) := by decide +kernel
theorem dX11_read_191 : decode cX11_read 191 = .ok (.aload_n 0, 1) := by decide +kernel
theorem dX11_read_192 : decode cX11_read 192 = .ok (.aload_n 0, 1) := by decide +kernel
theorem dX11_read_193 : decode cX11_read 193 = .ok (.getfield 254, 3) := by decide +kernel
theorem dX11_read_196 : decode cX11_read 196 = .ok (.putfield 251, 3) := by decide +kernel
theorem dX11_read_199 : decode cX11_read 199 = .ok (.aload_n 0, 1) := by decide +kernel
theorem dX11_read_200 : decode cX11_read 200 = .ok (.invokevirtual 182, 3) := by decide +kernel
theorem dX11_read_203 : decode cX11_read 203 = .ok (.aload_n 0, 1) := by decide +kernel
theorem dX11_read_204 : decode cX11_read 204 = .ok (.invokevirtual 185, 3) := by decide +kernel
theorem dX11_read_207 : decode cX11_read 207 = .ok (.aload_n 0, 1) := by decide +kernel
theorem dX11_read_208 : decode cX11_read 208 = .ok (.iconst 0, 1) := by decide +kernel
theorem dX11_read_209 : decode cX11_read 209 = .ok (.putfield 269, 3) := by decide +kernel
theorem dX11_read_212 : decode cX11_read 212 = .ok (.aload_n 0, 1) := by decide +kernel
theorem dX11_read_213 : decode cX11_read 213 = .ok (.iconst 0, 1) := by decide +kernel
theorem dX11_read_214 : decode cX11_read 214 = .ok (.putfield 272, 3) := by decide +kernel
theorem dX11_read_217 : decode cX11_read 217 = .ok (.iconst 0, 1) := by decide +kernel
theorem dX11_read_218 : decode cX11_read 218 = .ok (.istore_n 1, 1) := by decide +kernel
theorem dX11_read_219 : decode cX11_read 219 = .ok (.iload_n 1, 1) := by decide +kernel
theorem dX11_read_220 : decode cX11_read 220 = .ok (.iconst 3, 1) := by decide +kernel
theorem dX11_read_221 : decode cX11_read 221 = .ok (.if_icmp .ge 16, 3) := by decide +kernel
theorem dX11_read_224 : decode cX11_read 224 = .ok (.aload_n 0, 1) := by decide +kernel
theorem dX11_read_225 : decode cX11_read 225 = .ok (.getfield 164, 3) := by decide +kernel
theorem dX11_read_228 : decode cX11_read 228 = .ok (.iload_n 1, 1) := by decide +kernel
theorem dX11_read_229 : decode cX11_read 229 = .ok (.iconst 0, 1) := by decide +kernel
theorem dX11_read_230 : decode cX11_read 230 = .ok (.bastore, 1) := by decide +kernel
theorem dX11_read_231 : decode cX11_read 231 = .ok (.iinc 1 1, 3) := by decide +kernel
theorem dX11_read_234 : decode cX11_read 234 = .ok (.goto (-15), 3) := by decide +kernel
theorem dX11_read_237 : decode cX11_read 237 = .ok (.iconst 0, 1) := by decide +kernel
theorem dX11_read_238 : decode cX11_read 238 = .ok (.ireturn, 1) := by decide +kernel
theorem dX11_place_0 : decode cX11_place 0 = .ok (.aload_n 0, 1) := by decide +kernel
theorem dX11_place_1 : decode cX11_place 1 = .ok (.getfield 37, 3) := by decide +kernel
theorem dX11_place_4 : decode cX11_place 4 = .ok (.ireturn, 1) := by decide +kernel
theorem dX11_termOf_0 : decode cX11_termOf 0 = .ok (.iconst 0, 1) := by decide +kernel
theorem dX11_termOf_1 : decode cX11_termOf 1 = .ok (.istore_n 3, 1) := by decide +kernel
theorem dX11_termOf_2 : decode cX11_termOf 2 = .ok (.iload_n 1, 1) := by decide +kernel
theorem dX11_termOf_3 : decode cX11_termOf 3 = .ok (.istore 4, 2) := by decide +kernel
theorem dX11_termOf_5 : decode cX11_termOf 5 = .ok (.iload 4, 2) := by decide +kernel
theorem dX11_termOf_7 : decode cX11_termOf 7 = .ok (.iload_n 2, 1) := by decide +kernel
theorem dX11_termOf_8 : decode cX11_termOf 8 = .ok (.if_icmp .ge 157, 3) := by decide +kernel
theorem dX11_termOf_11 : decode cX11_termOf 11 = .ok (.aload_n 0, 1) := by decide +kernel
theorem dX11_termOf_12 : decode cX11_termOf 12 = .ok (.getfield 119, 3) := by decide +kernel
theorem dX11_termOf_15 : decode cX11_termOf 15 = .ok (.iload 4, 2) := by decide +kernel
theorem dX11_termOf_17 : decode cX11_termOf 17 = .ok (.iaload, 1) := by decide +kernel
theorem dX11_termOf_18 : decode cX11_termOf 18 = .ok (.istore 5, 2) := by decide +kernel
theorem dX11_termOf_20 : decode cX11_termOf 20 = .ok (.iload 5, 2) := by decide +kernel
theorem dX11_termOf_22 : decode cX11_termOf 22 = .ok (.iconst 2, 1) := by decide +kernel
theorem dX11_termOf_23 : decode cX11_termOf 23 = .ok (.if_icmp .ge 42, 3) := by decide +kernel
theorem dX11_termOf_26 : decode cX11_termOf 26 = .ok (.aload_n 0, 1) := by decide +kernel
theorem dX11_termOf_27 : decode cX11_termOf 27 = .ok (.getfield 131, 3) := by decide +kernel
theorem dX11_termOf_30 : decode cX11_termOf 30 = .ok (.iload_n 3, 1) := by decide +kernel
theorem dX11_termOf_31 : decode cX11_termOf 31 = .ok (.iload 5, 2) := by decide +kernel
theorem dX11_termOf_33 : decode cX11_termOf 33 = .ok (.ifCond .ne 13, 3) := by decide +kernel
theorem dX11_termOf_36 : decode cX11_termOf 36 = .ok (.aload_n 0, 1) := by decide +kernel
theorem dX11_termOf_37 : decode cX11_termOf 37 = .ok (.getfield 122, 3) := by decide +kernel
theorem dX11_termOf_40 : decode cX11_termOf 40 = .ok (.iload 4, 2) := by decide +kernel
theorem dX11_termOf_42 : decode cX11_termOf 42 = .ok (.iaload, 1) := by decide +kernel
theorem dX11_termOf_43 : decode cX11_termOf 43 = .ok (.goto 15, 3) := by decide +kernel
theorem dX11_termOf_46 : decode cX11_termOf 46 = .ok (.aload_n 0, 1) := by decide +kernel
theorem dX11_termOf_47 : decode cX11_termOf 47 = .ok (.getfield 128, 3) := by decide +kernel
theorem dX11_termOf_50 : decode cX11_termOf 50 = .ok (.aload_n 0, 1) := by decide +kernel
theorem dX11_termOf_51 : decode cX11_termOf 51 = .ok (.getfield 122, 3) := by decide +kernel
theorem dX11_termOf_54 : decode cX11_termOf 54 = .ok (.iload 4, 2) := by decide +kernel
theorem dX11_termOf_56 : decode cX11_termOf 56 = .ok (.iaload, 1) := by decide +kernel
theorem dX11_termOf_57 : decode cX11_termOf 57 = .ok (.iaload, 1) := by decide +kernel
theorem dX11_termOf_58 : decode cX11_termOf 58 = .ok (.iastore, 1) := by decide +kernel
theorem dX11_termOf_59 : decode cX11_termOf 59 = .ok (.iinc 3 1, 3) := by decide +kernel
theorem dX11_termOf_62 : decode cX11_termOf 62 = .ok (.goto 97, 3) := by decide +kernel
theorem dX11_termOf_65 : decode cX11_termOf 65 = .ok (.iinc 3 (-1), 3) := by decide +kernel
theorem dX11_termOf_68 : decode cX11_termOf 68 = .ok (.aload_n 0, 1) := by decide +kernel
theorem dX11_termOf_69 : decode cX11_termOf 69 = .ok (.getfield 131, 3) := by decide +kernel
theorem dX11_termOf_72 : decode cX11_termOf 72 = .ok (.iload_n 3, 1) := by decide +kernel
theorem dX11_termOf_73 : decode cX11_termOf 73 = .ok (.iconst 1, 1) := by decide +kernel
theorem dX11_termOf_74 : decode cX11_termOf 74 = .ok (.isub, 1) := by decide +kernel
theorem dX11_termOf_75 : decode cX11_termOf 75 = .ok (.iaload, 1) := by decide +kernel
theorem dX11_termOf_76 : decode cX11_termOf 76 = .ok (.istore 6, 2) := by decide +kernel
theorem dX11_termOf_78 : decode cX11_termOf 78 = .ok (.aload_n 0, 1) := by decide +kernel
theorem dX11_termOf_79 : decode cX11_termOf 79 = .ok (.getfield 131, 3) := by decide +kernel
theorem dX11_termOf_82 : decode cX11_termOf 82 = .ok (.iload_n 3, 1) := by decide +kernel
theorem dX11_termOf_83 : decode cX11_termOf 83 = .ok (.iaload, 1) := by decide +kernel
theorem dX11_termOf_84 : decode cX11_termOf 84 = .ok (.istore 7, 2) := by decide +kernel
theorem dX11_termOf_86 : decode cX11_termOf 86 = .ok (.iload 5, 2) := by decide +kernel
theorem dX11_termOf_88 : decode cX11_termOf 88 = .ok (.iconst 5, 1) := by decide +kernel
theorem dX11_termOf_89 : decode cX11_termOf 89 = .ok (.if_icmp .ne 15, 3) := by decide +kernel
theorem dX11_termOf_92 : decode cX11_termOf 92 = .ok (.iload 7, 2) := by decide +kernel
theorem dX11_termOf_94 : decode cX11_termOf 94 = .ok (.ifCond .ne 10, 3) := by decide +kernel
theorem dX11_termOf_97 : decode cX11_termOf 97 = .ok (.aload_n 0, 1) := by decide +kernel
theorem dX11_termOf_98 : decode cX11_termOf 98 = .ok (.iconst 1, 1) := by decide +kernel
theorem dX11_termOf_99 : decode cX11_termOf 99 = .ok (.putfield 331, 3) := by decide +kernel
theorem dX11_termOf_102 : decode cX11_termOf 102 = .ok (.iconst 0, 1) := by decide +kernel
theorem dX11_termOf_103 : decode cX11_termOf 103 = .ok (.ireturn, 1) := by decide +kernel
theorem dX11_termOf_104 : decode cX11_termOf 104 = .ok (.aload_n 0, 1) := by decide +kernel
theorem dX11_termOf_105 : decode cX11_termOf 105 = .ok (.getfield 131, 3) := by decide +kernel
theorem dX11_termOf_108 : decode cX11_termOf 108 = .ok (.iload_n 3, 1) := by decide +kernel
theorem dX11_termOf_109 : decode cX11_termOf 109 = .ok (.iconst 1, 1) := by decide +kernel
theorem dX11_termOf_110 : decode cX11_termOf 110 = .ok (.isub, 1) := by decide +kernel
theorem dX11_termOf_111 : decode cX11_termOf 111 = .ok (.iload 5, 2) := by decide +kernel
theorem dX11_termOf_113 : decode cX11_termOf 113 = .ok (.iconst 2, 1) := by decide +kernel
theorem dX11_termOf_114 : decode cX11_termOf 114 = .ok (.if_icmp .ne 11, 3) := by decide +kernel
theorem dX11_termOf_117 : decode cX11_termOf 117 = .ok (.iload 6, 2) := by decide +kernel
theorem dX11_termOf_119 : decode cX11_termOf 119 = .ok (.iload 7, 2) := by decide +kernel
theorem dX11_termOf_121 : decode cX11_termOf 121 = .ok (.iadd, 1) := by decide +kernel
theorem dX11_termOf_122 : decode cX11_termOf 122 = .ok (.goto 36, 3) := by decide +kernel
theorem dX11_termOf_125 : decode cX11_termOf 125 = .ok (.iload 5, 2) := by decide +kernel
theorem dX11_termOf_127 : decode cX11_termOf 127 = .ok (.iconst 3, 1) := by decide +kernel
theorem dX11_termOf_128 : decode cX11_termOf 128 = .ok (.if_icmp .ne 11, 3) := by decide +kernel
theorem dX11_termOf_131 : decode cX11_termOf 131 = .ok (.iload 6, 2) := by decide +kernel
theorem dX11_termOf_133 : decode cX11_termOf 133 = .ok (.iload 7, 2) := by decide +kernel
theorem dX11_termOf_135 : decode cX11_termOf 135 = .ok (.isub, 1) := by decide +kernel
theorem dX11_termOf_136 : decode cX11_termOf 136 = .ok (.goto 22, 3) := by decide +kernel
theorem dX11_termOf_139 : decode cX11_termOf 139 = .ok (.iload 5, 2) := by decide +kernel
theorem dX11_termOf_141 : decode cX11_termOf 141 = .ok (.iconst 4, 1) := by decide +kernel
theorem dX11_termOf_142 : decode cX11_termOf 142 = .ok (.if_icmp .ne 11, 3) := by decide +kernel
theorem dX11_termOf_145 : decode cX11_termOf 145 = .ok (.iload 6, 2) := by decide +kernel
theorem dX11_termOf_147 : decode cX11_termOf 147 = .ok (.iload 7, 2) := by decide +kernel
theorem dX11_termOf_149 : decode cX11_termOf 149 = .ok (.imul, 1) := by decide +kernel
theorem dX11_termOf_150 : decode cX11_termOf 150 = .ok (.goto 8, 3) := by decide +kernel
theorem dX11_termOf_153 : decode cX11_termOf 153 = .ok (.iload 6, 2) := by decide +kernel
theorem dX11_termOf_155 : decode cX11_termOf 155 = .ok (.iload 7, 2) := by decide +kernel
theorem dX11_termOf_157 : decode cX11_termOf 157 = .ok (.idiv, 1) := by decide +kernel
theorem dX11_termOf_158 : decode cX11_termOf 158 = .ok (.iastore, 1) := by decide +kernel
theorem dX11_termOf_159 : decode cX11_termOf 159 = .ok (.iinc 4 1, 3) := by decide +kernel
theorem dX11_termOf_162 : decode cX11_termOf 162 = .ok (.goto (-157), 3) := by decide +kernel
theorem dX11_termOf_165 : decode cX11_termOf 165 = .ok (.aload_n 0, 1) := by decide +kernel
theorem dX11_termOf_166 : decode cX11_termOf 166 = .ok (.getfield 131, 3) := by decide +kernel
theorem dX11_termOf_169 : decode cX11_termOf 169 = .ok (.iconst 0, 1) := by decide +kernel
theorem dX11_termOf_170 : decode cX11_termOf 170 = .ok (.iaload, 1) := by decide +kernel
theorem dX11_termOf_171 : decode cX11_termOf 171 = .ok (.ireturn, 1) := by decide +kernel
theorem dX11_in_0 : decode cX11_in 0 = .ok (.iload_n 0, 1) := by decide +kernel
theorem dX11_in_1 : decode cX11_in 1 = .ok (.iload_n 1, 1) := by decide +kernel
theorem dX11_in_2 : decode cX11_in 2 = .ok (.if_icmp .lt 12, 3) := by decide +kernel
theorem dX11_in_5 : decode cX11_in 5 = .ok (.iload_n 0, 1) := by decide +kernel
theorem dX11_in_6 : decode cX11_in 6 = .ok (.iload_n 2, 1) := by decide +kernel
theorem dX11_in_7 : decode cX11_in 7 = .ok (.if_icmp .gt 7, 3) := by decide +kernel
theorem dX11_in_10 : decode cX11_in 10 = .ok (.iconst 1, 1) := by decide +kernel
theorem dX11_in_11 : decode cX11_in 11 = .ok (.goto 4, 3) := by decide +kernel
theorem dX11_in_14 : decode cX11_in 14 = .ok (.iconst 0, 1) := by decide +kernel
theorem dX11_in_15 : decode cX11_in 15 = .ok (.ireturn, 1) := by decide +kernel
theorem dX11_bits_0 : decode cX11_bits 0 = .ok (.iconst 0, 1) := by decide +kernel
theorem dX11_bits_1 : decode cX11_bits 1 = .ok (.istore_n 1, 1) := by decide +kernel
theorem dX11_bits_2 : decode cX11_bits 2 = .ok (.iconst 0, 1) := by decide +kernel
theorem dX11_bits_3 : decode cX11_bits 3 = .ok (.istore_n 2, 1) := by decide +kernel
theorem dX11_bits_4 : decode cX11_bits 4 = .ok (.iload_n 2, 1) := by decide +kernel
theorem dX11_bits_5 : decode cX11_bits 5 = .ok (.bipush 6, 2) := by decide +kernel
theorem dX11_bits_7 : decode cX11_bits 7 = .ok (.if_icmp .ge 17, 3) := by decide +kernel
theorem dX11_bits_10 : decode cX11_bits 10 = .ok (.iload_n 1, 1) := by decide +kernel
theorem dX11_bits_11 : decode cX11_bits 11 = .ok (.iload_n 0, 1) := by decide +kernel
theorem dX11_bits_12 : decode cX11_bits 12 = .ok (.iload_n 2, 1) := by decide +kernel
theorem dX11_bits_13 : decode cX11_bits 13 = .ok (.ishr, 1) := by decide +kernel
theorem dX11_bits_14 : decode cX11_bits 14 = .ok (.iconst 1, 1) := by decide +kernel
theorem dX11_bits_15 : decode cX11_bits 15 = .ok (.iand, 1) := by decide +kernel
theorem dX11_bits_16 : decode cX11_bits 16 = .ok (.iadd, 1) := by decide +kernel
theorem dX11_bits_17 : decode cX11_bits 17 = .ok (.istore_n 1, 1) := by decide +kernel
theorem dX11_bits_18 : decode cX11_bits 18 = .ok (.iinc 2 1, 3) := by decide +kernel
theorem dX11_bits_21 : decode cX11_bits 21 = .ok (.goto (-17), 3) := by decide +kernel
theorem dX11_bits_24 : decode cX11_bits 24 = .ok (.iload_n 1, 1) := by decide +kernel
theorem dX11_bits_25 : decode cX11_bits 25 = .ok (.ireturn, 1) := by decide +kernel
theorem dX11_isHouse_0 : decode cX11_isHouse 0 = .ok (.iload_n 1, 1) := by decide +kernel
theorem dX11_isHouse_1 : decode cX11_isHouse 1 = .ok (.iconst 0, 1) := by decide +kernel
theorem dX11_isHouse_2 : decode cX11_isHouse 2 = .ok (.aload_n 0, 1) := by decide +kernel
theorem dX11_isHouse_3 : decode cX11_isHouse 3 = .ok (.getfield 49, 3) := by decide +kernel
theorem dX11_isHouse_6 : decode cX11_isHouse 6 = .ok (.aload_n 0, 1) := by decide +kernel
theorem dX11_isHouse_7 : decode cX11_isHouse 7 = .ok (.getfield 251, 3) := by decide +kernel
theorem dX11_isHouse_10 : decode cX11_isHouse 10 = .ok (.iaload, 1) := by decide +kernel
theorem dX11_isHouse_11 : decode cX11_isHouse 11 = .ok (.iconst 1, 1) := by decide +kernel
theorem dX11_isHouse_12 : decode cX11_isHouse 12 = .ok (.isub, 1) := by decide +kernel
theorem dX11_isHouse_13 : decode cX11_isHouse 13 = .ok (.invokestatic 335, 3) := by decide +kernel
theorem dX11_isHouse_16 : decode cX11_isHouse 16 = .ok (.ireturn, 1) := by decide +kernel
theorem dX11_isWork_0 : decode cX11_isWork 0 = .ok (.iload_n 1, 1) := by decide +kernel
theorem dX11_isWork_1 : decode cX11_isWork 1 = .ok (.iconst 0, 1) := by decide +kernel
theorem dX11_isWork_2 : decode cX11_isWork 2 = .ok (.aload_n 0, 1) := by decide +kernel
theorem dX11_isWork_3 : decode cX11_isWork 3 = .ok (.getfield 58, 3) := by decide +kernel
theorem dX11_isWork_6 : decode cX11_isWork 6 = .ok (.aload_n 0, 1) := by decide +kernel
theorem dX11_isWork_7 : decode cX11_isWork 7 = .ok (.getfield 251, 3) := by decide +kernel
theorem dX11_isWork_10 : decode cX11_isWork 10 = .ok (.iaload, 1) := by decide +kernel
theorem dX11_isWork_11 : decode cX11_isWork 11 = .ok (.iconst 1, 1) := by decide +kernel
theorem dX11_isWork_12 : decode cX11_isWork 12 = .ok (.isub, 1) := by decide +kernel
theorem dX11_isWork_13 : decode cX11_isWork 13 = .ok (.invokestatic 335, 3) := by decide +kernel
theorem dX11_isWork_16 : decode cX11_isWork 16 = .ok (.ireturn, 1) := by decide +kernel
theorem dX11_isTerm_0 : decode cX11_isTerm 0 = .ok (.iload_n 1, 1) := by decide +kernel
theorem dX11_isTerm_1 : decode cX11_isTerm 1 = .ok (.iconst 0, 1) := by decide +kernel
theorem dX11_isTerm_2 : decode cX11_isTerm 2 = .ok (.aload_n 0, 1) := by decide +kernel
theorem dX11_isTerm_3 : decode cX11_isTerm 3 = .ok (.getfield 73, 3) := by decide +kernel
theorem dX11_isTerm_6 : decode cX11_isTerm 6 = .ok (.aload_n 0, 1) := by decide +kernel
theorem dX11_isTerm_7 : decode cX11_isTerm 7 = .ok (.getfield 251, 3) := by decide +kernel
theorem dX11_isTerm_10 : decode cX11_isTerm 10 = .ok (.iaload, 1) := by decide +kernel
theorem dX11_isTerm_11 : decode cX11_isTerm 11 = .ok (.iconst 1, 1) := by decide +kernel
theorem dX11_isTerm_12 : decode cX11_isTerm 12 = .ok (.isub, 1) := by decide +kernel
theorem dX11_isTerm_13 : decode cX11_isTerm 13 = .ok (.invokestatic 335, 3) := by decide +kernel
theorem dX11_isTerm_16 : decode cX11_isTerm 16 = .ok (.ireturn, 1) := by decide +kernel
theorem dX11_ownerNow_0 : decode cX11_ownerNow 0 = .ok (.aload_n 0, 1) := by decide +kernel
theorem dX11_ownerNow_1 : decode cX11_ownerNow 1 = .ok (.getfield 61, 3) := by decide +kernel
theorem dX11_ownerNow_4 : decode cX11_ownerNow 4 = .ok (.bipush 6, 2) := by decide +kernel
theorem dX11_ownerNow_6 : decode cX11_ownerNow 6 = .ok (.aload_n 0, 1) := by decide +kernel
theorem dX11_ownerNow_7 : decode cX11_ownerNow 7 = .ok (.getfield 251, 3) := by decide +kernel
theorem dX11_ownerNow_10 : decode cX11_ownerNow 10 = .ok (.imul, 1) := by decide +kernel
theorem dX11_ownerNow_11 : decode cX11_ownerNow 11 = .ok (.iload_n 1, 1) := by decide +kernel
theorem dX11_ownerNow_12 : decode cX11_ownerNow 12 = .ok (.iadd, 1) := by decide +kernel
theorem dX11_ownerNow_13 : decode cX11_ownerNow 13 = .ok (.iaload, 1) := by decide +kernel
theorem dX11_ownerNow_14 : decode cX11_ownerNow 14 = .ok (.ireturn, 1) := by decide +kernel
theorem dX11_copies_0 : decode cX11_copies 0 = .ok (.iconst 0, 1) := by decide +kernel
theorem dX11_copies_1 : decode cX11_copies 1 = .ok (.istore_n 1, 1) := by decide +kernel
theorem dX11_copies_2 : decode cX11_copies 2 = .ok (.iload_n 1, 1) := by decide +kernel
theorem dX11_copies_3 : decode cX11_copies 3 = .ok (.bipush 60, 2) := by decide +kernel
theorem dX11_copies_5 : decode cX11_copies 5 = .ok (.if_icmp .ge 21, 3) := by decide +kernel
theorem dX11_copies_8 : decode cX11_copies 8 = .ok (.aload_n 0, 1) := by decide +kernel
theorem dX11_copies_9 : decode cX11_copies 9 = .ok (.getfield 137, 3) := by decide +kernel
theorem dX11_copies_12 : decode cX11_copies 12 = .ok (.iload_n 1, 1) := by decide +kernel
theorem dX11_copies_13 : decode cX11_copies 13 = .ok (.aload_n 0, 1) := by decide +kernel
theorem dX11_copies_14 : decode cX11_copies 14 = .ok (.getfield 134, 3) := by decide +kernel
theorem dX11_copies_17 : decode cX11_copies 17 = .ok (.iload_n 1, 1) := by decide +kernel
theorem dX11_copies_18 : decode cX11_copies 18 = .ok (.iaload, 1) := by decide +kernel
theorem dX11_copies_19 : decode cX11_copies 19 = .ok (.iastore, 1) := by decide +kernel
theorem dX11_copies_20 : decode cX11_copies 20 = .ok (.iinc 1 1, 3) := by decide +kernel
theorem dX11_copies_23 : decode cX11_copies 23 = .ok (.goto (-21), 3) := by decide +kernel
theorem dX11_copies_26 : decode cX11_copies 26 = .ok (.aload_n 0, 1) := by decide +kernel
theorem dX11_copies_27 : decode cX11_copies 27 = .ok (.aload_n 0, 1) := by decide +kernel
theorem dX11_copies_28 : decode cX11_copies 28 = .ok (.getfield 94, 3) := by decide +kernel
theorem dX11_copies_31 : decode cX11_copies 31 = .ok (.aload_n 0, 1) := by decide +kernel
theorem dX11_copies_32 : decode cX11_copies 32 = .ok (.getfield 251, 3) := by decide +kernel
theorem dX11_copies_35 : decode cX11_copies 35 = .ok (.iaload, 1) := by decide +kernel
theorem dX11_copies_36 : decode cX11_copies 36 = .ok (.putfield 339, 3) := by decide +kernel
theorem dX11_copies_39 : decode cX11_copies 39 = .ok (.return_, 1) := by decide +kernel
theorem dX11_mixed_0 : decode cX11_mixed 0 = .ok (.iload_n 0, 1) := by decide +kernel
theorem dX11_mixed_1 : decode cX11_mixed 1 = .ok (.iload_n 1, 1) := by decide +kernel
theorem dX11_mixed_2 : decode cX11_mixed 2 = .ok (.ixor, 1) := by decide +kernel
theorem dX11_mixed_3 : decode cX11_mixed 3 = .ok (.ldc_w 342, 3) := by decide +kernel
theorem dX11_mixed_6 : decode cX11_mixed 6 = .ok (.imul, 1) := by decide +kernel
theorem dX11_mixed_7 : decode cX11_mixed 7 = .ok (.sipush 12345, 3) := by decide +kernel
theorem dX11_mixed_10 : decode cX11_mixed 10 = .ok (.iadd, 1) := by decide +kernel
theorem dX11_mixed_11 : decode cX11_mixed 11 = .ok (.istore_n 2, 1) := by decide +kernel
theorem dX11_mixed_12 : decode cX11_mixed 12 = .ok (.iload_n 2, 1) := by decide +kernel
theorem dX11_mixed_13 : decode cX11_mixed 13 = .ok (.iload_n 2, 1) := by decide +kernel
theorem dX11_mixed_14 : decode cX11_mixed 14 = .ok (.bipush 15, 2) := by decide +kernel
theorem dX11_mixed_16 : decode cX11_mixed 16 = .ok (.iushr, 1) := by decide +kernel
theorem dX11_mixed_17 : decode cX11_mixed 17 = .ok (.ixor, 1) := by decide +kernel
theorem dX11_mixed_18 : decode cX11_mixed 18 = .ok (.ireturn, 1) := by decide +kernel
theorem dX11_looks_0 : decode cX11_looks 0 = .ok (.iconst 0, 1) := by decide +kernel
theorem dX11_looks_1 : decode cX11_looks 1 = .ok (.istore 5, 2) := by decide +kernel
theorem dX11_looks_3 : decode cX11_looks 3 = .ok (.iconst 0, 1) := by decide +kernel
theorem dX11_looks_4 : decode cX11_looks 4 = .ok (.istore 6, 2) := by decide +kernel
theorem dX11_looks_6 : decode cX11_looks 6 = .ok (.iconst 0, 1) := by decide +kernel
theorem dX11_looks_7 : decode cX11_looks 7 = .ok (.istore 7, 2) := by decide +kernel
theorem dX11_looks_9 : decode cX11_looks 9 = .ok (.iload 7, 2) := by decide +kernel
theorem dX11_looks_11 : decode cX11_looks 11 = .ok (.aload_n 0, 1) := by decide +kernel
theorem dX11_looks_12 : decode cX11_looks 12 = .ok (.getfield 58, 3) := by decide +kernel
theorem dX11_looks_15 : decode cX11_looks 15 = .ok (.aload_n 0, 1) := by decide +kernel
theorem dX11_looks_16 : decode cX11_looks 16 = .ok (.getfield 251, 3) := by decide +kernel
theorem dX11_looks_19 : decode cX11_looks 19 = .ok (.iaload, 1) := by decide +kernel
theorem dX11_looks_20 : decode cX11_looks 20 = .ok (.if_icmp .ge 78, 3) := by decide +kernel
theorem dX11_looks_23 : decode cX11_looks 23 = .ok (.iload_n 3, 1) := by decide +kernel
theorem dX11_looks_24 : decode cX11_looks 24 = .ok (.ifCond .ne 74, 3) := by decide +kernel
theorem dX11_looks_27 : decode cX11_looks 27 = .ok (.iload 7, 2) := by decide +kernel
theorem dX11_looks_29 : decode cX11_looks 29 = .ok (.iload_n 1, 1) := by decide +kernel
theorem dX11_looks_30 : decode cX11_looks 30 = .ok (.if_icmp .eq 62, 3) := by decide +kernel
theorem dX11_looks_33 : decode cX11_looks 33 = .ok (.iload 7, 2) := by decide +kernel
theorem dX11_looks_35 : decode cX11_looks 35 = .ok (.iload 4, 2) := by decide +kernel
theorem dX11_looks_37 : decode cX11_looks 37 = .ok (.if_icmp .eq 55, 3) := by decide +kernel
theorem dX11_looks_40 : decode cX11_looks 40 = .ok (.aload_n 0, 1) := by decide +kernel
theorem dX11_looks_41 : decode cX11_looks 41 = .ok (.getfield 137, 3) := by decide +kernel
theorem dX11_looks_44 : decode cX11_looks 44 = .ok (.iload 7, 2) := by decide +kernel
theorem dX11_looks_46 : decode cX11_looks 46 = .ok (.iaload, 1) := by decide +kernel
theorem dX11_looks_47 : decode cX11_looks 47 = .ok (.iload_n 2, 1) := by decide +kernel
theorem dX11_looks_48 : decode cX11_looks 48 = .ok (.if_icmp .eq 6, 3) := by decide +kernel
theorem dX11_looks_51 : decode cX11_looks 51 = .ok (.goto 41, 3) := by decide +kernel
theorem dX11_looks_54 : decode cX11_looks 54 = .ok (.iinc 5 1, 3) := by decide +kernel
theorem dX11_looks_57 : decode cX11_looks 57 = .ok (.aload_n 0, 1) := by decide +kernel
theorem dX11_looks_58 : decode cX11_looks 58 = .ok (.getfield 67, 3) := by decide +kernel
theorem dX11_looks_61 : decode cX11_looks 61 = .ok (.bipush 6, 2) := by decide +kernel
theorem dX11_looks_63 : decode cX11_looks 63 = .ok (.aload_n 0, 1) := by decide +kernel
theorem dX11_looks_64 : decode cX11_looks 64 = .ok (.getfield 251, 3) := by decide +kernel
theorem dX11_looks_67 : decode cX11_looks 67 = .ok (.imul, 1) := by decide +kernel
theorem dX11_looks_68 : decode cX11_looks 68 = .ok (.iload 7, 2) := by decide +kernel
theorem dX11_looks_70 : decode cX11_looks 70 = .ok (.iadd, 1) := by decide +kernel
theorem dX11_looks_71 : decode cX11_looks 71 = .ok (.iaload, 1) := by decide +kernel
theorem dX11_looks_72 : decode cX11_looks 72 = .ok (.aload_n 0, 1) := by decide +kernel
theorem dX11_looks_73 : decode cX11_looks 73 = .ok (.getfield 67, 3) := by decide +kernel
theorem dX11_looks_76 : decode cX11_looks 76 = .ok (.bipush 6, 2) := by decide +kernel
theorem dX11_looks_78 : decode cX11_looks 78 = .ok (.aload_n 0, 1) := by decide +kernel
theorem dX11_looks_79 : decode cX11_looks 79 = .ok (.getfield 251, 3) := by decide +kernel
theorem dX11_looks_82 : decode cX11_looks 82 = .ok (.imul, 1) := by decide +kernel
theorem dX11_looks_83 : decode cX11_looks 83 = .ok (.iload_n 1, 1) := by decide +kernel
theorem dX11_looks_84 : decode cX11_looks 84 = .ok (.iadd, 1) := by decide +kernel
theorem dX11_looks_85 : decode cX11_looks 85 = .ok (.iaload, 1) := by decide +kernel
theorem dX11_looks_86 : decode cX11_looks 86 = .ok (.if_icmp .ne 6, 3) := by decide +kernel
theorem dX11_looks_89 : decode cX11_looks 89 = .ok (.iinc 6 1, 3) := by decide +kernel
theorem dX11_looks_92 : decode cX11_looks 92 = .ok (.iinc 7 1, 3) := by decide +kernel
theorem dX11_looks_95 : decode cX11_looks 95 = .ok (.goto (-86), 3) := by decide +kernel
theorem dX11_looks_98 : decode cX11_looks 98 = .ok (.aload_n 0, 1) := by decide +kernel
theorem dX11_looks_99 : decode cX11_looks 99 = .ok (.getfield 128, 3) := by decide +kernel
theorem dX11_looks_102 : decode cX11_looks 102 = .ok (.iconst 0, 1) := by decide +kernel
theorem dX11_looks_103 : decode cX11_looks 103 = .ok (.aload_n 0, 1) := by decide +kernel
theorem dX11_looks_104 : decode cX11_looks 104 = .ok (.getfield 52, 3) := by decide +kernel
theorem dX11_looks_107 : decode cX11_looks 107 = .ok (.iconst 5, 1) := by decide +kernel
theorem dX11_looks_108 : decode cX11_looks 108 = .ok (.aload_n 0, 1) := by decide +kernel
theorem dX11_looks_109 : decode cX11_looks 109 = .ok (.getfield 251, 3) := by decide +kernel
theorem dX11_looks_112 : decode cX11_looks 112 = .ok (.imul, 1) := by decide +kernel
theorem dX11_looks_113 : decode cX11_looks 113 = .ok (.iload_n 2, 1) := by decide +kernel
theorem dX11_looks_114 : decode cX11_looks 114 = .ok (.iadd, 1) := by decide +kernel
theorem dX11_looks_115 : decode cX11_looks 115 = .ok (.iaload, 1) := by decide +kernel
theorem dX11_looks_116 : decode cX11_looks 116 = .ok (.iastore, 1) := by decide +kernel
theorem dX11_looks_117 : decode cX11_looks 117 = .ok (.aload_n 0, 1) := by decide +kernel
theorem dX11_looks_118 : decode cX11_looks 118 = .ok (.getfield 128, 3) := by decide +kernel
theorem dX11_looks_121 : decode cX11_looks 121 = .ok (.iconst 1, 1) := by decide +kernel
theorem dX11_looks_122 : decode cX11_looks 122 = .ok (.aload_n 0, 1) := by decide +kernel
theorem dX11_looks_123 : decode cX11_looks 123 = .ok (.getfield 55, 3) := by decide +kernel
theorem dX11_looks_126 : decode cX11_looks 126 = .ok (.iconst 5, 1) := by decide +kernel
theorem dX11_looks_127 : decode cX11_looks 127 = .ok (.aload_n 0, 1) := by decide +kernel
theorem dX11_looks_128 : decode cX11_looks 128 = .ok (.getfield 251, 3) := by decide +kernel
theorem dX11_looks_131 : decode cX11_looks 131 = .ok (.imul, 1) := by decide +kernel
theorem dX11_looks_132 : decode cX11_looks 132 = .ok (.iload_n 2, 1) := by decide +kernel
theorem dX11_looks_133 : decode cX11_looks 133 = .ok (.iadd, 1) := by decide +kernel
theorem dX11_looks_134 : decode cX11_looks 134 = .ok (.iaload, 1) := by decide +kernel
theorem dX11_looks_135 : decode cX11_looks 135 = .ok (.iastore, 1) := by decide +kernel
theorem dX11_looks_136 : decode cX11_looks 136 = .ok (.aload_n 0, 1) := by decide +kernel
theorem dX11_looks_137 : decode cX11_looks 137 = .ok (.getfield 128, 3) := by decide +kernel
theorem dX11_looks_140 : decode cX11_looks 140 = .ok (.iconst 2, 1) := by decide +kernel
theorem dX11_looks_141 : decode cX11_looks 141 = .ok (.aload_n 0, 1) := by decide +kernel
theorem dX11_looks_142 : decode cX11_looks 142 = .ok (.getfield 67, 3) := by decide +kernel
theorem dX11_looks_145 : decode cX11_looks 145 = .ok (.bipush 6, 2) := by decide +kernel
theorem dX11_looks_147 : decode cX11_looks 147 = .ok (.aload_n 0, 1) := by decide +kernel
theorem dX11_looks_148 : decode cX11_looks 148 = .ok (.getfield 251, 3) := by decide +kernel
theorem dX11_looks_151 : decode cX11_looks 151 = .ok (.imul, 1) := by decide +kernel
theorem dX11_looks_152 : decode cX11_looks 152 = .ok (.iload_n 1, 1) := by decide +kernel
theorem dX11_looks_153 : decode cX11_looks 153 = .ok (.iadd, 1) := by decide +kernel
theorem dX11_looks_154 : decode cX11_looks 154 = .ok (.iaload, 1) := by decide +kernel
theorem dX11_looks_155 : decode cX11_looks 155 = .ok (.iastore, 1) := by decide +kernel
theorem dX11_looks_156 : decode cX11_looks 156 = .ok (.aload_n 0, 1) := by decide +kernel
theorem dX11_looks_157 : decode cX11_looks 157 = .ok (.getfield 128, 3) := by decide +kernel
theorem dX11_looks_160 : decode cX11_looks 160 = .ok (.iconst 3, 1) := by decide +kernel
theorem dX11_looks_161 : decode cX11_looks 161 = .ok (.aload_n 0, 1) := by decide +kernel
theorem dX11_looks_162 : decode cX11_looks 162 = .ok (.getfield 70, 3) := by decide +kernel
theorem dX11_looks_165 : decode cX11_looks 165 = .ok (.bipush 6, 2) := by decide +kernel
theorem dX11_looks_167 : decode cX11_looks 167 = .ok (.aload_n 0, 1) := by decide +kernel
theorem dX11_looks_168 : decode cX11_looks 168 = .ok (.getfield 251, 3) := by decide +kernel
theorem dX11_looks_171 : decode cX11_looks 171 = .ok (.imul, 1) := by decide +kernel
theorem dX11_looks_172 : decode cX11_looks 172 = .ok (.iload_n 1, 1) := by decide +kernel
theorem dX11_looks_173 : decode cX11_looks 173 = .ok (.iadd, 1) := by decide +kernel
theorem dX11_looks_174 : decode cX11_looks 174 = .ok (.iaload, 1) := by decide +kernel
theorem dX11_looks_175 : decode cX11_looks 175 = .ok (.iastore, 1) := by decide +kernel
theorem dX11_looks_176 : decode cX11_looks 176 = .ok (.aload_n 0, 1) := by decide +kernel
theorem dX11_looks_177 : decode cX11_looks 177 = .ok (.getfield 128, 3) := by decide +kernel
theorem dX11_looks_180 : decode cX11_looks 180 = .ok (.iconst 4, 1) := by decide +kernel
theorem dX11_looks_181 : decode cX11_looks 181 = .ok (.iload 5, 2) := by decide +kernel
theorem dX11_looks_183 : decode cX11_looks 183 = .ok (.iastore, 1) := by decide +kernel
theorem dX11_looks_184 : decode cX11_looks 184 = .ok (.aload_n 0, 1) := by decide +kernel
theorem dX11_looks_185 : decode cX11_looks 185 = .ok (.getfield 128, 3) := by decide +kernel
theorem dX11_looks_188 : decode cX11_looks 188 = .ok (.iconst 5, 1) := by decide +kernel
theorem dX11_looks_189 : decode cX11_looks 189 = .ok (.iload 6, 2) := by decide +kernel
theorem dX11_looks_191 : decode cX11_looks 191 = .ok (.iastore, 1) := by decide +kernel
theorem dX11_looks_192 : decode cX11_looks 192 = .ok (.aload_n 0, 1) := by decide +kernel
theorem dX11_looks_193 : decode cX11_looks 193 = .ok (.getfield 128, 3) := by decide +kernel
theorem dX11_looks_196 : decode cX11_looks 196 = .ok (.bipush 6, 2) := by decide +kernel
theorem dX11_looks_198 : decode cX11_looks 198 = .ok (.aload_n 0, 1) := by decide +kernel
theorem dX11_looks_199 : decode cX11_looks 199 = .ok (.iload_n 1, 1) := by decide +kernel
theorem dX11_looks_200 : decode cX11_looks 200 = .ok (.invokevirtual 343, 3) := by decide +kernel
theorem dX11_looks_203 : decode cX11_looks 203 = .ok (.iload_n 2, 1) := by decide +kernel
theorem dX11_looks_204 : decode cX11_looks 204 = .ok (.if_icmp .ne 7, 3) := by decide +kernel
theorem dX11_looks_207 : decode cX11_looks 207 = .ok (.iconst 1, 1) := by decide +kernel
theorem dX11_looks_208 : decode cX11_looks 208 = .ok (.goto 4, 3) := by decide +kernel
theorem dX11_looks_211 : decode cX11_looks 211 = .ok (.iconst 0, 1) := by decide +kernel
theorem dX11_looks_212 : decode cX11_looks 212 = .ok (.iastore, 1) := by decide +kernel
theorem dX11_looks_213 : decode cX11_looks 213 = .ok (.aload_n 0, 1) := by decide +kernel
theorem dX11_looks_214 : decode cX11_looks 214 = .ok (.getfield 128, 3) := by decide +kernel
theorem dX11_looks_217 : decode cX11_looks 217 = .ok (.bipush 7, 2) := by decide +kernel
theorem dX11_looks_219 : decode cX11_looks 219 = .ok (.iload_n 2, 1) := by decide +kernel
theorem dX11_looks_220 : decode cX11_looks 220 = .ok (.iastore, 1) := by decide +kernel
theorem dX11_looks_221 : decode cX11_looks 221 = .ok (.aload_n 0, 1) := by decide +kernel
theorem dX11_looks_222 : decode cX11_looks 222 = .ok (.getfield 128, 3) := by decide +kernel
theorem dX11_looks_225 : decode cX11_looks 225 = .ok (.bipush 8, 2) := by decide +kernel
theorem dX11_looks_227 : decode cX11_looks 227 = .ok (.aload_n 0, 1) := by decide +kernel
theorem dX11_looks_228 : decode cX11_looks 228 = .ok (.getfield 137, 3) := by decide +kernel
theorem dX11_looks_231 : decode cX11_looks 231 = .ok (.bipush 30, 2) := by decide +kernel
theorem dX11_looks_233 : decode cX11_looks 233 = .ok (.iaload, 1) := by decide +kernel
theorem dX11_looks_234 : decode cX11_looks 234 = .ok (.iastore, 1) := by decide +kernel
theorem dX11_looks_235 : decode cX11_looks 235 = .ok (.return_, 1) := by decide +kernel
theorem dX11_lawTells_0 : decode cX11_lawTells 0 = .ok (.aload_n 0, 1) := by decide +kernel
theorem dX11_lawTells_1 : decode cX11_lawTells 1 = .ok (.iconst 0, 1) := by decide +kernel
theorem dX11_lawTells_2 : decode cX11_lawTells 2 = .ok (.putfield 331, 3) := by decide +kernel
theorem dX11_lawTells_5 : decode cX11_lawTells 5 = .ok (.aload_n 0, 1) := by decide +kernel
theorem dX11_lawTells_6 : decode cX11_lawTells 6 = .ok (.getfield 97, 3) := by decide +kernel
theorem dX11_lawTells_9 : decode cX11_lawTells 9 = .ok (.iload_n 1, 1) := by decide +kernel
theorem dX11_lawTells_10 : decode cX11_lawTells 10 = .ok (.iaload, 1) := by decide +kernel
theorem dX11_lawTells_11 : decode cX11_lawTells 11 = .ok (.istore_n 2, 1) := by decide +kernel
theorem dX11_lawTells_12 : decode cX11_lawTells 12 = .ok (.iload_n 2, 1) := by decide +kernel
theorem dX11_lawTells_13 : decode cX11_lawTells 13 = .ok (.aload_n 0, 1) := by decide +kernel
theorem dX11_lawTells_14 : decode cX11_lawTells 14 = .ok (.getfield 100, 3) := by decide +kernel
theorem dX11_lawTells_17 : decode cX11_lawTells 17 = .ok (.iload_n 1, 1) := by decide +kernel
theorem dX11_lawTells_18 : decode cX11_lawTells 18 = .ok (.iaload, 1) := by decide +kernel
theorem dX11_lawTells_19 : decode cX11_lawTells 19 = .ok (.if_icmp .ge 101, 3) := by decide +kernel
theorem dX11_lawTells_22 : decode cX11_lawTells 22 = .ok (.aload_n 0, 1) := by decide +kernel
theorem dX11_lawTells_23 : decode cX11_lawTells 23 = .ok (.getfield 103, 3) := by decide +kernel
theorem dX11_lawTells_26 : decode cX11_lawTells 26 = .ok (.iload_n 2, 1) := by decide +kernel
theorem dX11_lawTells_27 : decode cX11_lawTells 27 = .ok (.baload, 1) := by decide +kernel
theorem dX11_lawTells_28 : decode cX11_lawTells 28 = .ok (.ifCond .eq 56, 3) := by decide +kernel
theorem dX11_lawTells_31 : decode cX11_lawTells 31 = .ok (.aload_n 0, 1) := by decide +kernel
theorem dX11_lawTells_32 : decode cX11_lawTells 32 = .ok (.aload_n 0, 1) := by decide +kernel
theorem dX11_lawTells_33 : decode cX11_lawTells 33 = .ok (.getfield 107, 3) := by decide +kernel
theorem dX11_lawTells_36 : decode cX11_lawTells 36 = .ok (.iload_n 2, 1) := by decide +kernel
theorem dX11_lawTells_37 : decode cX11_lawTells 37 = .ok (.iaload, 1) := by decide +kernel
theorem dX11_lawTells_38 : decode cX11_lawTells 38 = .ok (.aload_n 0, 1) := by decide +kernel
theorem dX11_lawTells_39 : decode cX11_lawTells 39 = .ok (.getfield 110, 3) := by decide +kernel
theorem dX11_lawTells_42 : decode cX11_lawTells 42 = .ok (.iload_n 2, 1) := by decide +kernel
theorem dX11_lawTells_43 : decode cX11_lawTells 43 = .ok (.iaload, 1) := by decide +kernel
theorem dX11_lawTells_44 : decode cX11_lawTells 44 = .ok (.invokevirtual 349, 3) := by decide +kernel
theorem dX11_lawTells_47 : decode cX11_lawTells 47 = .ok (.istore_n 3, 1) := by decide +kernel
theorem dX11_lawTells_48 : decode cX11_lawTells 48 = .ok (.aload_n 0, 1) := by decide +kernel
theorem dX11_lawTells_49 : decode cX11_lawTells 49 = .ok (.aload_n 0, 1) := by decide +kernel
theorem dX11_lawTells_50 : decode cX11_lawTells 50 = .ok (.getfield 110, 3) := by decide +kernel
theorem dX11_lawTells_53 : decode cX11_lawTells 53 = .ok (.iload_n 2, 1) := by decide +kernel
theorem dX11_lawTells_54 : decode cX11_lawTells 54 = .ok (.iaload, 1) := by decide +kernel
theorem dX11_lawTells_55 : decode cX11_lawTells 55 = .ok (.aload_n 0, 1) := by decide +kernel
theorem dX11_lawTells_56 : decode cX11_lawTells 56 = .ok (.getfield 113, 3) := by decide +kernel
theorem dX11_lawTells_59 : decode cX11_lawTells 59 = .ok (.iload_n 2, 1) := by decide +kernel
theorem dX11_lawTells_60 : decode cX11_lawTells 60 = .ok (.iaload, 1) := by decide +kernel
theorem dX11_lawTells_61 : decode cX11_lawTells 61 = .ok (.invokevirtual 349, 3) := by decide +kernel
theorem dX11_lawTells_64 : decode cX11_lawTells 64 = .ok (.istore 4, 2) := by decide +kernel
theorem dX11_lawTells_66 : decode cX11_lawTells 66 = .ok (.aload_n 0, 1) := by decide +kernel
theorem dX11_lawTells_67 : decode cX11_lawTells 67 = .ok (.getfield 331, 3) := by decide +kernel
theorem dX11_lawTells_70 : decode cX11_lawTells 70 = .ok (.ifCond .eq 5, 3) := by decide +kernel
theorem dX11_lawTells_73 : decode cX11_lawTells 73 = .ok (.iconst 0, 1) := by decide +kernel
theorem dX11_lawTells_74 : decode cX11_lawTells 74 = .ok (.ireturn, 1) := by decide +kernel
theorem dX11_lawTells_75 : decode cX11_lawTells 75 = .ok (.iload_n 3, 1) := by decide +kernel
theorem dX11_lawTells_76 : decode cX11_lawTells 76 = .ok (.iload 4, 2) := by decide +kernel
theorem dX11_lawTells_78 : decode cX11_lawTells 78 = .ok (.if_icmp .lt 6, 3) := by decide +kernel
theorem dX11_lawTells_81 : decode cX11_lawTells 81 = .ok (.goto 33, 3) := by decide +kernel
theorem dX11_lawTells_84 : decode cX11_lawTells 84 = .ok (.aload_n 0, 1) := by decide +kernel
theorem dX11_lawTells_85 : decode cX11_lawTells 85 = .ok (.aload_n 0, 1) := by decide +kernel
theorem dX11_lawTells_86 : decode cX11_lawTells 86 = .ok (.getfield 113, 3) := by decide +kernel
theorem dX11_lawTells_89 : decode cX11_lawTells 89 = .ok (.iload_n 2, 1) := by decide +kernel
theorem dX11_lawTells_90 : decode cX11_lawTells 90 = .ok (.iaload, 1) := by decide +kernel
theorem dX11_lawTells_91 : decode cX11_lawTells 91 = .ok (.aload_n 0, 1) := by decide +kernel
theorem dX11_lawTells_92 : decode cX11_lawTells 92 = .ok (.getfield 116, 3) := by decide +kernel
theorem dX11_lawTells_95 : decode cX11_lawTells 95 = .ok (.iload_n 2, 1) := by decide +kernel
theorem dX11_lawTells_96 : decode cX11_lawTells 96 = .ok (.iaload, 1) := by decide +kernel
theorem dX11_lawTells_97 : decode cX11_lawTells 97 = .ok (.invokevirtual 349, 3) := by decide +kernel
theorem dX11_lawTells_100 : decode cX11_lawTells 100 = .ok (.istore_n 3, 1) := by decide +kernel
theorem dX11_lawTells_101 : decode cX11_lawTells 101 = .ok (.aload_n 0, 1) := by decide +kernel
theorem dX11_lawTells_102 : decode cX11_lawTells 102 = .ok (.getfield 331, 3) := by decide +kernel
theorem dX11_lawTells_105 : decode cX11_lawTells 105 = .ok (.ifCond .eq 7, 3) := by decide +kernel
theorem dX11_lawTells_108 : decode cX11_lawTells 108 = .ok (.iconst 0, 1) := by decide +kernel
theorem dX11_lawTells_109 : decode cX11_lawTells 109 = .ok (.goto 4, 3) := by decide +kernel
theorem dX11_lawTells_112 : decode cX11_lawTells 112 = .ok (.iload_n 3, 1) := by decide +kernel
theorem dX11_lawTells_113 : decode cX11_lawTells 113 = .ok (.ireturn, 1) := by decide +kernel
theorem dX11_lawTells_114 : decode cX11_lawTells 114 = .ok (.iinc 2 1, 3) := by decide +kernel
theorem dX11_lawTells_117 : decode cX11_lawTells 117 = .ok (.goto (-105), 3) := by decide +kernel
theorem dX11_lawTells_120 : decode cX11_lawTells 120 = .ok (.iconst 0, 1) := by decide +kernel
theorem dX11_lawTells_121 : decode cX11_lawTells 121 = .ok (.ireturn, 1) := by decide +kernel
theorem dX11_asks_0 : decode cX11_asks 0 = .ok (.iconst 2, 1) := by decide +kernel
theorem dX11_asks_1 : decode cX11_asks 1 = .ok (.aload_n 0, 1) := by decide +kernel
theorem dX11_asks_2 : decode cX11_asks 2 = .ok (.getfield 251, 3) := by decide +kernel
theorem dX11_asks_5 : decode cX11_asks 5 = .ok (.imul, 1) := by decide +kernel
theorem dX11_asks_6 : decode cX11_asks 6 = .ok (.iload_n 1, 1) := by decide +kernel
theorem dX11_asks_7 : decode cX11_asks 7 = .ok (.iadd, 1) := by decide +kernel
theorem dX11_asks_8 : decode cX11_asks 8 = .ok (.istore 5, 2) := by decide +kernel
theorem dX11_asks_10 : decode cX11_asks 10 = .ok (.iload_n 2, 1) := by decide +kernel
theorem dX11_asks_11 : decode cX11_asks 11 = .ok (.istore 6, 2) := by decide +kernel
theorem dX11_asks_13 : decode cX11_asks 13 = .ok (.aload_n 0, 1) := by decide +kernel
theorem dX11_asks_14 : decode cX11_asks 14 = .ok (.getfield 97, 3) := by decide +kernel
theorem dX11_asks_17 : decode cX11_asks 17 = .ok (.iload 5, 2) := by decide +kernel
theorem dX11_asks_19 : decode cX11_asks 19 = .ok (.iaload, 1) := by decide +kernel
theorem dX11_asks_20 : decode cX11_asks 20 = .ok (.aload_n 0, 1) := by decide +kernel
theorem dX11_asks_21 : decode cX11_asks 21 = .ok (.getfield 100, 3) := by decide +kernel
theorem dX11_asks_24 : decode cX11_asks 24 = .ok (.iload 5, 2) := by decide +kernel
theorem dX11_asks_26 : decode cX11_asks 26 = .ok (.iaload, 1) := by decide +kernel
theorem dX11_asks_27 : decode cX11_asks 27 = .ok (.if_icmp .ge 11, 3) := by decide +kernel
theorem dX11_asks_30 : decode cX11_asks 30 = .ok (.aload_n 0, 1) := by decide +kernel
theorem dX11_asks_31 : decode cX11_asks 31 = .ok (.iload 5, 2) := by decide +kernel
theorem dX11_asks_33 : decode cX11_asks 33 = .ok (.invokevirtual 346, 3) := by decide +kernel
theorem dX11_asks_36 : decode cX11_asks 36 = .ok (.istore 6, 2) := by decide +kernel
theorem dX11_asks_38 : decode cX11_asks 38 = .ok (.iload 6, 2) := by decide +kernel
theorem dX11_asks_40 : decode cX11_asks 40 = .ok (.iload_n 3, 1) := by decide +kernel
theorem dX11_asks_41 : decode cX11_asks 41 = .ok (.if_icmp .ge 7, 3) := by decide +kernel
theorem dX11_asks_44 : decode cX11_asks 44 = .ok (.iload_n 3, 1) := by decide +kernel
theorem dX11_asks_45 : decode cX11_asks 45 = .ok (.goto 17, 3) := by decide +kernel
theorem dX11_asks_48 : decode cX11_asks 48 = .ok (.iload 6, 2) := by decide +kernel
theorem dX11_asks_50 : decode cX11_asks 50 = .ok (.iload 4, 2) := by decide +kernel
theorem dX11_asks_52 : decode cX11_asks 52 = .ok (.if_icmp .le 8, 3) := by decide +kernel
theorem dX11_asks_55 : decode cX11_asks 55 = .ok (.iload 4, 2) := by decide +kernel
theorem dX11_asks_57 : decode cX11_asks 57 = .ok (.goto 5, 3) := by decide +kernel
theorem dX11_asks_60 : decode cX11_asks 60 = .ok (.iload 6, 2) := by decide +kernel
theorem dX11_asks_62 : decode cX11_asks 62 = .ok (.ireturn, 1) := by decide +kernel
theorem dX11_sideOf_0 : decode cX11_sideOf 0 = .ok (.aload_n 0, 1) := by decide +kernel
theorem dX11_sideOf_1 : decode cX11_sideOf 1 = .ok (.iconst 0, 1) := by decide +kernel
theorem dX11_sideOf_2 : decode cX11_sideOf 2 = .ok (.putfield 331, 3) := by decide +kernel
theorem dX11_sideOf_5 : decode cX11_sideOf 5 = .ok (.aload_n 0, 1) := by decide +kernel
theorem dX11_sideOf_6 : decode cX11_sideOf 6 = .ok (.iload_n 1, 1) := by decide +kernel
theorem dX11_sideOf_7 : decode cX11_sideOf 7 = .ok (.iload_n 2, 1) := by decide +kernel
theorem dX11_sideOf_8 : decode cX11_sideOf 8 = .ok (.invokevirtual 349, 3) := by decide +kernel
theorem dX11_sideOf_11 : decode cX11_sideOf 11 = .ok (.istore_n 3, 1) := by decide +kernel
theorem dX11_sideOf_12 : decode cX11_sideOf 12 = .ok (.aload_n 0, 1) := by decide +kernel
theorem dX11_sideOf_13 : decode cX11_sideOf 13 = .ok (.getfield 331, 3) := by decide +kernel
theorem dX11_sideOf_16 : decode cX11_sideOf 16 = .ok (.ifCond .eq 7, 3) := by decide +kernel
theorem dX11_sideOf_19 : decode cX11_sideOf 19 = .ok (.iconst 0, 1) := by decide +kernel
theorem dX11_sideOf_20 : decode cX11_sideOf 20 = .ok (.goto 4, 3) := by decide +kernel
theorem dX11_sideOf_23 : decode cX11_sideOf 23 = .ok (.iload_n 3, 1) := by decide +kernel
theorem dX11_sideOf_24 : decode cX11_sideOf 24 = .ok (.ireturn, 1) := by decide +kernel
theorem dX11_isKept_0 : decode cX11_isKept 0 = .ok (.bipush 6, 2) := by decide +kernel
theorem dX11_isKept_2 : decode cX11_isKept 2 = .ok (.aload_n 0, 1) := by decide +kernel
theorem dX11_isKept_3 : decode cX11_isKept 3 = .ok (.getfield 251, 3) := by decide +kernel
theorem dX11_isKept_6 : decode cX11_isKept 6 = .ok (.imul, 1) := by decide +kernel
theorem dX11_isKept_7 : decode cX11_isKept 7 = .ok (.iload_n 1, 1) := by decide +kernel
theorem dX11_isKept_8 : decode cX11_isKept 8 = .ok (.iadd, 1) := by decide +kernel
theorem dX11_isKept_9 : decode cX11_isKept 9 = .ok (.istore_n 2, 1) := by decide +kernel
theorem dX11_isKept_10 : decode cX11_isKept 10 = .ok (.aload_n 0, 1) := by decide +kernel
theorem dX11_isKept_11 : decode cX11_isKept 11 = .ok (.aload_n 0, 1) := by decide +kernel
theorem dX11_isKept_12 : decode cX11_isKept 12 = .ok (.getfield 79, 3) := by decide +kernel
theorem dX11_isKept_15 : decode cX11_isKept 15 = .ok (.iload_n 2, 1) := by decide +kernel
theorem dX11_isKept_16 : decode cX11_isKept 16 = .ok (.iaload, 1) := by decide +kernel
theorem dX11_isKept_17 : decode cX11_isKept 17 = .ok (.aload_n 0, 1) := by decide +kernel
theorem dX11_isKept_18 : decode cX11_isKept 18 = .ok (.getfield 82, 3) := by decide +kernel
theorem dX11_isKept_21 : decode cX11_isKept 21 = .ok (.iload_n 2, 1) := by decide +kernel
theorem dX11_isKept_22 : decode cX11_isKept 22 = .ok (.iaload, 1) := by decide +kernel
theorem dX11_isKept_23 : decode cX11_isKept 23 = .ok (.invokevirtual 352, 3) := by decide +kernel
theorem dX11_isKept_26 : decode cX11_isKept 26 = .ok (.aload_n 0, 1) := by decide +kernel
theorem dX11_isKept_27 : decode cX11_isKept 27 = .ok (.aload_n 0, 1) := by decide +kernel
theorem dX11_isKept_28 : decode cX11_isKept 28 = .ok (.getfield 82, 3) := by decide +kernel
theorem dX11_isKept_31 : decode cX11_isKept 31 = .ok (.iload_n 2, 1) := by decide +kernel
theorem dX11_isKept_32 : decode cX11_isKept 32 = .ok (.iaload, 1) := by decide +kernel
theorem dX11_isKept_33 : decode cX11_isKept 33 = .ok (.aload_n 0, 1) := by decide +kernel
theorem dX11_isKept_34 : decode cX11_isKept 34 = .ok (.getfield 85, 3) := by decide +kernel
theorem dX11_isKept_37 : decode cX11_isKept 37 = .ok (.iload_n 2, 1) := by decide +kernel
theorem dX11_isKept_38 : decode cX11_isKept 38 = .ok (.iaload, 1) := by decide +kernel
theorem dX11_isKept_39 : decode cX11_isKept 39 = .ok (.invokevirtual 352, 3) := by decide +kernel
theorem dX11_isKept_42 : decode cX11_isKept 42 = .ok (.if_icmp .ge 7, 3) := by decide +kernel
theorem dX11_isKept_45 : decode cX11_isKept 45 = .ok (.iconst 1, 1) := by decide +kernel
theorem dX11_isKept_46 : decode cX11_isKept 46 = .ok (.goto 4, 3) := by decide +kernel
theorem dX11_isKept_49 : decode cX11_isKept 49 = .ok (.iconst 0, 1) := by decide +kernel
theorem dX11_isKept_50 : decode cX11_isKept 50 = .ok (.ireturn, 1) := by decide +kernel
theorem dX11_brokenIn_0 : decode cX11_brokenIn 0 = .ok (.aload_n 0, 1) := by decide +kernel
theorem dX11_brokenIn_1 : decode cX11_brokenIn 1 = .ok (.iload_n 1, 1) := by decide +kernel
theorem dX11_brokenIn_2 : decode cX11_brokenIn 2 = .ok (.iload_n 2, 1) := by decide +kernel
theorem dX11_brokenIn_3 : decode cX11_brokenIn 3 = .ok (.iconst 0, 1) := by decide +kernel
theorem dX11_brokenIn_4 : decode cX11_brokenIn 4 = .ok (.iconst (-1), 1) := by decide +kernel
theorem dX11_brokenIn_5 : decode cX11_brokenIn 5 = .ok (.invokevirtual 355, 3) := by decide +kernel
theorem dX11_brokenIn_8 : decode cX11_brokenIn 8 = .ok (.iconst 0, 1) := by decide +kernel
theorem dX11_brokenIn_9 : decode cX11_brokenIn 9 = .ok (.istore_n 3, 1) := by decide +kernel
theorem dX11_brokenIn_10 : decode cX11_brokenIn 10 = .ok (.iconst 0, 1) := by decide +kernel
theorem dX11_brokenIn_11 : decode cX11_brokenIn 11 = .ok (.istore 4, 2) := by decide +kernel
theorem dX11_brokenIn_13 : decode cX11_brokenIn 13 = .ok (.iload 4, 2) := by decide +kernel
theorem dX11_brokenIn_15 : decode cX11_brokenIn 15 = .ok (.aload_n 0, 1) := by decide +kernel
theorem dX11_brokenIn_16 : decode cX11_brokenIn 16 = .ok (.getfield 73, 3) := by decide +kernel
theorem dX11_brokenIn_19 : decode cX11_brokenIn 19 = .ok (.aload_n 0, 1) := by decide +kernel
theorem dX11_brokenIn_20 : decode cX11_brokenIn 20 = .ok (.getfield 251, 3) := by decide +kernel
theorem dX11_brokenIn_23 : decode cX11_brokenIn 23 = .ok (.iaload, 1) := by decide +kernel
theorem dX11_brokenIn_24 : decode cX11_brokenIn 24 = .ok (.if_icmp .ge 44, 3) := by decide +kernel
theorem dX11_brokenIn_27 : decode cX11_brokenIn 27 = .ok (.aload_n 0, 1) := by decide +kernel
theorem dX11_brokenIn_28 : decode cX11_brokenIn 28 = .ok (.getfield 76, 3) := by decide +kernel
theorem dX11_brokenIn_31 : decode cX11_brokenIn 31 = .ok (.bipush 6, 2) := by decide +kernel
theorem dX11_brokenIn_33 : decode cX11_brokenIn 33 = .ok (.aload_n 0, 1) := by decide +kernel
theorem dX11_brokenIn_34 : decode cX11_brokenIn 34 = .ok (.getfield 251, 3) := by decide +kernel
theorem dX11_brokenIn_37 : decode cX11_brokenIn 37 = .ok (.imul, 1) := by decide +kernel
theorem dX11_brokenIn_38 : decode cX11_brokenIn 38 = .ok (.iload 4, 2) := by decide +kernel
theorem dX11_brokenIn_40 : decode cX11_brokenIn 40 = .ok (.iadd, 1) := by decide +kernel
theorem dX11_brokenIn_41 : decode cX11_brokenIn 41 = .ok (.iaload, 1) := by decide +kernel
theorem dX11_brokenIn_42 : decode cX11_brokenIn 42 = .ok (.iload_n 1, 1) := by decide +kernel
theorem dX11_brokenIn_43 : decode cX11_brokenIn 43 = .ok (.if_icmp .ne 19, 3) := by decide +kernel
theorem dX11_brokenIn_46 : decode cX11_brokenIn 46 = .ok (.aload_n 0, 1) := by decide +kernel
theorem dX11_brokenIn_47 : decode cX11_brokenIn 47 = .ok (.iload 4, 2) := by decide +kernel
theorem dX11_brokenIn_49 : decode cX11_brokenIn 49 = .ok (.invokevirtual 359, 3) := by decide +kernel
theorem dX11_brokenIn_52 : decode cX11_brokenIn 52 = .ok (.ifCond .ne 10, 3) := by decide +kernel
theorem dX11_brokenIn_55 : decode cX11_brokenIn 55 = .ok (.iload_n 3, 1) := by decide +kernel
theorem dX11_brokenIn_56 : decode cX11_brokenIn 56 = .ok (.iconst 1, 1) := by decide +kernel
theorem dX11_brokenIn_57 : decode cX11_brokenIn 57 = .ok (.iload 4, 2) := by decide +kernel
theorem dX11_brokenIn_59 : decode cX11_brokenIn 59 = .ok (.ishl, 1) := by decide +kernel
theorem dX11_brokenIn_60 : decode cX11_brokenIn 60 = .ok (.ior, 1) := by decide +kernel
theorem dX11_brokenIn_61 : decode cX11_brokenIn 61 = .ok (.istore_n 3, 1) := by decide +kernel
theorem dX11_brokenIn_62 : decode cX11_brokenIn 62 = .ok (.iinc 4 1, 3) := by decide +kernel
theorem dX11_brokenIn_65 : decode cX11_brokenIn 65 = .ok (.goto (-52), 3) := by decide +kernel
theorem dX11_brokenIn_68 : decode cX11_brokenIn 68 = .ok (.iload_n 3, 1) := by decide +kernel
theorem dX11_brokenIn_69 : decode cX11_brokenIn 69 = .ok (.ireturn, 1) := by decide +kernel
theorem dX11_standing_0 : decode cX11_standing 0 = .ok (.iconst 0, 1) := by decide +kernel
theorem dX11_standing_1 : decode cX11_standing 1 = .ok (.istore_n 1, 1) := by decide +kernel
theorem dX11_standing_2 : decode cX11_standing 2 = .ok (.iconst 0, 1) := by decide +kernel
theorem dX11_standing_3 : decode cX11_standing 3 = .ok (.istore_n 2, 1) := by decide +kernel
theorem dX11_standing_4 : decode cX11_standing 4 = .ok (.iload_n 2, 1) := by decide +kernel
theorem dX11_standing_5 : decode cX11_standing 5 = .ok (.aload_n 0, 1) := by decide +kernel
theorem dX11_standing_6 : decode cX11_standing 6 = .ok (.getfield 73, 3) := by decide +kernel
theorem dX11_standing_9 : decode cX11_standing 9 = .ok (.aload_n 0, 1) := by decide +kernel
theorem dX11_standing_10 : decode cX11_standing 10 = .ok (.getfield 251, 3) := by decide +kernel
theorem dX11_standing_13 : decode cX11_standing 13 = .ok (.iaload, 1) := by decide +kernel
theorem dX11_standing_14 : decode cX11_standing 14 = .ok (.if_icmp .ge 27, 3) := by decide +kernel
theorem dX11_standing_17 : decode cX11_standing 17 = .ok (.aload_n 0, 1) := by decide +kernel
theorem dX11_standing_18 : decode cX11_standing 18 = .ok (.getfield 137, 3) := by decide +kernel
theorem dX11_standing_21 : decode cX11_standing 21 = .ok (.bipush 24, 2) := by decide +kernel
theorem dX11_standing_23 : decode cX11_standing 23 = .ok (.iload_n 2, 1) := by decide +kernel
theorem dX11_standing_24 : decode cX11_standing 24 = .ok (.iadd, 1) := by decide +kernel
theorem dX11_standing_25 : decode cX11_standing 25 = .ok (.iaload, 1) := by decide +kernel
theorem dX11_standing_26 : decode cX11_standing 26 = .ok (.ifCond .ne 9, 3) := by decide +kernel
theorem dX11_standing_29 : decode cX11_standing 29 = .ok (.iload_n 1, 1) := by decide +kernel
theorem dX11_standing_30 : decode cX11_standing 30 = .ok (.iconst 1, 1) := by decide +kernel
theorem dX11_standing_31 : decode cX11_standing 31 = .ok (.iload_n 2, 1) := by decide +kernel
theorem dX11_standing_32 : decode cX11_standing 32 = .ok (.ishl, 1) := by decide +kernel
theorem dX11_standing_33 : decode cX11_standing 33 = .ok (.ior, 1) := by decide +kernel
theorem dX11_standing_34 : decode cX11_standing 34 = .ok (.istore_n 1, 1) := by decide +kernel
theorem dX11_standing_35 : decode cX11_standing 35 = .ok (.iinc 2 1, 3) := by decide +kernel
theorem dX11_standing_38 : decode cX11_standing 38 = .ok (.goto (-34), 3) := by decide +kernel
theorem dX11_standing_41 : decode cX11_standing 41 = .ok (.iload_n 1, 1) := by decide +kernel
theorem dX11_standing_42 : decode cX11_standing 42 = .ok (.ireturn, 1) := by decide +kernel
theorem dX11_othersIn_0 : decode cX11_othersIn 0 = .ok (.iconst 0, 1) := by decide +kernel
theorem dX11_othersIn_1 : decode cX11_othersIn 1 = .ok (.istore_n 3, 1) := by decide +kernel
theorem dX11_othersIn_2 : decode cX11_othersIn 2 = .ok (.iconst 0, 1) := by decide +kernel
theorem dX11_othersIn_3 : decode cX11_othersIn 3 = .ok (.istore 4, 2) := by decide +kernel
theorem dX11_othersIn_5 : decode cX11_othersIn 5 = .ok (.iload 4, 2) := by decide +kernel
theorem dX11_othersIn_7 : decode cX11_othersIn 7 = .ok (.aload_n 0, 1) := by decide +kernel
theorem dX11_othersIn_8 : decode cX11_othersIn 8 = .ok (.getfield 58, 3) := by decide +kernel
theorem dX11_othersIn_11 : decode cX11_othersIn 11 = .ok (.aload_n 0, 1) := by decide +kernel
theorem dX11_othersIn_12 : decode cX11_othersIn 12 = .ok (.getfield 251, 3) := by decide +kernel
theorem dX11_othersIn_15 : decode cX11_othersIn 15 = .ok (.iaload, 1) := by decide +kernel
theorem dX11_othersIn_16 : decode cX11_othersIn 16 = .ok (.if_icmp .ge 29, 3) := by decide +kernel
theorem dX11_othersIn_19 : decode cX11_othersIn 19 = .ok (.iload 4, 2) := by decide +kernel
theorem dX11_othersIn_21 : decode cX11_othersIn 21 = .ok (.iload_n 1, 1) := by decide +kernel
theorem dX11_othersIn_22 : decode cX11_othersIn 22 = .ok (.if_icmp .eq 17, 3) := by decide +kernel
theorem dX11_othersIn_25 : decode cX11_othersIn 25 = .ok (.aload_n 0, 1) := by decide +kernel
theorem dX11_othersIn_26 : decode cX11_othersIn 26 = .ok (.getfield 137, 3) := by decide +kernel
theorem dX11_othersIn_29 : decode cX11_othersIn 29 = .ok (.iload 4, 2) := by decide +kernel
theorem dX11_othersIn_31 : decode cX11_othersIn 31 = .ok (.iaload, 1) := by decide +kernel
theorem dX11_othersIn_32 : decode cX11_othersIn 32 = .ok (.iload_n 2, 1) := by decide +kernel
theorem dX11_othersIn_33 : decode cX11_othersIn 33 = .ok (.if_icmp .ne 6, 3) := by decide +kernel
theorem dX11_othersIn_36 : decode cX11_othersIn 36 = .ok (.iinc 3 1, 3) := by decide +kernel
theorem dX11_othersIn_39 : decode cX11_othersIn 39 = .ok (.iinc 4 1, 3) := by decide +kernel
theorem dX11_othersIn_42 : decode cX11_othersIn 42 = .ok (.goto (-37), 3) := by decide +kernel
theorem dX11_othersIn_45 : decode cX11_othersIn 45 = .ok (.iload_n 3, 1) := by decide +kernel
theorem dX11_othersIn_46 : decode cX11_othersIn 46 = .ok (.ireturn, 1) := by decide +kernel
theorem dX11_hasRoom_0 : decode cX11_hasRoom 0 = .ok (.aload_n 0, 1) := by decide +kernel
theorem dX11_hasRoom_1 : decode cX11_hasRoom 1 = .ok (.iload_n 1, 1) := by decide +kernel
theorem dX11_hasRoom_2 : decode cX11_hasRoom 2 = .ok (.iload_n 2, 1) := by decide +kernel
theorem dX11_hasRoom_3 : decode cX11_hasRoom 3 = .ok (.invokevirtual 362, 3) := by decide +kernel
theorem dX11_hasRoom_6 : decode cX11_hasRoom 6 = .ok (.aload_n 0, 1) := by decide +kernel
theorem dX11_hasRoom_7 : decode cX11_hasRoom 7 = .ok (.getfield 55, 3) := by decide +kernel
theorem dX11_hasRoom_10 : decode cX11_hasRoom 10 = .ok (.iconst 5, 1) := by decide +kernel
theorem dX11_hasRoom_11 : decode cX11_hasRoom 11 = .ok (.aload_n 0, 1) := by decide +kernel
theorem dX11_hasRoom_12 : decode cX11_hasRoom 12 = .ok (.getfield 251, 3) := by decide +kernel
theorem dX11_hasRoom_15 : decode cX11_hasRoom 15 = .ok (.imul, 1) := by decide +kernel
theorem dX11_hasRoom_16 : decode cX11_hasRoom 16 = .ok (.iload_n 2, 1) := by decide +kernel
theorem dX11_hasRoom_17 : decode cX11_hasRoom 17 = .ok (.iadd, 1) := by decide +kernel
theorem dX11_hasRoom_18 : decode cX11_hasRoom 18 = .ok (.iaload, 1) := by decide +kernel
theorem dX11_hasRoom_19 : decode cX11_hasRoom 19 = .ok (.if_icmp .ge 7, 3) := by decide +kernel
theorem dX11_hasRoom_22 : decode cX11_hasRoom 22 = .ok (.iconst 1, 1) := by decide +kernel
theorem dX11_hasRoom_23 : decode cX11_hasRoom 23 = .ok (.goto 4, 3) := by decide +kernel
theorem dX11_hasRoom_26 : decode cX11_hasRoom 26 = .ok (.iconst 0, 1) := by decide +kernel
theorem dX11_hasRoom_27 : decode cX11_hasRoom 27 = .ok (.ireturn, 1) := by decide +kernel
theorem dX11_mayHang_0 : decode cX11_mayHang 0 = .ok (.aload_n 0, 1) := by decide +kernel
theorem dX11_mayHang_1 : decode cX11_mayHang 1 = .ok (.iload_n 1, 1) := by decide +kernel
theorem dX11_mayHang_2 : decode cX11_mayHang 2 = .ok (.iload_n 2, 1) := by decide +kernel
theorem dX11_mayHang_3 : decode cX11_mayHang 3 = .ok (.invokevirtual 365, 3) := by decide +kernel
theorem dX11_mayHang_6 : decode cX11_mayHang 6 = .ok (.ifCond .eq 21, 3) := by decide +kernel
theorem dX11_mayHang_9 : decode cX11_mayHang 9 = .ok (.aload_n 0, 1) := by decide +kernel
theorem dX11_mayHang_10 : decode cX11_mayHang 10 = .ok (.iload_n 1, 1) := by decide +kernel
theorem dX11_mayHang_11 : decode cX11_mayHang 11 = .ok (.iload_n 2, 1) := by decide +kernel
theorem dX11_mayHang_12 : decode cX11_mayHang 12 = .ok (.invokevirtual 369, 3) := by decide +kernel
theorem dX11_mayHang_15 : decode cX11_mayHang 15 = .ok (.aload_n 0, 1) := by decide +kernel
theorem dX11_mayHang_16 : decode cX11_mayHang 16 = .ok (.invokevirtual 372, 3) := by decide +kernel
theorem dX11_mayHang_19 : decode cX11_mayHang 19 = .ok (.iand, 1) := by decide +kernel
theorem dX11_mayHang_20 : decode cX11_mayHang 20 = .ok (.ifCond .ne 7, 3) := by decide +kernel
theorem dX11_mayHang_23 : decode cX11_mayHang 23 = .ok (.iconst 1, 1) := by decide +kernel
theorem dX11_mayHang_24 : decode cX11_mayHang 24 = .ok (.goto 4, 3) := by decide +kernel
theorem dX11_mayHang_27 : decode cX11_mayHang 27 = .ok (.iconst 0, 1) := by decide +kernel
theorem dX11_mayHang_28 : decode cX11_mayHang 28 = .ok (.ireturn, 1) := by decide +kernel
theorem dX11_isWell_0 : decode cX11_isWell 0 = .ok (.iconst 0, 1) := by decide +kernel
theorem dX11_isWell_1 : decode cX11_isWell 1 = .ok (.istore_n 1, 1) := by decide +kernel
theorem dX11_isWell_2 : decode cX11_isWell 2 = .ok (.iload_n 1, 1) := by decide +kernel
theorem dX11_isWell_3 : decode cX11_isWell 3 = .ok (.aload_n 0, 1) := by decide +kernel
theorem dX11_isWell_4 : decode cX11_isWell 4 = .ok (.getfield 58, 3) := by decide +kernel
theorem dX11_isWell_7 : decode cX11_isWell 7 = .ok (.aload_n 0, 1) := by decide +kernel
theorem dX11_isWell_8 : decode cX11_isWell 8 = .ok (.getfield 251, 3) := by decide +kernel
theorem dX11_isWell_11 : decode cX11_isWell 11 = .ok (.iaload, 1) := by decide +kernel
theorem dX11_isWell_12 : decode cX11_isWell 12 = .ok (.if_icmp .ge 34, 3) := by decide +kernel
theorem dX11_isWell_15 : decode cX11_isWell 15 = .ok (.aload_n 0, 1) := by decide +kernel
theorem dX11_isWell_16 : decode cX11_isWell 16 = .ok (.getfield 137, 3) := by decide +kernel
theorem dX11_isWell_19 : decode cX11_isWell 19 = .ok (.iload_n 1, 1) := by decide +kernel
theorem dX11_isWell_20 : decode cX11_isWell 20 = .ok (.iaload, 1) := by decide +kernel
theorem dX11_isWell_21 : decode cX11_isWell 21 = .ok (.ifCond .lt 19, 3) := by decide +kernel
theorem dX11_isWell_24 : decode cX11_isWell 24 = .ok (.aload_n 0, 1) := by decide +kernel
theorem dX11_isWell_25 : decode cX11_isWell 25 = .ok (.iload_n 1, 1) := by decide +kernel
theorem dX11_isWell_26 : decode cX11_isWell 26 = .ok (.aload_n 0, 1) := by decide +kernel
theorem dX11_isWell_27 : decode cX11_isWell 27 = .ok (.getfield 137, 3) := by decide +kernel
theorem dX11_isWell_30 : decode cX11_isWell 30 = .ok (.iload_n 1, 1) := by decide +kernel
theorem dX11_isWell_31 : decode cX11_isWell 31 = .ok (.iaload, 1) := by decide +kernel
theorem dX11_isWell_32 : decode cX11_isWell 32 = .ok (.invokevirtual 375, 3) := by decide +kernel
theorem dX11_isWell_35 : decode cX11_isWell 35 = .ok (.ifCond .ne 5, 3) := by decide +kernel
theorem dX11_isWell_38 : decode cX11_isWell 38 = .ok (.iconst 0, 1) := by decide +kernel
theorem dX11_isWell_39 : decode cX11_isWell 39 = .ok (.ireturn, 1) := by decide +kernel
theorem dX11_isWell_40 : decode cX11_isWell 40 = .ok (.iinc 1 1, 3) := by decide +kernel
theorem dX11_isWell_43 : decode cX11_isWell 43 = .ok (.goto (-41), 3) := by decide +kernel
theorem dX11_isWell_46 : decode cX11_isWell 46 = .ok (.iconst 1, 1) := by decide +kernel
theorem dX11_isWell_47 : decode cX11_isWell 47 = .ok (.ireturn, 1) := by decide +kernel
theorem dX11_likesOf_0 : decode cX11_likesOf 0 = .ok (.aload_n 0, 1) := by decide +kernel
theorem dX11_likesOf_1 : decode cX11_likesOf 1 = .ok (.iload_n 2, 1) := by decide +kernel
theorem dX11_likesOf_2 : decode cX11_likesOf 2 = .ok (.iload_n 1, 1) := by decide +kernel
theorem dX11_likesOf_3 : decode cX11_likesOf 3 = .ok (.iload_n 3, 1) := by decide +kernel
theorem dX11_likesOf_4 : decode cX11_likesOf 4 = .ok (.iload 4, 2) := by decide +kernel
theorem dX11_likesOf_6 : decode cX11_likesOf 6 = .ok (.invokevirtual 355, 3) := by decide +kernel
theorem dX11_likesOf_9 : decode cX11_likesOf 9 = .ok (.aload_n 0, 1) := by decide +kernel
theorem dX11_likesOf_10 : decode cX11_likesOf 10 = .ok (.iconst 1, 1) := by decide +kernel
theorem dX11_likesOf_11 : decode cX11_likesOf 11 = .ok (.aload_n 0, 1) := by decide +kernel
theorem dX11_likesOf_12 : decode cX11_likesOf 12 = .ok (.getfield 70, 3) := by decide +kernel
theorem dX11_likesOf_15 : decode cX11_likesOf 15 = .ok (.bipush 6, 2) := by decide +kernel
theorem dX11_likesOf_17 : decode cX11_likesOf 17 = .ok (.aload_n 0, 1) := by decide +kernel
theorem dX11_likesOf_18 : decode cX11_likesOf 18 = .ok (.getfield 251, 3) := by decide +kernel
theorem dX11_likesOf_21 : decode cX11_likesOf 21 = .ok (.imul, 1) := by decide +kernel
theorem dX11_likesOf_22 : decode cX11_likesOf 22 = .ok (.iload_n 2, 1) := by decide +kernel
theorem dX11_likesOf_23 : decode cX11_likesOf 23 = .ok (.iadd, 1) := by decide +kernel
theorem dX11_likesOf_24 : decode cX11_likesOf 24 = .ok (.iaload, 1) := by decide +kernel
theorem dX11_likesOf_25 : decode cX11_likesOf 25 = .ok (.iconst 0, 1) := by decide +kernel
theorem dX11_likesOf_26 : decode cX11_likesOf 26 = .ok (.bipush 99, 2) := by decide +kernel
theorem dX11_likesOf_28 : decode cX11_likesOf 28 = .ok (.invokevirtual 378, 3) := by decide +kernel
theorem dX11_likesOf_31 : decode cX11_likesOf 31 = .ok (.ireturn, 1) := by decide +kernel
theorem dX11_tripOf_0 : decode cX11_tripOf 0 = .ok (.aload_n 0, 1) := by decide +kernel
theorem dX11_tripOf_1 : decode cX11_tripOf 1 = .ok (.iload_n 1, 1) := by decide +kernel
theorem dX11_tripOf_2 : decode cX11_tripOf 2 = .ok (.iload_n 2, 1) := by decide +kernel
theorem dX11_tripOf_3 : decode cX11_tripOf 3 = .ok (.iconst 1, 1) := by decide +kernel
theorem dX11_tripOf_4 : decode cX11_tripOf 4 = .ok (.iconst (-1), 1) := by decide +kernel
theorem dX11_tripOf_5 : decode cX11_tripOf 5 = .ok (.invokevirtual 355, 3) := by decide +kernel
theorem dX11_tripOf_8 : decode cX11_tripOf 8 = .ok (.aload_n 0, 1) := by decide +kernel
theorem dX11_tripOf_9 : decode cX11_tripOf 9 = .ok (.iconst 0, 1) := by decide +kernel
theorem dX11_tripOf_10 : decode cX11_tripOf 10 = .ok (.iconst 3, 1) := by decide +kernel
theorem dX11_tripOf_11 : decode cX11_tripOf 11 = .ok (.iconst 1, 1) := by decide +kernel
theorem dX11_tripOf_12 : decode cX11_tripOf 12 = .ok (.bipush 99, 2) := by decide +kernel
theorem dX11_tripOf_14 : decode cX11_tripOf 14 = .ok (.invokevirtual 378, 3) := by decide +kernel
theorem dX11_tripOf_17 : decode cX11_tripOf 17 = .ok (.ireturn, 1) := by decide +kernel
theorem dX11_isLate_0 : decode cX11_isLate 0 = .ok (.aload_n 0, 1) := by decide +kernel
theorem dX11_isLate_1 : decode cX11_isLate 1 = .ok (.getfield 339, 3) := by decide +kernel
theorem dX11_isLate_4 : decode cX11_isLate 4 = .ok (.bipush 83, 2) := by decide +kernel
theorem dX11_isLate_6 : decode cX11_isLate 6 = .ok (.invokestatic 382, 3) := by decide +kernel
theorem dX11_isLate_9 : decode cX11_isLate 9 = .ok (.bipush 8, 2) := by decide +kernel
theorem dX11_isLate_11 : decode cX11_isLate 11 = .ok (.aload_n 0, 1) := by decide +kernel
theorem dX11_isLate_12 : decode cX11_isLate 12 = .ok (.getfield 137, 3) := by decide +kernel
theorem dX11_isLate_15 : decode cX11_isLate 15 = .ok (.bipush 31, 2) := by decide +kernel
theorem dX11_isLate_17 : decode cX11_isLate 17 = .ok (.iaload, 1) := by decide +kernel
theorem dX11_isLate_18 : decode cX11_isLate 18 = .ok (.imul, 1) := by decide +kernel
theorem dX11_isLate_19 : decode cX11_isLate 19 = .ok (.invokestatic 382, 3) := by decide +kernel
theorem dX11_isLate_22 : decode cX11_isLate 22 = .ok (.iconst 1, 1) := by decide +kernel
theorem dX11_isLate_23 : decode cX11_isLate 23 = .ok (.iushr, 1) := by decide +kernel
theorem dX11_isLate_24 : decode cX11_isLate 24 = .ok (.bipush 100, 2) := by decide +kernel
theorem dX11_isLate_26 : decode cX11_isLate 26 = .ok (.irem, 1) := by decide +kernel
theorem dX11_isLate_27 : decode cX11_isLate 27 = .ok (.aload_n 0, 1) := by decide +kernel
theorem dX11_isLate_28 : decode cX11_isLate 28 = .ok (.getfield 88, 3) := by decide +kernel
theorem dX11_isLate_31 : decode cX11_isLate 31 = .ok (.aload_n 0, 1) := by decide +kernel
theorem dX11_isLate_32 : decode cX11_isLate 32 = .ok (.getfield 251, 3) := by decide +kernel
theorem dX11_isLate_35 : decode cX11_isLate 35 = .ok (.iaload, 1) := by decide +kernel
theorem dX11_isLate_36 : decode cX11_isLate 36 = .ok (.if_icmp .ge 7, 3) := by decide +kernel
theorem dX11_isLate_39 : decode cX11_isLate 39 = .ok (.iconst 1, 1) := by decide +kernel
theorem dX11_isLate_40 : decode cX11_isLate 40 = .ok (.goto 4, 3) := by decide +kernel
theorem dX11_isLate_43 : decode cX11_isLate 43 = .ok (.iconst 0, 1) := by decide +kernel
theorem dX11_isLate_44 : decode cX11_isLate 44 = .ok (.ireturn, 1) := by decide +kernel
theorem dX11_arrives_0 : decode cX11_arrives 0 = .ok (.iconst 0, 1) := by decide +kernel
theorem dX11_arrives_1 : decode cX11_arrives 1 = .ok (.istore_n 1, 1) := by decide +kernel
theorem dX11_arrives_2 : decode cX11_arrives 2 = .ok (.iload_n 1, 1) := by decide +kernel
theorem dX11_arrives_3 : decode cX11_arrives 3 = .ok (.aload_n 0, 1) := by decide +kernel
theorem dX11_arrives_4 : decode cX11_arrives 4 = .ok (.getfield 58, 3) := by decide +kernel
theorem dX11_arrives_7 : decode cX11_arrives 7 = .ok (.aload_n 0, 1) := by decide +kernel
theorem dX11_arrives_8 : decode cX11_arrives 8 = .ok (.getfield 251, 3) := by decide +kernel
theorem dX11_arrives_11 : decode cX11_arrives 11 = .ok (.iaload, 1) := by decide +kernel
theorem dX11_arrives_12 : decode cX11_arrives 12 = .ok (.if_icmp .ge 77, 3) := by decide +kernel
theorem dX11_arrives_15 : decode cX11_arrives 15 = .ok (.aload_n 0, 1) := by decide +kernel
theorem dX11_arrives_16 : decode cX11_arrives 16 = .ok (.getfield 137, 3) := by decide +kernel
theorem dX11_arrives_19 : decode cX11_arrives 19 = .ok (.iload_n 1, 1) := by decide +kernel
theorem dX11_arrives_20 : decode cX11_arrives 20 = .ok (.iaload, 1) := by decide +kernel
theorem dX11_arrives_21 : decode cX11_arrives 21 = .ok (.ifCond .ge 62, 3) := by decide +kernel
theorem dX11_arrives_24 : decode cX11_arrives 24 = .ok (.aload_n 0, 1) := by decide +kernel
theorem dX11_arrives_25 : decode cX11_arrives 25 = .ok (.getfield 137, 3) := by decide +kernel
theorem dX11_arrives_28 : decode cX11_arrives 28 = .ok (.bipush 12, 2) := by decide +kernel
theorem dX11_arrives_30 : decode cX11_arrives 30 = .ok (.iload_n 1, 1) := by decide +kernel
theorem dX11_arrives_31 : decode cX11_arrives 31 = .ok (.iadd, 1) := by decide +kernel
theorem dX11_arrives_32 : decode cX11_arrives 32 = .ok (.iaload, 1) := by decide +kernel
theorem dX11_arrives_33 : decode cX11_arrives 33 = .ok (.aload_n 0, 1) := by decide +kernel
theorem dX11_arrives_34 : decode cX11_arrives 34 = .ok (.getfield 137, 3) := by decide +kernel
theorem dX11_arrives_37 : decode cX11_arrives 37 = .ok (.bipush 30, 2) := by decide +kernel
theorem dX11_arrives_39 : decode cX11_arrives 39 = .ok (.iaload, 1) := by decide +kernel
theorem dX11_arrives_40 : decode cX11_arrives 40 = .ok (.if_icmp .le 6, 3) := by decide +kernel
theorem dX11_arrives_43 : decode cX11_arrives 43 = .ok (.goto 40, 3) := by decide +kernel
theorem dX11_arrives_46 : decode cX11_arrives 46 = .ok (.aload_n 0, 1) := by decide +kernel
theorem dX11_arrives_47 : decode cX11_arrives 47 = .ok (.getfield 137, 3) := by decide +kernel
theorem dX11_arrives_50 : decode cX11_arrives 50 = .ok (.iload_n 1, 1) := by decide +kernel
theorem dX11_arrives_51 : decode cX11_arrives 51 = .ok (.aload_n 0, 1) := by decide +kernel
theorem dX11_arrives_52 : decode cX11_arrives 52 = .ok (.getfield 137, 3) := by decide +kernel
theorem dX11_arrives_55 : decode cX11_arrives 55 = .ok (.bipush 6, 2) := by decide +kernel
theorem dX11_arrives_57 : decode cX11_arrives 57 = .ok (.iload_n 1, 1) := by decide +kernel
theorem dX11_arrives_58 : decode cX11_arrives 58 = .ok (.iadd, 1) := by decide +kernel
theorem dX11_arrives_59 : decode cX11_arrives 59 = .ok (.iaload, 1) := by decide +kernel
theorem dX11_arrives_60 : decode cX11_arrives 60 = .ok (.iastore, 1) := by decide +kernel
theorem dX11_arrives_61 : decode cX11_arrives 61 = .ok (.aload_n 0, 1) := by decide +kernel
theorem dX11_arrives_62 : decode cX11_arrives 62 = .ok (.getfield 137, 3) := by decide +kernel
theorem dX11_arrives_65 : decode cX11_arrives 65 = .ok (.bipush 6, 2) := by decide +kernel
theorem dX11_arrives_67 : decode cX11_arrives 67 = .ok (.iload_n 1, 1) := by decide +kernel
theorem dX11_arrives_68 : decode cX11_arrives 68 = .ok (.iadd, 1) := by decide +kernel
theorem dX11_arrives_69 : decode cX11_arrives 69 = .ok (.bipush (-2), 2) := by decide +kernel
theorem dX11_arrives_71 : decode cX11_arrives 71 = .ok (.iastore, 1) := by decide +kernel
theorem dX11_arrives_72 : decode cX11_arrives 72 = .ok (.aload_n 0, 1) := by decide +kernel
theorem dX11_arrives_73 : decode cX11_arrives 73 = .ok (.getfield 137, 3) := by decide +kernel
theorem dX11_arrives_76 : decode cX11_arrives 76 = .ok (.bipush 12, 2) := by decide +kernel
theorem dX11_arrives_78 : decode cX11_arrives 78 = .ok (.iload_n 1, 1) := by decide +kernel
theorem dX11_arrives_79 : decode cX11_arrives 79 = .ok (.iadd, 1) := by decide +kernel
theorem dX11_arrives_80 : decode cX11_arrives 80 = .ok (.bipush (-2), 2) := by decide +kernel
theorem dX11_arrives_82 : decode cX11_arrives 82 = .ok (.iastore, 1) := by decide +kernel
theorem dX11_arrives_83 : decode cX11_arrives 83 = .ok (.iinc 1 1, 3) := by decide +kernel
theorem dX11_arrives_86 : decode cX11_arrives 86 = .ok (.goto (-84), 3) := by decide +kernel
theorem dX11_arrives_89 : decode cX11_arrives 89 = .ok (.return_, 1) := by decide +kernel
theorem dX11_worksIn_0 : decode cX11_worksIn 0 = .ok (.iconst 0, 1) := by decide +kernel
theorem dX11_worksIn_1 : decode cX11_worksIn 1 = .ok (.istore_n 2, 1) := by decide +kernel
theorem dX11_worksIn_2 : decode cX11_worksIn 2 = .ok (.iconst 0, 1) := by decide +kernel
theorem dX11_worksIn_3 : decode cX11_worksIn 3 = .ok (.istore_n 3, 1) := by decide +kernel
theorem dX11_worksIn_4 : decode cX11_worksIn 4 = .ok (.iload_n 3, 1) := by decide +kernel
theorem dX11_worksIn_5 : decode cX11_worksIn 5 = .ok (.aload_n 0, 1) := by decide +kernel
theorem dX11_worksIn_6 : decode cX11_worksIn 6 = .ok (.getfield 58, 3) := by decide +kernel
theorem dX11_worksIn_9 : decode cX11_worksIn 9 = .ok (.aload_n 0, 1) := by decide +kernel
theorem dX11_worksIn_10 : decode cX11_worksIn 10 = .ok (.getfield 251, 3) := by decide +kernel
theorem dX11_worksIn_13 : decode cX11_worksIn 13 = .ok (.iaload, 1) := by decide +kernel
theorem dX11_worksIn_14 : decode cX11_worksIn 14 = .ok (.if_icmp .ge 25, 3) := by decide +kernel
theorem dX11_worksIn_17 : decode cX11_worksIn 17 = .ok (.aload_n 0, 1) := by decide +kernel
theorem dX11_worksIn_18 : decode cX11_worksIn 18 = .ok (.getfield 137, 3) := by decide +kernel
theorem dX11_worksIn_21 : decode cX11_worksIn 21 = .ok (.iload_n 3, 1) := by decide +kernel
theorem dX11_worksIn_22 : decode cX11_worksIn 22 = .ok (.iaload, 1) := by decide +kernel
theorem dX11_worksIn_23 : decode cX11_worksIn 23 = .ok (.iload_n 1, 1) := by decide +kernel
theorem dX11_worksIn_24 : decode cX11_worksIn 24 = .ok (.if_icmp .ne 9, 3) := by decide +kernel
theorem dX11_worksIn_27 : decode cX11_worksIn 27 = .ok (.iload_n 2, 1) := by decide +kernel
theorem dX11_worksIn_28 : decode cX11_worksIn 28 = .ok (.iconst 1, 1) := by decide +kernel
theorem dX11_worksIn_29 : decode cX11_worksIn 29 = .ok (.iload_n 3, 1) := by decide +kernel
theorem dX11_worksIn_30 : decode cX11_worksIn 30 = .ok (.ishl, 1) := by decide +kernel
theorem dX11_worksIn_31 : decode cX11_worksIn 31 = .ok (.ior, 1) := by decide +kernel
theorem dX11_worksIn_32 : decode cX11_worksIn 32 = .ok (.istore_n 2, 1) := by decide +kernel
theorem dX11_worksIn_33 : decode cX11_worksIn 33 = .ok (.iinc 3 1, 3) := by decide +kernel
theorem dX11_worksIn_36 : decode cX11_worksIn 36 = .ok (.goto (-32), 3) := by decide +kernel
theorem dX11_worksIn_39 : decode cX11_worksIn 39 = .ok (.iload_n 2, 1) := by decide +kernel
theorem dX11_worksIn_40 : decode cX11_worksIn 40 = .ok (.ireturn, 1) := by decide +kernel
theorem dX11_house_0 : decode cX11_house 0 = .ok (.aload_n 0, 1) := by decide +kernel
theorem dX11_house_1 : decode cX11_house 1 = .ok (.iload_n 1, 1) := by decide +kernel
theorem dX11_house_2 : decode cX11_house 2 = .ok (.invokevirtual 385, 3) := by decide +kernel
theorem dX11_house_5 : decode cX11_house 5 = .ok (.ifCond .ne 5, 3) := by decide +kernel
theorem dX11_house_8 : decode cX11_house 8 = .ok (.iconst (-1), 1) := by decide +kernel
theorem dX11_house_9 : decode cX11_house 9 = .ok (.ireturn, 1) := by decide +kernel
theorem dX11_house_10 : decode cX11_house 10 = .ok (.aload_n 0, 1) := by decide +kernel
theorem dX11_house_11 : decode cX11_house 11 = .ok (.invokevirtual 388, 3) := by decide +kernel
theorem dX11_house_14 : decode cX11_house 14 = .ok (.iload_n 2, 1) := by decide +kernel
theorem dX11_house_15 : decode cX11_house 15 = .ok (.tableswitch 161 0 4 #[33, 47, 61, 67, 111], 33) := by decide +kernel
theorem dX11_house_48 : decode cX11_house 48 = .ok (.aload_n 0, 1) := by decide +kernel
theorem dX11_house_49 : decode cX11_house 49 = .ok (.getfield 52, 3) := by decide +kernel
theorem dX11_house_52 : decode cX11_house 52 = .ok (.iconst 5, 1) := by decide +kernel
theorem dX11_house_53 : decode cX11_house 53 = .ok (.aload_n 0, 1) := by decide +kernel
theorem dX11_house_54 : decode cX11_house 54 = .ok (.getfield 251, 3) := by decide +kernel
theorem dX11_house_57 : decode cX11_house 57 = .ok (.imul, 1) := by decide +kernel
theorem dX11_house_58 : decode cX11_house 58 = .ok (.iload_n 1, 1) := by decide +kernel
theorem dX11_house_59 : decode cX11_house 59 = .ok (.iadd, 1) := by decide +kernel
theorem dX11_house_60 : decode cX11_house 60 = .ok (.iaload, 1) := by decide +kernel
theorem dX11_house_61 : decode cX11_house 61 = .ok (.ireturn, 1) := by decide +kernel
theorem dX11_house_62 : decode cX11_house 62 = .ok (.aload_n 0, 1) := by decide +kernel
theorem dX11_house_63 : decode cX11_house 63 = .ok (.getfield 55, 3) := by decide +kernel
theorem dX11_house_66 : decode cX11_house 66 = .ok (.iconst 5, 1) := by decide +kernel
theorem dX11_house_67 : decode cX11_house 67 = .ok (.aload_n 0, 1) := by decide +kernel
theorem dX11_house_68 : decode cX11_house 68 = .ok (.getfield 251, 3) := by decide +kernel
theorem dX11_house_71 : decode cX11_house 71 = .ok (.imul, 1) := by decide +kernel
theorem dX11_house_72 : decode cX11_house 72 = .ok (.iload_n 1, 1) := by decide +kernel
theorem dX11_house_73 : decode cX11_house 73 = .ok (.iadd, 1) := by decide +kernel
theorem dX11_house_74 : decode cX11_house 74 = .ok (.iaload, 1) := by decide +kernel
theorem dX11_house_75 : decode cX11_house 75 = .ok (.ireturn, 1) := by decide +kernel
theorem dX11_house_76 : decode cX11_house 76 = .ok (.aload_n 0, 1) := by decide +kernel
theorem dX11_house_77 : decode cX11_house 77 = .ok (.iload_n 1, 1) := by decide +kernel
theorem dX11_house_78 : decode cX11_house 78 = .ok (.invokevirtual 391, 3) := by decide +kernel
theorem dX11_house_81 : decode cX11_house 81 = .ok (.ireturn, 1) := by decide +kernel
theorem dX11_house_82 : decode cX11_house 82 = .ok (.iconst 0, 1) := by decide +kernel
theorem dX11_house_83 : decode cX11_house 83 = .ok (.istore_n 3, 1) := by decide +kernel
theorem dX11_house_84 : decode cX11_house 84 = .ok (.iconst 0, 1) := by decide +kernel
theorem dX11_house_85 : decode cX11_house 85 = .ok (.istore 4, 2) := by decide +kernel
theorem dX11_house_87 : decode cX11_house 87 = .ok (.iload 4, 2) := by decide +kernel
theorem dX11_house_89 : decode cX11_house 89 = .ok (.aload_n 0, 1) := by decide +kernel
theorem dX11_house_90 : decode cX11_house 90 = .ok (.getfield 58, 3) := by decide +kernel
theorem dX11_house_93 : decode cX11_house 93 = .ok (.aload_n 0, 1) := by decide +kernel
theorem dX11_house_94 : decode cX11_house 94 = .ok (.getfield 251, 3) := by decide +kernel
theorem dX11_house_97 : decode cX11_house 97 = .ok (.iaload, 1) := by decide +kernel
theorem dX11_house_98 : decode cX11_house 98 = .ok (.if_icmp .ge 26, 3) := by decide +kernel
theorem dX11_house_101 : decode cX11_house 101 = .ok (.aload_n 0, 1) := by decide +kernel
theorem dX11_house_102 : decode cX11_house 102 = .ok (.iload 4, 2) := by decide +kernel
theorem dX11_house_104 : decode cX11_house 104 = .ok (.invokevirtual 343, 3) := by decide +kernel
theorem dX11_house_107 : decode cX11_house 107 = .ok (.iload_n 1, 1) := by decide +kernel
theorem dX11_house_108 : decode cX11_house 108 = .ok (.if_icmp .ne 10, 3) := by decide +kernel
theorem dX11_house_111 : decode cX11_house 111 = .ok (.iload_n 3, 1) := by decide +kernel
theorem dX11_house_112 : decode cX11_house 112 = .ok (.iconst 1, 1) := by decide +kernel
theorem dX11_house_113 : decode cX11_house 113 = .ok (.iload 4, 2) := by decide +kernel
theorem dX11_house_115 : decode cX11_house 115 = .ok (.ishl, 1) := by decide +kernel
theorem dX11_house_116 : decode cX11_house 116 = .ok (.ior, 1) := by decide +kernel
theorem dX11_house_117 : decode cX11_house 117 = .ok (.istore_n 3, 1) := by decide +kernel
theorem dX11_house_118 : decode cX11_house 118 = .ok (.iinc 4 1, 3) := by decide +kernel
theorem dX11_house_121 : decode cX11_house 121 = .ok (.goto (-34), 3) := by decide +kernel
theorem dX11_house_124 : decode cX11_house 124 = .ok (.iload_n 3, 1) := by decide +kernel
theorem dX11_house_125 : decode cX11_house 125 = .ok (.ireturn, 1) := by decide +kernel
theorem dX11_house_126 : decode cX11_house 126 = .ok (.iconst 0, 1) := by decide +kernel
theorem dX11_house_127 : decode cX11_house 127 = .ok (.istore_n 3, 1) := by decide +kernel
theorem dX11_house_128 : decode cX11_house 128 = .ok (.iconst 0, 1) := by decide +kernel
theorem dX11_house_129 : decode cX11_house 129 = .ok (.istore 4, 2) := by decide +kernel
theorem dX11_house_131 : decode cX11_house 131 = .ok (.iload 4, 2) := by decide +kernel
theorem dX11_house_133 : decode cX11_house 133 = .ok (.aload_n 0, 1) := by decide +kernel
theorem dX11_house_134 : decode cX11_house 134 = .ok (.getfield 58, 3) := by decide +kernel
theorem dX11_house_137 : decode cX11_house 137 = .ok (.aload_n 0, 1) := by decide +kernel
theorem dX11_house_138 : decode cX11_house 138 = .ok (.getfield 251, 3) := by decide +kernel
theorem dX11_house_141 : decode cX11_house 141 = .ok (.iaload, 1) := by decide +kernel
theorem dX11_house_142 : decode cX11_house 142 = .ok (.if_icmp .ge 32, 3) := by decide +kernel
theorem dX11_house_145 : decode cX11_house 145 = .ok (.aload_n 0, 1) := by decide +kernel
theorem dX11_house_146 : decode cX11_house 146 = .ok (.getfield 137, 3) := by decide +kernel
theorem dX11_house_149 : decode cX11_house 149 = .ok (.iload 4, 2) := by decide +kernel
theorem dX11_house_151 : decode cX11_house 151 = .ok (.iaload, 1) := by decide +kernel
theorem dX11_house_152 : decode cX11_house 152 = .ok (.iload_n 1, 1) := by decide +kernel
theorem dX11_house_153 : decode cX11_house 153 = .ok (.if_icmp .ne 15, 3) := by decide +kernel
theorem dX11_house_156 : decode cX11_house 156 = .ok (.iload_n 3, 1) := by decide +kernel
theorem dX11_house_157 : decode cX11_house 157 = .ok (.aload_n 0, 1) := by decide +kernel
theorem dX11_house_158 : decode cX11_house 158 = .ok (.iload_n 1, 1) := by decide +kernel
theorem dX11_house_159 : decode cX11_house 159 = .ok (.iload 4, 2) := by decide +kernel
theorem dX11_house_161 : decode cX11_house 161 = .ok (.iconst 0, 1) := by decide +kernel
theorem dX11_house_162 : decode cX11_house 162 = .ok (.iconst (-1), 1) := by decide +kernel
theorem dX11_house_163 : decode cX11_house 163 = .ok (.invokevirtual 394, 3) := by decide +kernel
theorem dX11_house_166 : decode cX11_house 166 = .ok (.iadd, 1) := by decide +kernel
theorem dX11_house_167 : decode cX11_house 167 = .ok (.istore_n 3, 1) := by decide +kernel
theorem dX11_house_168 : decode cX11_house 168 = .ok (.iinc 4 1, 3) := by decide +kernel
theorem dX11_house_171 : decode cX11_house 171 = .ok (.goto (-40), 3) := by decide +kernel
theorem dX11_house_174 : decode cX11_house 174 = .ok (.iload_n 3, 1) := by decide +kernel
theorem dX11_house_175 : decode cX11_house 175 = .ok (.ireturn, 1) := by decide +kernel
theorem dX11_house_176 : decode cX11_house 176 = .ok (.iconst (-1), 1) := by decide +kernel
theorem dX11_house_177 : decode cX11_house 177 = .ok (.ireturn, 1) := by decide +kernel
