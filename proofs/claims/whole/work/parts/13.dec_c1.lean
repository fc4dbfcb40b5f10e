theorem dX10_restore_0 : decode cX10_restore 0 = .ok (.iload_n 1, 1) := by decide +kernel
theorem dX10_restore_1 : decode cX10_restore 1 = .ok (.ifCond .lt 19, 3) := by decide +kernel
theorem dX10_restore_4 : decode cX10_restore 4 = .ok (.iload_n 1, 1) := by decide +kernel
theorem dX10_restore_5 : decode cX10_restore 5 = .ok (.iconst 3, 1) := by decide +kernel
theorem dX10_restore_6 : decode cX10_restore 6 = .ok (.if_icmp .ge 14, 3) := by decide +kernel
theorem dX10_restore_9 : decode cX10_restore 9 = .ok (.aload_n 0, 1) := by decide +kernel
theorem dX10_restore_10 : decode cX10_restore 10 = .ok (.getfield 313, 3) := by decide +kernel
theorem dX10_restore_13 : decode cX10_restore 13 = .ok (.iload_n 1, 1) := by decide +kernel
theorem dX10_restore_14 : decode cX10_restore 14 = .ok (.ishr, 1) := by decide +kernel
theorem dX10_restore_15 : decode cX10_restore 15 = .ok (.iconst 1, 1) := by decide +kernel
theorem dX10_restore_16 : decode cX10_restore 16 = .ok (.iand, 1) := by decide +kernel
theorem dX10_restore_17 : decode cX10_restore 17 = .ok (.ifCond .ne 5, 3) := by decide +kernel
theorem dX10_restore_20 : decode cX10_restore 20 = .ok (.iconst 0, 1) := by decide +kernel
theorem dX10_restore_21 : decode cX10_restore 21 = .ok (.ireturn, 1) := by decide +kernel
theorem dX10_restore_22 : decode cX10_restore 22 = .ok (.aload_n 0, 1) := by decide +kernel
theorem dX10_restore_23 : decode cX10_restore 23 = .ok (.getfield 43, 3) := by decide +kernel
theorem dX10_restore_26 : decode cX10_restore 26 = .ok (.iload_n 1, 1) := by decide +kernel
theorem dX10_restore_27 : decode cX10_restore 27 = .ok (.bipush 47, 2) := by decide +kernel
theorem dX10_restore_29 : decode cX10_restore 29 = .ok (.imul, 1) := by decide +kernel
theorem dX10_restore_30 : decode cX10_restore 30 = .ok (.aload_n 0, 1) := by decide +kernel
theorem dX10_restore_31 : decode cX10_restore 31 = .ok (.getfield 32, 3) := by decide +kernel
theorem dX10_restore_34 : decode cX10_restore 34 = .ok (.getfield 142, 3) := by decide +kernel
theorem dX10_restore_37 : decode cX10_restore 37 = .ok (.iconst 0, 1) := by decide +kernel
theorem dX10_restore_38 : decode cX10_restore 38 = .ok (.bipush 47, 2) := by decide +kernel
theorem dX10_restore_40 : decode cX10_restore 40 = .ok (.invokestatic 307, 3) := by decide +kernel
theorem dX10_restore_43 : decode cX10_restore 43 = .ok (.aload_n 0, 1) := by decide +kernel
theorem dX10_restore_44 : decode cX10_restore 44 = .ok (.getfield 39, 3) := by decide +kernel
theorem dX10_restore_47 : decode cX10_restore 47 = .ok (.invokevirtual 316, 3) := by decide +kernel
theorem dX10_restore_50 : decode cX10_restore 50 = .ok (.aload_n 0, 1) := by decide +kernel
theorem dX10_restore_51 : decode cX10_restore 51 = .ok (.iconst 0, 1) := by decide +kernel
theorem dX10_restore_52 : decode cX10_restore 52 = .ok (.putfield 199, 3) := by decide +kernel
theorem dX10_restore_55 : decode cX10_restore 55 = .ok (.iconst 1, 1) := by decide +kernel
theorem dX10_restore_56 : decode cX10_restore 56 = .ok (.ireturn, 1) := by decide +kernel
theorem dX10_worksUnderWay_0 : decode cX10_worksUnderWay 0 = .ok (.iconst 0, 1) := by decide +kernel
theorem dX10_worksUnderWay_1 : decode cX10_worksUnderWay 1 = .ok (.istore_n 1, 1) := by decide +kernel
theorem dX10_worksUnderWay_2 : decode cX10_worksUnderWay 2 = .ok (.iconst 0, 1) := by decide +kernel
theorem dX10_worksUnderWay_3 : decode cX10_worksUnderWay 3 = .ok (.istore_n 2, 1) := by decide +kernel
theorem dX10_worksUnderWay_4 : decode cX10_worksUnderWay 4 = .ok (.iload_n 2, 1) := by decide +kernel
theorem dX10_worksUnderWay_5 : decode cX10_worksUnderWay 5 = .ok (.aload_n 0, 1) := by decide +kernel
theorem dX10_worksUnderWay_6 : decode cX10_worksUnderWay 6 = .ok (.getfield 60, 3) := by decide +kernel
theorem dX10_worksUnderWay_9 : decode cX10_worksUnderWay 9 = .ok (.getfield 236, 3) := by decide +kernel
theorem dX10_worksUnderWay_12 : decode cX10_worksUnderWay 12 = .ok (.if_icmp .ge 26, 3) := by decide +kernel
theorem dX10_worksUnderWay_15 : decode cX10_worksUnderWay 15 = .ok (.aload_n 0, 1) := by decide +kernel
theorem dX10_worksUnderWay_16 : decode cX10_worksUnderWay 16 = .ok (.getfield 32, 3) := by decide +kernel
theorem dX10_worksUnderWay_19 : decode cX10_worksUnderWay 19 = .ok (.iload_n 2, 1) := by decide +kernel
theorem dX10_worksUnderWay_20 : decode cX10_worksUnderWay 20 = .ok (.invokevirtual 124, 3) := by decide +kernel
theorem dX10_worksUnderWay_23 : decode cX10_worksUnderWay 23 = .ok (.ifCond .eq 9, 3) := by decide +kernel
theorem dX10_worksUnderWay_26 : decode cX10_worksUnderWay 26 = .ok (.iload_n 1, 1) := by decide +kernel
theorem dX10_worksUnderWay_27 : decode cX10_worksUnderWay 27 = .ok (.iconst 1, 1) := by decide +kernel
theorem dX10_worksUnderWay_28 : decode cX10_worksUnderWay 28 = .ok (.iload_n 2, 1) := by decide +kernel
theorem dX10_worksUnderWay_29 : decode cX10_worksUnderWay 29 = .ok (.ishl, 1) := by decide +kernel
theorem dX10_worksUnderWay_30 : decode cX10_worksUnderWay 30 = .ok (.ior, 1) := by decide +kernel
theorem dX10_worksUnderWay_31 : decode cX10_worksUnderWay 31 = .ok (.istore_n 1, 1) := by decide +kernel
theorem dX10_worksUnderWay_32 : decode cX10_worksUnderWay 32 = .ok (.iinc 2 1, 3) := by decide +kernel
theorem dX10_worksUnderWay_35 : decode cX10_worksUnderWay 35 = .ok (.goto (-31), 3) := by decide +kernel
theorem dX10_worksUnderWay_38 : decode cX10_worksUnderWay 38 = .ok (.iload_n 1, 1) := by decide +kernel
theorem dX10_worksUnderWay_39 : decode cX10_worksUnderWay 39 = .ok (.ireturn, 1) := by decide +kernel
theorem dX10_worksAtOwners_0 : decode cX10_worksAtOwners 0 = .ok (.iconst 0, 1) := by decide +kernel
theorem dX10_worksAtOwners_1 : decode cX10_worksAtOwners 1 = .ok (.istore_n 1, 1) := by decide +kernel
theorem dX10_worksAtOwners_2 : decode cX10_worksAtOwners 2 = .ok (.iconst 0, 1) := by decide +kernel
theorem dX10_worksAtOwners_3 : decode cX10_worksAtOwners 3 = .ok (.istore_n 2, 1) := by decide +kernel
theorem dX10_worksAtOwners_4 : decode cX10_worksAtOwners 4 = .ok (.iload_n 2, 1) := by decide +kernel
theorem dX10_worksAtOwners_5 : decode cX10_worksAtOwners 5 = .ok (.aload_n 0, 1) := by decide +kernel
theorem dX10_worksAtOwners_6 : decode cX10_worksAtOwners 6 = .ok (.getfield 60, 3) := by decide +kernel
theorem dX10_worksAtOwners_9 : decode cX10_worksAtOwners 9 = .ok (.getfield 236, 3) := by decide +kernel
theorem dX10_worksAtOwners_12 : decode cX10_worksAtOwners 12 = .ok (.if_icmp .ge 35, 3) := by decide +kernel
theorem dX10_worksAtOwners_15 : decode cX10_worksAtOwners 15 = .ok (.aload_n 0, 1) := by decide +kernel
theorem dX10_worksAtOwners_16 : decode cX10_worksAtOwners 16 = .ok (.getfield 32, 3) := by decide +kernel
theorem dX10_worksAtOwners_19 : decode cX10_worksAtOwners 19 = .ok (.iload_n 2, 1) := by decide +kernel
theorem dX10_worksAtOwners_20 : decode cX10_worksAtOwners 20 = .ok (.aload_n 0, 1) := by decide +kernel
theorem dX10_worksAtOwners_21 : decode cX10_worksAtOwners 21 = .ok (.getfield 60, 3) := by decide +kernel
theorem dX10_worksAtOwners_24 : decode cX10_worksAtOwners 24 = .ok (.getfield 127, 3) := by decide +kernel
theorem dX10_worksAtOwners_27 : decode cX10_worksAtOwners 27 = .ok (.iload_n 2, 1) := by decide +kernel
theorem dX10_worksAtOwners_28 : decode cX10_worksAtOwners 28 = .ok (.iaload, 1) := by decide +kernel
theorem dX10_worksAtOwners_29 : decode cX10_worksAtOwners 29 = .ok (.invokevirtual 352, 3) := by decide +kernel
theorem dX10_worksAtOwners_32 : decode cX10_worksAtOwners 32 = .ok (.ifCond .eq 9, 3) := by decide +kernel
theorem dX10_worksAtOwners_35 : decode cX10_worksAtOwners 35 = .ok (.iload_n 1, 1) := by decide +kernel
theorem dX10_worksAtOwners_36 : decode cX10_worksAtOwners 36 = .ok (.iconst 1, 1) := by decide +kernel
theorem dX10_worksAtOwners_37 : decode cX10_worksAtOwners 37 = .ok (.iload_n 2, 1) := by decide +kernel
theorem dX10_worksAtOwners_38 : decode cX10_worksAtOwners 38 = .ok (.ishl, 1) := by decide +kernel
theorem dX10_worksAtOwners_39 : decode cX10_worksAtOwners 39 = .ok (.ior, 1) := by decide +kernel
theorem dX10_worksAtOwners_40 : decode cX10_worksAtOwners 40 = .ok (.istore_n 1, 1) := by decide +kernel
theorem dX10_worksAtOwners_41 : decode cX10_worksAtOwners 41 = .ok (.iinc 2 1, 3) := by decide +kernel
theorem dX10_worksAtOwners_44 : decode cX10_worksAtOwners 44 = .ok (.goto (-40), 3) := by decide +kernel
theorem dX10_worksAtOwners_47 : decode cX10_worksAtOwners 47 = .ok (.iload_n 1, 1) := by decide +kernel
theorem dX10_worksAtOwners_48 : decode cX10_worksAtOwners 48 = .ok (.ireturn, 1) := by decide +kernel
theorem dX10_count_0 : decode cX10_count 0 = .ok (.iload_n 1, 1) := by decide +kernel
theorem dX10_count_1 : decode cX10_count 1 = .ok (.tableswitch 161 0 12 #[67, 75, 83, 91, 99, 107, 112, 117, 122, 127, 135, 143, 151], 67) := by decide +kernel
theorem dX10_count_68 : decode cX10_count 68 = .ok (.aload_n 0, 1) := by decide +kernel
theorem dX10_count_69 : decode cX10_count 69 = .ok (.getfield 60, 3) := by decide +kernel
theorem dX10_count_72 : decode cX10_count 72 = .ok (.getfield 272, 3) := by decide +kernel
theorem dX10_count_75 : decode cX10_count 75 = .ok (.ireturn, 1) := by decide +kernel
theorem dX10_count_76 : decode cX10_count 76 = .ok (.aload_n 0, 1) := by decide +kernel
theorem dX10_count_77 : decode cX10_count 77 = .ok (.getfield 60, 3) := by decide +kernel
theorem dX10_count_80 : decode cX10_count 80 = .ok (.getfield 236, 3) := by decide +kernel
theorem dX10_count_83 : decode cX10_count 83 = .ok (.ireturn, 1) := by decide +kernel
theorem dX10_count_84 : decode cX10_count 84 = .ok (.aload_n 0, 1) := by decide +kernel
theorem dX10_count_85 : decode cX10_count 85 = .ok (.getfield 60, 3) := by decide +kernel
theorem dX10_count_88 : decode cX10_count 88 = .ok (.getfield 317, 3) := by decide +kernel
theorem dX10_count_91 : decode cX10_count 91 = .ok (.ireturn, 1) := by decide +kernel
theorem dX10_count_92 : decode cX10_count 92 = .ok (.aload_n 0, 1) := by decide +kernel
theorem dX10_count_93 : decode cX10_count 93 = .ok (.getfield 32, 3) := by decide +kernel
theorem dX10_count_96 : decode cX10_count 96 = .ok (.invokevirtual 189, 3) := by decide +kernel
theorem dX10_count_99 : decode cX10_count 99 = .ok (.ireturn, 1) := by decide +kernel
theorem dX10_count_100 : decode cX10_count 100 = .ok (.aload_n 0, 1) := by decide +kernel
theorem dX10_count_101 : decode cX10_count 101 = .ok (.getfield 32, 3) := by decide +kernel
theorem dX10_count_104 : decode cX10_count 104 = .ok (.invokevirtual 320, 3) := by decide +kernel
theorem dX10_count_107 : decode cX10_count 107 = .ok (.ireturn, 1) := by decide +kernel
theorem dX10_count_108 : decode cX10_count 108 = .ok (.aload_n 0, 1) := by decide +kernel
theorem dX10_count_109 : decode cX10_count 109 = .ok (.invokevirtual 323, 3) := by decide +kernel
theorem dX10_count_112 : decode cX10_count 112 = .ok (.ireturn, 1) := by decide +kernel
theorem dX10_count_113 : decode cX10_count 113 = .ok (.aload_n 0, 1) := by decide +kernel
theorem dX10_count_114 : decode cX10_count 114 = .ok (.invokevirtual 326, 3) := by decide +kernel
theorem dX10_count_117 : decode cX10_count 117 = .ok (.ireturn, 1) := by decide +kernel
theorem dX10_count_118 : decode cX10_count 118 = .ok (.aload_n 0, 1) := by decide +kernel
theorem dX10_count_119 : decode cX10_count 119 = .ok (.invokevirtual 148, 3) := by decide +kernel
theorem dX10_count_122 : decode cX10_count 122 = .ok (.ireturn, 1) := by decide +kernel
theorem dX10_count_123 : decode cX10_count 123 = .ok (.aload_n 0, 1) := by decide +kernel
theorem dX10_count_124 : decode cX10_count 124 = .ok (.getfield 80, 3) := by decide +kernel
theorem dX10_count_127 : decode cX10_count 127 = .ok (.ireturn, 1) := by decide +kernel
theorem dX10_count_128 : decode cX10_count 128 = .ok (.aload_n 0, 1) := by decide +kernel
theorem dX10_count_129 : decode cX10_count 129 = .ok (.getfield 39, 3) := by decide +kernel
theorem dX10_count_132 : decode cX10_count 132 = .ok (.invokevirtual 192, 3) := by decide +kernel
theorem dX10_count_135 : decode cX10_count 135 = .ok (.ireturn, 1) := by decide +kernel
theorem dX10_count_136 : decode cX10_count 136 = .ok (.aload_n 0, 1) := by decide +kernel
theorem dX10_count_137 : decode cX10_count 137 = .ok (.getfield 50, 3) := by decide +kernel
theorem dX10_count_140 : decode cX10_count 140 = .ok (.invokevirtual 284, 3) := by decide +kernel
theorem dX10_count_143 : decode cX10_count 143 = .ok (.ireturn, 1) := by decide +kernel
theorem dX10_count_144 : decode cX10_count 144 = .ok (.aload_n 0, 1) := by decide +kernel
theorem dX10_count_145 : decode cX10_count 145 = .ok (.getfield 313, 3) := by decide +kernel
theorem dX10_count_148 : decode cX10_count 148 = .ok (.invokestatic 231, 3) := by decide +kernel
theorem dX10_count_151 : decode cX10_count 151 = .ok (.ireturn, 1) := by decide +kernel
theorem dX10_count_152 : decode cX10_count 152 = .ok (.aload_n 0, 1) := by decide +kernel
theorem dX10_count_153 : decode cX10_count 153 = .ok (.getfield 32, 3) := by decide +kernel
theorem dX10_count_156 : decode cX10_count 156 = .ok (.getfield 142, 3) := by decide +kernel
theorem dX10_count_159 : decode cX10_count 159 = .ok (.iconst 2, 1) := by decide +kernel
theorem dX10_count_160 : decode cX10_count 160 = .ok (.iaload, 1) := by decide +kernel
theorem dX10_count_161 : decode cX10_count 161 = .ok (.ireturn, 1) := by decide +kernel
theorem dX10_count_162 : decode cX10_count 162 = .ok (.iconst (-1), 1) := by decide +kernel
theorem dX10_count_163 : decode cX10_count 163 = .ok (.ireturn, 1) := by decide +kernel
