theorem dX11_isResting_0 : decode cX11_isResting 0 = .ok (.iconst 0, 1) := by decide +kernel
theorem dX11_isResting_1 : decode cX11_isResting 1 = .ok (.istore_n 2, 1) := by decide +kernel
theorem dX11_isResting_2 : decode cX11_isResting 2 = .ok (.iload_n 2, 1) := by decide +kernel
theorem dX11_isResting_3 : decode cX11_isResting 3 = .ok (.aload_n 0, 1) := by decide +kernel
theorem dX11_isResting_4 : decode cX11_isResting 4 = .ok (.getfield 49, 3) := by decide +kernel
theorem dX11_isResting_7 : decode cX11_isResting 7 = .ok (.aload_n 0, 1) := by decide +kernel
theorem dX11_isResting_8 : decode cX11_isResting 8 = .ok (.getfield 251, 3) := by decide +kernel
theorem dX11_isResting_11 : decode cX11_isResting 11 = .ok (.iaload, 1) := by decide +kernel
theorem dX11_isResting_12 : decode cX11_isResting 12 = .ok (.if_icmp .ge 38, 3) := by decide +kernel
theorem dX11_isResting_15 : decode cX11_isResting 15 = .ok (.aload_n 0, 1) := by decide +kernel
theorem dX11_isResting_16 : decode cX11_isResting 16 = .ok (.getfield 149, 3) := by decide +kernel
theorem dX11_isResting_19 : decode cX11_isResting 19 = .ok (.iconst 5, 1) := by decide +kernel
theorem dX11_isResting_20 : decode cX11_isResting 20 = .ok (.iload_n 1, 1) := by decide +kernel
theorem dX11_isResting_21 : decode cX11_isResting 21 = .ok (.iconst 1, 1) := by decide +kernel
theorem dX11_isResting_22 : decode cX11_isResting 22 = .ok (.iload_n 2, 1) := by decide +kernel
theorem dX11_isResting_23 : decode cX11_isResting 23 = .ok (.ishl, 1) := by decide +kernel
theorem dX11_isResting_24 : decode cX11_isResting 24 = .ok (.ixor, 1) := by decide +kernel
theorem dX11_isResting_25 : decode cX11_isResting 25 = .ok (.imul, 1) := by decide +kernel
theorem dX11_isResting_26 : decode cX11_isResting 26 = .ok (.iload_n 2, 1) := by decide +kernel
theorem dX11_isResting_27 : decode cX11_isResting 27 = .ok (.iadd, 1) := by decide +kernel
theorem dX11_isResting_28 : decode cX11_isResting 28 = .ok (.iaload, 1) := by decide +kernel
theorem dX11_isResting_29 : decode cX11_isResting 29 = .ok (.aload_n 0, 1) := by decide +kernel
theorem dX11_isResting_30 : decode cX11_isResting 30 = .ok (.getfield 149, 3) := by decide +kernel
theorem dX11_isResting_33 : decode cX11_isResting 33 = .ok (.iconst 5, 1) := by decide +kernel
theorem dX11_isResting_34 : decode cX11_isResting 34 = .ok (.iload_n 1, 1) := by decide +kernel
theorem dX11_isResting_35 : decode cX11_isResting 35 = .ok (.imul, 1) := by decide +kernel
theorem dX11_isResting_36 : decode cX11_isResting 36 = .ok (.iload_n 2, 1) := by decide +kernel
theorem dX11_isResting_37 : decode cX11_isResting 37 = .ok (.iadd, 1) := by decide +kernel
theorem dX11_isResting_38 : decode cX11_isResting 38 = .ok (.iaload, 1) := by decide +kernel
theorem dX11_isResting_39 : decode cX11_isResting 39 = .ok (.if_icmp .le 5, 3) := by decide +kernel
theorem dX11_isResting_42 : decode cX11_isResting 42 = .ok (.iconst 0, 1) := by decide +kernel
theorem dX11_isResting_43 : decode cX11_isResting 43 = .ok (.ireturn, 1) := by decide +kernel
theorem dX11_isResting_44 : decode cX11_isResting 44 = .ok (.iinc 2 1, 3) := by decide +kernel
theorem dX11_isResting_47 : decode cX11_isResting 47 = .ok (.goto (-45), 3) := by decide +kernel
theorem dX11_isResting_50 : decode cX11_isResting 50 = .ok (.iconst 1, 1) := by decide +kernel
theorem dX11_isResting_51 : decode cX11_isResting 51 = .ok (.ireturn, 1) := by decide +kernel
theorem dX11_backs_0 : decode cX11_backs 0 = .ok (.iload_n 1, 1) := by decide +kernel
theorem dX11_backs_1 : decode cX11_backs 1 = .ok (.iconst (-1), 1) := by decide +kernel
theorem dX11_backs_2 : decode cX11_backs 2 = .ok (.if_icmp .ge 5, 3) := by decide +kernel
theorem dX11_backs_5 : decode cX11_backs 5 = .ok (.iconst (-1), 1) := by decide +kernel
theorem dX11_backs_6 : decode cX11_backs 6 = .ok (.ireturn, 1) := by decide +kernel
theorem dX11_backs_7 : decode cX11_backs 7 = .ok (.iconst 0, 1) := by decide +kernel
theorem dX11_backs_8 : decode cX11_backs 8 = .ok (.istore_n 2, 1) := by decide +kernel
theorem dX11_backs_9 : decode cX11_backs 9 = .ok (.iload_n 2, 1) := by decide +kernel
theorem dX11_backs_10 : decode cX11_backs 10 = .ok (.iconst 1, 1) := by decide +kernel
theorem dX11_backs_11 : decode cX11_backs 11 = .ok (.aload_n 0, 1) := by decide +kernel
theorem dX11_backs_12 : decode cX11_backs 12 = .ok (.getfield 49, 3) := by decide +kernel
theorem dX11_backs_15 : decode cX11_backs 15 = .ok (.aload_n 0, 1) := by decide +kernel
theorem dX11_backs_16 : decode cX11_backs 16 = .ok (.getfield 251, 3) := by decide +kernel
theorem dX11_backs_19 : decode cX11_backs 19 = .ok (.iaload, 1) := by decide +kernel
theorem dX11_backs_20 : decode cX11_backs 20 = .ok (.ishl, 1) := by decide +kernel
theorem dX11_backs_21 : decode cX11_backs 21 = .ok (.if_icmp .ge 14, 3) := by decide +kernel
theorem dX11_backs_24 : decode cX11_backs 24 = .ok (.aload_n 0, 1) := by decide +kernel
theorem dX11_backs_25 : decode cX11_backs 25 = .ok (.iload_n 2, 1) := by decide +kernel
theorem dX11_backs_26 : decode cX11_backs 26 = .ok (.invokevirtual 456, 3) := by decide +kernel
theorem dX11_backs_29 : decode cX11_backs 29 = .ok (.iinc 2 1, 3) := by decide +kernel
theorem dX11_backs_32 : decode cX11_backs 32 = .ok (.goto (-23), 3) := by decide +kernel
theorem dX11_backs_35 : decode cX11_backs 35 = .ok (.iconst 0, 1) := by decide +kernel
theorem dX11_backs_36 : decode cX11_backs 36 = .ok (.istore_n 2, 1) := by decide +kernel
theorem dX11_backs_37 : decode cX11_backs 37 = .ok (.iconst 0, 1) := by decide +kernel
theorem dX11_backs_38 : decode cX11_backs 38 = .ok (.istore_n 3, 1) := by decide +kernel
theorem dX11_backs_39 : decode cX11_backs 39 = .ok (.iload_n 3, 1) := by decide +kernel
theorem dX11_backs_40 : decode cX11_backs 40 = .ok (.iconst 1, 1) := by decide +kernel
theorem dX11_backs_41 : decode cX11_backs 41 = .ok (.aload_n 0, 1) := by decide +kernel
theorem dX11_backs_42 : decode cX11_backs 42 = .ok (.getfield 49, 3) := by decide +kernel
theorem dX11_backs_45 : decode cX11_backs 45 = .ok (.aload_n 0, 1) := by decide +kernel
theorem dX11_backs_46 : decode cX11_backs 46 = .ok (.getfield 251, 3) := by decide +kernel
theorem dX11_backs_49 : decode cX11_backs 49 = .ok (.iaload, 1) := by decide +kernel
theorem dX11_backs_50 : decode cX11_backs 50 = .ok (.ishl, 1) := by decide +kernel
theorem dX11_backs_51 : decode cX11_backs 51 = .ok (.if_icmp .ge 30, 3) := by decide +kernel
theorem dX11_backs_54 : decode cX11_backs 54 = .ok (.aload_n 0, 1) := by decide +kernel
theorem dX11_backs_55 : decode cX11_backs 55 = .ok (.iload_n 3, 1) := by decide +kernel
theorem dX11_backs_56 : decode cX11_backs 56 = .ok (.invokevirtual 459, 3) := by decide +kernel
theorem dX11_backs_59 : decode cX11_backs 59 = .ok (.ifCond .ne 6, 3) := by decide +kernel
theorem dX11_backs_62 : decode cX11_backs 62 = .ok (.goto 13, 3) := by decide +kernel
theorem dX11_backs_65 : decode cX11_backs 65 = .ok (.iload_n 2, 1) := by decide +kernel
theorem dX11_backs_66 : decode cX11_backs 66 = .ok (.iload_n 1, 1) := by decide +kernel
theorem dX11_backs_67 : decode cX11_backs 67 = .ok (.if_icmp .ne 5, 3) := by decide +kernel
theorem dX11_backs_70 : decode cX11_backs 70 = .ok (.iload_n 3, 1) := by decide +kernel
theorem dX11_backs_71 : decode cX11_backs 71 = .ok (.ireturn, 1) := by decide +kernel
theorem dX11_backs_72 : decode cX11_backs 72 = .ok (.iinc 2 1, 3) := by decide +kernel
theorem dX11_backs_75 : decode cX11_backs 75 = .ok (.iinc 3 1, 3) := by decide +kernel
theorem dX11_backs_78 : decode cX11_backs 78 = .ok (.goto (-39), 3) := by decide +kernel
theorem dX11_backs_81 : decode cX11_backs 81 = .ok (.iload_n 1, 1) := by decide +kernel
theorem dX11_backs_82 : decode cX11_backs 82 = .ok (.iconst (-1), 1) := by decide +kernel
theorem dX11_backs_83 : decode cX11_backs 83 = .ok (.if_icmp .ne 7, 3) := by decide +kernel
theorem dX11_backs_86 : decode cX11_backs 86 = .ok (.iload_n 2, 1) := by decide +kernel
theorem dX11_backs_87 : decode cX11_backs 87 = .ok (.goto 4, 3) := by decide +kernel
theorem dX11_backs_90 : decode cX11_backs 90 = .ok (.iconst (-1), 1) := by decide +kernel
theorem dX11_backs_91 : decode cX11_backs 91 = .ok (.ireturn, 1) := by decide +kernel
theorem dX11_threes_0 : decode cX11_threes 0 = .ok (.iconst 1, 1) := by decide +kernel
theorem dX11_threes_1 : decode cX11_threes 1 = .ok (.istore_n 1, 1) := by decide +kernel
theorem dX11_threes_2 : decode cX11_threes 2 = .ok (.iconst 0, 1) := by decide +kernel
theorem dX11_threes_3 : decode cX11_threes 3 = .ok (.istore_n 2, 1) := by decide +kernel
theorem dX11_threes_4 : decode cX11_threes 4 = .ok (.iload_n 2, 1) := by decide +kernel
theorem dX11_threes_5 : decode cX11_threes 5 = .ok (.iload_n 0, 1) := by decide +kernel
theorem dX11_threes_6 : decode cX11_threes 6 = .ok (.if_icmp .ge 13, 3) := by decide +kernel
theorem dX11_threes_9 : decode cX11_threes 9 = .ok (.iload_n 1, 1) := by decide +kernel
theorem dX11_threes_10 : decode cX11_threes 10 = .ok (.iconst 3, 1) := by decide +kernel
theorem dX11_threes_11 : decode cX11_threes 11 = .ok (.imul, 1) := by decide +kernel
theorem dX11_threes_12 : decode cX11_threes 12 = .ok (.istore_n 1, 1) := by decide +kernel
theorem dX11_threes_13 : decode cX11_threes 13 = .ok (.iinc 2 1, 3) := by decide +kernel
theorem dX11_threes_16 : decode cX11_threes 16 = .ok (.goto (-12), 3) := by decide +kernel
theorem dX11_threes_19 : decode cX11_threes 19 = .ok (.iload_n 1, 1) := by decide +kernel
theorem dX11_threes_20 : decode cX11_threes 20 = .ok (.ireturn, 1) := by decide +kernel
theorem dX11_daysBy_0 : decode cX11_daysBy 0 = .ok (.iconst 0, 1) := by decide +kernel
theorem dX11_daysBy_1 : decode cX11_daysBy 1 = .ok (.istore_n 2, 1) := by decide +kernel
theorem dX11_daysBy_2 : decode cX11_daysBy 2 = .ok (.iconst 0, 1) := by decide +kernel
theorem dX11_daysBy_3 : decode cX11_daysBy 3 = .ok (.istore_n 3, 1) := by decide +kernel
theorem dX11_daysBy_4 : decode cX11_daysBy 4 = .ok (.iload_n 3, 1) := by decide +kernel
theorem dX11_daysBy_5 : decode cX11_daysBy 5 = .ok (.iconst 3, 1) := by decide +kernel
theorem dX11_daysBy_6 : decode cX11_daysBy 6 = .ok (.if_icmp .ge 89, 3) := by decide +kernel
theorem dX11_daysBy_9 : decode cX11_daysBy 9 = .ok (.iconst 0, 1) := by decide +kernel
theorem dX11_daysBy_10 : decode cX11_daysBy 10 = .ok (.istore 4, 2) := by decide +kernel
theorem dX11_daysBy_12 : decode cX11_daysBy 12 = .ok (.iconst 0, 1) := by decide +kernel
theorem dX11_daysBy_13 : decode cX11_daysBy 13 = .ok (.istore 5, 2) := by decide +kernel
theorem dX11_daysBy_15 : decode cX11_daysBy 15 = .ok (.iload 5, 2) := by decide +kernel
theorem dX11_daysBy_17 : decode cX11_daysBy 17 = .ok (.aload_n 0, 1) := by decide +kernel
theorem dX11_daysBy_18 : decode cX11_daysBy 18 = .ok (.getfield 58, 3) := by decide +kernel
theorem dX11_daysBy_21 : decode cX11_daysBy 21 = .ok (.aload_n 0, 1) := by decide +kernel
theorem dX11_daysBy_22 : decode cX11_daysBy 22 = .ok (.getfield 251, 3) := by decide +kernel
theorem dX11_daysBy_25 : decode cX11_daysBy 25 = .ok (.iaload, 1) := by decide +kernel
theorem dX11_daysBy_26 : decode cX11_daysBy 26 = .ok (.if_icmp .ge 34, 3) := by decide +kernel
theorem dX11_daysBy_29 : decode cX11_daysBy 29 = .ok (.iload_n 1, 1) := by decide +kernel
theorem dX11_daysBy_30 : decode cX11_daysBy 30 = .ok (.iload 5, 2) := by decide +kernel
theorem dX11_daysBy_32 : decode cX11_daysBy 32 = .ok (.invokestatic 462, 3) := by decide +kernel
theorem dX11_daysBy_35 : decode cX11_daysBy 35 = .ok (.idiv, 1) := by decide +kernel
theorem dX11_daysBy_36 : decode cX11_daysBy 36 = .ok (.iconst 3, 1) := by decide +kernel
theorem dX11_daysBy_37 : decode cX11_daysBy 37 = .ok (.irem, 1) := by decide +kernel
theorem dX11_daysBy_38 : decode cX11_daysBy 38 = .ok (.iload_n 3, 1) := by decide +kernel
theorem dX11_daysBy_39 : decode cX11_daysBy 39 = .ok (.if_icmp .ne 15, 3) := by decide +kernel
theorem dX11_daysBy_42 : decode cX11_daysBy 42 = .ok (.iload 4, 2) := by decide +kernel
theorem dX11_daysBy_44 : decode cX11_daysBy 44 = .ok (.aload_n 0, 1) := by decide +kernel
theorem dX11_daysBy_45 : decode cX11_daysBy 45 = .ok (.getfield 152, 3) := by decide +kernel
theorem dX11_daysBy_48 : decode cX11_daysBy 48 = .ok (.iload 5, 2) := by decide +kernel
theorem dX11_daysBy_50 : decode cX11_daysBy 50 = .ok (.iaload, 1) := by decide +kernel
theorem dX11_daysBy_51 : decode cX11_daysBy 51 = .ok (.iadd, 1) := by decide +kernel
theorem dX11_daysBy_52 : decode cX11_daysBy 52 = .ok (.istore 4, 2) := by decide +kernel
theorem dX11_daysBy_54 : decode cX11_daysBy 54 = .ok (.iinc 5 1, 3) := by decide +kernel
theorem dX11_daysBy_57 : decode cX11_daysBy 57 = .ok (.goto (-42), 3) := by decide +kernel
theorem dX11_daysBy_60 : decode cX11_daysBy 60 = .ok (.iload_n 3, 1) := by decide +kernel
theorem dX11_daysBy_61 : decode cX11_daysBy 61 = .ok (.aload_n 0, 1) := by decide +kernel
theorem dX11_daysBy_62 : decode cX11_daysBy 62 = .ok (.getfield 91, 3) := by decide +kernel
theorem dX11_daysBy_65 : decode cX11_daysBy 65 = .ok (.aload_n 0, 1) := by decide +kernel
theorem dX11_daysBy_66 : decode cX11_daysBy 66 = .ok (.getfield 251, 3) := by decide +kernel
theorem dX11_daysBy_69 : decode cX11_daysBy 69 = .ok (.iaload, 1) := by decide +kernel
theorem dX11_daysBy_70 : decode cX11_daysBy 70 = .ok (.if_icmp .lt 10, 3) := by decide +kernel
theorem dX11_daysBy_73 : decode cX11_daysBy 73 = .ok (.iload 4, 2) := by decide +kernel
theorem dX11_daysBy_75 : decode cX11_daysBy 75 = .ok (.ifCond .le 5, 3) := by decide +kernel
theorem dX11_daysBy_78 : decode cX11_daysBy 78 = .ok (.iconst (-1), 1) := by decide +kernel
theorem dX11_daysBy_79 : decode cX11_daysBy 79 = .ok (.ireturn, 1) := by decide +kernel
theorem dX11_daysBy_80 : decode cX11_daysBy 80 = .ok (.iload 4, 2) := by decide +kernel
theorem dX11_daysBy_82 : decode cX11_daysBy 82 = .ok (.iload_n 2, 1) := by decide +kernel
theorem dX11_daysBy_83 : decode cX11_daysBy 83 = .ok (.if_icmp .le 6, 3) := by decide +kernel
theorem dX11_daysBy_86 : decode cX11_daysBy 86 = .ok (.iload 4, 2) := by decide +kernel
theorem dX11_daysBy_88 : decode cX11_daysBy 88 = .ok (.istore_n 2, 1) := by decide +kernel
theorem dX11_daysBy_89 : decode cX11_daysBy 89 = .ok (.iinc 3 1, 3) := by decide +kernel
theorem dX11_daysBy_92 : decode cX11_daysBy 92 = .ok (.goto (-88), 3) := by decide +kernel
theorem dX11_daysBy_95 : decode cX11_daysBy 95 = .ok (.iload_n 2, 1) := by decide +kernel
theorem dX11_daysBy_96 : decode cX11_daysBy 96 = .ok (.ireturn, 1) := by decide +kernel
theorem dX11_soonest_0 : decode cX11_soonest 0 = .ok (.aload_n 0, 1) := by decide +kernel
theorem dX11_soonest_1 : decode cX11_soonest 1 = .ok (.invokevirtual 388, 3) := by decide +kernel
theorem dX11_soonest_4 : decode cX11_soonest 4 = .ok (.iconst 0, 1) := by decide +kernel
theorem dX11_soonest_5 : decode cX11_soonest 5 = .ok (.istore_n 1, 1) := by decide +kernel
theorem dX11_soonest_6 : decode cX11_soonest 6 = .ok (.iload_n 1, 1) := by decide +kernel
theorem dX11_soonest_7 : decode cX11_soonest 7 = .ok (.aload_n 0, 1) := by decide +kernel
theorem dX11_soonest_8 : decode cX11_soonest 8 = .ok (.getfield 58, 3) := by decide +kernel
theorem dX11_soonest_11 : decode cX11_soonest 11 = .ok (.aload_n 0, 1) := by decide +kernel
theorem dX11_soonest_12 : decode cX11_soonest 12 = .ok (.getfield 251, 3) := by decide +kernel
theorem dX11_soonest_15 : decode cX11_soonest 15 = .ok (.iaload, 1) := by decide +kernel
theorem dX11_soonest_16 : decode cX11_soonest 16 = .ok (.if_icmp .ge 66, 3) := by decide +kernel
theorem dX11_soonest_19 : decode cX11_soonest 19 = .ok (.aload_n 0, 1) := by decide +kernel
theorem dX11_soonest_20 : decode cX11_soonest 20 = .ok (.getfield 137, 3) := by decide +kernel
theorem dX11_soonest_23 : decode cX11_soonest 23 = .ok (.iload_n 1, 1) := by decide +kernel
theorem dX11_soonest_24 : decode cX11_soonest 24 = .ok (.iaload, 1) := by decide +kernel
theorem dX11_soonest_25 : decode cX11_soonest 25 = .ok (.ifCond .ge 15, 3) := by decide +kernel
theorem dX11_soonest_28 : decode cX11_soonest 28 = .ok (.aload_n 0, 1) := by decide +kernel
theorem dX11_soonest_29 : decode cX11_soonest 29 = .ok (.getfield 137, 3) := by decide +kernel
theorem dX11_soonest_32 : decode cX11_soonest 32 = .ok (.bipush 6, 2) := by decide +kernel
theorem dX11_soonest_34 : decode cX11_soonest 34 = .ok (.iload_n 1, 1) := by decide +kernel
theorem dX11_soonest_35 : decode cX11_soonest 35 = .ok (.iadd, 1) := by decide +kernel
theorem dX11_soonest_36 : decode cX11_soonest 36 = .ok (.iaload, 1) := by decide +kernel
theorem dX11_soonest_37 : decode cX11_soonest 37 = .ok (.goto 9, 3) := by decide +kernel
theorem dX11_soonest_40 : decode cX11_soonest 40 = .ok (.aload_n 0, 1) := by decide +kernel
theorem dX11_soonest_41 : decode cX11_soonest 41 = .ok (.getfield 137, 3) := by decide +kernel
theorem dX11_soonest_44 : decode cX11_soonest 44 = .ok (.iload_n 1, 1) := by decide +kernel
theorem dX11_soonest_45 : decode cX11_soonest 45 = .ok (.iaload, 1) := by decide +kernel
theorem dX11_soonest_46 : decode cX11_soonest 46 = .ok (.istore_n 2, 1) := by decide +kernel
theorem dX11_soonest_47 : decode cX11_soonest 47 = .ok (.aload_n 0, 1) := by decide +kernel
theorem dX11_soonest_48 : decode cX11_soonest 48 = .ok (.getfield 152, 3) := by decide +kernel
theorem dX11_soonest_51 : decode cX11_soonest 51 = .ok (.iload_n 1, 1) := by decide +kernel
theorem dX11_soonest_52 : decode cX11_soonest 52 = .ok (.iload_n 2, 1) := by decide +kernel
theorem dX11_soonest_53 : decode cX11_soonest 53 = .ok (.aload_n 0, 1) := by decide +kernel
theorem dX11_soonest_54 : decode cX11_soonest 54 = .ok (.iload_n 1, 1) := by decide +kernel
theorem dX11_soonest_55 : decode cX11_soonest 55 = .ok (.invokevirtual 343, 3) := by decide +kernel
theorem dX11_soonest_58 : decode cX11_soonest 58 = .ok (.if_icmp .ne 7, 3) := by decide +kernel
theorem dX11_soonest_61 : decode cX11_soonest 61 = .ok (.iconst 0, 1) := by decide +kernel
theorem dX11_soonest_62 : decode cX11_soonest 62 = .ok (.goto 13, 3) := by decide +kernel
theorem dX11_soonest_65 : decode cX11_soonest 65 = .ok (.aload_n 0, 1) := by decide +kernel
theorem dX11_soonest_66 : decode cX11_soonest 66 = .ok (.iload_n 1, 1) := by decide +kernel
theorem dX11_soonest_67 : decode cX11_soonest 67 = .ok (.aload_n 0, 1) := by decide +kernel
theorem dX11_soonest_68 : decode cX11_soonest 68 = .ok (.iload_n 1, 1) := by decide +kernel
theorem dX11_soonest_69 : decode cX11_soonest 69 = .ok (.invokevirtual 343, 3) := by decide +kernel
theorem dX11_soonest_72 : decode cX11_soonest 72 = .ok (.invokevirtual 407, 3) := by decide +kernel
theorem dX11_soonest_75 : decode cX11_soonest 75 = .ok (.iastore, 1) := by decide +kernel
theorem dX11_soonest_76 : decode cX11_soonest 76 = .ok (.iinc 1 1, 3) := by decide +kernel
theorem dX11_soonest_79 : decode cX11_soonest 79 = .ok (.goto (-73), 3) := by decide +kernel
theorem dX11_soonest_82 : decode cX11_soonest 82 = .ok (.iconst (-1), 1) := by decide +kernel
theorem dX11_soonest_83 : decode cX11_soonest 83 = .ok (.istore_n 1, 1) := by decide +kernel
theorem dX11_soonest_84 : decode cX11_soonest 84 = .ok (.iconst 0, 1) := by decide +kernel
theorem dX11_soonest_85 : decode cX11_soonest 85 = .ok (.istore_n 2, 1) := by decide +kernel
theorem dX11_soonest_86 : decode cX11_soonest 86 = .ok (.iload_n 2, 1) := by decide +kernel
theorem dX11_soonest_87 : decode cX11_soonest 87 = .ok (.aload_n 0, 1) := by decide +kernel
theorem dX11_soonest_88 : decode cX11_soonest 88 = .ok (.getfield 58, 3) := by decide +kernel
theorem dX11_soonest_91 : decode cX11_soonest 91 = .ok (.aload_n 0, 1) := by decide +kernel
theorem dX11_soonest_92 : decode cX11_soonest 92 = .ok (.getfield 251, 3) := by decide +kernel
theorem dX11_soonest_95 : decode cX11_soonest 95 = .ok (.iaload, 1) := by decide +kernel
theorem dX11_soonest_96 : decode cX11_soonest 96 = .ok (.invokestatic 462, 3) := by decide +kernel
theorem dX11_soonest_99 : decode cX11_soonest 99 = .ok (.if_icmp .ge 30, 3) := by decide +kernel
theorem dX11_soonest_102 : decode cX11_soonest 102 = .ok (.aload_n 0, 1) := by decide +kernel
theorem dX11_soonest_103 : decode cX11_soonest 103 = .ok (.iload_n 2, 1) := by decide +kernel
theorem dX11_soonest_104 : decode cX11_soonest 104 = .ok (.invokevirtual 465, 3) := by decide +kernel
theorem dX11_soonest_107 : decode cX11_soonest 107 = .ok (.istore_n 3, 1) := by decide +kernel
theorem dX11_soonest_108 : decode cX11_soonest 108 = .ok (.iload_n 3, 1) := by decide +kernel
theorem dX11_soonest_109 : decode cX11_soonest 109 = .ok (.ifCond .lt 14, 3) := by decide +kernel
theorem dX11_soonest_112 : decode cX11_soonest 112 = .ok (.iload_n 1, 1) := by decide +kernel
theorem dX11_soonest_113 : decode cX11_soonest 113 = .ok (.ifCond .lt 8, 3) := by decide +kernel
theorem dX11_soonest_116 : decode cX11_soonest 116 = .ok (.iload_n 3, 1) := by decide +kernel
theorem dX11_soonest_117 : decode cX11_soonest 117 = .ok (.iload_n 1, 1) := by decide +kernel
theorem dX11_soonest_118 : decode cX11_soonest 118 = .ok (.if_icmp .ge 5, 3) := by decide +kernel
theorem dX11_soonest_121 : decode cX11_soonest 121 = .ok (.iload_n 3, 1) := by decide +kernel
theorem dX11_soonest_122 : decode cX11_soonest 122 = .ok (.istore_n 1, 1) := by decide +kernel
theorem dX11_soonest_123 : decode cX11_soonest 123 = .ok (.iinc 2 1, 3) := by decide +kernel
theorem dX11_soonest_126 : decode cX11_soonest 126 = .ok (.goto (-40), 3) := by decide +kernel
theorem dX11_soonest_129 : decode cX11_soonest 129 = .ok (.iload_n 1, 1) := by decide +kernel
theorem dX11_soonest_130 : decode cX11_soonest 130 = .ok (.ireturn, 1) := by decide +kernel
theorem dX11_isLong_0 : decode cX11_isLong 0 = .ok (.iload_n 0, 1) := by decide +kernel
theorem dX11_isLong_1 : decode cX11_isLong 1 = .ok (.iconst 0, 1) := by decide +kernel
theorem dX11_isLong_2 : decode cX11_isLong 2 = .ok (.sipush 200, 3) := by decide +kernel
theorem dX11_isLong_5 : decode cX11_isLong 5 = .ok (.invokestatic 335, 3) := by decide +kernel
theorem dX11_isLong_8 : decode cX11_isLong 8 = .ok (.ireturn, 1) := by decide +kernel
theorem dX11_then_0 : decode cX11_then 0 = .ok (.aload_n 0, 1) := by decide +kernel
theorem dX11_then_1 : decode cX11_then 1 = .ok (.iload_n 1, 1) := by decide +kernel
theorem dX11_then_2 : decode cX11_then 2 = .ok (.invokevirtual 398, 3) := by decide +kernel
theorem dX11_then_5 : decode cX11_then 5 = .ok (.ifCond .eq 10, 3) := by decide +kernel
theorem dX11_then_8 : decode cX11_then 8 = .ok (.iload_n 2, 1) := by decide +kernel
theorem dX11_then_9 : decode cX11_then 9 = .ok (.invokestatic 468, 3) := by decide +kernel
theorem dX11_then_12 : decode cX11_then 12 = .ok (.ifCond .ne 5, 3) := by decide +kernel
theorem dX11_then_15 : decode cX11_then 15 = .ok (.iconst (-1), 1) := by decide +kernel
theorem dX11_then_16 : decode cX11_then 16 = .ok (.ireturn, 1) := by decide +kernel
theorem dX11_then_17 : decode cX11_then 17 = .ok (.aload_n 0, 1) := by decide +kernel
theorem dX11_then_18 : decode cX11_then 18 = .ok (.invokevirtual 388, 3) := by decide +kernel
theorem dX11_then_21 : decode cX11_then 21 = .ok (.aload_n 0, 1) := by decide +kernel
theorem dX11_then_22 : decode cX11_then 22 = .ok (.getfield 137, 3) := by decide +kernel
theorem dX11_then_25 : decode cX11_then 25 = .ok (.bipush 30, 2) := by decide +kernel
theorem dX11_then_27 : decode cX11_then 27 = .ok (.dup2, 1) := by decide +kernel
theorem dX11_then_28 : decode cX11_then 28 = .ok (.iaload, 1) := by decide +kernel
theorem dX11_then_29 : decode cX11_then 29 = .ok (.iload_n 2, 1) := by decide +kernel
theorem dX11_then_30 : decode cX11_then 30 = .ok (.iadd, 1) := by decide +kernel
theorem dX11_then_31 : decode cX11_then 31 = .ok (.iastore, 1) := by decide +kernel
theorem dX11_then_32 : decode cX11_then 32 = .ok (.aload_n 0, 1) := by decide +kernel
theorem dX11_then_33 : decode cX11_then 33 = .ok (.invokevirtual 417, 3) := by decide +kernel
theorem dX11_then_36 : decode cX11_then 36 = .ok (.aload_n 0, 1) := by decide +kernel
theorem dX11_then_37 : decode cX11_then 37 = .ok (.getfield 137, 3) := by decide +kernel
theorem dX11_then_40 : decode cX11_then 40 = .ok (.iload_n 1, 1) := by decide +kernel
theorem dX11_then_41 : decode cX11_then 41 = .ok (.iaload, 1) := by decide +kernel
theorem dX11_then_42 : decode cX11_then 42 = .ok (.ireturn, 1) := by decide +kernel
theorem dX11_times_0 : decode cX11_times 0 = .ok (.aload_n 0, 1) := by decide +kernel
theorem dX11_times_1 : decode cX11_times 1 = .ok (.iload_n 1, 1) := by decide +kernel
theorem dX11_times_2 : decode cX11_times 2 = .ok (.iload_n 2, 1) := by decide +kernel
theorem dX11_times_3 : decode cX11_times 3 = .ok (.invokevirtual 401, 3) := by decide +kernel
theorem dX11_times_6 : decode cX11_times 6 = .ok (.ifCond .eq 21, 3) := by decide +kernel
theorem dX11_times_9 : decode cX11_times 9 = .ok (.iload_n 3, 1) := by decide +kernel
theorem dX11_times_10 : decode cX11_times 10 = .ok (.invokestatic 468, 3) := by decide +kernel
theorem dX11_times_13 : decode cX11_times 13 = .ok (.ifCond .eq 14, 3) := by decide +kernel
theorem dX11_times_16 : decode cX11_times 16 = .ok (.iload 4, 2) := by decide +kernel
theorem dX11_times_18 : decode cX11_times 18 = .ok (.iconst 1, 1) := by decide +kernel
theorem dX11_times_19 : decode cX11_times 19 = .ok (.bipush 20, 2) := by decide +kernel
theorem dX11_times_21 : decode cX11_times 21 = .ok (.invokestatic 335, 3) := by decide +kernel
theorem dX11_times_24 : decode cX11_times 24 = .ok (.ifCond .ne 5, 3) := by decide +kernel
theorem dX11_times_27 : decode cX11_times 27 = .ok (.iconst (-1), 1) := by decide +kernel
theorem dX11_times_28 : decode cX11_times 28 = .ok (.ireturn, 1) := by decide +kernel
theorem dX11_times_29 : decode cX11_times 29 = .ok (.aload_n 0, 1) := by decide +kernel
theorem dX11_times_30 : decode cX11_times 30 = .ok (.getfield 134, 3) := by decide +kernel
theorem dX11_times_33 : decode cX11_times 33 = .ok (.iload_n 1, 1) := by decide +kernel
theorem dX11_times_34 : decode cX11_times 34 = .ok (.iaload, 1) := by decide +kernel
theorem dX11_times_35 : decode cX11_times 35 = .ok (.ifCond .lt 13, 3) := by decide +kernel
theorem dX11_times_38 : decode cX11_times 38 = .ok (.aload_n 0, 1) := by decide +kernel
theorem dX11_times_39 : decode cX11_times 39 = .ok (.getfield 134, 3) := by decide +kernel
theorem dX11_times_42 : decode cX11_times 42 = .ok (.iload_n 1, 1) := by decide +kernel
theorem dX11_times_43 : decode cX11_times 43 = .ok (.iaload, 1) := by decide +kernel
theorem dX11_times_44 : decode cX11_times 44 = .ok (.iload_n 2, 1) := by decide +kernel
theorem dX11_times_45 : decode cX11_times 45 = .ok (.if_icmp .ne 6, 3) := by decide +kernel
theorem dX11_times_48 : decode cX11_times 48 = .ok (.bipush (-2), 2) := by decide +kernel
theorem dX11_times_50 : decode cX11_times 50 = .ok (.ireturn, 1) := by decide +kernel
theorem dX11_times_51 : decode cX11_times 51 = .ok (.aload_n 0, 1) := by decide +kernel
theorem dX11_times_52 : decode cX11_times 52 = .ok (.invokevirtual 388, 3) := by decide +kernel
theorem dX11_times_55 : decode cX11_times 55 = .ok (.aload_n 0, 1) := by decide +kernel
theorem dX11_times_56 : decode cX11_times 56 = .ok (.iload_n 1, 1) := by decide +kernel
theorem dX11_times_57 : decode cX11_times 57 = .ok (.iload_n 2, 1) := by decide +kernel
theorem dX11_times_58 : decode cX11_times 58 = .ok (.invokevirtual 407, 3) := by decide +kernel
theorem dX11_times_61 : decode cX11_times 61 = .ok (.istore 5, 2) := by decide +kernel
theorem dX11_times_63 : decode cX11_times 63 = .ok (.iconst 0, 1) := by decide +kernel
theorem dX11_times_64 : decode cX11_times 64 = .ok (.istore 6, 2) := by decide +kernel
theorem dX11_times_66 : decode cX11_times 66 = .ok (.iconst 0, 1) := by decide +kernel
theorem dX11_times_67 : decode cX11_times 67 = .ok (.istore 7, 2) := by decide +kernel
theorem dX11_times_69 : decode cX11_times 69 = .ok (.iload 7, 2) := by decide +kernel
theorem dX11_times_71 : decode cX11_times 71 = .ok (.iload 4, 2) := by decide +kernel
theorem dX11_times_73 : decode cX11_times 73 = .ok (.if_icmp .ge 47, 3) := by decide +kernel
theorem dX11_times_76 : decode cX11_times 76 = .ok (.aload_n 0, 1) := by decide +kernel
theorem dX11_times_77 : decode cX11_times 77 = .ok (.aload_n 0, 1) := by decide +kernel
theorem dX11_times_78 : decode cX11_times 78 = .ok (.getfield 94, 3) := by decide +kernel
theorem dX11_times_81 : decode cX11_times 81 = .ok (.aload_n 0, 1) := by decide +kernel
theorem dX11_times_82 : decode cX11_times 82 = .ok (.getfield 251, 3) := by decide +kernel
theorem dX11_times_85 : decode cX11_times 85 = .ok (.iaload, 1) := by decide +kernel
theorem dX11_times_86 : decode cX11_times 86 = .ok (.iload 7, 2) := by decide +kernel
theorem dX11_times_88 : decode cX11_times 88 = .ok (.iadd, 1) := by decide +kernel
theorem dX11_times_89 : decode cX11_times 89 = .ok (.putfield 339, 3) := by decide +kernel
theorem dX11_times_92 : decode cX11_times 92 = .ok (.iload 5, 2) := by decide +kernel
theorem dX11_times_94 : decode cX11_times 94 = .ok (.aload_n 0, 1) := by decide +kernel
theorem dX11_times_95 : decode cX11_times 95 = .ok (.invokevirtual 410, 3) := by decide +kernel
theorem dX11_times_98 : decode cX11_times 98 = .ok (.ifCond .eq 7, 3) := by decide +kernel
theorem dX11_times_101 : decode cX11_times 101 = .ok (.iconst 5, 1) := by decide +kernel
theorem dX11_times_102 : decode cX11_times 102 = .ok (.goto 4, 3) := by decide +kernel
theorem dX11_times_105 : decode cX11_times 105 = .ok (.iconst 0, 1) := by decide +kernel
theorem dX11_times_106 : decode cX11_times 106 = .ok (.iadd, 1) := by decide +kernel
theorem dX11_times_107 : decode cX11_times 107 = .ok (.iload_n 3, 1) := by decide +kernel
theorem dX11_times_108 : decode cX11_times 108 = .ok (.if_icmp .gt 6, 3) := by decide +kernel
theorem dX11_times_111 : decode cX11_times 111 = .ok (.iinc 6 1, 3) := by decide +kernel
theorem dX11_times_114 : decode cX11_times 114 = .ok (.iinc 7 1, 3) := by decide +kernel
theorem dX11_times_117 : decode cX11_times 117 = .ok (.goto (-48), 3) := by decide +kernel
theorem dX11_times_120 : decode cX11_times 120 = .ok (.iload 6, 2) := by decide +kernel
theorem dX11_times_122 : decode cX11_times 122 = .ok (.ireturn, 1) := by decide +kernel
theorem dX11_owes_0 : decode cX11_owes 0 = .ok (.aload_n 0, 1) := by decide +kernel
theorem dX11_owes_1 : decode cX11_owes 1 = .ok (.iload_n 1, 1) := by decide +kernel
theorem dX11_owes_2 : decode cX11_owes 2 = .ok (.invokevirtual 385, 3) := by decide +kernel
theorem dX11_owes_5 : decode cX11_owes 5 = .ok (.ifCond .eq 16, 3) := by decide +kernel
theorem dX11_owes_8 : decode cX11_owes 8 = .ok (.aload_n 0, 1) := by decide +kernel
theorem dX11_owes_9 : decode cX11_owes 9 = .ok (.iload_n 2, 1) := by decide +kernel
theorem dX11_owes_10 : decode cX11_owes 10 = .ok (.invokevirtual 385, 3) := by decide +kernel
theorem dX11_owes_13 : decode cX11_owes 13 = .ok (.ifCond .eq 8, 3) := by decide +kernel
theorem dX11_owes_16 : decode cX11_owes 16 = .ok (.iload_n 1, 1) := by decide +kernel
theorem dX11_owes_17 : decode cX11_owes 17 = .ok (.iload_n 2, 1) := by decide +kernel
theorem dX11_owes_18 : decode cX11_owes 18 = .ok (.if_icmp .ne 5, 3) := by decide +kernel
theorem dX11_owes_21 : decode cX11_owes 21 = .ok (.iconst (-1), 1) := by decide +kernel
theorem dX11_owes_22 : decode cX11_owes 22 = .ok (.ireturn, 1) := by decide +kernel
theorem dX11_owes_23 : decode cX11_owes 23 = .ok (.iconst 0, 1) := by decide +kernel
theorem dX11_owes_24 : decode cX11_owes 24 = .ok (.istore_n 3, 1) := by decide +kernel
theorem dX11_owes_25 : decode cX11_owes 25 = .ok (.iconst 0, 1) := by decide +kernel
theorem dX11_owes_26 : decode cX11_owes 26 = .ok (.istore 4, 2) := by decide +kernel
theorem dX11_owes_28 : decode cX11_owes 28 = .ok (.iload 4, 2) := by decide +kernel
theorem dX11_owes_30 : decode cX11_owes 30 = .ok (.aload_n 0, 1) := by decide +kernel
theorem dX11_owes_31 : decode cX11_owes 31 = .ok (.getfield 58, 3) := by decide +kernel
theorem dX11_owes_34 : decode cX11_owes 34 = .ok (.aload_n 0, 1) := by decide +kernel
theorem dX11_owes_35 : decode cX11_owes 35 = .ok (.getfield 251, 3) := by decide +kernel
theorem dX11_owes_38 : decode cX11_owes 38 = .ok (.iaload, 1) := by decide +kernel
theorem dX11_owes_39 : decode cX11_owes 39 = .ok (.if_icmp .ge 51, 3) := by decide +kernel
theorem dX11_owes_42 : decode cX11_owes 42 = .ok (.aload_n 0, 1) := by decide +kernel
theorem dX11_owes_43 : decode cX11_owes 43 = .ok (.iload 4, 2) := by decide +kernel
theorem dX11_owes_45 : decode cX11_owes 45 = .ok (.invokevirtual 343, 3) := by decide +kernel
theorem dX11_owes_48 : decode cX11_owes 48 = .ok (.iload_n 2, 1) := by decide +kernel
theorem dX11_owes_49 : decode cX11_owes 49 = .ok (.if_icmp .ne 35, 3) := by decide +kernel
theorem dX11_owes_52 : decode cX11_owes 52 = .ok (.aload_n 0, 1) := by decide +kernel
theorem dX11_owes_53 : decode cX11_owes 53 = .ok (.getfield 134, 3) := by decide +kernel
theorem dX11_owes_56 : decode cX11_owes 56 = .ok (.iload 4, 2) := by decide +kernel
theorem dX11_owes_58 : decode cX11_owes 58 = .ok (.iaload, 1) := by decide +kernel
theorem dX11_owes_59 : decode cX11_owes 59 = .ok (.iload_n 1, 1) := by decide +kernel
theorem dX11_owes_60 : decode cX11_owes 60 = .ok (.if_icmp .eq 17, 3) := by decide +kernel
theorem dX11_owes_63 : decode cX11_owes 63 = .ok (.aload_n 0, 1) := by decide +kernel
theorem dX11_owes_64 : decode cX11_owes 64 = .ok (.getfield 134, 3) := by decide +kernel
theorem dX11_owes_67 : decode cX11_owes 67 = .ok (.bipush 6, 2) := by decide +kernel
theorem dX11_owes_69 : decode cX11_owes 69 = .ok (.iload 4, 2) := by decide +kernel
theorem dX11_owes_71 : decode cX11_owes 71 = .ok (.iadd, 1) := by decide +kernel
theorem dX11_owes_72 : decode cX11_owes 72 = .ok (.iaload, 1) := by decide +kernel
theorem dX11_owes_73 : decode cX11_owes 73 = .ok (.iload_n 1, 1) := by decide +kernel
theorem dX11_owes_74 : decode cX11_owes 74 = .ok (.if_icmp .ne 10, 3) := by decide +kernel
theorem dX11_owes_77 : decode cX11_owes 77 = .ok (.iload_n 3, 1) := by decide +kernel
theorem dX11_owes_78 : decode cX11_owes 78 = .ok (.iconst 1, 1) := by decide +kernel
theorem dX11_owes_79 : decode cX11_owes 79 = .ok (.iload 4, 2) := by decide +kernel
theorem dX11_owes_81 : decode cX11_owes 81 = .ok (.ishl, 1) := by decide +kernel
theorem dX11_owes_82 : decode cX11_owes 82 = .ok (.ior, 1) := by decide +kernel
theorem dX11_owes_83 : decode cX11_owes 83 = .ok (.istore_n 3, 1) := by decide +kernel
theorem dX11_owes_84 : decode cX11_owes 84 = .ok (.iinc 4 1, 3) := by decide +kernel
theorem dX11_owes_87 : decode cX11_owes 87 = .ok (.goto (-59), 3) := by decide +kernel
theorem dX11_owes_90 : decode cX11_owes 90 = .ok (.iload_n 3, 1) := by decide +kernel
theorem dX11_owes_91 : decode cX11_owes 91 = .ok (.ireturn, 1) := by decide +kernel
theorem dX11_valueIn_0 : decode cX11_valueIn 0 = .ok (.iconst 0, 1) := by decide +kernel
theorem dX11_valueIn_1 : decode cX11_valueIn 1 = .ok (.istore_n 2, 1) := by decide +kernel
theorem dX11_valueIn_2 : decode cX11_valueIn 2 = .ok (.iconst 0, 1) := by decide +kernel
theorem dX11_valueIn_3 : decode cX11_valueIn 3 = .ok (.istore_n 3, 1) := by decide +kernel
theorem dX11_valueIn_4 : decode cX11_valueIn 4 = .ok (.iload_n 3, 1) := by decide +kernel
theorem dX11_valueIn_5 : decode cX11_valueIn 5 = .ok (.aload_n 0, 1) := by decide +kernel
theorem dX11_valueIn_6 : decode cX11_valueIn 6 = .ok (.getfield 58, 3) := by decide +kernel
theorem dX11_valueIn_9 : decode cX11_valueIn 9 = .ok (.aload_n 0, 1) := by decide +kernel
theorem dX11_valueIn_10 : decode cX11_valueIn 10 = .ok (.getfield 251, 3) := by decide +kernel
theorem dX11_valueIn_13 : decode cX11_valueIn 13 = .ok (.iaload, 1) := by decide +kernel
theorem dX11_valueIn_14 : decode cX11_valueIn 14 = .ok (.if_icmp .ge 36, 3) := by decide +kernel
theorem dX11_valueIn_17 : decode cX11_valueIn 17 = .ok (.aload_n 0, 1) := by decide +kernel
theorem dX11_valueIn_18 : decode cX11_valueIn 18 = .ok (.getfield 134, 3) := by decide +kernel
theorem dX11_valueIn_21 : decode cX11_valueIn 21 = .ok (.iload_n 3, 1) := by decide +kernel
theorem dX11_valueIn_22 : decode cX11_valueIn 22 = .ok (.iaload, 1) := by decide +kernel
theorem dX11_valueIn_23 : decode cX11_valueIn 23 = .ok (.iload_n 1, 1) := by decide +kernel
theorem dX11_valueIn_24 : decode cX11_valueIn 24 = .ok (.if_icmp .ne 20, 3) := by decide +kernel
theorem dX11_valueIn_27 : decode cX11_valueIn 27 = .ok (.iload_n 2, 1) := by decide +kernel
theorem dX11_valueIn_28 : decode cX11_valueIn 28 = .ok (.aload_n 0, 1) := by decide +kernel
theorem dX11_valueIn_29 : decode cX11_valueIn 29 = .ok (.getfield 70, 3) := by decide +kernel
theorem dX11_valueIn_32 : decode cX11_valueIn 32 = .ok (.bipush 6, 2) := by decide +kernel
theorem dX11_valueIn_34 : decode cX11_valueIn 34 = .ok (.aload_n 0, 1) := by decide +kernel
theorem dX11_valueIn_35 : decode cX11_valueIn 35 = .ok (.getfield 251, 3) := by decide +kernel
theorem dX11_valueIn_38 : decode cX11_valueIn 38 = .ok (.imul, 1) := by decide +kernel
theorem dX11_valueIn_39 : decode cX11_valueIn 39 = .ok (.iload_n 3, 1) := by decide +kernel
theorem dX11_valueIn_40 : decode cX11_valueIn 40 = .ok (.iadd, 1) := by decide +kernel
theorem dX11_valueIn_41 : decode cX11_valueIn 41 = .ok (.iaload, 1) := by decide +kernel
theorem dX11_valueIn_42 : decode cX11_valueIn 42 = .ok (.iadd, 1) := by decide +kernel
theorem dX11_valueIn_43 : decode cX11_valueIn 43 = .ok (.istore_n 2, 1) := by decide +kernel
theorem dX11_valueIn_44 : decode cX11_valueIn 44 = .ok (.iinc 3 1, 3) := by decide +kernel
theorem dX11_valueIn_47 : decode cX11_valueIn 47 = .ok (.goto (-43), 3) := by decide +kernel
theorem dX11_valueIn_50 : decode cX11_valueIn 50 = .ok (.iload_n 2, 1) := by decide +kernel
theorem dX11_valueIn_51 : decode cX11_valueIn 51 = .ok (.ireturn, 1) := by decide +kernel
theorem dX11_richest_0 : decode cX11_richest 0 = .ok (.aload_n 0, 1) := by decide +kernel
theorem dX11_richest_1 : decode cX11_richest 1 = .ok (.getfield 49, 3) := by decide +kernel
theorem dX11_richest_4 : decode cX11_richest 4 = .ok (.aload_n 0, 1) := by decide +kernel
theorem dX11_richest_5 : decode cX11_richest 5 = .ok (.getfield 251, 3) := by decide +kernel
theorem dX11_richest_8 : decode cX11_richest 8 = .ok (.iaload, 1) := by decide +kernel
theorem dX11_richest_9 : decode cX11_richest 9 = .ok (.ifCond .ne 6, 3) := by decide +kernel
theorem dX11_richest_12 : decode cX11_richest 12 = .ok (.bipush (-2), 2) := by decide +kernel
theorem dX11_richest_14 : decode cX11_richest 14 = .ok (.ireturn, 1) := by decide +kernel
theorem dX11_richest_15 : decode cX11_richest 15 = .ok (.iconst 0, 1) := by decide +kernel
theorem dX11_richest_16 : decode cX11_richest 16 = .ok (.istore_n 2, 1) := by decide +kernel
theorem dX11_richest_17 : decode cX11_richest 17 = .ok (.iconst 1, 1) := by decide +kernel
theorem dX11_richest_18 : decode cX11_richest 18 = .ok (.istore_n 3, 1) := by decide +kernel
theorem dX11_richest_19 : decode cX11_richest 19 = .ok (.iload_n 3, 1) := by decide +kernel
theorem dX11_richest_20 : decode cX11_richest 20 = .ok (.aload_n 0, 1) := by decide +kernel
theorem dX11_richest_21 : decode cX11_richest 21 = .ok (.getfield 49, 3) := by decide +kernel
theorem dX11_richest_24 : decode cX11_richest 24 = .ok (.aload_n 0, 1) := by decide +kernel
theorem dX11_richest_25 : decode cX11_richest 25 = .ok (.getfield 251, 3) := by decide +kernel
theorem dX11_richest_28 : decode cX11_richest 28 = .ok (.iaload, 1) := by decide +kernel
theorem dX11_richest_29 : decode cX11_richest 29 = .ok (.if_icmp .ge 24, 3) := by decide +kernel
theorem dX11_richest_32 : decode cX11_richest 32 = .ok (.aload_n 0, 1) := by decide +kernel
theorem dX11_richest_33 : decode cX11_richest 33 = .ok (.iload_n 3, 1) := by decide +kernel
theorem dX11_richest_34 : decode cX11_richest 34 = .ok (.invokevirtual 471, 3) := by decide +kernel
theorem dX11_richest_37 : decode cX11_richest 37 = .ok (.aload_n 0, 1) := by decide +kernel
theorem dX11_richest_38 : decode cX11_richest 38 = .ok (.iload_n 2, 1) := by decide +kernel
theorem dX11_richest_39 : decode cX11_richest 39 = .ok (.invokevirtual 471, 3) := by decide +kernel
theorem dX11_richest_42 : decode cX11_richest 42 = .ok (.if_icmp .le 5, 3) := by decide +kernel
theorem dX11_richest_45 : decode cX11_richest 45 = .ok (.iload_n 3, 1) := by decide +kernel
theorem dX11_richest_46 : decode cX11_richest 46 = .ok (.istore_n 2, 1) := by decide +kernel
theorem dX11_richest_47 : decode cX11_richest 47 = .ok (.iinc 3 1, 3) := by decide +kernel
theorem dX11_richest_50 : decode cX11_richest 50 = .ok (.goto (-31), 3) := by decide +kernel
theorem dX11_richest_53 : decode cX11_richest 53 = .ok (.iload_n 1, 1) := by decide +kernel
theorem dX11_richest_54 : decode cX11_richest 54 = .ok (.ifCond .eq 11, 3) := by decide +kernel
theorem dX11_richest_57 : decode cX11_richest 57 = .ok (.aload_n 0, 1) := by decide +kernel
theorem dX11_richest_58 : decode cX11_richest 58 = .ok (.iload_n 2, 1) := by decide +kernel
theorem dX11_richest_59 : decode cX11_richest 59 = .ok (.invokevirtual 471, 3) := by decide +kernel
theorem dX11_richest_62 : decode cX11_richest 62 = .ok (.goto 4, 3) := by decide +kernel
theorem dX11_richest_65 : decode cX11_richest 65 = .ok (.iload_n 2, 1) := by decide +kernel
theorem dX11_richest_66 : decode cX11_richest 66 = .ok (.ireturn, 1) := by decide +kernel
theorem dX11_lent_0 : decode cX11_lent 0 = .ok (.aload_n 0, 1) := by decide +kernel
theorem dX11_lent_1 : decode cX11_lent 1 = .ok (.iload_n 1, 1) := by decide +kernel
theorem dX11_lent_2 : decode cX11_lent 2 = .ok (.invokevirtual 385, 3) := by decide +kernel
theorem dX11_lent_5 : decode cX11_lent 5 = .ok (.ifCond .eq 32, 3) := by decide +kernel
theorem dX11_lent_8 : decode cX11_lent 8 = .ok (.aload_n 0, 1) := by decide +kernel
theorem dX11_lent_9 : decode cX11_lent 9 = .ok (.iload_n 2, 1) := by decide +kernel
theorem dX11_lent_10 : decode cX11_lent 10 = .ok (.invokevirtual 385, 3) := by decide +kernel
theorem dX11_lent_13 : decode cX11_lent 13 = .ok (.ifCond .eq 24, 3) := by decide +kernel
theorem dX11_lent_16 : decode cX11_lent 16 = .ok (.iload_n 1, 1) := by decide +kernel
theorem dX11_lent_17 : decode cX11_lent 17 = .ok (.iload_n 2, 1) := by decide +kernel
theorem dX11_lent_18 : decode cX11_lent 18 = .ok (.if_icmp .eq 19, 3) := by decide +kernel
theorem dX11_lent_21 : decode cX11_lent 21 = .ok (.aload_n 0, 1) := by decide +kernel
theorem dX11_lent_22 : decode cX11_lent 22 = .ok (.getfield 134, 3) := by decide +kernel
theorem dX11_lent_25 : decode cX11_lent 25 = .ok (.bipush 33, 2) := by decide +kernel
theorem dX11_lent_27 : decode cX11_lent 27 = .ok (.iconst 5, 1) := by decide +kernel
theorem dX11_lent_28 : decode cX11_lent 28 = .ok (.iload_n 1, 1) := by decide +kernel
theorem dX11_lent_29 : decode cX11_lent 29 = .ok (.imul, 1) := by decide +kernel
theorem dX11_lent_30 : decode cX11_lent 30 = .ok (.iadd, 1) := by decide +kernel
theorem dX11_lent_31 : decode cX11_lent 31 = .ok (.iload_n 2, 1) := by decide +kernel
theorem dX11_lent_32 : decode cX11_lent 32 = .ok (.iadd, 1) := by decide +kernel
theorem dX11_lent_33 : decode cX11_lent 33 = .ok (.iaload, 1) := by decide +kernel
theorem dX11_lent_34 : decode cX11_lent 34 = .ok (.goto 4, 3) := by decide +kernel
theorem dX11_lent_37 : decode cX11_lent 37 = .ok (.iconst (-1), 1) := by decide +kernel
theorem dX11_lent_38 : decode cX11_lent 38 = .ok (.ireturn, 1) := by decide +kernel
theorem dX11_list_0 : decode cX11_list 0 = .ok (.aload_n 0, 1) := by decide +kernel
theorem dX11_list_1 : decode cX11_list 1 = .ok (.getfield 272, 3) := by decide +kernel
theorem dX11_list_4 : decode cX11_list 4 = .ok (.bipush 20, 2) := by decide +kernel
theorem dX11_list_6 : decode cX11_list 6 = .ok (.if_icmp .eq 20, 3) := by decide +kernel
theorem dX11_list_9 : decode cX11_list 9 = .ok (.aload_n 0, 1) := by decide +kernel
theorem dX11_list_10 : decode cX11_list 10 = .ok (.iload_n 1, 1) := by decide +kernel
theorem dX11_list_11 : decode cX11_list 11 = .ok (.invokevirtual 398, 3) := by decide +kernel
theorem dX11_list_14 : decode cX11_list 14 = .ok (.ifCond .eq 12, 3) := by decide +kernel
theorem dX11_list_17 : decode cX11_list 17 = .ok (.iload_n 2, 1) := by decide +kernel
theorem dX11_list_18 : decode cX11_list 18 = .ok (.iconst 0, 1) := by decide +kernel
theorem dX11_list_19 : decode cX11_list 19 = .ok (.iconst 2, 1) := by decide +kernel
theorem dX11_list_20 : decode cX11_list 20 = .ok (.invokestatic 335, 3) := by decide +kernel
theorem dX11_list_23 : decode cX11_list 23 = .ok (.ifCond .ne 5, 3) := by decide +kernel
theorem dX11_list_26 : decode cX11_list 26 = .ok (.iconst (-1), 1) := by decide +kernel
theorem dX11_list_27 : decode cX11_list 27 = .ok (.ireturn, 1) := by decide +kernel
theorem dX11_list_28 : decode cX11_list 28 = .ok (.iload_n 2, 1) := by decide +kernel
theorem dX11_list_29 : decode cX11_list 29 = .ok (.iconst 2, 1) := by decide +kernel
theorem dX11_list_30 : decode cX11_list 30 = .ok (.if_icmp .ne 14, 3) := by decide +kernel
theorem dX11_list_33 : decode cX11_list 33 = .ok (.aload_n 0, 1) := by decide +kernel
theorem dX11_list_34 : decode cX11_list 34 = .ok (.iload_n 3, 1) := by decide +kernel
theorem dX11_list_35 : decode cX11_list 35 = .ok (.invokevirtual 385, 3) := by decide +kernel
theorem dX11_list_38 : decode cX11_list 38 = .ok (.ifCond .ne 27, 3) := by decide +kernel
theorem dX11_list_41 : decode cX11_list 41 = .ok (.goto 22, 3) := by decide +kernel
theorem dX11_list_44 : decode cX11_list 44 = .ok (.iload_n 3, 1) := by decide +kernel
theorem dX11_list_45 : decode cX11_list 45 = .ok (.iconst 0, 1) := by decide +kernel
theorem dX11_list_46 : decode cX11_list 46 = .ok (.iload_n 2, 1) := by decide +kernel
theorem dX11_list_47 : decode cX11_list 47 = .ok (.ifCond .ne 8, 3) := by decide +kernel
theorem dX11_list_50 : decode cX11_list 50 = .ok (.bipush 9, 2) := by decide +kernel
theorem dX11_list_52 : decode cX11_list 52 = .ok (.goto 5, 3) := by decide +kernel
theorem dX11_list_55 : decode cX11_list 55 = .ok (.bipush 99, 2) := by decide +kernel
theorem dX11_list_57 : decode cX11_list 57 = .ok (.invokestatic 335, 3) := by decide +kernel
theorem dX11_list_60 : decode cX11_list 60 = .ok (.ifCond .ne 5, 3) := by decide +kernel
theorem dX11_list_63 : decode cX11_list 63 = .ok (.iconst (-1), 1) := by decide +kernel
theorem dX11_list_64 : decode cX11_list 64 = .ok (.ireturn, 1) := by decide +kernel
theorem dX11_list_65 : decode cX11_list 65 = .ok (.aload_n 0, 1) := by decide +kernel
theorem dX11_list_66 : decode cX11_list 66 = .ok (.getfield 155, 3) := by decide +kernel
theorem dX11_list_69 : decode cX11_list 69 = .ok (.aload_n 0, 1) := by decide +kernel
theorem dX11_list_70 : decode cX11_list 70 = .ok (.getfield 272, 3) := by decide +kernel
theorem dX11_list_73 : decode cX11_list 73 = .ok (.iload_n 1, 1) := by decide +kernel
theorem dX11_list_74 : decode cX11_list 74 = .ok (.iastore, 1) := by decide +kernel
theorem dX11_list_75 : decode cX11_list 75 = .ok (.aload_n 0, 1) := by decide +kernel
theorem dX11_list_76 : decode cX11_list 76 = .ok (.getfield 158, 3) := by decide +kernel
theorem dX11_list_79 : decode cX11_list 79 = .ok (.aload_n 0, 1) := by decide +kernel
theorem dX11_list_80 : decode cX11_list 80 = .ok (.getfield 272, 3) := by decide +kernel
theorem dX11_list_83 : decode cX11_list 83 = .ok (.iload_n 2, 1) := by decide +kernel
theorem dX11_list_84 : decode cX11_list 84 = .ok (.iastore, 1) := by decide +kernel
theorem dX11_list_85 : decode cX11_list 85 = .ok (.aload_n 0, 1) := by decide +kernel
theorem dX11_list_86 : decode cX11_list 86 = .ok (.getfield 161, 3) := by decide +kernel
theorem dX11_list_89 : decode cX11_list 89 = .ok (.aload_n 0, 1) := by decide +kernel
theorem dX11_list_90 : decode cX11_list 90 = .ok (.getfield 272, 3) := by decide +kernel
theorem dX11_list_93 : decode cX11_list 93 = .ok (.iload_n 3, 1) := by decide +kernel
theorem dX11_list_94 : decode cX11_list 94 = .ok (.iastore, 1) := by decide +kernel
theorem dX11_list_95 : decode cX11_list 95 = .ok (.aload_n 0, 1) := by decide +kernel
theorem dX11_list_96 : decode cX11_list 96 = .ok (.dup, 1) := by decide +kernel
theorem dX11_list_97 : decode cX11_list 97 = .ok (.getfield 272, 3) := by decide +kernel
theorem dX11_list_100 : decode cX11_list 100 = .ok (.iconst 1, 1) := by decide +kernel
theorem dX11_list_101 : decode cX11_list 101 = .ok (.iadd, 1) := by decide +kernel
theorem dX11_list_102 : decode cX11_list 102 = .ok (.putfield 272, 3) := by decide +kernel
theorem dX11_list_105 : decode cX11_list 105 = .ok (.aload_n 0, 1) := by decide +kernel
theorem dX11_list_106 : decode cX11_list 106 = .ok (.getfield 272, 3) := by decide +kernel
theorem dX11_list_109 : decode cX11_list 109 = .ok (.iconst 1, 1) := by decide +kernel
theorem dX11_list_110 : decode cX11_list 110 = .ok (.isub, 1) := by decide +kernel
theorem dX11_list_111 : decode cX11_list 111 = .ok (.ireturn, 1) := by decide +kernel
theorem dX11_forget_0 : decode cX11_forget 0 = .ok (.aload_n 0, 1) := by decide +kernel
theorem dX11_forget_1 : decode cX11_forget 1 = .ok (.getfield 272, 3) := by decide +kernel
theorem dX11_forget_4 : decode cX11_forget 4 = .ok (.istore_n 1, 1) := by decide +kernel
theorem dX11_forget_5 : decode cX11_forget 5 = .ok (.aload_n 0, 1) := by decide +kernel
theorem dX11_forget_6 : decode cX11_forget 6 = .ok (.iconst 0, 1) := by decide +kernel
theorem dX11_forget_7 : decode cX11_forget 7 = .ok (.putfield 272, 3) := by decide +kernel
theorem dX11_forget_10 : decode cX11_forget 10 = .ok (.iload_n 1, 1) := by decide +kernel
theorem dX11_forget_11 : decode cX11_forget 11 = .ok (.ireturn, 1) := by decide +kernel
theorem dX11_sixes_0 : decode cX11_sixes 0 = .ok (.iconst 1, 1) := by decide +kernel
theorem dX11_sixes_1 : decode cX11_sixes 1 = .ok (.istore_n 1, 1) := by decide +kernel
theorem dX11_sixes_2 : decode cX11_sixes 2 = .ok (.iconst 0, 1) := by decide +kernel
theorem dX11_sixes_3 : decode cX11_sixes 3 = .ok (.istore_n 2, 1) := by decide +kernel
theorem dX11_sixes_4 : decode cX11_sixes 4 = .ok (.iload_n 2, 1) := by decide +kernel
theorem dX11_sixes_5 : decode cX11_sixes 5 = .ok (.iload_n 0, 1) := by decide +kernel
theorem dX11_sixes_6 : decode cX11_sixes 6 = .ok (.if_icmp .ge 14, 3) := by decide +kernel
theorem dX11_sixes_9 : decode cX11_sixes 9 = .ok (.iload_n 1, 1) := by decide +kernel
theorem dX11_sixes_10 : decode cX11_sixes 10 = .ok (.bipush 6, 2) := by decide +kernel
theorem dX11_sixes_12 : decode cX11_sixes 12 = .ok (.imul, 1) := by decide +kernel
theorem dX11_sixes_13 : decode cX11_sixes 13 = .ok (.istore_n 1, 1) := by decide +kernel
theorem dX11_sixes_14 : decode cX11_sixes 14 = .ok (.iinc 2 1, 3) := by decide +kernel
theorem dX11_sixes_17 : decode cX11_sixes 17 = .ok (.goto (-13), 3) := by decide +kernel
theorem dX11_sixes_20 : decode cX11_sixes 20 = .ok (.iload_n 1, 1) := by decide +kernel
theorem dX11_sixes_21 : decode cX11_sixes 21 = .ok (.ireturn, 1) := by decide +kernel
theorem dX11_workIn_0 : decode cX11_workIn 0 = .ok (.iload_n 1, 1) := by decide +kernel
theorem dX11_workIn_1 : decode cX11_workIn 1 = .ok (.aload_n 0, 1) := by decide +kernel
theorem dX11_workIn_2 : decode cX11_workIn 2 = .ok (.getfield 58, 3) := by decide +kernel
theorem dX11_workIn_5 : decode cX11_workIn 5 = .ok (.aload_n 0, 1) := by decide +kernel
theorem dX11_workIn_6 : decode cX11_workIn 6 = .ok (.getfield 251, 3) := by decide +kernel
theorem dX11_workIn_9 : decode cX11_workIn 9 = .ok (.iaload, 1) := by decide +kernel
theorem dX11_workIn_10 : decode cX11_workIn 10 = .ok (.iconst 1, 1) := by decide +kernel
theorem dX11_workIn_11 : decode cX11_workIn 11 = .ok (.isub, 1) := by decide +kernel
theorem dX11_workIn_12 : decode cX11_workIn 12 = .ok (.iload_n 2, 1) := by decide +kernel
theorem dX11_workIn_13 : decode cX11_workIn 13 = .ok (.isub, 1) := by decide +kernel
theorem dX11_workIn_14 : decode cX11_workIn 14 = .ok (.invokestatic 474, 3) := by decide +kernel
theorem dX11_workIn_17 : decode cX11_workIn 17 = .ok (.idiv, 1) := by decide +kernel
theorem dX11_workIn_18 : decode cX11_workIn 18 = .ok (.bipush 6, 2) := by decide +kernel
theorem dX11_workIn_20 : decode cX11_workIn 20 = .ok (.irem, 1) := by decide +kernel
theorem dX11_workIn_21 : decode cX11_workIn 21 = .ok (.ireturn, 1) := by decide +kernel
theorem dX11_isPacking_0 : decode cX11_isPacking 0 = .ok (.iconst 0, 1) := by decide +kernel
theorem dX11_isPacking_1 : decode cX11_isPacking 1 = .ok (.istore_n 2, 1) := by decide +kernel
theorem dX11_isPacking_2 : decode cX11_isPacking 2 = .ok (.iconst 0, 1) := by decide +kernel
theorem dX11_isPacking_3 : decode cX11_isPacking 3 = .ok (.istore_n 3, 1) := by decide +kernel
theorem dX11_isPacking_4 : decode cX11_isPacking 4 = .ok (.iload_n 3, 1) := by decide +kernel
theorem dX11_isPacking_5 : decode cX11_isPacking 5 = .ok (.aload_n 0, 1) := by decide +kernel
theorem dX11_isPacking_6 : decode cX11_isPacking 6 = .ok (.getfield 58, 3) := by decide +kernel
theorem dX11_isPacking_9 : decode cX11_isPacking 9 = .ok (.aload_n 0, 1) := by decide +kernel
theorem dX11_isPacking_10 : decode cX11_isPacking 10 = .ok (.getfield 251, 3) := by decide +kernel
theorem dX11_isPacking_13 : decode cX11_isPacking 13 = .ok (.iaload, 1) := by decide +kernel
theorem dX11_isPacking_14 : decode cX11_isPacking 14 = .ok (.if_icmp .ge 45, 3) := by decide +kernel
theorem dX11_isPacking_17 : decode cX11_isPacking 17 = .ok (.aload_n 0, 1) := by decide +kernel
theorem dX11_isPacking_18 : decode cX11_isPacking 18 = .ok (.iload_n 1, 1) := by decide +kernel
theorem dX11_isPacking_19 : decode cX11_isPacking 19 = .ok (.iload_n 3, 1) := by decide +kernel
theorem dX11_isPacking_20 : decode cX11_isPacking 20 = .ok (.invokevirtual 477, 3) := by decide +kernel
theorem dX11_isPacking_23 : decode cX11_isPacking 23 = .ok (.istore 4, 2) := by decide +kernel
theorem dX11_isPacking_25 : decode cX11_isPacking 25 = .ok (.aload_n 0, 1) := by decide +kernel
theorem dX11_isPacking_26 : decode cX11_isPacking 26 = .ok (.iload 4, 2) := by decide +kernel
theorem dX11_isPacking_28 : decode cX11_isPacking 28 = .ok (.invokevirtual 398, 3) := by decide +kernel
theorem dX11_isPacking_31 : decode cX11_isPacking 31 = .ok (.ifCond .eq 13, 3) := by decide +kernel
theorem dX11_isPacking_34 : decode cX11_isPacking 34 = .ok (.iload_n 2, 1) := by decide +kernel
theorem dX11_isPacking_35 : decode cX11_isPacking 35 = .ok (.iload 4, 2) := by decide +kernel
theorem dX11_isPacking_37 : decode cX11_isPacking 37 = .ok (.ishr, 1) := by decide +kernel
theorem dX11_isPacking_38 : decode cX11_isPacking 38 = .ok (.iconst 1, 1) := by decide +kernel
theorem dX11_isPacking_39 : decode cX11_isPacking 39 = .ok (.iand, 1) := by decide +kernel
theorem dX11_isPacking_40 : decode cX11_isPacking 40 = .ok (.iconst 1, 1) := by decide +kernel
theorem dX11_isPacking_41 : decode cX11_isPacking 41 = .ok (.if_icmp .ne 5, 3) := by decide +kernel
theorem dX11_isPacking_44 : decode cX11_isPacking 44 = .ok (.iconst 0, 1) := by decide +kernel
theorem dX11_isPacking_45 : decode cX11_isPacking 45 = .ok (.ireturn, 1) := by decide +kernel
theorem dX11_isPacking_46 : decode cX11_isPacking 46 = .ok (.iload_n 2, 1) := by decide +kernel
theorem dX11_isPacking_47 : decode cX11_isPacking 47 = .ok (.iconst 1, 1) := by decide +kernel
theorem dX11_isPacking_48 : decode cX11_isPacking 48 = .ok (.iload 4, 2) := by decide +kernel
theorem dX11_isPacking_50 : decode cX11_isPacking 50 = .ok (.ishl, 1) := by decide +kernel
theorem dX11_isPacking_51 : decode cX11_isPacking 51 = .ok (.ior, 1) := by decide +kernel
theorem dX11_isPacking_52 : decode cX11_isPacking 52 = .ok (.istore_n 2, 1) := by decide +kernel
theorem dX11_isPacking_53 : decode cX11_isPacking 53 = .ok (.iinc 3 1, 3) := by decide +kernel
theorem dX11_isPacking_56 : decode cX11_isPacking 56 = .ok (.goto (-52), 3) := by decide +kernel
theorem dX11_isPacking_59 : decode cX11_isPacking 59 = .ok (.iconst 1, 1) := by decide +kernel
theorem dX11_isPacking_60 : decode cX11_isPacking 60 = .ok (.ireturn, 1) := by decide +kernel
theorem dX11_wrongBy_0 : decode cX11_wrongBy 0 = .ok (.iconst 0, 1) := by decide +kernel
theorem dX11_wrongBy_1 : decode cX11_wrongBy 1 = .ok (.istore_n 3, 1) := by decide +kernel
theorem dX11_wrongBy_2 : decode cX11_wrongBy 2 = .ok (.iconst 0, 1) := by decide +kernel
theorem dX11_wrongBy_3 : decode cX11_wrongBy 3 = .ok (.istore 4, 2) := by decide +kernel
theorem dX11_wrongBy_5 : decode cX11_wrongBy 5 = .ok (.iload 4, 2) := by decide +kernel
theorem dX11_wrongBy_7 : decode cX11_wrongBy 7 = .ok (.iload_n 2, 1) := by decide +kernel
theorem dX11_wrongBy_8 : decode cX11_wrongBy 8 = .ok (.if_icmp .ge 103, 3) := by decide +kernel
theorem dX11_wrongBy_11 : decode cX11_wrongBy 11 = .ok (.aload_n 0, 1) := by decide +kernel
theorem dX11_wrongBy_12 : decode cX11_wrongBy 12 = .ok (.iload_n 1, 1) := by decide +kernel
theorem dX11_wrongBy_13 : decode cX11_wrongBy 13 = .ok (.aload_n 0, 1) := by decide +kernel
theorem dX11_wrongBy_14 : decode cX11_wrongBy 14 = .ok (.getfield 155, 3) := by decide +kernel
theorem dX11_wrongBy_17 : decode cX11_wrongBy 17 = .ok (.iload 4, 2) := by decide +kernel
theorem dX11_wrongBy_19 : decode cX11_wrongBy 19 = .ok (.iaload, 1) := by decide +kernel
theorem dX11_wrongBy_20 : decode cX11_wrongBy 20 = .ok (.invokevirtual 477, 3) := by decide +kernel
theorem dX11_wrongBy_23 : decode cX11_wrongBy 23 = .ok (.istore 5, 2) := by decide +kernel
theorem dX11_wrongBy_25 : decode cX11_wrongBy 25 = .ok (.aload_n 0, 1) := by decide +kernel
theorem dX11_wrongBy_26 : decode cX11_wrongBy 26 = .ok (.getfield 158, 3) := by decide +kernel
theorem dX11_wrongBy_29 : decode cX11_wrongBy 29 = .ok (.iload 4, 2) := by decide +kernel
theorem dX11_wrongBy_31 : decode cX11_wrongBy 31 = .ok (.iaload, 1) := by decide +kernel
theorem dX11_wrongBy_32 : decode cX11_wrongBy 32 = .ok (.ifCond .ne 21, 3) := by decide +kernel
theorem dX11_wrongBy_35 : decode cX11_wrongBy 35 = .ok (.aload_n 0, 1) := by decide +kernel
theorem dX11_wrongBy_36 : decode cX11_wrongBy 36 = .ok (.getfield 67, 3) := by decide +kernel
theorem dX11_wrongBy_39 : decode cX11_wrongBy 39 = .ok (.bipush 6, 2) := by decide +kernel
theorem dX11_wrongBy_41 : decode cX11_wrongBy 41 = .ok (.aload_n 0, 1) := by decide +kernel
theorem dX11_wrongBy_42 : decode cX11_wrongBy 42 = .ok (.getfield 251, 3) := by decide +kernel
theorem dX11_wrongBy_45 : decode cX11_wrongBy 45 = .ok (.imul, 1) := by decide +kernel
theorem dX11_wrongBy_46 : decode cX11_wrongBy 46 = .ok (.iload 5, 2) := by decide +kernel
theorem dX11_wrongBy_48 : decode cX11_wrongBy 48 = .ok (.iadd, 1) := by decide +kernel
theorem dX11_wrongBy_49 : decode cX11_wrongBy 49 = .ok (.iaload, 1) := by decide +kernel
theorem dX11_wrongBy_50 : decode cX11_wrongBy 50 = .ok (.goto 38, 3) := by decide +kernel
theorem dX11_wrongBy_53 : decode cX11_wrongBy 53 = .ok (.aload_n 0, 1) := by decide +kernel
theorem dX11_wrongBy_54 : decode cX11_wrongBy 54 = .ok (.getfield 158, 3) := by decide +kernel
theorem dX11_wrongBy_57 : decode cX11_wrongBy 57 = .ok (.iload 4, 2) := by decide +kernel
theorem dX11_wrongBy_59 : decode cX11_wrongBy 59 = .ok (.iaload, 1) := by decide +kernel
theorem dX11_wrongBy_60 : decode cX11_wrongBy 60 = .ok (.iconst 1, 1) := by decide +kernel
theorem dX11_wrongBy_61 : decode cX11_wrongBy 61 = .ok (.if_icmp .ne 21, 3) := by decide +kernel
theorem dX11_wrongBy_64 : decode cX11_wrongBy 64 = .ok (.aload_n 0, 1) := by decide +kernel
theorem dX11_wrongBy_65 : decode cX11_wrongBy 65 = .ok (.getfield 70, 3) := by decide +kernel
theorem dX11_wrongBy_68 : decode cX11_wrongBy 68 = .ok (.bipush 6, 2) := by decide +kernel
theorem dX11_wrongBy_70 : decode cX11_wrongBy 70 = .ok (.aload_n 0, 1) := by decide +kernel
theorem dX11_wrongBy_71 : decode cX11_wrongBy 71 = .ok (.getfield 251, 3) := by decide +kernel
theorem dX11_wrongBy_74 : decode cX11_wrongBy 74 = .ok (.imul, 1) := by decide +kernel
theorem dX11_wrongBy_75 : decode cX11_wrongBy 75 = .ok (.iload 5, 2) := by decide +kernel
theorem dX11_wrongBy_77 : decode cX11_wrongBy 77 = .ok (.iadd, 1) := by decide +kernel
theorem dX11_wrongBy_78 : decode cX11_wrongBy 78 = .ok (.iaload, 1) := by decide +kernel
theorem dX11_wrongBy_79 : decode cX11_wrongBy 79 = .ok (.goto 9, 3) := by decide +kernel
theorem dX11_wrongBy_82 : decode cX11_wrongBy 82 = .ok (.aload_n 0, 1) := by decide +kernel
theorem dX11_wrongBy_83 : decode cX11_wrongBy 83 = .ok (.iload 5, 2) := by decide +kernel
theorem dX11_wrongBy_85 : decode cX11_wrongBy 85 = .ok (.invokevirtual 343, 3) := by decide +kernel
theorem dX11_wrongBy_88 : decode cX11_wrongBy 88 = .ok (.istore 6, 2) := by decide +kernel
theorem dX11_wrongBy_90 : decode cX11_wrongBy 90 = .ok (.iload 6, 2) := by decide +kernel
theorem dX11_wrongBy_92 : decode cX11_wrongBy 92 = .ok (.aload_n 0, 1) := by decide +kernel
theorem dX11_wrongBy_93 : decode cX11_wrongBy 93 = .ok (.getfield 161, 3) := by decide +kernel
theorem dX11_wrongBy_96 : decode cX11_wrongBy 96 = .ok (.iload 4, 2) := by decide +kernel
theorem dX11_wrongBy_98 : decode cX11_wrongBy 98 = .ok (.iaload, 1) := by decide +kernel
theorem dX11_wrongBy_99 : decode cX11_wrongBy 99 = .ok (.if_icmp .eq 6, 3) := by decide +kernel
theorem dX11_wrongBy_102 : decode cX11_wrongBy 102 = .ok (.iinc 3 1, 3) := by decide +kernel
theorem dX11_wrongBy_105 : decode cX11_wrongBy 105 = .ok (.iinc 4 1, 3) := by decide +kernel
theorem dX11_wrongBy_108 : decode cX11_wrongBy 108 = .ok (.goto (-103), 3) := by decide +kernel
theorem dX11_wrongBy_111 : decode cX11_wrongBy 111 = .ok (.iload_n 3, 1) := by decide +kernel
theorem dX11_wrongBy_112 : decode cX11_wrongBy 112 = .ok (.ireturn, 1) := by decide +kernel
theorem dX11_waysWith_0 : decode cX11_waysWith 0 = .ok (.iconst 0, 1) := by decide +kernel
theorem dX11_waysWith_1 : decode cX11_waysWith 1 = .ok (.istore_n 3, 1) := by decide +kernel
theorem dX11_waysWith_2 : decode cX11_waysWith 2 = .ok (.iconst 0, 1) := by decide +kernel
theorem dX11_waysWith_3 : decode cX11_waysWith 3 = .ok (.istore 4, 2) := by decide +kernel
theorem dX11_waysWith_5 : decode cX11_waysWith 5 = .ok (.iload 4, 2) := by decide +kernel
theorem dX11_waysWith_7 : decode cX11_waysWith 7 = .ok (.aload_n 0, 1) := by decide +kernel
theorem dX11_waysWith_8 : decode cX11_waysWith 8 = .ok (.getfield 58, 3) := by decide +kernel
theorem dX11_waysWith_11 : decode cX11_waysWith 11 = .ok (.aload_n 0, 1) := by decide +kernel
theorem dX11_waysWith_12 : decode cX11_waysWith 12 = .ok (.getfield 251, 3) := by decide +kernel
theorem dX11_waysWith_15 : decode cX11_waysWith 15 = .ok (.iaload, 1) := by decide +kernel
theorem dX11_waysWith_16 : decode cX11_waysWith 16 = .ok (.invokestatic 474, 3) := by decide +kernel
theorem dX11_waysWith_19 : decode cX11_waysWith 19 = .ok (.if_icmp .ge 32, 3) := by decide +kernel
theorem dX11_waysWith_22 : decode cX11_waysWith 22 = .ok (.aload_n 0, 1) := by decide +kernel
theorem dX11_waysWith_23 : decode cX11_waysWith 23 = .ok (.iload 4, 2) := by decide +kernel
theorem dX11_waysWith_25 : decode cX11_waysWith 25 = .ok (.invokevirtual 480, 3) := by decide +kernel
theorem dX11_waysWith_28 : decode cX11_waysWith 28 = .ok (.ifCond .eq 17, 3) := by decide +kernel
theorem dX11_waysWith_31 : decode cX11_waysWith 31 = .ok (.aload_n 0, 1) := by decide +kernel
theorem dX11_waysWith_32 : decode cX11_waysWith 32 = .ok (.iload 4, 2) := by decide +kernel
theorem dX11_waysWith_34 : decode cX11_waysWith 34 = .ok (.iload_n 1, 1) := by decide +kernel
theorem dX11_waysWith_35 : decode cX11_waysWith 35 = .ok (.invokevirtual 483, 3) := by decide +kernel
theorem dX11_waysWith_38 : decode cX11_waysWith 38 = .ok (.iload_n 2, 1) := by decide +kernel
theorem dX11_waysWith_39 : decode cX11_waysWith 39 = .ok (.if_icmp .ne 6, 3) := by decide +kernel
theorem dX11_waysWith_42 : decode cX11_waysWith 42 = .ok (.iinc 3 1, 3) := by decide +kernel
theorem dX11_waysWith_45 : decode cX11_waysWith 45 = .ok (.iinc 4 1, 3) := by decide +kernel
theorem dX11_waysWith_48 : decode cX11_waysWith 48 = .ok (.goto (-43), 3) := by decide +kernel
theorem dX11_waysWith_51 : decode cX11_waysWith 51 = .ok (.iload_n 3, 1) := by decide +kernel
theorem dX11_waysWith_52 : decode cX11_waysWith 52 = .ok (.ireturn, 1) := by decide +kernel
theorem dX11_leastOf_0 : decode cX11_leastOf 0 = .ok (.iconst (-1), 1) := by decide +kernel
theorem dX11_leastOf_1 : decode cX11_leastOf 1 = .ok (.istore_n 2, 1) := by decide +kernel
theorem dX11_leastOf_2 : decode cX11_leastOf 2 = .ok (.iconst 0, 1) := by decide +kernel
theorem dX11_leastOf_3 : decode cX11_leastOf 3 = .ok (.istore_n 3, 1) := by decide +kernel
theorem dX11_leastOf_4 : decode cX11_leastOf 4 = .ok (.iload_n 3, 1) := by decide +kernel
theorem dX11_leastOf_5 : decode cX11_leastOf 5 = .ok (.aload_n 0, 1) := by decide +kernel
theorem dX11_leastOf_6 : decode cX11_leastOf 6 = .ok (.getfield 58, 3) := by decide +kernel
theorem dX11_leastOf_9 : decode cX11_leastOf 9 = .ok (.aload_n 0, 1) := by decide +kernel
theorem dX11_leastOf_10 : decode cX11_leastOf 10 = .ok (.getfield 251, 3) := by decide +kernel
theorem dX11_leastOf_13 : decode cX11_leastOf 13 = .ok (.iaload, 1) := by decide +kernel
theorem dX11_leastOf_14 : decode cX11_leastOf 14 = .ok (.invokestatic 474, 3) := by decide +kernel
theorem dX11_leastOf_17 : decode cX11_leastOf 17 = .ok (.if_icmp .ge 38, 3) := by decide +kernel
theorem dX11_leastOf_20 : decode cX11_leastOf 20 = .ok (.aload_n 0, 1) := by decide +kernel
theorem dX11_leastOf_21 : decode cX11_leastOf 21 = .ok (.iload_n 3, 1) := by decide +kernel
theorem dX11_leastOf_22 : decode cX11_leastOf 22 = .ok (.invokevirtual 480, 3) := by decide +kernel
theorem dX11_leastOf_25 : decode cX11_leastOf 25 = .ok (.ifCond .eq 24, 3) := by decide +kernel
theorem dX11_leastOf_28 : decode cX11_leastOf 28 = .ok (.iload_n 2, 1) := by decide +kernel
theorem dX11_leastOf_29 : decode cX11_leastOf 29 = .ok (.ifCond .lt 13, 3) := by decide +kernel
theorem dX11_leastOf_32 : decode cX11_leastOf 32 = .ok (.aload_n 0, 1) := by decide +kernel
theorem dX11_leastOf_33 : decode cX11_leastOf 33 = .ok (.iload_n 3, 1) := by decide +kernel
theorem dX11_leastOf_34 : decode cX11_leastOf 34 = .ok (.iload_n 1, 1) := by decide +kernel
theorem dX11_leastOf_35 : decode cX11_leastOf 35 = .ok (.invokevirtual 483, 3) := by decide +kernel
theorem dX11_leastOf_38 : decode cX11_leastOf 38 = .ok (.iload_n 2, 1) := by decide +kernel
theorem dX11_leastOf_39 : decode cX11_leastOf 39 = .ok (.if_icmp .ge 10, 3) := by decide +kernel
theorem dX11_leastOf_42 : decode cX11_leastOf 42 = .ok (.aload_n 0, 1) := by decide +kernel
theorem dX11_leastOf_43 : decode cX11_leastOf 43 = .ok (.iload_n 3, 1) := by decide +kernel
theorem dX11_leastOf_44 : decode cX11_leastOf 44 = .ok (.iload_n 1, 1) := by decide +kernel
theorem dX11_leastOf_45 : decode cX11_leastOf 45 = .ok (.invokevirtual 483, 3) := by decide +kernel
theorem dX11_leastOf_48 : decode cX11_leastOf 48 = .ok (.istore_n 2, 1) := by decide +kernel
theorem dX11_leastOf_49 : decode cX11_leastOf 49 = .ok (.iinc 3 1, 3) := by decide +kernel
theorem dX11_leastOf_52 : decode cX11_leastOf 52 = .ok (.goto (-48), 3) := by decide +kernel
theorem dX11_leastOf_55 : decode cX11_leastOf 55 = .ok (.iload_n 2, 1) := by decide +kernel
theorem dX11_leastOf_56 : decode cX11_leastOf 56 = .ok (.ireturn, 1) := by decide +kernel
theorem dX11_fits_0 : decode cX11_fits 0 = .ok (.iload_n 1, 1) := by decide +kernel
theorem dX11_fits_1 : decode cX11_fits 1 = .ok (.iconst 0, 1) := by decide +kernel
theorem dX11_fits_2 : decode cX11_fits 2 = .ok (.aload_n 0, 1) := by decide +kernel
theorem dX11_fits_3 : decode cX11_fits 3 = .ok (.getfield 272, 3) := by decide +kernel
theorem dX11_fits_6 : decode cX11_fits 6 = .ok (.invokestatic 335, 3) := by decide +kernel
theorem dX11_fits_9 : decode cX11_fits 9 = .ok (.ifCond .eq 22, 3) := by decide +kernel
theorem dX11_fits_12 : decode cX11_fits 12 = .ok (.iload_n 2, 1) := by decide +kernel
theorem dX11_fits_13 : decode cX11_fits 13 = .ok (.iconst 0, 1) := by decide +kernel
theorem dX11_fits_14 : decode cX11_fits 14 = .ok (.bipush 20, 2) := by decide +kernel
theorem dX11_fits_16 : decode cX11_fits 16 = .ok (.invokestatic 335, 3) := by decide +kernel
theorem dX11_fits_19 : decode cX11_fits 19 = .ok (.ifCond .eq 12, 3) := by decide +kernel
theorem dX11_fits_22 : decode cX11_fits 22 = .ok (.aload_n 0, 1) := by decide +kernel
theorem dX11_fits_23 : decode cX11_fits 23 = .ok (.iload_n 1, 1) := by decide +kernel
theorem dX11_fits_24 : decode cX11_fits 24 = .ok (.iload_n 2, 1) := by decide +kernel
theorem dX11_fits_25 : decode cX11_fits 25 = .ok (.invokevirtual 486, 3) := by decide +kernel
theorem dX11_fits_28 : decode cX11_fits 28 = .ok (.goto 4, 3) := by decide +kernel
theorem dX11_fits_31 : decode cX11_fits 31 = .ok (.iconst (-1), 1) := by decide +kernel
theorem dX11_fits_32 : decode cX11_fits 32 = .ok (.ireturn, 1) := by decide +kernel
theorem dX11_least_0 : decode cX11_least 0 = .ok (.iload_n 1, 1) := by decide +kernel
theorem dX11_least_1 : decode cX11_least 1 = .ok (.iconst 0, 1) := by decide +kernel
theorem dX11_least_2 : decode cX11_least 2 = .ok (.aload_n 0, 1) := by decide +kernel
theorem dX11_least_3 : decode cX11_least 3 = .ok (.getfield 272, 3) := by decide +kernel
theorem dX11_least_6 : decode cX11_least 6 = .ok (.invokestatic 335, 3) := by decide +kernel
theorem dX11_least_9 : decode cX11_least 9 = .ok (.ifCond .eq 11, 3) := by decide +kernel
theorem dX11_least_12 : decode cX11_least 12 = .ok (.aload_n 0, 1) := by decide +kernel
theorem dX11_least_13 : decode cX11_least 13 = .ok (.iload_n 1, 1) := by decide +kernel
theorem dX11_least_14 : decode cX11_least 14 = .ok (.invokevirtual 489, 3) := by decide +kernel
theorem dX11_least_17 : decode cX11_least 17 = .ok (.goto 4, 3) := by decide +kernel
theorem dX11_least_20 : decode cX11_least 20 = .ok (.iconst (-1), 1) := by decide +kernel
theorem dX11_least_21 : decode cX11_least 21 = .ok (.ireturn, 1) := by decide +kernel
theorem dX11_sure_0 : decode cX11_sure 0 = .ok (.iload_n 1, 1) := by decide +kernel
theorem dX11_sure_1 : decode cX11_sure 1 = .ok (.iconst 0, 1) := by decide +kernel
theorem dX11_sure_2 : decode cX11_sure 2 = .ok (.aload_n 0, 1) := by decide +kernel
theorem dX11_sure_3 : decode cX11_sure 3 = .ok (.getfield 272, 3) := by decide +kernel
theorem dX11_sure_6 : decode cX11_sure 6 = .ok (.invokestatic 335, 3) := by decide +kernel
theorem dX11_sure_9 : decode cX11_sure 9 = .ok (.ifCond .eq 11, 3) := by decide +kernel
theorem dX11_sure_12 : decode cX11_sure 12 = .ok (.aload_n 0, 1) := by decide +kernel
theorem dX11_sure_13 : decode cX11_sure 13 = .ok (.iload_n 2, 1) := by decide +kernel
theorem dX11_sure_14 : decode cX11_sure 14 = .ok (.invokevirtual 398, 3) := by decide +kernel
theorem dX11_sure_17 : decode cX11_sure 17 = .ok (.ifCond .ne 5, 3) := by decide +kernel
theorem dX11_sure_20 : decode cX11_sure 20 = .ok (.iconst (-1), 1) := by decide +kernel
theorem dX11_sure_21 : decode cX11_sure 21 = .ok (.ireturn, 1) := by decide +kernel
theorem dX11_sure_22 : decode cX11_sure 22 = .ok (.aload_n 0, 1) := by decide +kernel
theorem dX11_sure_23 : decode cX11_sure 23 = .ok (.iload_n 1, 1) := by decide +kernel
theorem dX11_sure_24 : decode cX11_sure 24 = .ok (.invokevirtual 489, 3) := by decide +kernel
theorem dX11_sure_27 : decode cX11_sure 27 = .ok (.istore_n 3, 1) := by decide +kernel
theorem dX11_sure_28 : decode cX11_sure 28 = .ok (.iconst (-1), 1) := by decide +kernel
theorem dX11_sure_29 : decode cX11_sure 29 = .ok (.istore 4, 2) := by decide +kernel
theorem dX11_sure_31 : decode cX11_sure 31 = .ok (.iconst 0, 1) := by decide +kernel
theorem dX11_sure_32 : decode cX11_sure 32 = .ok (.istore 5, 2) := by decide +kernel
theorem dX11_sure_34 : decode cX11_sure 34 = .ok (.iload 5, 2) := by decide +kernel
theorem dX11_sure_36 : decode cX11_sure 36 = .ok (.aload_n 0, 1) := by decide +kernel
theorem dX11_sure_37 : decode cX11_sure 37 = .ok (.getfield 58, 3) := by decide +kernel
theorem dX11_sure_40 : decode cX11_sure 40 = .ok (.aload_n 0, 1) := by decide +kernel
theorem dX11_sure_41 : decode cX11_sure 41 = .ok (.getfield 251, 3) := by decide +kernel
theorem dX11_sure_44 : decode cX11_sure 44 = .ok (.iaload, 1) := by decide +kernel
theorem dX11_sure_45 : decode cX11_sure 45 = .ok (.invokestatic 474, 3) := by decide +kernel
theorem dX11_sure_48 : decode cX11_sure 48 = .ok (.if_icmp .ge 60, 3) := by decide +kernel
theorem dX11_sure_51 : decode cX11_sure 51 = .ok (.aload_n 0, 1) := by decide +kernel
theorem dX11_sure_52 : decode cX11_sure 52 = .ok (.iload 5, 2) := by decide +kernel
theorem dX11_sure_54 : decode cX11_sure 54 = .ok (.invokevirtual 480, 3) := by decide +kernel
theorem dX11_sure_57 : decode cX11_sure 57 = .ok (.ifCond .eq 45, 3) := by decide +kernel
theorem dX11_sure_60 : decode cX11_sure 60 = .ok (.aload_n 0, 1) := by decide +kernel
theorem dX11_sure_61 : decode cX11_sure 61 = .ok (.iload 5, 2) := by decide +kernel
theorem dX11_sure_63 : decode cX11_sure 63 = .ok (.iload_n 1, 1) := by decide +kernel
theorem dX11_sure_64 : decode cX11_sure 64 = .ok (.invokevirtual 483, 3) := by decide +kernel
theorem dX11_sure_67 : decode cX11_sure 67 = .ok (.iload_n 3, 1) := by decide +kernel
theorem dX11_sure_68 : decode cX11_sure 68 = .ok (.if_icmp .eq 6, 3) := by decide +kernel
theorem dX11_sure_71 : decode cX11_sure 71 = .ok (.goto 31, 3) := by decide +kernel
theorem dX11_sure_74 : decode cX11_sure 74 = .ok (.aload_n 0, 1) := by decide +kernel
theorem dX11_sure_75 : decode cX11_sure 75 = .ok (.iload 5, 2) := by decide +kernel
theorem dX11_sure_77 : decode cX11_sure 77 = .ok (.iload_n 2, 1) := by decide +kernel
theorem dX11_sure_78 : decode cX11_sure 78 = .ok (.invokevirtual 477, 3) := by decide +kernel
theorem dX11_sure_81 : decode cX11_sure 81 = .ok (.istore 6, 2) := by decide +kernel
theorem dX11_sure_83 : decode cX11_sure 83 = .ok (.iload 4, 2) := by decide +kernel
theorem dX11_sure_85 : decode cX11_sure 85 = .ok (.ifCond .lt 13, 3) := by decide +kernel
theorem dX11_sure_88 : decode cX11_sure 88 = .ok (.iload 4, 2) := by decide +kernel
theorem dX11_sure_90 : decode cX11_sure 90 = .ok (.iload 6, 2) := by decide +kernel
theorem dX11_sure_92 : decode cX11_sure 92 = .ok (.if_icmp .eq 6, 3) := by decide +kernel
theorem dX11_sure_95 : decode cX11_sure 95 = .ok (.bipush (-2), 2) := by decide +kernel
theorem dX11_sure_97 : decode cX11_sure 97 = .ok (.ireturn, 1) := by decide +kernel
theorem dX11_sure_98 : decode cX11_sure 98 = .ok (.iload 6, 2) := by decide +kernel
theorem dX11_sure_100 : decode cX11_sure 100 = .ok (.istore 4, 2) := by decide +kernel
theorem dX11_sure_102 : decode cX11_sure 102 = .ok (.iinc 5 1, 3) := by decide +kernel
theorem dX11_sure_105 : decode cX11_sure 105 = .ok (.goto (-71), 3) := by decide +kernel
theorem dX11_sure_108 : decode cX11_sure 108 = .ok (.iload 4, 2) := by decide +kernel
theorem dX11_sure_110 : decode cX11_sure 110 = .ok (.ireturn, 1) := by decide +kernel
theorem dX11_hold_0 : decode cX11_hold 0 = .ok (.iload_n 1, 1) := by decide +kernel
theorem dX11_hold_1 : decode cX11_hold 1 = .ok (.iconst 0, 1) := by decide +kernel
theorem dX11_hold_2 : decode cX11_hold 2 = .ok (.iconst 2, 1) := by decide +kernel
theorem dX11_hold_3 : decode cX11_hold 3 = .ok (.invokestatic 335, 3) := by decide +kernel
theorem dX11_hold_6 : decode cX11_hold 6 = .ok (.ifCond .ne 5, 3) := by decide +kernel
theorem dX11_hold_9 : decode cX11_hold 9 = .ok (.iconst 0, 1) := by decide +kernel
theorem dX11_hold_10 : decode cX11_hold 10 = .ok (.ireturn, 1) := by decide +kernel
theorem dX11_hold_11 : decode cX11_hold 11 = .ok (.aload_n 0, 1) := by decide +kernel
theorem dX11_hold_12 : decode cX11_hold 12 = .ok (.getfield 164, 3) := by decide +kernel
theorem dX11_hold_15 : decode cX11_hold 15 = .ok (.iload_n 1, 1) := by decide +kernel
theorem dX11_hold_16 : decode cX11_hold 16 = .ok (.iconst 1, 1) := by decide +kernel
theorem dX11_hold_17 : decode cX11_hold 17 = .ok (.bastore, 1) := by decide +kernel
theorem dX11_hold_18 : decode cX11_hold 18 = .ok (.iconst 0, 1) := by decide +kernel
theorem dX11_hold_19 : decode cX11_hold 19 = .ok (.istore_n 2, 1) := by decide +kernel
theorem dX11_hold_20 : decode cX11_hold 20 = .ok (.iload_n 2, 1) := by decide +kernel
theorem dX11_hold_21 : decode cX11_hold 21 = .ok (.bipush 60, 2) := by decide +kernel
theorem dX11_hold_23 : decode cX11_hold 23 = .ok (.if_icmp .ge 26, 3) := by decide +kernel
theorem dX11_hold_26 : decode cX11_hold 26 = .ok (.aload_n 0, 1) := by decide +kernel
theorem dX11_hold_27 : decode cX11_hold 27 = .ok (.getfield 167, 3) := by decide +kernel
theorem dX11_hold_30 : decode cX11_hold 30 = .ok (.bipush 60, 2) := by decide +kernel
theorem dX11_hold_32 : decode cX11_hold 32 = .ok (.iload_n 1, 1) := by decide +kernel
theorem dX11_hold_33 : decode cX11_hold 33 = .ok (.imul, 1) := by decide +kernel
theorem dX11_hold_34 : decode cX11_hold 34 = .ok (.iload_n 2, 1) := by decide +kernel
theorem dX11_hold_35 : decode cX11_hold 35 = .ok (.iadd, 1) := by decide +kernel
theorem dX11_hold_36 : decode cX11_hold 36 = .ok (.aload_n 0, 1) := by decide +kernel
theorem dX11_hold_37 : decode cX11_hold 37 = .ok (.getfield 134, 3) := by decide +kernel
theorem dX11_hold_40 : decode cX11_hold 40 = .ok (.iload_n 2, 1) := by decide +kernel
theorem dX11_hold_41 : decode cX11_hold 41 = .ok (.iaload, 1) := by decide +kernel
theorem dX11_hold_42 : decode cX11_hold 42 = .ok (.iastore, 1) := by decide +kernel
theorem dX11_hold_43 : decode cX11_hold 43 = .ok (.iinc 2 1, 3) := by decide +kernel
theorem dX11_hold_46 : decode cX11_hold 46 = .ok (.goto (-26), 3) := by decide +kernel
theorem dX11_hold_49 : decode cX11_hold 49 = .ok (.iconst 1, 1) := by decide +kernel
theorem dX11_hold_50 : decode cX11_hold 50 = .ok (.ireturn, 1) := by decide +kernel
theorem dX11_restore_0 : decode cX11_restore 0 = .ok (.iload_n 1, 1) := by decide +kernel
theorem dX11_restore_1 : decode cX11_restore 1 = .ok (.iconst 0, 1) := by decide +kernel
theorem dX11_restore_2 : decode cX11_restore 2 = .ok (.iconst 2, 1) := by decide +kernel
theorem dX11_restore_3 : decode cX11_restore 3 = .ok (.invokestatic 335, 3) := by decide +kernel
theorem dX11_restore_6 : decode cX11_restore 6 = .ok (.ifCond .eq 12, 3) := by decide +kernel
theorem dX11_restore_9 : decode cX11_restore 9 = .ok (.aload_n 0, 1) := by decide +kernel
theorem dX11_restore_10 : decode cX11_restore 10 = .ok (.getfield 164, 3) := by decide +kernel
theorem dX11_restore_13 : decode cX11_restore 13 = .ok (.iload_n 1, 1) := by decide +kernel
theorem dX11_restore_14 : decode cX11_restore 14 = .ok (.baload, 1) := by decide +kernel
theorem dX11_restore_15 : decode cX11_restore 15 = .ok (.ifCond .ne 5, 3) := by decide +kernel
theorem dX11_restore_18 : decode cX11_restore 18 = .ok (.iconst 0, 1) := by decide +kernel
theorem dX11_restore_19 : decode cX11_restore 19 = .ok (.ireturn, 1) := by decide +kernel
theorem dX11_restore_20 : decode cX11_restore 20 = .ok (.iconst 0, 1) := by decide +kernel
theorem dX11_restore_21 : decode cX11_restore 21 = .ok (.istore_n 2, 1) := by decide +kernel
theorem dX11_restore_22 : decode cX11_restore 22 = .ok (.iload_n 2, 1) := by decide +kernel
theorem dX11_restore_23 : decode cX11_restore 23 = .ok (.bipush 60, 2) := by decide +kernel
theorem dX11_restore_25 : decode cX11_restore 25 = .ok (.if_icmp .ge 26, 3) := by decide +kernel
theorem dX11_restore_28 : decode cX11_restore 28 = .ok (.aload_n 0, 1) := by decide +kernel
theorem dX11_restore_29 : decode cX11_restore 29 = .ok (.getfield 134, 3) := by decide +kernel
theorem dX11_restore_32 : decode cX11_restore 32 = .ok (.iload_n 2, 1) := by decide +kernel
theorem dX11_restore_33 : decode cX11_restore 33 = .ok (.aload_n 0, 1) := by decide +kernel
theorem dX11_restore_34 : decode cX11_restore 34 = .ok (.getfield 167, 3) := by decide +kernel
theorem dX11_restore_37 : decode cX11_restore 37 = .ok (.bipush 60, 2) := by decide +kernel
theorem dX11_restore_39 : decode cX11_restore 39 = .ok (.iload_n 1, 1) := by decide +kernel
theorem dX11_restore_40 : decode cX11_restore 40 = .ok (.imul, 1) := by decide +kernel
theorem dX11_restore_41 : decode cX11_restore 41 = .ok (.iload_n 2, 1) := by decide +kernel
theorem dX11_restore_42 : decode cX11_restore 42 = .ok (.iadd, 1) := by decide +kernel
theorem dX11_restore_43 : decode cX11_restore 43 = .ok (.iaload, 1) := by decide +kernel
theorem dX11_restore_44 : decode cX11_restore 44 = .ok (.iastore, 1) := by decide +kernel
theorem dX11_restore_45 : decode cX11_restore 45 = .ok (.iinc 2 1, 3) := by decide +kernel
theorem dX11_restore_48 : decode cX11_restore 48 = .ok (.goto (-26), 3) := by decide +kernel
theorem dX11_restore_51 : decode cX11_restore 51 = .ok (.aload_n 0, 1) := by decide +kernel
theorem dX11_restore_52 : decode cX11_restore 52 = .ok (.iconst 0, 1) := by decide +kernel
theorem dX11_restore_53 : decode cX11_restore 53 = .ok (.putfield 269, 3) := by decide +kernel
theorem dX11_restore_56 : decode cX11_restore 56 = .ok (.iconst 1, 1) := by decide +kernel
theorem dX11_restore_57 : decode cX11_restore 57 = .ok (.ireturn, 1) := by decide +kernel
theorem dX11_count_0 : decode cX11_count 0 = .ok (.aload_n 0, 1) := by decide +kernel
theorem dX11_count_1 : decode cX11_count 1 = .ok (.invokevirtual 388, 3) := by decide +kernel
theorem dX11_count_4 : decode cX11_count 4 = .ok (.iconst 0, 1) := by decide +kernel
theorem dX11_count_5 : decode cX11_count 5 = .ok (.istore_n 2, 1) := by decide +kernel
theorem dX11_count_6 : decode cX11_count 6 = .ok (.iload_n 1, 1) := by decide +kernel
theorem dX11_count_7 : decode cX11_count 7 = .ok (.tableswitch 259 0 12 #[65, 75, 85, 95, 95, 105, 143, 186, 191, 196, 201, 206, 251], 65) := by decide +kernel
theorem dX11_count_72 : decode cX11_count 72 = .ok (.aload_n 0, 1) := by decide +kernel
theorem dX11_count_73 : decode cX11_count 73 = .ok (.getfield 49, 3) := by decide +kernel
theorem dX11_count_76 : decode cX11_count 76 = .ok (.aload_n 0, 1) := by decide +kernel
theorem dX11_count_77 : decode cX11_count 77 = .ok (.getfield 251, 3) := by decide +kernel
theorem dX11_count_80 : decode cX11_count 80 = .ok (.iaload, 1) := by decide +kernel
theorem dX11_count_81 : decode cX11_count 81 = .ok (.ireturn, 1) := by decide +kernel
theorem dX11_count_82 : decode cX11_count 82 = .ok (.aload_n 0, 1) := by decide +kernel
theorem dX11_count_83 : decode cX11_count 83 = .ok (.getfield 58, 3) := by decide +kernel
theorem dX11_count_86 : decode cX11_count 86 = .ok (.aload_n 0, 1) := by decide +kernel
theorem dX11_count_87 : decode cX11_count 87 = .ok (.getfield 251, 3) := by decide +kernel
theorem dX11_count_90 : decode cX11_count 90 = .ok (.iaload, 1) := by decide +kernel
theorem dX11_count_91 : decode cX11_count 91 = .ok (.ireturn, 1) := by decide +kernel
theorem dX11_count_92 : decode cX11_count 92 = .ok (.aload_n 0, 1) := by decide +kernel
theorem dX11_count_93 : decode cX11_count 93 = .ok (.getfield 73, 3) := by decide +kernel
theorem dX11_count_96 : decode cX11_count 96 = .ok (.aload_n 0, 1) := by decide +kernel
theorem dX11_count_97 : decode cX11_count 97 = .ok (.getfield 251, 3) := by decide +kernel
theorem dX11_count_100 : decode cX11_count 100 = .ok (.iaload, 1) := by decide +kernel
theorem dX11_count_101 : decode cX11_count 101 = .ok (.ireturn, 1) := by decide +kernel
theorem dX11_count_102 : decode cX11_count 102 = .ok (.aload_n 0, 1) := by decide +kernel
theorem dX11_count_103 : decode cX11_count 103 = .ok (.getfield 137, 3) := by decide +kernel
theorem dX11_count_106 : decode cX11_count 106 = .ok (.bipush 27, 2) := by decide +kernel
theorem dX11_count_108 : decode cX11_count 108 = .ok (.iload_n 1, 1) := by decide +kernel
theorem dX11_count_109 : decode cX11_count 109 = .ok (.iadd, 1) := by decide +kernel
theorem dX11_count_110 : decode cX11_count 110 = .ok (.iaload, 1) := by decide +kernel
theorem dX11_count_111 : decode cX11_count 111 = .ok (.ireturn, 1) := by decide +kernel
theorem dX11_count_112 : decode cX11_count 112 = .ok (.iconst 0, 1) := by decide +kernel
theorem dX11_count_113 : decode cX11_count 113 = .ok (.istore_n 3, 1) := by decide +kernel
theorem dX11_count_114 : decode cX11_count 114 = .ok (.iload_n 3, 1) := by decide +kernel
theorem dX11_count_115 : decode cX11_count 115 = .ok (.aload_n 0, 1) := by decide +kernel
theorem dX11_count_116 : decode cX11_count 116 = .ok (.getfield 58, 3) := by decide +kernel
theorem dX11_count_119 : decode cX11_count 119 = .ok (.aload_n 0, 1) := by decide +kernel
theorem dX11_count_120 : decode cX11_count 120 = .ok (.getfield 251, 3) := by decide +kernel
theorem dX11_count_123 : decode cX11_count 123 = .ok (.iaload, 1) := by decide +kernel
theorem dX11_count_124 : decode cX11_count 124 = .ok (.if_icmp .ge 24, 3) := by decide +kernel
theorem dX11_count_127 : decode cX11_count 127 = .ok (.aload_n 0, 1) := by decide +kernel
theorem dX11_count_128 : decode cX11_count 128 = .ok (.getfield 137, 3) := by decide +kernel
theorem dX11_count_131 : decode cX11_count 131 = .ok (.iload_n 3, 1) := by decide +kernel
theorem dX11_count_132 : decode cX11_count 132 = .ok (.iaload, 1) := by decide +kernel
theorem dX11_count_133 : decode cX11_count 133 = .ok (.ifCond .ge 9, 3) := by decide +kernel
theorem dX11_count_136 : decode cX11_count 136 = .ok (.iload_n 2, 1) := by decide +kernel
theorem dX11_count_137 : decode cX11_count 137 = .ok (.iconst 1, 1) := by decide +kernel
theorem dX11_count_138 : decode cX11_count 138 = .ok (.iload_n 3, 1) := by decide +kernel
theorem dX11_count_139 : decode cX11_count 139 = .ok (.ishl, 1) := by decide +kernel
theorem dX11_count_140 : decode cX11_count 140 = .ok (.ior, 1) := by decide +kernel
theorem dX11_count_141 : decode cX11_count 141 = .ok (.istore_n 2, 1) := by decide +kernel
theorem dX11_count_142 : decode cX11_count 142 = .ok (.iinc 3 1, 3) := by decide +kernel
theorem dX11_count_145 : decode cX11_count 145 = .ok (.goto (-31), 3) := by decide +kernel
theorem dX11_count_148 : decode cX11_count 148 = .ok (.iload_n 2, 1) := by decide +kernel
theorem dX11_count_149 : decode cX11_count 149 = .ok (.ireturn, 1) := by decide +kernel
theorem dX11_count_150 : decode cX11_count 150 = .ok (.iconst 0, 1) := by decide +kernel
theorem dX11_count_151 : decode cX11_count 151 = .ok (.istore_n 3, 1) := by decide +kernel
theorem dX11_count_152 : decode cX11_count 152 = .ok (.iload_n 3, 1) := by decide +kernel
theorem dX11_count_153 : decode cX11_count 153 = .ok (.aload_n 0, 1) := by decide +kernel
theorem dX11_count_154 : decode cX11_count 154 = .ok (.getfield 58, 3) := by decide +kernel
theorem dX11_count_157 : decode cX11_count 157 = .ok (.aload_n 0, 1) := by decide +kernel
theorem dX11_count_158 : decode cX11_count 158 = .ok (.getfield 251, 3) := by decide +kernel
theorem dX11_count_161 : decode cX11_count 161 = .ok (.iaload, 1) := by decide +kernel
theorem dX11_count_162 : decode cX11_count 162 = .ok (.if_icmp .ge 29, 3) := by decide +kernel
theorem dX11_count_165 : decode cX11_count 165 = .ok (.aload_n 0, 1) := by decide +kernel
theorem dX11_count_166 : decode cX11_count 166 = .ok (.getfield 137, 3) := by decide +kernel
theorem dX11_count_169 : decode cX11_count 169 = .ok (.iload_n 3, 1) := by decide +kernel
theorem dX11_count_170 : decode cX11_count 170 = .ok (.iaload, 1) := by decide +kernel
theorem dX11_count_171 : decode cX11_count 171 = .ok (.aload_n 0, 1) := by decide +kernel
theorem dX11_count_172 : decode cX11_count 172 = .ok (.iload_n 3, 1) := by decide +kernel
theorem dX11_count_173 : decode cX11_count 173 = .ok (.invokevirtual 343, 3) := by decide +kernel
theorem dX11_count_176 : decode cX11_count 176 = .ok (.if_icmp .ne 9, 3) := by decide +kernel
theorem dX11_count_179 : decode cX11_count 179 = .ok (.iload_n 2, 1) := by decide +kernel
theorem dX11_count_180 : decode cX11_count 180 = .ok (.iconst 1, 1) := by decide +kernel
theorem dX11_count_181 : decode cX11_count 181 = .ok (.iload_n 3, 1) := by decide +kernel
theorem dX11_count_182 : decode cX11_count 182 = .ok (.ishl, 1) := by decide +kernel
theorem dX11_count_183 : decode cX11_count 183 = .ok (.ior, 1) := by decide +kernel
theorem dX11_count_184 : decode cX11_count 184 = .ok (.istore_n 2, 1) := by decide +kernel
theorem dX11_count_185 : decode cX11_count 185 = .ok (.iinc 3 1, 3) := by decide +kernel
theorem dX11_count_188 : decode cX11_count 188 = .ok (.goto (-36), 3) := by decide +kernel
theorem dX11_count_191 : decode cX11_count 191 = .ok (.iload_n 2, 1) := by decide +kernel
theorem dX11_count_192 : decode cX11_count 192 = .ok (.ireturn, 1) := by decide +kernel
theorem dX11_count_193 : decode cX11_count 193 = .ok (.aload_n 0, 1) := by decide +kernel
theorem dX11_count_194 : decode cX11_count 194 = .ok (.invokevirtual 372, 3) := by decide +kernel
theorem dX11_count_197 : decode cX11_count 197 = .ok (.ireturn, 1) := by decide +kernel
theorem dX11_count_198 : decode cX11_count 198 = .ok (.aload_n 0, 1) := by decide +kernel
theorem dX11_count_199 : decode cX11_count 199 = .ok (.getfield 188, 3) := by decide +kernel
theorem dX11_count_202 : decode cX11_count 202 = .ok (.ireturn, 1) := by decide +kernel
theorem dX11_count_203 : decode cX11_count 203 = .ok (.aload_n 0, 1) := by decide +kernel
theorem dX11_count_204 : decode cX11_count 204 = .ok (.getfield 269, 3) := by decide +kernel
theorem dX11_count_207 : decode cX11_count 207 = .ok (.ireturn, 1) := by decide +kernel
theorem dX11_count_208 : decode cX11_count 208 = .ok (.aload_n 0, 1) := by decide +kernel
theorem dX11_count_209 : decode cX11_count 209 = .ok (.getfield 272, 3) := by decide +kernel
theorem dX11_count_212 : decode cX11_count 212 = .ok (.ireturn, 1) := by decide +kernel
theorem dX11_count_213 : decode cX11_count 213 = .ok (.aload_n 0, 1) := by decide +kernel
theorem dX11_count_214 : decode cX11_count 214 = .ok (.getfield 164, 3) := by decide +kernel
theorem dX11_count_217 : decode cX11_count 217 = .ok (.iconst 0, 1) := by decide +kernel
theorem dX11_count_218 : decode cX11_count 218 = .ok (.baload, 1) := by decide +kernel
theorem dX11_count_219 : decode cX11_count 219 = .ok (.ifCond .eq 7, 3) := by decide +kernel
theorem dX11_count_222 : decode cX11_count 222 = .ok (.iconst 1, 1) := by decide +kernel
theorem dX11_count_223 : decode cX11_count 223 = .ok (.goto 4, 3) := by decide +kernel
theorem dX11_count_226 : decode cX11_count 226 = .ok (.iconst 0, 1) := by decide +kernel
theorem dX11_count_227 : decode cX11_count 227 = .ok (.aload_n 0, 1) := by decide +kernel
theorem dX11_count_228 : decode cX11_count 228 = .ok (.getfield 164, 3) := by decide +kernel
theorem dX11_count_231 : decode cX11_count 231 = .ok (.iconst 1, 1) := by decide +kernel
theorem dX11_count_232 : decode cX11_count 232 = .ok (.baload, 1) := by decide +kernel
theorem dX11_count_233 : decode cX11_count 233 = .ok (.ifCond .eq 7, 3) := by decide +kernel
theorem dX11_count_236 : decode cX11_count 236 = .ok (.iconst 1, 1) := by decide +kernel
theorem dX11_count_237 : decode cX11_count 237 = .ok (.goto 4, 3) := by decide +kernel
theorem dX11_count_240 : decode cX11_count 240 = .ok (.iconst 0, 1) := by decide +kernel
theorem dX11_count_241 : decode cX11_count 241 = .ok (.iadd, 1) := by decide +kernel
theorem dX11_count_242 : decode cX11_count 242 = .ok (.aload_n 0, 1) := by decide +kernel
theorem dX11_count_243 : decode cX11_count 243 = .ok (.getfield 164, 3) := by decide +kernel
theorem dX11_count_246 : decode cX11_count 246 = .ok (.iconst 2, 1) := by decide +kernel
theorem dX11_count_247 : decode cX11_count 247 = .ok (.baload, 1) := by decide +kernel
theorem dX11_count_248 : decode cX11_count 248 = .ok (.ifCond .eq 7, 3) := by decide +kernel
theorem dX11_count_251 : decode cX11_count 251 = .ok (.iconst 1, 1) := by decide +kernel
theorem dX11_count_252 : decode cX11_count 252 = .ok (.goto 4, 3) := by decide +kernel
theorem dX11_count_255 : decode cX11_count 255 = .ok (.iconst 0, 1) := by decide +kernel
theorem dX11_count_256 : decode cX11_count 256 = .ok (.iadd, 1) := by decide +kernel
theorem dX11_count_257 : decode cX11_count 257 = .ok (.ireturn, 1) := by decide +kernel
theorem dX11_count_258 : decode cX11_count 258 = .ok (.aload_n 0, 1) := by decide +kernel
theorem dX11_count_259 : decode cX11_count 259 = .ok (.getfield 137, 3) := by decide +kernel
theorem dX11_count_262 : decode cX11_count 262 = .ok (.bipush 32, 2) := by decide +kernel
theorem dX11_count_264 : decode cX11_count 264 = .ok (.iaload, 1) := by decide +kernel
theorem dX11_count_265 : decode cX11_count 265 = .ok (.ireturn, 1) := by decide +kernel
theorem dX11_count_266 : decode cX11_count 266 = .ok (.iconst (-1), 1) := by decide +kernel
theorem dX11_count_267 : decode cX11_count 267 = .ok (.ireturn, 1) := by decide +kernel
