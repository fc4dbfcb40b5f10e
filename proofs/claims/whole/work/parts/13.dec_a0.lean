theorem dX0_size_0 : decode cX0_size 0 = .ok (.aload_n 0, 1) := by decide +kernel
theorem dX0_size_1 : decode cX0_size 1 = .ok (.getfield 33, 3) := by decide +kernel
theorem dX0_size_4 : decode cX0_size 4 = .ok (.ireturn, 1) := by decide +kernel
theorem dX0_empty_0 : decode cX0_empty 0 = .ok (.aload_n 0, 1) := by decide +kernel
theorem dX0_empty_1 : decode cX0_empty 1 = .ok (.iconst 0, 1) := by decide +kernel
theorem dX0_empty_2 : decode cX0_empty 2 = .ok (.putfield 33, 3) := by decide +kernel
theorem dX0_empty_5 : decode cX0_empty 5 = .ok (.return_, 1) := by decide +kernel
theorem dX0_addList_0 : decode cX0_addList 0 = .ok (.aload_n 0, 1) := by decide +kernel
theorem dX0_addList_1 : decode cX0_addList 1 = .ok (.getfield 33, 3) := by decide +kernel
theorem dX0_addList_4 : decode cX0_addList 4 = .ok (.bipush 20, 2) := by decide +kernel
theorem dX0_addList_6 : decode cX0_addList 6 = .ok (.if_icmp .lt 5, 3) := by decide +kernel
theorem dX0_addList_9 : decode cX0_addList 9 = .ok (.iconst (-1), 1) := by decide +kernel
theorem dX0_addList_10 : decode cX0_addList 10 = .ok (.ireturn, 1) := by decide +kernel
theorem dX0_addList_11 : decode cX0_addList 11 = .ok (.aload_n 0, 1) := by decide +kernel
theorem dX0_addList_12 : decode cX0_addList 12 = .ok (.getfield 11, 3) := by decide +kernel
theorem dX0_addList_15 : decode cX0_addList 15 = .ok (.aload_n 0, 1) := by decide +kernel
theorem dX0_addList_16 : decode cX0_addList 16 = .ok (.getfield 33, 3) := by decide +kernel
theorem dX0_addList_19 : decode cX0_addList 19 = .ok (.iload_n 1, 1) := by decide +kernel
theorem dX0_addList_20 : decode cX0_addList 20 = .ok (.iastore, 1) := by decide +kernel
theorem dX0_addList_21 : decode cX0_addList 21 = .ok (.aload_n 0, 1) := by decide +kernel
theorem dX0_addList_22 : decode cX0_addList 22 = .ok (.getfield 15, 3) := by decide +kernel
theorem dX0_addList_25 : decode cX0_addList 25 = .ok (.aload_n 0, 1) := by decide +kernel
theorem dX0_addList_26 : decode cX0_addList 26 = .ok (.getfield 33, 3) := by decide +kernel
theorem dX0_addList_29 : decode cX0_addList 29 = .ok (.iload_n 2, 1) := by decide +kernel
theorem dX0_addList_30 : decode cX0_addList 30 = .ok (.iastore, 1) := by decide +kernel
theorem dX0_addList_31 : decode cX0_addList 31 = .ok (.aload_n 0, 1) := by decide +kernel
theorem dX0_addList_32 : decode cX0_addList 32 = .ok (.getfield 18, 3) := by decide +kernel
theorem dX0_addList_35 : decode cX0_addList 35 = .ok (.aload_n 0, 1) := by decide +kernel
theorem dX0_addList_36 : decode cX0_addList 36 = .ok (.getfield 33, 3) := by decide +kernel
theorem dX0_addList_39 : decode cX0_addList 39 = .ok (.iload_n 3, 1) := by decide +kernel
theorem dX0_addList_40 : decode cX0_addList 40 = .ok (.iastore, 1) := by decide +kernel
theorem dX0_addList_41 : decode cX0_addList 41 = .ok (.aload_n 0, 1) := by decide +kernel
theorem dX0_addList_42 : decode cX0_addList 42 = .ok (.dup, 1) := by decide +kernel
theorem dX0_addList_43 : decode cX0_addList 43 = .ok (.getfield 33, 3) := by decide +kernel
theorem dX0_addList_46 : decode cX0_addList 46 = .ok (.iconst 1, 1) := by decide +kernel
theorem dX0_addList_47 : decode cX0_addList 47 = .ok (.iadd, 1) := by decide +kernel
theorem dX0_addList_48 : decode cX0_addList 48 = .ok (.putfield 33, 3) := by decide +kernel
theorem dX0_addList_51 : decode cX0_addList 51 = .ok (.aload_n 0, 1) := by decide +kernel
theorem dX0_addList_52 : decode cX0_addList 52 = .ok (.getfield 33, 3) := by decide +kernel
theorem dX0_addList_55 : decode cX0_addList 55 = .ok (.iconst 1, 1) := by decide +kernel
theorem dX0_addList_56 : decode cX0_addList 56 = .ok (.isub, 1) := by decide +kernel
theorem dX0_addList_57 : decode cX0_addList 57 = .ok (.ireturn, 1) := by decide +kernel
theorem dX0_waysWith_0 : decode cX0_waysWith 0 = .ok (.aload_n 0, 1) := by decide +kernel
theorem dX0_waysWith_1 : decode cX0_waysWith 1 = .ok (.getfield 24, 3) := by decide +kernel
theorem dX0_waysWith_4 : decode cX0_waysWith 4 = .ok (.iload_n 1, 1) := by decide +kernel
theorem dX0_waysWith_5 : decode cX0_waysWith 5 = .ok (.iaload, 1) := by decide +kernel
theorem dX0_waysWith_6 : decode cX0_waysWith 6 = .ok (.ireturn, 1) := by decide +kernel
theorem dX0_fewestWrong_0 : decode cX0_fewestWrong 0 = .ok (.aload_n 0, 1) := by decide +kernel
theorem dX0_fewestWrong_1 : decode cX0_fewestWrong 1 = .ok (.getfield 37, 3) := by decide +kernel
theorem dX0_fewestWrong_4 : decode cX0_fewestWrong 4 = .ok (.ireturn, 1) := by decide +kernel
theorem dX0_couldHave_0 : decode cX0_couldHave 0 = .ok (.aload_n 0, 1) := by decide +kernel
theorem dX0_couldHave_1 : decode cX0_couldHave 1 = .ok (.getfield 30, 3) := by decide +kernel
theorem dX0_couldHave_4 : decode cX0_couldHave 4 = .ok (.iload_n 1, 1) := by decide +kernel
theorem dX0_couldHave_5 : decode cX0_couldHave 5 = .ok (.iaload, 1) := by decide +kernel
theorem dX0_couldHave_6 : decode cX0_couldHave 6 = .ok (.ireturn, 1) := by decide +kernel
theorem dX0_isRight_0 : decode cX0_isRight 0 = .ok (.aload_n 0, 1) := by decide +kernel
theorem dX0_isRight_1 : decode cX0_isRight 1 = .ok (.getfield 15, 3) := by decide +kernel
theorem dX0_isRight_4 : decode cX0_isRight 4 = .ok (.iload_n 2, 1) := by decide +kernel
theorem dX0_isRight_5 : decode cX0_isRight 5 = .ok (.iaload, 1) := by decide +kernel
theorem dX0_isRight_6 : decode cX0_isRight 6 = .ok (.lookupswitch 68 #[(0, 26), (1, 47)], 26) := by decide +kernel
theorem dX0_isRight_32 : decode cX0_isRight 32 = .ok (.aload_n 1, 1) := by decide +kernel
theorem dX0_isRight_33 : decode cX0_isRight 33 = .ok (.getfield 59, 3) := by decide +kernel
theorem dX0_isRight_36 : decode cX0_isRight 36 = .ok (.iload_n 3, 1) := by decide +kernel
theorem dX0_isRight_37 : decode cX0_isRight 37 = .ok (.iaload, 1) := by decide +kernel
theorem dX0_isRight_38 : decode cX0_isRight 38 = .ok (.aload_n 0, 1) := by decide +kernel
theorem dX0_isRight_39 : decode cX0_isRight 39 = .ok (.getfield 18, 3) := by decide +kernel
theorem dX0_isRight_42 : decode cX0_isRight 42 = .ok (.iload_n 2, 1) := by decide +kernel
theorem dX0_isRight_43 : decode cX0_isRight 43 = .ok (.iaload, 1) := by decide +kernel
theorem dX0_isRight_44 : decode cX0_isRight 44 = .ok (.if_icmp .ne 7, 3) := by decide +kernel
theorem dX0_isRight_47 : decode cX0_isRight 47 = .ok (.iconst 1, 1) := by decide +kernel
theorem dX0_isRight_48 : decode cX0_isRight 48 = .ok (.goto 4, 3) := by decide +kernel
theorem dX0_isRight_51 : decode cX0_isRight 51 = .ok (.iconst 0, 1) := by decide +kernel
theorem dX0_isRight_52 : decode cX0_isRight 52 = .ok (.ireturn, 1) := by decide +kernel
theorem dX0_isRight_53 : decode cX0_isRight 53 = .ok (.aload_n 1, 1) := by decide +kernel
theorem dX0_isRight_54 : decode cX0_isRight 54 = .ok (.getfield 62, 3) := by decide +kernel
theorem dX0_isRight_57 : decode cX0_isRight 57 = .ok (.iload_n 3, 1) := by decide +kernel
theorem dX0_isRight_58 : decode cX0_isRight 58 = .ok (.iaload, 1) := by decide +kernel
theorem dX0_isRight_59 : decode cX0_isRight 59 = .ok (.aload_n 0, 1) := by decide +kernel
theorem dX0_isRight_60 : decode cX0_isRight 60 = .ok (.getfield 18, 3) := by decide +kernel
theorem dX0_isRight_63 : decode cX0_isRight 63 = .ok (.iload_n 2, 1) := by decide +kernel
theorem dX0_isRight_64 : decode cX0_isRight 64 = .ok (.iaload, 1) := by decide +kernel
theorem dX0_isRight_65 : decode cX0_isRight 65 = .ok (.if_icmp .ne 7, 3) := by decide +kernel
theorem dX0_isRight_68 : decode cX0_isRight 68 = .ok (.iconst 1, 1) := by decide +kernel
theorem dX0_isRight_69 : decode cX0_isRight 69 = .ok (.goto 4, 3) := by decide +kernel
theorem dX0_isRight_72 : decode cX0_isRight 72 = .ok (.iconst 0, 1) := by decide +kernel
theorem dX0_isRight_73 : decode cX0_isRight 73 = .ok (.ireturn, 1) := by decide +kernel
theorem dX0_isRight_74 : decode cX0_isRight 74 = .ok (.aload_n 1, 1) := by decide +kernel
theorem dX0_isRight_75 : decode cX0_isRight 75 = .ok (.getfield 65, 3) := by decide +kernel
theorem dX0_isRight_78 : decode cX0_isRight 78 = .ok (.iload_n 3, 1) := by decide +kernel
theorem dX0_isRight_79 : decode cX0_isRight 79 = .ok (.iaload, 1) := by decide +kernel
theorem dX0_isRight_80 : decode cX0_isRight 80 = .ok (.aload_n 0, 1) := by decide +kernel
theorem dX0_isRight_81 : decode cX0_isRight 81 = .ok (.getfield 18, 3) := by decide +kernel
theorem dX0_isRight_84 : decode cX0_isRight 84 = .ok (.iload_n 2, 1) := by decide +kernel
theorem dX0_isRight_85 : decode cX0_isRight 85 = .ok (.iaload, 1) := by decide +kernel
theorem dX0_isRight_86 : decode cX0_isRight 86 = .ok (.if_icmp .ne 7, 3) := by decide +kernel
theorem dX0_isRight_89 : decode cX0_isRight 89 = .ok (.iconst 1, 1) := by decide +kernel
theorem dX0_isRight_90 : decode cX0_isRight 90 = .ok (.goto 4, 3) := by decide +kernel
theorem dX0_isRight_93 : decode cX0_isRight 93 = .ok (.iconst 0, 1) := by decide +kernel
theorem dX0_isRight_94 : decode cX0_isRight 94 = .ok (.ireturn, 1) := by decide +kernel
theorem dX0_keepWay_0 : decode cX0_keepWay 0 = .ok (.iload_n 2, 1) := by decide +kernel
theorem dX0_keepWay_1 : decode cX0_keepWay 1 = .ok (.bipush 20, 2) := by decide +kernel
theorem dX0_keepWay_3 : decode cX0_keepWay 3 = .ok (.if_icmp .le 4, 3) := by decide +kernel
theorem dX0_keepWay_6 : decode cX0_keepWay 6 = .ok (.return_, 1) := by decide +kernel
theorem dX0_keepWay_7 : decode cX0_keepWay 7 = .ok (.aload_n 0, 1) := by decide +kernel
theorem dX0_keepWay_8 : decode cX0_keepWay 8 = .ok (.getfield 24, 3) := by decide +kernel
theorem dX0_keepWay_11 : decode cX0_keepWay 11 = .ok (.iload_n 2, 1) := by decide +kernel
theorem dX0_keepWay_12 : decode cX0_keepWay 12 = .ok (.dup2, 1) := by decide +kernel
theorem dX0_keepWay_13 : decode cX0_keepWay 13 = .ok (.iaload, 1) := by decide +kernel
theorem dX0_keepWay_14 : decode cX0_keepWay 14 = .ok (.iconst 1, 1) := by decide +kernel
theorem dX0_keepWay_15 : decode cX0_keepWay 15 = .ok (.iadd, 1) := by decide +kernel
theorem dX0_keepWay_16 : decode cX0_keepWay 16 = .ok (.iastore, 1) := by decide +kernel
theorem dX0_keepWay_17 : decode cX0_keepWay 17 = .ok (.iload_n 2, 1) := by decide +kernel
theorem dX0_keepWay_18 : decode cX0_keepWay 18 = .ok (.aload_n 0, 1) := by decide +kernel
theorem dX0_keepWay_19 : decode cX0_keepWay 19 = .ok (.getfield 37, 3) := by decide +kernel
theorem dX0_keepWay_22 : decode cX0_keepWay 22 = .ok (.if_icmp .ge 16, 3) := by decide +kernel
theorem dX0_keepWay_25 : decode cX0_keepWay 25 = .ok (.aload_n 0, 1) := by decide +kernel
theorem dX0_keepWay_26 : decode cX0_keepWay 26 = .ok (.iload_n 2, 1) := by decide +kernel
theorem dX0_keepWay_27 : decode cX0_keepWay 27 = .ok (.putfield 37, 3) := by decide +kernel
theorem dX0_keepWay_30 : decode cX0_keepWay 30 = .ok (.aload_n 0, 1) := by decide +kernel
theorem dX0_keepWay_31 : decode cX0_keepWay 31 = .ok (.getfield 30, 3) := by decide +kernel
theorem dX0_keepWay_34 : decode cX0_keepWay 34 = .ok (.iconst 0, 1) := by decide +kernel
theorem dX0_keepWay_35 : decode cX0_keepWay 35 = .ok (.invokestatic 40, 3) := by decide +kernel
theorem dX0_keepWay_38 : decode cX0_keepWay 38 = .ok (.iload_n 2, 1) := by decide +kernel
theorem dX0_keepWay_39 : decode cX0_keepWay 39 = .ok (.aload_n 0, 1) := by decide +kernel
theorem dX0_keepWay_40 : decode cX0_keepWay 40 = .ok (.getfield 37, 3) := by decide +kernel
theorem dX0_keepWay_43 : decode cX0_keepWay 43 = .ok (.if_icmp .ne 33, 3) := by decide +kernel
theorem dX0_keepWay_46 : decode cX0_keepWay 46 = .ok (.iconst 0, 1) := by decide +kernel
theorem dX0_keepWay_47 : decode cX0_keepWay 47 = .ok (.istore_n 3, 1) := by decide +kernel
theorem dX0_keepWay_48 : decode cX0_keepWay 48 = .ok (.iload_n 3, 1) := by decide +kernel
theorem dX0_keepWay_49 : decode cX0_keepWay 49 = .ok (.iload_n 1, 1) := by decide +kernel
theorem dX0_keepWay_50 : decode cX0_keepWay 50 = .ok (.if_icmp .ge 26, 3) := by decide +kernel
theorem dX0_keepWay_53 : decode cX0_keepWay 53 = .ok (.aload_n 0, 1) := by decide +kernel
theorem dX0_keepWay_54 : decode cX0_keepWay 54 = .ok (.getfield 30, 3) := by decide +kernel
theorem dX0_keepWay_57 : decode cX0_keepWay 57 = .ok (.iload_n 3, 1) := by decide +kernel
theorem dX0_keepWay_58 : decode cX0_keepWay 58 = .ok (.dup2, 1) := by decide +kernel
theorem dX0_keepWay_59 : decode cX0_keepWay 59 = .ok (.iaload, 1) := by decide +kernel
theorem dX0_keepWay_60 : decode cX0_keepWay 60 = .ok (.iconst 1, 1) := by decide +kernel
theorem dX0_keepWay_61 : decode cX0_keepWay 61 = .ok (.aload_n 0, 1) := by decide +kernel
theorem dX0_keepWay_62 : decode cX0_keepWay 62 = .ok (.getfield 27, 3) := by decide +kernel
theorem dX0_keepWay_65 : decode cX0_keepWay 65 = .ok (.iload_n 3, 1) := by decide +kernel
theorem dX0_keepWay_66 : decode cX0_keepWay 66 = .ok (.iaload, 1) := by decide +kernel
theorem dX0_keepWay_67 : decode cX0_keepWay 67 = .ok (.ishl, 1) := by decide +kernel
theorem dX0_keepWay_68 : decode cX0_keepWay 68 = .ok (.ior, 1) := by decide +kernel
theorem dX0_keepWay_69 : decode cX0_keepWay 69 = .ok (.iastore, 1) := by decide +kernel
theorem dX0_keepWay_70 : decode cX0_keepWay 70 = .ok (.iinc 3 1, 3) := by decide +kernel
theorem dX0_keepWay_73 : decode cX0_keepWay 73 = .ok (.goto (-25), 3) := by decide +kernel
theorem dX0_keepWay_76 : decode cX0_keepWay 76 = .ok (.return_, 1) := by decide +kernel
theorem dX0_pack_0 : decode cX0_pack 0 = .ok (.iload_n 2, 1) := by decide +kernel
theorem dX0_pack_1 : decode cX0_pack 1 = .ok (.iload_n 1, 1) := by decide +kernel
theorem dX0_pack_2 : decode cX0_pack 2 = .ok (.if_icmp .ge 9, 3) := by decide +kernel
theorem dX0_pack_5 : decode cX0_pack 5 = .ok (.iload_n 2, 1) := by decide +kernel
theorem dX0_pack_6 : decode cX0_pack 6 = .ok (.bipush 6, 2) := by decide +kernel
theorem dX0_pack_8 : decode cX0_pack 8 = .ok (.if_icmp .lt 11, 3) := by decide +kernel
theorem dX0_pack_11 : decode cX0_pack 11 = .ok (.aload_n 0, 1) := by decide +kernel
theorem dX0_pack_12 : decode cX0_pack 12 = .ok (.iload_n 1, 1) := by decide +kernel
theorem dX0_pack_13 : decode cX0_pack 13 = .ok (.iload 4, 2) := by decide +kernel
theorem dX0_pack_15 : decode cX0_pack 15 = .ok (.invokevirtual 68, 3) := by decide +kernel
theorem dX0_pack_18 : decode cX0_pack 18 = .ok (.return_, 1) := by decide +kernel
theorem dX0_pack_19 : decode cX0_pack 19 = .ok (.iconst 0, 1) := by decide +kernel
theorem dX0_pack_20 : decode cX0_pack 20 = .ok (.istore 5, 2) := by decide +kernel
theorem dX0_pack_22 : decode cX0_pack 22 = .ok (.iload 5, 2) := by decide +kernel
theorem dX0_pack_24 : decode cX0_pack 24 = .ok (.iload_n 1, 1) := by decide +kernel
theorem dX0_pack_25 : decode cX0_pack 25 = .ok (.if_icmp .ge 55, 3) := by decide +kernel
theorem dX0_pack_28 : decode cX0_pack 28 = .ok (.iload_n 3, 1) := by decide +kernel
theorem dX0_pack_29 : decode cX0_pack 29 = .ok (.iload 5, 2) := by decide +kernel
theorem dX0_pack_31 : decode cX0_pack 31 = .ok (.ishr, 1) := by decide +kernel
theorem dX0_pack_32 : decode cX0_pack 32 = .ok (.iconst 1, 1) := by decide +kernel
theorem dX0_pack_33 : decode cX0_pack 33 = .ok (.iand, 1) := by decide +kernel
theorem dX0_pack_34 : decode cX0_pack 34 = .ok (.ifCond .ne 40, 3) := by decide +kernel
theorem dX0_pack_37 : decode cX0_pack 37 = .ok (.aload_n 0, 1) := by decide +kernel
theorem dX0_pack_38 : decode cX0_pack 38 = .ok (.getfield 27, 3) := by decide +kernel
theorem dX0_pack_41 : decode cX0_pack 41 = .ok (.iload_n 2, 1) := by decide +kernel
theorem dX0_pack_42 : decode cX0_pack 42 = .ok (.iload 5, 2) := by decide +kernel
theorem dX0_pack_44 : decode cX0_pack 44 = .ok (.iastore, 1) := by decide +kernel
theorem dX0_pack_45 : decode cX0_pack 45 = .ok (.aload_n 0, 1) := by decide +kernel
theorem dX0_pack_46 : decode cX0_pack 46 = .ok (.iload_n 1, 1) := by decide +kernel
theorem dX0_pack_47 : decode cX0_pack 47 = .ok (.iload_n 2, 1) := by decide +kernel
theorem dX0_pack_48 : decode cX0_pack 48 = .ok (.iconst 1, 1) := by decide +kernel
theorem dX0_pack_49 : decode cX0_pack 49 = .ok (.iadd, 1) := by decide +kernel
theorem dX0_pack_50 : decode cX0_pack 50 = .ok (.iload_n 3, 1) := by decide +kernel
theorem dX0_pack_51 : decode cX0_pack 51 = .ok (.iconst 1, 1) := by decide +kernel
theorem dX0_pack_52 : decode cX0_pack 52 = .ok (.iload 5, 2) := by decide +kernel
theorem dX0_pack_54 : decode cX0_pack 54 = .ok (.ishl, 1) := by decide +kernel
theorem dX0_pack_55 : decode cX0_pack 55 = .ok (.ior, 1) := by decide +kernel
theorem dX0_pack_56 : decode cX0_pack 56 = .ok (.iload 4, 2) := by decide +kernel
theorem dX0_pack_58 : decode cX0_pack 58 = .ok (.aload_n 0, 1) := by decide +kernel
theorem dX0_pack_59 : decode cX0_pack 59 = .ok (.getfield 21, 3) := by decide +kernel
theorem dX0_pack_62 : decode cX0_pack 62 = .ok (.iload_n 2, 1) := by decide +kernel
theorem dX0_pack_63 : decode cX0_pack 63 = .ok (.bipush 6, 2) := by decide +kernel
theorem dX0_pack_65 : decode cX0_pack 65 = .ok (.imul, 1) := by decide +kernel
theorem dX0_pack_66 : decode cX0_pack 66 = .ok (.iload 5, 2) := by decide +kernel
theorem dX0_pack_68 : decode cX0_pack 68 = .ok (.iadd, 1) := by decide +kernel
theorem dX0_pack_69 : decode cX0_pack 69 = .ok (.iaload, 1) := by decide +kernel
theorem dX0_pack_70 : decode cX0_pack 70 = .ok (.iadd, 1) := by decide +kernel
theorem dX0_pack_71 : decode cX0_pack 71 = .ok (.invokevirtual 55, 3) := by decide +kernel
theorem dX0_pack_74 : decode cX0_pack 74 = .ok (.iinc 5 1, 3) := by decide +kernel
theorem dX0_pack_77 : decode cX0_pack 77 = .ok (.goto (-55), 3) := by decide +kernel
theorem dX0_pack_80 : decode cX0_pack 80 = .ok (.return_, 1) := by decide +kernel
theorem dX0_goThrough_0 : decode cX0_goThrough 0 = .ok (.aload_n 0, 1) := by decide +kernel
theorem dX0_goThrough_1 : decode cX0_goThrough 1 = .ok (.getfield 21, 3) := by decide +kernel
theorem dX0_goThrough_4 : decode cX0_goThrough 4 = .ok (.iconst 0, 1) := by decide +kernel
theorem dX0_goThrough_5 : decode cX0_goThrough 5 = .ok (.invokestatic 40, 3) := by decide +kernel
theorem dX0_goThrough_8 : decode cX0_goThrough 8 = .ok (.aload_n 0, 1) := by decide +kernel
theorem dX0_goThrough_9 : decode cX0_goThrough 9 = .ok (.getfield 24, 3) := by decide +kernel
theorem dX0_goThrough_12 : decode cX0_goThrough 12 = .ok (.iconst 0, 1) := by decide +kernel
theorem dX0_goThrough_13 : decode cX0_goThrough 13 = .ok (.invokestatic 40, 3) := by decide +kernel
theorem dX0_goThrough_16 : decode cX0_goThrough 16 = .ok (.aload_n 0, 1) := by decide +kernel
theorem dX0_goThrough_17 : decode cX0_goThrough 17 = .ok (.bipush 21, 2) := by decide +kernel
theorem dX0_goThrough_19 : decode cX0_goThrough 19 = .ok (.putfield 37, 3) := by decide +kernel
theorem dX0_goThrough_22 : decode cX0_goThrough 22 = .ok (.iconst 0, 1) := by decide +kernel
theorem dX0_goThrough_23 : decode cX0_goThrough 23 = .ok (.istore_n 3, 1) := by decide +kernel
theorem dX0_goThrough_24 : decode cX0_goThrough 24 = .ok (.iload_n 3, 1) := by decide +kernel
theorem dX0_goThrough_25 : decode cX0_goThrough 25 = .ok (.iload_n 2, 1) := by decide +kernel
theorem dX0_goThrough_26 : decode cX0_goThrough 26 = .ok (.if_icmp .ge 67, 3) := by decide +kernel
theorem dX0_goThrough_29 : decode cX0_goThrough 29 = .ok (.iload_n 3, 1) := by decide +kernel
theorem dX0_goThrough_30 : decode cX0_goThrough 30 = .ok (.aload_n 0, 1) := by decide +kernel
theorem dX0_goThrough_31 : decode cX0_goThrough 31 = .ok (.getfield 33, 3) := by decide +kernel
theorem dX0_goThrough_34 : decode cX0_goThrough 34 = .ok (.if_icmp .ge 59, 3) := by decide +kernel
theorem dX0_goThrough_37 : decode cX0_goThrough 37 = .ok (.iconst 0, 1) := by decide +kernel
theorem dX0_goThrough_38 : decode cX0_goThrough 38 = .ok (.istore 4, 2) := by decide +kernel
theorem dX0_goThrough_40 : decode cX0_goThrough 40 = .ok (.iload 4, 2) := by decide +kernel
theorem dX0_goThrough_42 : decode cX0_goThrough 42 = .ok (.aload_n 1, 1) := by decide +kernel
theorem dX0_goThrough_43 : decode cX0_goThrough 43 = .ok (.getfield 46, 3) := by decide +kernel
theorem dX0_goThrough_46 : decode cX0_goThrough 46 = .ok (.if_icmp .ge 41, 3) := by decide +kernel
theorem dX0_goThrough_49 : decode cX0_goThrough 49 = .ok (.aload_n 0, 1) := by decide +kernel
theorem dX0_goThrough_50 : decode cX0_goThrough 50 = .ok (.aload_n 1, 1) := by decide +kernel
theorem dX0_goThrough_51 : decode cX0_goThrough 51 = .ok (.iload_n 3, 1) := by decide +kernel
theorem dX0_goThrough_52 : decode cX0_goThrough 52 = .ok (.iload 4, 2) := by decide +kernel
theorem dX0_goThrough_54 : decode cX0_goThrough 54 = .ok (.invokevirtual 51, 3) := by decide +kernel
theorem dX0_goThrough_57 : decode cX0_goThrough 57 = .ok (.ifCond .ne 24, 3) := by decide +kernel
theorem dX0_goThrough_60 : decode cX0_goThrough 60 = .ok (.aload_n 0, 1) := by decide +kernel
theorem dX0_goThrough_61 : decode cX0_goThrough 61 = .ok (.getfield 21, 3) := by decide +kernel
theorem dX0_goThrough_64 : decode cX0_goThrough 64 = .ok (.aload_n 0, 1) := by decide +kernel
theorem dX0_goThrough_65 : decode cX0_goThrough 65 = .ok (.getfield 11, 3) := by decide +kernel
theorem dX0_goThrough_68 : decode cX0_goThrough 68 = .ok (.iload_n 3, 1) := by decide +kernel
theorem dX0_goThrough_69 : decode cX0_goThrough 69 = .ok (.iaload, 1) := by decide +kernel
theorem dX0_goThrough_70 : decode cX0_goThrough 70 = .ok (.bipush 6, 2) := by decide +kernel
theorem dX0_goThrough_72 : decode cX0_goThrough 72 = .ok (.imul, 1) := by decide +kernel
theorem dX0_goThrough_73 : decode cX0_goThrough 73 = .ok (.iload 4, 2) := by decide +kernel
theorem dX0_goThrough_75 : decode cX0_goThrough 75 = .ok (.iadd, 1) := by decide +kernel
theorem dX0_goThrough_76 : decode cX0_goThrough 76 = .ok (.dup2, 1) := by decide +kernel
theorem dX0_goThrough_77 : decode cX0_goThrough 77 = .ok (.iaload, 1) := by decide +kernel
theorem dX0_goThrough_78 : decode cX0_goThrough 78 = .ok (.iconst 1, 1) := by decide +kernel
theorem dX0_goThrough_79 : decode cX0_goThrough 79 = .ok (.iadd, 1) := by decide +kernel
theorem dX0_goThrough_80 : decode cX0_goThrough 80 = .ok (.iastore, 1) := by decide +kernel
theorem dX0_goThrough_81 : decode cX0_goThrough 81 = .ok (.iinc 4 1, 3) := by decide +kernel
theorem dX0_goThrough_84 : decode cX0_goThrough 84 = .ok (.goto (-44), 3) := by decide +kernel
theorem dX0_goThrough_87 : decode cX0_goThrough 87 = .ok (.iinc 3 1, 3) := by decide +kernel
theorem dX0_goThrough_90 : decode cX0_goThrough 90 = .ok (.goto (-66), 3) := by decide +kernel
theorem dX0_goThrough_93 : decode cX0_goThrough 93 = .ok (.aload_n 0, 1) := by decide +kernel
theorem dX0_goThrough_94 : decode cX0_goThrough 94 = .ok (.aload_n 1, 1) := by decide +kernel
theorem dX0_goThrough_95 : decode cX0_goThrough 95 = .ok (.getfield 46, 3) := by decide +kernel
theorem dX0_goThrough_98 : decode cX0_goThrough 98 = .ok (.iconst 0, 1) := by decide +kernel
theorem dX0_goThrough_99 : decode cX0_goThrough 99 = .ok (.iconst 0, 1) := by decide +kernel
theorem dX0_goThrough_100 : decode cX0_goThrough 100 = .ok (.iconst 0, 1) := by decide +kernel
theorem dX0_goThrough_101 : decode cX0_goThrough 101 = .ok (.invokevirtual 55, 3) := by decide +kernel
theorem dX0_goThrough_104 : decode cX0_goThrough 104 = .ok (.return_, 1) := by decide +kernel
theorem dX1_size_0 : decode cX1_size 0 = .ok (.aload_n 0, 1) := by decide +kernel
theorem dX1_size_1 : decode cX1_size 1 = .ok (.getfield 15, 3) := by decide +kernel
theorem dX1_size_4 : decode cX1_size 4 = .ok (.ireturn, 1) := by decide +kernel
theorem dX1_empty_0 : decode cX1_empty 0 = .ok (.aload_n 0, 1) := by decide +kernel
theorem dX1_empty_1 : decode cX1_empty 1 = .ok (.iconst 0, 1) := by decide +kernel
theorem dX1_empty_2 : decode cX1_empty 2 = .ok (.putfield 15, 3) := by decide +kernel
theorem dX1_empty_5 : decode cX1_empty 5 = .ok (.return_, 1) := by decide +kernel
theorem dX1_keep_0 : decode cX1_keep 0 = .ok (.aload_n 1, 1) := by decide +kernel
theorem dX1_keep_1 : decode cX1_keep 1 = .ok (.iconst 0, 1) := by decide +kernel
theorem dX1_keep_2 : decode cX1_keep 2 = .ok (.aload_n 0, 1) := by decide +kernel
theorem dX1_keep_3 : decode cX1_keep 3 = .ok (.getfield 11, 3) := by decide +kernel
theorem dX1_keep_6 : decode cX1_keep 6 = .ok (.aload_n 0, 1) := by decide +kernel
theorem dX1_keep_7 : decode cX1_keep 7 = .ok (.getfield 19, 3) := by decide +kernel
theorem dX1_keep_10 : decode cX1_keep 10 = .ok (.bipush 47, 2) := by decide +kernel
theorem dX1_keep_12 : decode cX1_keep 12 = .ok (.imul, 1) := by decide +kernel
theorem dX1_keep_13 : decode cX1_keep 13 = .ok (.bipush 47, 2) := by decide +kernel
theorem dX1_keep_15 : decode cX1_keep 15 = .ok (.invokestatic 22, 3) := by decide +kernel
theorem dX1_keep_18 : decode cX1_keep 18 = .ok (.aload_n 0, 1) := by decide +kernel
theorem dX1_keep_19 : decode cX1_keep 19 = .ok (.aload_n 0, 1) := by decide +kernel
theorem dX1_keep_20 : decode cX1_keep 20 = .ok (.getfield 19, 3) := by decide +kernel
theorem dX1_keep_23 : decode cX1_keep 23 = .ok (.iconst 1, 1) := by decide +kernel
theorem dX1_keep_24 : decode cX1_keep 24 = .ok (.iadd, 1) := by decide +kernel
theorem dX1_keep_25 : decode cX1_keep 25 = .ok (.bipush 40, 2) := by decide +kernel
theorem dX1_keep_27 : decode cX1_keep 27 = .ok (.irem, 1) := by decide +kernel
theorem dX1_keep_28 : decode cX1_keep 28 = .ok (.putfield 19, 3) := by decide +kernel
theorem dX1_keep_31 : decode cX1_keep 31 = .ok (.aload_n 0, 1) := by decide +kernel
theorem dX1_keep_32 : decode cX1_keep 32 = .ok (.aload_n 0, 1) := by decide +kernel
theorem dX1_keep_33 : decode cX1_keep 33 = .ok (.getfield 15, 3) := by decide +kernel
theorem dX1_keep_36 : decode cX1_keep 36 = .ok (.iconst 1, 1) := by decide +kernel
theorem dX1_keep_37 : decode cX1_keep 37 = .ok (.iadd, 1) := by decide +kernel
theorem dX1_keep_38 : decode cX1_keep 38 = .ok (.bipush 40, 2) := by decide +kernel
theorem dX1_keep_40 : decode cX1_keep 40 = .ok (.invokestatic 28, 3) := by decide +kernel
theorem dX1_keep_43 : decode cX1_keep 43 = .ok (.putfield 15, 3) := by decide +kernel
theorem dX1_keep_46 : decode cX1_keep 46 = .ok (.return_, 1) := by decide +kernel
theorem dX1_takeBack_0 : decode cX1_takeBack 0 = .ok (.aload_n 0, 1) := by decide +kernel
theorem dX1_takeBack_1 : decode cX1_takeBack 1 = .ok (.getfield 15, 3) := by decide +kernel
theorem dX1_takeBack_4 : decode cX1_takeBack 4 = .ok (.ifCond .le 47, 3) := by decide +kernel
theorem dX1_takeBack_7 : decode cX1_takeBack 7 = .ok (.aload_n 0, 1) := by decide +kernel
theorem dX1_takeBack_8 : decode cX1_takeBack 8 = .ok (.aload_n 0, 1) := by decide +kernel
theorem dX1_takeBack_9 : decode cX1_takeBack 9 = .ok (.getfield 19, 3) := by decide +kernel
theorem dX1_takeBack_12 : decode cX1_takeBack 12 = .ok (.bipush 40, 2) := by decide +kernel
theorem dX1_takeBack_14 : decode cX1_takeBack 14 = .ok (.iadd, 1) := by decide +kernel
theorem dX1_takeBack_15 : decode cX1_takeBack 15 = .ok (.iconst 1, 1) := by decide +kernel
theorem dX1_takeBack_16 : decode cX1_takeBack 16 = .ok (.isub, 1) := by decide +kernel
theorem dX1_takeBack_17 : decode cX1_takeBack 17 = .ok (.bipush 40, 2) := by decide +kernel
theorem dX1_takeBack_19 : decode cX1_takeBack 19 = .ok (.irem, 1) := by decide +kernel
theorem dX1_takeBack_20 : decode cX1_takeBack 20 = .ok (.putfield 19, 3) := by decide +kernel
theorem dX1_takeBack_23 : decode cX1_takeBack 23 = .ok (.aload_n 0, 1) := by decide +kernel
theorem dX1_takeBack_24 : decode cX1_takeBack 24 = .ok (.dup, 1) := by decide +kernel
theorem dX1_takeBack_25 : decode cX1_takeBack 25 = .ok (.getfield 15, 3) := by decide +kernel
theorem dX1_takeBack_28 : decode cX1_takeBack 28 = .ok (.iconst 1, 1) := by decide +kernel
theorem dX1_takeBack_29 : decode cX1_takeBack 29 = .ok (.isub, 1) := by decide +kernel
theorem dX1_takeBack_30 : decode cX1_takeBack 30 = .ok (.putfield 15, 3) := by decide +kernel
theorem dX1_takeBack_33 : decode cX1_takeBack 33 = .ok (.aload_n 0, 1) := by decide +kernel
theorem dX1_takeBack_34 : decode cX1_takeBack 34 = .ok (.getfield 11, 3) := by decide +kernel
theorem dX1_takeBack_37 : decode cX1_takeBack 37 = .ok (.aload_n 0, 1) := by decide +kernel
theorem dX1_takeBack_38 : decode cX1_takeBack 38 = .ok (.getfield 19, 3) := by decide +kernel
theorem dX1_takeBack_41 : decode cX1_takeBack 41 = .ok (.bipush 47, 2) := by decide +kernel
theorem dX1_takeBack_43 : decode cX1_takeBack 43 = .ok (.imul, 1) := by decide +kernel
theorem dX1_takeBack_44 : decode cX1_takeBack 44 = .ok (.aload_n 1, 1) := by decide +kernel
theorem dX1_takeBack_45 : decode cX1_takeBack 45 = .ok (.iconst 0, 1) := by decide +kernel
theorem dX1_takeBack_46 : decode cX1_takeBack 46 = .ok (.bipush 47, 2) := by decide +kernel
theorem dX1_takeBack_48 : decode cX1_takeBack 48 = .ok (.invokestatic 22, 3) := by decide +kernel
theorem dX1_takeBack_51 : decode cX1_takeBack 51 = .ok (.return_, 1) := by decide +kernel
theorem dX2_faultPlace_0 : decode cX2_faultPlace 0 = .ok (.aload_n 0, 1) := by decide +kernel
theorem dX2_faultPlace_1 : decode cX2_faultPlace 1 = .ok (.getfield 22, 3) := by decide +kernel
theorem dX2_faultPlace_4 : decode cX2_faultPlace 4 = .ok (.ireturn, 1) := by decide +kernel
theorem dX8_put_0 : decode cX8_put 0 = .ok (.aload_n 0, 1) := by decide +kernel
theorem dX8_put_1 : decode cX8_put 1 = .ok (.getfield 64, 3) := by decide +kernel
theorem dX8_put_4 : decode cX8_put 4 = .ok (.sipush 408, 3) := by decide +kernel
theorem dX8_put_7 : decode cX8_put 7 = .ok (.if_icmp .ge 32, 3) := by decide +kernel
theorem dX8_put_10 : decode cX8_put 10 = .ok (.aload_n 0, 1) := by decide +kernel
theorem dX8_put_11 : decode cX8_put 11 = .ok (.getfield 39, 3) := by decide +kernel
theorem dX8_put_14 : decode cX8_put 14 = .ok (.aload_n 0, 1) := by decide +kernel
theorem dX8_put_15 : decode cX8_put 15 = .ok (.getfield 64, 3) := by decide +kernel
theorem dX8_put_18 : decode cX8_put 18 = .ok (.iload_n 1, 1) := by decide +kernel
theorem dX8_put_19 : decode cX8_put 19 = .ok (.bipush 14, 2) := by decide +kernel
theorem dX8_put_21 : decode cX8_put 21 = .ok (.ishl, 1) := by decide +kernel
theorem dX8_put_22 : decode cX8_put 22 = .ok (.iload_n 2, 1) := by decide +kernel
theorem dX8_put_23 : decode cX8_put 23 = .ok (.sipush 16383, 3) := by decide +kernel
theorem dX8_put_26 : decode cX8_put 26 = .ok (.iand, 1) := by decide +kernel
theorem dX8_put_27 : decode cX8_put 27 = .ok (.ior, 1) := by decide +kernel
theorem dX8_put_28 : decode cX8_put 28 = .ok (.iastore, 1) := by decide +kernel
theorem dX8_put_29 : decode cX8_put 29 = .ok (.aload_n 0, 1) := by decide +kernel
theorem dX8_put_30 : decode cX8_put 30 = .ok (.dup, 1) := by decide +kernel
theorem dX8_put_31 : decode cX8_put 31 = .ok (.getfield 64, 3) := by decide +kernel
theorem dX8_put_34 : decode cX8_put 34 = .ok (.iconst 1, 1) := by decide +kernel
theorem dX8_put_35 : decode cX8_put 35 = .ok (.iadd, 1) := by decide +kernel
theorem dX8_put_36 : decode cX8_put 36 = .ok (.putfield 64, 3) := by decide +kernel
theorem dX8_put_39 : decode cX8_put 39 = .ok (.return_, 1) := by decide +kernel
theorem dX8_clear_0 : decode cX8_clear 0 = .ok (.aload_n 0, 1) := by decide +kernel
theorem dX8_clear_1 : decode cX8_clear 1 = .ok (.iconst 0, 1) := by decide +kernel
theorem dX8_clear_2 : decode cX8_clear 2 = .ok (.putfield 45, 3) := by decide +kernel
theorem dX8_clear_5 : decode cX8_clear 5 = .ok (.aload_n 0, 1) := by decide +kernel
theorem dX8_clear_6 : decode cX8_clear 6 = .ok (.iconst 0, 1) := by decide +kernel
theorem dX8_clear_7 : decode cX8_clear 7 = .ok (.putfield 49, 3) := by decide +kernel
theorem dX8_clear_10 : decode cX8_clear 10 = .ok (.aload_n 0, 1) := by decide +kernel
theorem dX8_clear_11 : decode cX8_clear 11 = .ok (.iconst 0, 1) := by decide +kernel
theorem dX8_clear_12 : decode cX8_clear 12 = .ok (.putfield 52, 3) := by decide +kernel
theorem dX8_clear_15 : decode cX8_clear 15 = .ok (.aload_n 0, 1) := by decide +kernel
theorem dX8_clear_16 : decode cX8_clear 16 = .ok (.iconst 0, 1) := by decide +kernel
theorem dX8_clear_17 : decode cX8_clear 17 = .ok (.putfield 55, 3) := by decide +kernel
theorem dX8_clear_20 : decode cX8_clear 20 = .ok (.aload_n 0, 1) := by decide +kernel
theorem dX8_clear_21 : decode cX8_clear 21 = .ok (.iconst 1, 1) := by decide +kernel
theorem dX8_clear_22 : decode cX8_clear 22 = .ok (.putfield 58, 3) := by decide +kernel
theorem dX8_clear_25 : decode cX8_clear 25 = .ok (.aload_n 0, 1) := by decide +kernel
theorem dX8_clear_26 : decode cX8_clear 26 = .ok (.iconst 0, 1) := by decide +kernel
theorem dX8_clear_27 : decode cX8_clear 27 = .ok (.putfield 61, 3) := by decide +kernel
theorem dX8_clear_30 : decode cX8_clear 30 = .ok (.aload_n 0, 1) := by decide +kernel
theorem dX8_clear_31 : decode cX8_clear 31 = .ok (.iconst 0, 1) := by decide +kernel
theorem dX8_clear_32 : decode cX8_clear 32 = .ok (.putfield 64, 3) := by decide +kernel
theorem dX8_clear_35 : decode cX8_clear 35 = .ok (.aload_n 0, 1) := by decide +kernel
theorem dX8_clear_36 : decode cX8_clear 36 = .ok (.aload_n 0, 1) := by decide +kernel
theorem dX8_clear_37 : decode cX8_clear 37 = .ok (.getfield 64, 3) := by decide +kernel
theorem dX8_clear_40 : decode cX8_clear 40 = .ok (.putfield 67, 3) := by decide +kernel
theorem dX8_clear_43 : decode cX8_clear 43 = .ok (.aload_n 0, 1) := by decide +kernel
theorem dX8_clear_44 : decode cX8_clear 44 = .ok (.iconst 0, 1) := by decide +kernel
theorem dX8_clear_45 : decode cX8_clear 45 = .ok (.iconst 3, 1) := by decide +kernel
theorem dX8_clear_46 : decode cX8_clear 46 = .ok (.invokevirtual 70, 3) := by decide +kernel
theorem dX8_clear_49 : decode cX8_clear 49 = .ok (.aload_n 0, 1) := by decide +kernel
theorem dX8_clear_50 : decode cX8_clear 50 = .ok (.bipush 7, 2) := by decide +kernel
theorem dX8_clear_52 : decode cX8_clear 52 = .ok (.iconst 0, 1) := by decide +kernel
theorem dX8_clear_53 : decode cX8_clear 53 = .ok (.invokevirtual 70, 3) := by decide +kernel
theorem dX8_clear_56 : decode cX8_clear 56 = .ok (.aload_n 0, 1) := by decide +kernel
theorem dX8_clear_57 : decode cX8_clear 57 = .ok (.aload_n 0, 1) := by decide +kernel
theorem dX8_clear_58 : decode cX8_clear 58 = .ok (.getfield 64, 3) := by decide +kernel
theorem dX8_clear_61 : decode cX8_clear 61 = .ok (.putfield 74, 3) := by decide +kernel
theorem dX8_clear_64 : decode cX8_clear 64 = .ok (.aload_n 0, 1) := by decide +kernel
theorem dX8_clear_65 : decode cX8_clear 65 = .ok (.iconst 1, 1) := by decide +kernel
theorem dX8_clear_66 : decode cX8_clear 66 = .ok (.iconst 3, 1) := by decide +kernel
theorem dX8_clear_67 : decode cX8_clear 67 = .ok (.invokevirtual 70, 3) := by decide +kernel
theorem dX8_clear_70 : decode cX8_clear 70 = .ok (.aload_n 0, 1) := by decide +kernel
theorem dX8_clear_71 : decode cX8_clear 71 = .ok (.bipush 7, 2) := by decide +kernel
theorem dX8_clear_73 : decode cX8_clear 73 = .ok (.iconst 0, 1) := by decide +kernel
theorem dX8_clear_74 : decode cX8_clear 74 = .ok (.invokevirtual 70, 3) := by decide +kernel
theorem dX8_clear_77 : decode cX8_clear 77 = .ok (.return_, 1) := by decide +kernel
theorem dX7_sortAt_0 : decode cX7_sortAt 0 = .ok (.iload_n 1, 1) := by decide +kernel
theorem dX7_sortAt_1 : decode cX7_sortAt 1 = .ok (.ifCond .lt 20, 3) := by decide +kernel
theorem dX7_sortAt_4 : decode cX7_sortAt 4 = .ok (.iload_n 1, 1) := by decide +kernel
theorem dX7_sortAt_5 : decode cX7_sortAt 5 = .ok (.aload_n 0, 1) := by decide +kernel
theorem dX7_sortAt_6 : decode cX7_sortAt 6 = .ok (.getfield 41, 3) := by decide +kernel
theorem dX7_sortAt_9 : decode cX7_sortAt 9 = .ok (.if_icmp .ge 12, 3) := by decide +kernel
theorem dX7_sortAt_12 : decode cX7_sortAt 12 = .ok (.aload_n 0, 1) := by decide +kernel
theorem dX7_sortAt_13 : decode cX7_sortAt 13 = .ok (.getfield 11, 3) := by decide +kernel
theorem dX7_sortAt_16 : decode cX7_sortAt 16 = .ok (.iload_n 1, 1) := by decide +kernel
theorem dX7_sortAt_17 : decode cX7_sortAt 17 = .ok (.iaload, 1) := by decide +kernel
theorem dX7_sortAt_18 : decode cX7_sortAt 18 = .ok (.goto 4, 3) := by decide +kernel
theorem dX7_sortAt_21 : decode cX7_sortAt 21 = .ok (.iconst 0, 1) := by decide +kernel
theorem dX7_sortAt_22 : decode cX7_sortAt 22 = .ok (.ireturn, 1) := by decide +kernel
theorem dX2_sort_0 : decode cX2_sort 0 = .ok (.aload_n 0, 1) := by decide +kernel
theorem dX2_sort_1 : decode cX2_sort 1 = .ok (.getfield 18, 3) := by decide +kernel
theorem dX2_sort_4 : decode cX2_sort 4 = .ok (.aload_n 0, 1) := by decide +kernel
theorem dX2_sort_5 : decode cX2_sort 5 = .ok (.getfield 35, 3) := by decide +kernel
theorem dX2_sort_8 : decode cX2_sort 8 = .ok (.invokevirtual 181, 3) := by decide +kernel
theorem dX2_sort_11 : decode cX2_sort 11 = .ok (.ireturn, 1) := by decide +kernel
theorem dX2_fail_0 : decode cX2_fail 0 = .ok (.aload_n 0, 1) := by decide +kernel
theorem dX2_fail_1 : decode cX2_fail 1 = .ok (.getfield 38, 3) := by decide +kernel
theorem dX2_fail_4 : decode cX2_fail 4 = .ok (.ifCond .ne 8, 3) := by decide +kernel
theorem dX2_fail_7 : decode cX2_fail 7 = .ok (.aload_n 0, 1) := by decide +kernel
theorem dX2_fail_8 : decode cX2_fail 8 = .ok (.iload_n 1, 1) := by decide +kernel
theorem dX2_fail_9 : decode cX2_fail 9 = .ok (.putfield 38, 3) := by decide +kernel
theorem dX2_fail_12 : decode cX2_fail 12 = .ok (.return_, 1) := by decide +kernel
theorem dX2_take_0 : decode cX2_take 0 = .ok (.aload_n 0, 1) := by decide +kernel
theorem dX2_take_1 : decode cX2_take 1 = .ok (.getfield 38, 3) := by decide +kernel
theorem dX2_take_4 : decode cX2_take 4 = .ok (.ifCond .eq 4, 3) := by decide +kernel
theorem dX2_take_7 : decode cX2_take 7 = .ok (.return_, 1) := by decide +kernel
theorem dX2_take_8 : decode cX2_take 8 = .ok (.aload_n 0, 1) := by decide +kernel
theorem dX2_take_9 : decode cX2_take 9 = .ok (.getfield 35, 3) := by decide +kernel
theorem dX2_take_12 : decode cX2_take 12 = .ok (.sipush 400, 3) := by decide +kernel
theorem dX2_take_15 : decode cX2_take 15 = .ok (.if_icmp .ge 16, 3) := by decide +kernel
theorem dX2_take_18 : decode cX2_take 18 = .ok (.aload_n 0, 1) := by decide +kernel
theorem dX2_take_19 : decode cX2_take 19 = .ok (.dup, 1) := by decide +kernel
theorem dX2_take_20 : decode cX2_take 20 = .ok (.getfield 35, 3) := by decide +kernel
theorem dX2_take_23 : decode cX2_take 23 = .ok (.iconst 1, 1) := by decide +kernel
theorem dX2_take_24 : decode cX2_take 24 = .ok (.iadd, 1) := by decide +kernel
theorem dX2_take_25 : decode cX2_take 25 = .ok (.putfield 35, 3) := by decide +kernel
theorem dX2_take_28 : decode cX2_take 28 = .ok (.goto 8, 3) := by decide +kernel
theorem dX2_take_31 : decode cX2_take 31 = .ok (.aload_n 0, 1) := by decide +kernel
theorem dX2_take_32 : decode cX2_take 32 = .ok (.iconst 2, 1) := by decide +kernel
theorem dX2_take_33 : decode cX2_take 33 = .ok (.putfield 38, 3) := by decide +kernel
theorem dX2_take_36 : decode cX2_take 36 = .ok (.return_, 1) := by decide +kernel
theorem dX7_worthAt_0 : decode cX7_worthAt 0 = .ok (.iload_n 1, 1) := by decide +kernel
theorem dX7_worthAt_1 : decode cX7_worthAt 1 = .ok (.ifCond .lt 20, 3) := by decide +kernel
theorem dX7_worthAt_4 : decode cX7_worthAt 4 = .ok (.iload_n 1, 1) := by decide +kernel
theorem dX7_worthAt_5 : decode cX7_worthAt 5 = .ok (.aload_n 0, 1) := by decide +kernel
theorem dX7_worthAt_6 : decode cX7_worthAt 6 = .ok (.getfield 41, 3) := by decide +kernel
theorem dX7_worthAt_9 : decode cX7_worthAt 9 = .ok (.if_icmp .ge 12, 3) := by decide +kernel
theorem dX7_worthAt_12 : decode cX7_worthAt 12 = .ok (.aload_n 0, 1) := by decide +kernel
theorem dX7_worthAt_13 : decode cX7_worthAt 13 = .ok (.getfield 18, 3) := by decide +kernel
theorem dX7_worthAt_16 : decode cX7_worthAt 16 = .ok (.iload_n 1, 1) := by decide +kernel
theorem dX7_worthAt_17 : decode cX7_worthAt 17 = .ok (.laload, 1) := by decide +kernel
theorem dX7_worthAt_18 : decode cX7_worthAt 18 = .ok (.goto 4, 3) := by decide +kernel
theorem dX7_worthAt_21 : decode cX7_worthAt 21 = .ok (.lconst 0, 1) := by decide +kernel
theorem dX7_worthAt_22 : decode cX7_worthAt 22 = .ok (.lreturn, 1) := by decide +kernel
theorem dX2_find_0 : decode cX2_find 0 = .ok (.iconst 0, 1) := by decide +kernel
theorem dX2_find_1 : decode cX2_find 1 = .ok (.istore 4, 2) := by decide +kernel
theorem dX2_find_3 : decode cX2_find 3 = .ok (.iload 4, 2) := by decide +kernel
theorem dX2_find_5 : decode cX2_find 5 = .ok (.iload_n 3, 1) := by decide +kernel
theorem dX2_find_6 : decode cX2_find 6 = .ok (.if_icmp .ge 28, 3) := by decide +kernel
theorem dX2_find_9 : decode cX2_find 9 = .ok (.iload 4, 2) := by decide +kernel
theorem dX2_find_11 : decode cX2_find 11 = .ok (.aload_n 2, 1) := by decide +kernel
theorem dX2_find_12 : decode cX2_find 12 = .ok (.arraylength, 1) := by decide +kernel
theorem dX2_find_13 : decode cX2_find 13 = .ok (.if_icmp .ge 21, 3) := by decide +kernel
theorem dX2_find_16 : decode cX2_find 16 = .ok (.aload_n 2, 1) := by decide +kernel
theorem dX2_find_17 : decode cX2_find 17 = .ok (.iload 4, 2) := by decide +kernel
theorem dX2_find_19 : decode cX2_find 19 = .ok (.laload, 1) := by decide +kernel
theorem dX2_find_20 : decode cX2_find 20 = .ok (.lload_n 0, 1) := by decide +kernel
theorem dX2_find_21 : decode cX2_find 21 = .ok (.lcmp, 1) := by decide +kernel
theorem dX2_find_22 : decode cX2_find 22 = .ok (.ifCond .ne 6, 3) := by decide +kernel
theorem dX2_find_25 : decode cX2_find 25 = .ok (.iload 4, 2) := by decide +kernel
theorem dX2_find_27 : decode cX2_find 27 = .ok (.ireturn, 1) := by decide +kernel
theorem dX2_find_28 : decode cX2_find 28 = .ok (.iinc 4 1, 3) := by decide +kernel
theorem dX2_find_31 : decode cX2_find 31 = .ok (.goto (-28), 3) := by decide +kernel
theorem dX2_find_34 : decode cX2_find 34 = .ok (.iconst (-1), 1) := by decide +kernel
theorem dX2_find_35 : decode cX2_find 35 = .ok (.ireturn, 1) := by decide +kernel
theorem dX7_placeAt_0 : decode cX7_placeAt 0 = .ok (.iload_n 1, 1) := by decide +kernel
theorem dX7_placeAt_1 : decode cX7_placeAt 1 = .ok (.ifCond .lt 20, 3) := by decide +kernel
theorem dX7_placeAt_4 : decode cX7_placeAt 4 = .ok (.iload_n 1, 1) := by decide +kernel
theorem dX7_placeAt_5 : decode cX7_placeAt 5 = .ok (.aload_n 0, 1) := by decide +kernel
theorem dX7_placeAt_6 : decode cX7_placeAt 6 = .ok (.getfield 41, 3) := by decide +kernel
theorem dX7_placeAt_9 : decode cX7_placeAt 9 = .ok (.if_icmp .ge 12, 3) := by decide +kernel
theorem dX7_placeAt_12 : decode cX7_placeAt 12 = .ok (.aload_n 0, 1) := by decide +kernel
theorem dX7_placeAt_13 : decode cX7_placeAt 13 = .ok (.getfield 15, 3) := by decide +kernel
theorem dX7_placeAt_16 : decode cX7_placeAt 16 = .ok (.iload_n 1, 1) := by decide +kernel
theorem dX7_placeAt_17 : decode cX7_placeAt 17 = .ok (.iaload, 1) := by decide +kernel
theorem dX7_placeAt_18 : decode cX7_placeAt 18 = .ok (.goto 4, 3) := by decide +kernel
theorem dX7_placeAt_21 : decode cX7_placeAt 21 = .ok (.iconst (-1), 1) := by decide +kernel
theorem dX7_placeAt_22 : decode cX7_placeAt 22 = .ok (.ireturn, 1) := by decide +kernel
theorem dX2_note_0 : decode cX2_note 0 = .ok (.aload_n 0, 1) := by decide +kernel
theorem dX2_note_1 : decode cX2_note 1 = .ok (.getfield 38, 3) := by decide +kernel
theorem dX2_note_4 : decode cX2_note 4 = .ok (.ifCond .ne 30, 3) := by decide +kernel
theorem dX2_note_7 : decode cX2_note 7 = .ok (.aload_n 0, 1) := by decide +kernel
theorem dX2_note_8 : decode cX2_note 8 = .ok (.getfield 41, 3) := by decide +kernel
theorem dX2_note_11 : decode cX2_note 11 = .ok (.ifCond .ne 23, 3) := by decide +kernel
theorem dX2_note_14 : decode cX2_note 14 = .ok (.aload_n 0, 1) := by decide +kernel
theorem dX2_note_15 : decode cX2_note 15 = .ok (.iload_n 1, 1) := by decide +kernel
theorem dX2_note_16 : decode cX2_note 16 = .ok (.putfield 41, 3) := by decide +kernel
theorem dX2_note_19 : decode cX2_note 19 = .ok (.aload_n 0, 1) := by decide +kernel
theorem dX2_note_20 : decode cX2_note 20 = .ok (.aload_n 0, 1) := by decide +kernel
theorem dX2_note_21 : decode cX2_note 21 = .ok (.getfield 18, 3) := by decide +kernel
theorem dX2_note_24 : decode cX2_note 24 = .ok (.aload_n 0, 1) := by decide +kernel
theorem dX2_note_25 : decode cX2_note 25 = .ok (.getfield 35, 3) := by decide +kernel
theorem dX2_note_28 : decode cX2_note 28 = .ok (.invokevirtual 86, 3) := by decide +kernel
theorem dX2_note_31 : decode cX2_note 31 = .ok (.putfield 44, 3) := by decide +kernel
theorem dX2_note_34 : decode cX2_note 34 = .ok (.return_, 1) := by decide +kernel
theorem dX2_expect_0 : decode cX2_expect 0 = .ok (.aload_n 0, 1) := by decide +kernel
theorem dX2_expect_1 : decode cX2_expect 1 = .ok (.invokevirtual 47, 3) := by decide +kernel
theorem dX2_expect_4 : decode cX2_expect 4 = .ok (.iload_n 1, 1) := by decide +kernel
theorem dX2_expect_5 : decode cX2_expect 5 = .ok (.if_icmp .ne 10, 3) := by decide +kernel
theorem dX2_expect_8 : decode cX2_expect 8 = .ok (.aload_n 0, 1) := by decide +kernel
theorem dX2_expect_9 : decode cX2_expect 9 = .ok (.invokevirtual 95, 3) := by decide +kernel
theorem dX2_expect_12 : decode cX2_expect 12 = .ok (.goto 8, 3) := by decide +kernel
theorem dX2_expect_15 : decode cX2_expect 15 = .ok (.aload_n 0, 1) := by decide +kernel
theorem dX2_expect_16 : decode cX2_expect 16 = .ok (.iconst 1, 1) := by decide +kernel
theorem dX2_expect_17 : decode cX2_expect 17 = .ok (.invokevirtual 82, 3) := by decide +kernel
theorem dX2_expect_20 : decode cX2_expect 20 = .ok (.return_, 1) := by decide +kernel
theorem dX2_newName_0 : decode cX2_newName 0 = .ok (.aload_n 0, 1) := by decide +kernel
theorem dX2_newName_1 : decode cX2_newName 1 = .ok (.getfield 18, 3) := by decide +kernel
theorem dX2_newName_4 : decode cX2_newName 4 = .ok (.aload_n 0, 1) := by decide +kernel
theorem dX2_newName_5 : decode cX2_newName 5 = .ok (.getfield 35, 3) := by decide +kernel
theorem dX2_newName_8 : decode cX2_newName 8 = .ok (.invokevirtual 165, 3) := by decide +kernel
theorem dX2_newName_11 : decode cX2_newName 11 = .ok (.lstore_n 1, 1) := by decide +kernel
theorem dX2_newName_12 : decode cX2_newName 12 = .ok (.lload_n 1, 1) := by decide +kernel
theorem dX2_newName_13 : decode cX2_newName 13 = .ok (.aload_n 0, 1) := by decide +kernel
theorem dX2_newName_14 : decode cX2_newName 14 = .ok (.getfield 9, 3) := by decide +kernel
theorem dX2_newName_17 : decode cX2_newName 17 = .ok (.aload_n 0, 1) := by decide +kernel
theorem dX2_newName_18 : decode cX2_newName 18 = .ok (.getfield 26, 3) := by decide +kernel
theorem dX2_newName_21 : decode cX2_newName 21 = .ok (.getfield 92, 3) := by decide +kernel
theorem dX2_newName_24 : decode cX2_newName 24 = .ok (.invokestatic 172, 3) := by decide +kernel
theorem dX2_newName_27 : decode cX2_newName 27 = .ok (.iconst (-1), 1) := by decide +kernel
theorem dX2_newName_28 : decode cX2_newName 28 = .ok (.if_icmp .ne 22, 3) := by decide +kernel
theorem dX2_newName_31 : decode cX2_newName 31 = .ok (.lload_n 1, 1) := by decide +kernel
theorem dX2_newName_32 : decode cX2_newName 32 = .ok (.aload_n 0, 1) := by decide +kernel
theorem dX2_newName_33 : decode cX2_newName 33 = .ok (.getfield 15, 3) := by decide +kernel
theorem dX2_newName_36 : decode cX2_newName 36 = .ok (.aload_n 0, 1) := by decide +kernel
theorem dX2_newName_37 : decode cX2_newName 37 = .ok (.getfield 26, 3) := by decide +kernel
theorem dX2_newName_40 : decode cX2_newName 40 = .ok (.getfield 115, 3) := by decide +kernel
theorem dX2_newName_43 : decode cX2_newName 43 = .ok (.invokestatic 172, 3) := by decide +kernel
theorem dX2_newName_46 : decode cX2_newName 46 = .ok (.iconst (-1), 1) := by decide +kernel
theorem dX2_newName_47 : decode cX2_newName 47 = .ok (.if_icmp .eq 8, 3) := by decide +kernel
theorem dX2_newName_50 : decode cX2_newName 50 = .ok (.aload_n 0, 1) := by decide +kernel
theorem dX2_newName_51 : decode cX2_newName 51 = .ok (.iconst 3, 1) := by decide +kernel
theorem dX2_newName_52 : decode cX2_newName 52 = .ok (.invokevirtual 169, 3) := by decide +kernel
theorem dX2_newName_55 : decode cX2_newName 55 = .ok (.aload_n 0, 1) := by decide +kernel
theorem dX2_newName_56 : decode cX2_newName 56 = .ok (.iconst 2, 1) := by decide +kernel
theorem dX2_newName_57 : decode cX2_newName 57 = .ok (.invokevirtual 112, 3) := by decide +kernel
theorem dX2_newName_60 : decode cX2_newName 60 = .ok (.lload_n 1, 1) := by decide +kernel
theorem dX2_newName_61 : decode cX2_newName 61 = .ok (.lreturn, 1) := by decide +kernel
theorem dX2_number_0 : decode cX2_number 0 = .ok (.aload_n 0, 1) := by decide +kernel
theorem dX2_number_1 : decode cX2_number 1 = .ok (.getfield 18, 3) := by decide +kernel
theorem dX2_number_4 : decode cX2_number 4 = .ok (.aload_n 0, 1) := by decide +kernel
theorem dX2_number_5 : decode cX2_number 5 = .ok (.getfield 35, 3) := by decide +kernel
theorem dX2_number_8 : decode cX2_number 8 = .ok (.invokevirtual 165, 3) := by decide +kernel
theorem dX2_number_11 : decode cX2_number 11 = .ok (.l2i, 1) := by decide +kernel
theorem dX2_number_12 : decode cX2_number 12 = .ok (.istore_n 3, 1) := by decide +kernel
theorem dX2_number_13 : decode cX2_number 13 = .ok (.aload_n 0, 1) := by decide +kernel
theorem dX2_number_14 : decode cX2_number 14 = .ok (.invokevirtual 47, 3) := by decide +kernel
theorem dX2_number_17 : decode cX2_number 17 = .ok (.iconst 3, 1) := by decide +kernel
theorem dX2_number_18 : decode cX2_number 18 = .ok (.if_icmp .ne 18, 3) := by decide +kernel
theorem dX2_number_21 : decode cX2_number 21 = .ok (.iload_n 3, 1) := by decide +kernel
theorem dX2_number_22 : decode cX2_number 22 = .ok (.iload_n 1, 1) := by decide +kernel
theorem dX2_number_23 : decode cX2_number 23 = .ok (.if_icmp .lt 8, 3) := by decide +kernel
theorem dX2_number_26 : decode cX2_number 26 = .ok (.iload_n 3, 1) := by decide +kernel
theorem dX2_number_27 : decode cX2_number 27 = .ok (.iload_n 2, 1) := by decide +kernel
theorem dX2_number_28 : decode cX2_number 28 = .ok (.if_icmp .le 8, 3) := by decide +kernel
theorem dX2_number_31 : decode cX2_number 31 = .ok (.aload_n 0, 1) := by decide +kernel
theorem dX2_number_32 : decode cX2_number 32 = .ok (.iconst 5, 1) := by decide +kernel
theorem dX2_number_33 : decode cX2_number 33 = .ok (.invokevirtual 169, 3) := by decide +kernel
theorem dX2_number_36 : decode cX2_number 36 = .ok (.aload_n 0, 1) := by decide +kernel
theorem dX2_number_37 : decode cX2_number 37 = .ok (.iconst 3, 1) := by decide +kernel
theorem dX2_number_38 : decode cX2_number 38 = .ok (.invokevirtual 112, 3) := by decide +kernel
theorem dX2_number_41 : decode cX2_number 41 = .ok (.iload_n 3, 1) := by decide +kernel
theorem dX2_number_42 : decode cX2_number 42 = .ok (.ireturn, 1) := by decide +kernel
theorem dX2_tellHouse_0 : decode cX2_tellHouse 0 = .ok (.aload_n 0, 1) := by decide +kernel
theorem dX2_tellHouse_1 : decode cX2_tellHouse 1 = .ok (.getfield 26, 3) := by decide +kernel
theorem dX2_tellHouse_4 : decode cX2_tellHouse 4 = .ok (.getfield 92, 3) := by decide +kernel
theorem dX2_tellHouse_7 : decode cX2_tellHouse 7 = .ok (.istore_n 1, 1) := by decide +kernel
theorem dX2_tellHouse_8 : decode cX2_tellHouse 8 = .ok (.iload_n 1, 1) := by decide +kernel
theorem dX2_tellHouse_9 : decode cX2_tellHouse 9 = .ok (.iconst 5, 1) := by decide +kernel
theorem dX2_tellHouse_10 : decode cX2_tellHouse 10 = .ok (.if_icmp .lt 9, 3) := by decide +kernel
theorem dX2_tellHouse_13 : decode cX2_tellHouse 13 = .ok (.aload_n 0, 1) := by decide +kernel
theorem dX2_tellHouse_14 : decode cX2_tellHouse 14 = .ok (.iconst 2, 1) := by decide +kernel
theorem dX2_tellHouse_15 : decode cX2_tellHouse 15 = .ok (.invokevirtual 82, 3) := by decide +kernel
theorem dX2_tellHouse_18 : decode cX2_tellHouse 18 = .ok (.return_, 1) := by decide +kernel
theorem dX2_tellHouse_19 : decode cX2_tellHouse 19 = .ok (.aload_n 0, 1) := by decide +kernel
theorem dX2_tellHouse_20 : decode cX2_tellHouse 20 = .ok (.invokevirtual 95, 3) := by decide +kernel
theorem dX2_tellHouse_23 : decode cX2_tellHouse 23 = .ok (.aload_n 0, 1) := by decide +kernel
theorem dX2_tellHouse_24 : decode cX2_tellHouse 24 = .ok (.getfield 9, 3) := by decide +kernel
theorem dX2_tellHouse_27 : decode cX2_tellHouse 27 = .ok (.iload_n 1, 1) := by decide +kernel
theorem dX2_tellHouse_28 : decode cX2_tellHouse 28 = .ok (.aload_n 0, 1) := by decide +kernel
theorem dX2_tellHouse_29 : decode cX2_tellHouse 29 = .ok (.invokevirtual 98, 3) := by decide +kernel
theorem dX2_tellHouse_32 : decode cX2_tellHouse 32 = .ok (.lastore, 1) := by decide +kernel
theorem dX2_tellHouse_33 : decode cX2_tellHouse 33 = .ok (.aload_n 0, 1) := by decide +kernel
theorem dX2_tellHouse_34 : decode cX2_tellHouse 34 = .ok (.getfield 26, 3) := by decide +kernel
theorem dX2_tellHouse_37 : decode cX2_tellHouse 37 = .ok (.getfield 102, 3) := by decide +kernel
theorem dX2_tellHouse_40 : decode cX2_tellHouse 40 = .ok (.iload_n 1, 1) := by decide +kernel
theorem dX2_tellHouse_41 : decode cX2_tellHouse 41 = .ok (.aload_n 0, 1) := by decide +kernel
theorem dX2_tellHouse_42 : decode cX2_tellHouse 42 = .ok (.iconst 0, 1) := by decide +kernel
theorem dX2_tellHouse_43 : decode cX2_tellHouse 43 = .ok (.bipush 9, 2) := by decide +kernel
theorem dX2_tellHouse_45 : decode cX2_tellHouse 45 = .ok (.invokevirtual 106, 3) := by decide +kernel
theorem dX2_tellHouse_48 : decode cX2_tellHouse 48 = .ok (.iastore, 1) := by decide +kernel
theorem dX2_tellHouse_49 : decode cX2_tellHouse 49 = .ok (.aload_n 0, 1) := by decide +kernel
theorem dX2_tellHouse_50 : decode cX2_tellHouse 50 = .ok (.getfield 26, 3) := by decide +kernel
theorem dX2_tellHouse_53 : decode cX2_tellHouse 53 = .ok (.getfield 109, 3) := by decide +kernel
theorem dX2_tellHouse_56 : decode cX2_tellHouse 56 = .ok (.iload_n 1, 1) := by decide +kernel
theorem dX2_tellHouse_57 : decode cX2_tellHouse 57 = .ok (.aload_n 0, 1) := by decide +kernel
theorem dX2_tellHouse_58 : decode cX2_tellHouse 58 = .ok (.iconst 0, 1) := by decide +kernel
theorem dX2_tellHouse_59 : decode cX2_tellHouse 59 = .ok (.bipush 9, 2) := by decide +kernel
theorem dX2_tellHouse_61 : decode cX2_tellHouse 61 = .ok (.invokevirtual 106, 3) := by decide +kernel
theorem dX2_tellHouse_64 : decode cX2_tellHouse 64 = .ok (.iastore, 1) := by decide +kernel
theorem dX2_tellHouse_65 : decode cX2_tellHouse 65 = .ok (.aload_n 0, 1) := by decide +kernel
theorem dX2_tellHouse_66 : decode cX2_tellHouse 66 = .ok (.bipush 59, 2) := by decide +kernel
theorem dX2_tellHouse_68 : decode cX2_tellHouse 68 = .ok (.invokevirtual 112, 3) := by decide +kernel
theorem dX2_tellHouse_71 : decode cX2_tellHouse 71 = .ok (.aload_n 0, 1) := by decide +kernel
theorem dX2_tellHouse_72 : decode cX2_tellHouse 72 = .ok (.getfield 26, 3) := by decide +kernel
theorem dX2_tellHouse_75 : decode cX2_tellHouse 75 = .ok (.dup, 1) := by decide +kernel
theorem dX2_tellHouse_76 : decode cX2_tellHouse 76 = .ok (.getfield 92, 3) := by decide +kernel
theorem dX2_tellHouse_79 : decode cX2_tellHouse 79 = .ok (.iconst 1, 1) := by decide +kernel
theorem dX2_tellHouse_80 : decode cX2_tellHouse 80 = .ok (.iadd, 1) := by decide +kernel
theorem dX2_tellHouse_81 : decode cX2_tellHouse 81 = .ok (.putfield 92, 3) := by decide +kernel
theorem dX2_tellHouse_84 : decode cX2_tellHouse 84 = .ok (.return_, 1) := by decide +kernel
theorem dX2_toldName_0 : decode cX2_toldName 0 = .ok (.aload_n 0, 1) := by decide +kernel
theorem dX2_toldName_1 : decode cX2_toldName 1 = .ok (.getfield 18, 3) := by decide +kernel
theorem dX2_toldName_4 : decode cX2_toldName 4 = .ok (.aload_n 0, 1) := by decide +kernel
theorem dX2_toldName_5 : decode cX2_toldName 5 = .ok (.getfield 35, 3) := by decide +kernel
theorem dX2_toldName_8 : decode cX2_toldName 8 = .ok (.invokevirtual 165, 3) := by decide +kernel
theorem dX2_toldName_11 : decode cX2_toldName 11 = .ok (.aload_n 1, 1) := by decide +kernel
theorem dX2_toldName_12 : decode cX2_toldName 12 = .ok (.iload_n 2, 1) := by decide +kernel
theorem dX2_toldName_13 : decode cX2_toldName 13 = .ok (.invokestatic 172, 3) := by decide +kernel
theorem dX2_toldName_16 : decode cX2_toldName 16 = .ok (.istore_n 3, 1) := by decide +kernel
theorem dX2_toldName_17 : decode cX2_toldName 17 = .ok (.iload_n 3, 1) := by decide +kernel
theorem dX2_toldName_18 : decode cX2_toldName 18 = .ok (.iconst (-1), 1) := by decide +kernel
theorem dX2_toldName_19 : decode cX2_toldName 19 = .ok (.if_icmp .ne 8, 3) := by decide +kernel
theorem dX2_toldName_22 : decode cX2_toldName 22 = .ok (.aload_n 0, 1) := by decide +kernel
theorem dX2_toldName_23 : decode cX2_toldName 23 = .ok (.iconst 4, 1) := by decide +kernel
theorem dX2_toldName_24 : decode cX2_toldName 24 = .ok (.invokevirtual 169, 3) := by decide +kernel
theorem dX2_toldName_27 : decode cX2_toldName 27 = .ok (.aload_n 0, 1) := by decide +kernel
theorem dX2_toldName_28 : decode cX2_toldName 28 = .ok (.iconst 2, 1) := by decide +kernel
theorem dX2_toldName_29 : decode cX2_toldName 29 = .ok (.invokevirtual 112, 3) := by decide +kernel
theorem dX2_toldName_32 : decode cX2_toldName 32 = .ok (.iload_n 3, 1) := by decide +kernel
theorem dX2_toldName_33 : decode cX2_toldName 33 = .ok (.iconst 0, 1) := by decide +kernel
theorem dX2_toldName_34 : decode cX2_toldName 34 = .ok (.invokestatic 176, 3) := by decide +kernel
theorem dX2_toldName_37 : decode cX2_toldName 37 = .ok (.ireturn, 1) := by decide +kernel
theorem dX2_tellWork_0 : decode cX2_tellWork 0 = .ok (.aload_n 0, 1) := by decide +kernel
theorem dX2_tellWork_1 : decode cX2_tellWork 1 = .ok (.getfield 26, 3) := by decide +kernel
theorem dX2_tellWork_4 : decode cX2_tellWork 4 = .ok (.getfield 115, 3) := by decide +kernel
theorem dX2_tellWork_7 : decode cX2_tellWork 7 = .ok (.istore_n 1, 1) := by decide +kernel
theorem dX2_tellWork_8 : decode cX2_tellWork 8 = .ok (.iload_n 1, 1) := by decide +kernel
theorem dX2_tellWork_9 : decode cX2_tellWork 9 = .ok (.bipush 6, 2) := by decide +kernel
theorem dX2_tellWork_11 : decode cX2_tellWork 11 = .ok (.if_icmp .lt 9, 3) := by decide +kernel
theorem dX2_tellWork_14 : decode cX2_tellWork 14 = .ok (.aload_n 0, 1) := by decide +kernel
theorem dX2_tellWork_15 : decode cX2_tellWork 15 = .ok (.iconst 2, 1) := by decide +kernel
theorem dX2_tellWork_16 : decode cX2_tellWork 16 = .ok (.invokevirtual 82, 3) := by decide +kernel
theorem dX2_tellWork_19 : decode cX2_tellWork 19 = .ok (.return_, 1) := by decide +kernel
theorem dX2_tellWork_20 : decode cX2_tellWork 20 = .ok (.aload_n 0, 1) := by decide +kernel
theorem dX2_tellWork_21 : decode cX2_tellWork 21 = .ok (.invokevirtual 95, 3) := by decide +kernel
theorem dX2_tellWork_24 : decode cX2_tellWork 24 = .ok (.aload_n 0, 1) := by decide +kernel
theorem dX2_tellWork_25 : decode cX2_tellWork 25 = .ok (.getfield 15, 3) := by decide +kernel
theorem dX2_tellWork_28 : decode cX2_tellWork 28 = .ok (.iload_n 1, 1) := by decide +kernel
theorem dX2_tellWork_29 : decode cX2_tellWork 29 = .ok (.aload_n 0, 1) := by decide +kernel
theorem dX2_tellWork_30 : decode cX2_tellWork 30 = .ok (.invokevirtual 98, 3) := by decide +kernel
theorem dX2_tellWork_33 : decode cX2_tellWork 33 = .ok (.lastore, 1) := by decide +kernel
theorem dX2_tellWork_34 : decode cX2_tellWork 34 = .ok (.aload_n 0, 1) := by decide +kernel
theorem dX2_tellWork_35 : decode cX2_tellWork 35 = .ok (.getfield 26, 3) := by decide +kernel
theorem dX2_tellWork_38 : decode cX2_tellWork 38 = .ok (.getfield 118, 3) := by decide +kernel
theorem dX2_tellWork_41 : decode cX2_tellWork 41 = .ok (.iload_n 1, 1) := by decide +kernel
theorem dX2_tellWork_42 : decode cX2_tellWork 42 = .ok (.aload_n 0, 1) := by decide +kernel
theorem dX2_tellWork_43 : decode cX2_tellWork 43 = .ok (.aload_n 0, 1) := by decide +kernel
theorem dX2_tellWork_44 : decode cX2_tellWork 44 = .ok (.getfield 9, 3) := by decide +kernel
theorem dX2_tellWork_47 : decode cX2_tellWork 47 = .ok (.aload_n 0, 1) := by decide +kernel
theorem dX2_tellWork_48 : decode cX2_tellWork 48 = .ok (.getfield 26, 3) := by decide +kernel
theorem dX2_tellWork_51 : decode cX2_tellWork 51 = .ok (.getfield 92, 3) := by decide +kernel
theorem dX2_tellWork_54 : decode cX2_tellWork 54 = .ok (.invokevirtual 121, 3) := by decide +kernel
theorem dX2_tellWork_57 : decode cX2_tellWork 57 = .ok (.iastore, 1) := by decide +kernel
theorem dX2_tellWork_58 : decode cX2_tellWork 58 = .ok (.aload_n 0, 1) := by decide +kernel
theorem dX2_tellWork_59 : decode cX2_tellWork 59 = .ok (.getfield 26, 3) := by decide +kernel
theorem dX2_tellWork_62 : decode cX2_tellWork 62 = .ok (.getfield 125, 3) := by decide +kernel
theorem dX2_tellWork_65 : decode cX2_tellWork 65 = .ok (.iload_n 1, 1) := by decide +kernel
theorem dX2_tellWork_66 : decode cX2_tellWork 66 = .ok (.aload_n 0, 1) := by decide +kernel
theorem dX2_tellWork_67 : decode cX2_tellWork 67 = .ok (.aload_n 0, 1) := by decide +kernel
theorem dX2_tellWork_68 : decode cX2_tellWork 68 = .ok (.getfield 9, 3) := by decide +kernel
theorem dX2_tellWork_71 : decode cX2_tellWork 71 = .ok (.aload_n 0, 1) := by decide +kernel
theorem dX2_tellWork_72 : decode cX2_tellWork 72 = .ok (.getfield 26, 3) := by decide +kernel
theorem dX2_tellWork_75 : decode cX2_tellWork 75 = .ok (.getfield 92, 3) := by decide +kernel
theorem dX2_tellWork_78 : decode cX2_tellWork 78 = .ok (.invokevirtual 121, 3) := by decide +kernel
theorem dX2_tellWork_81 : decode cX2_tellWork 81 = .ok (.iastore, 1) := by decide +kernel
theorem dX2_tellWork_82 : decode cX2_tellWork 82 = .ok (.aload_n 0, 1) := by decide +kernel
theorem dX2_tellWork_83 : decode cX2_tellWork 83 = .ok (.getfield 26, 3) := by decide +kernel
theorem dX2_tellWork_86 : decode cX2_tellWork 86 = .ok (.getfield 128, 3) := by decide +kernel
theorem dX2_tellWork_89 : decode cX2_tellWork 89 = .ok (.iload_n 1, 1) := by decide +kernel
theorem dX2_tellWork_90 : decode cX2_tellWork 90 = .ok (.aload_n 0, 1) := by decide +kernel
theorem dX2_tellWork_91 : decode cX2_tellWork 91 = .ok (.iconst 0, 1) := by decide +kernel
theorem dX2_tellWork_92 : decode cX2_tellWork 92 = .ok (.bipush 9, 2) := by decide +kernel
theorem dX2_tellWork_94 : decode cX2_tellWork 94 = .ok (.invokevirtual 106, 3) := by decide +kernel
theorem dX2_tellWork_97 : decode cX2_tellWork 97 = .ok (.iastore, 1) := by decide +kernel
theorem dX2_tellWork_98 : decode cX2_tellWork 98 = .ok (.aload_n 0, 1) := by decide +kernel
theorem dX2_tellWork_99 : decode cX2_tellWork 99 = .ok (.getfield 26, 3) := by decide +kernel
theorem dX2_tellWork_102 : decode cX2_tellWork 102 = .ok (.getfield 131, 3) := by decide +kernel
theorem dX2_tellWork_105 : decode cX2_tellWork 105 = .ok (.iload_n 1, 1) := by decide +kernel
theorem dX2_tellWork_106 : decode cX2_tellWork 106 = .ok (.aload_n 0, 1) := by decide +kernel
theorem dX2_tellWork_107 : decode cX2_tellWork 107 = .ok (.iconst 0, 1) := by decide +kernel
theorem dX2_tellWork_108 : decode cX2_tellWork 108 = .ok (.bipush 99, 2) := by decide +kernel
theorem dX2_tellWork_110 : decode cX2_tellWork 110 = .ok (.invokevirtual 106, 3) := by decide +kernel
theorem dX2_tellWork_113 : decode cX2_tellWork 113 = .ok (.iastore, 1) := by decide +kernel
theorem dX2_tellWork_114 : decode cX2_tellWork 114 = .ok (.aload_n 0, 1) := by decide +kernel
theorem dX2_tellWork_115 : decode cX2_tellWork 115 = .ok (.bipush 59, 2) := by decide +kernel
theorem dX2_tellWork_117 : decode cX2_tellWork 117 = .ok (.invokevirtual 112, 3) := by decide +kernel
theorem dX2_tellWork_120 : decode cX2_tellWork 120 = .ok (.aload_n 0, 1) := by decide +kernel
theorem dX2_tellWork_121 : decode cX2_tellWork 121 = .ok (.getfield 26, 3) := by decide +kernel
theorem dX2_tellWork_124 : decode cX2_tellWork 124 = .ok (.dup, 1) := by decide +kernel
theorem dX2_tellWork_125 : decode cX2_tellWork 125 = .ok (.getfield 115, 3) := by decide +kernel
theorem dX2_tellWork_128 : decode cX2_tellWork 128 = .ok (.iconst 1, 1) := by decide +kernel
theorem dX2_tellWork_129 : decode cX2_tellWork 129 = .ok (.iadd, 1) := by decide +kernel
theorem dX2_tellWork_130 : decode cX2_tellWork 130 = .ok (.putfield 115, 3) := by decide +kernel
theorem dX2_tellWork_133 : decode cX2_tellWork 133 = .ok (.return_, 1) := by decide +kernel
theorem dX2_unit_0 : decode cX2_unit 0 = .ok (.aload_n 0, 1) := by decide +kernel
theorem dX2_unit_1 : decode cX2_unit 1 = .ok (.invokevirtual 47, 3) := by decide +kernel
theorem dX2_unit_4 : decode cX2_unit 4 = .ok (.istore_n 2, 1) := by decide +kernel
theorem dX2_unit_5 : decode cX2_unit 5 = .ok (.iload_n 2, 1) := by decide +kernel
theorem dX2_unit_6 : decode cX2_unit 6 = .ok (.iconst 3, 1) := by decide +kernel
theorem dX2_unit_7 : decode cX2_unit 7 = .ok (.if_icmp .ne 30, 3) := by decide +kernel
theorem dX2_unit_10 : decode cX2_unit 10 = .ok (.aload_n 0, 1) := by decide +kernel
theorem dX2_unit_11 : decode cX2_unit 11 = .ok (.getfield 26, 3) := by decide +kernel
theorem dX2_unit_14 : decode cX2_unit 14 = .ok (.iconst 0, 1) := by decide +kernel
theorem dX2_unit_15 : decode cX2_unit 15 = .ok (.aload_n 0, 1) := by decide +kernel
theorem dX2_unit_16 : decode cX2_unit 16 = .ok (.getfield 18, 3) := by decide +kernel
theorem dX2_unit_19 : decode cX2_unit 19 = .ok (.aload_n 0, 1) := by decide +kernel
theorem dX2_unit_20 : decode cX2_unit 20 = .ok (.getfield 35, 3) := by decide +kernel
theorem dX2_unit_23 : decode cX2_unit 23 = .ok (.invokevirtual 165, 3) := by decide +kernel
theorem dX2_unit_26 : decode cX2_unit 26 = .ok (.l2i, 1) := by decide +kernel
theorem dX2_unit_27 : decode cX2_unit 27 = .ok (.invokevirtual 149, 3) := by decide +kernel
theorem dX2_unit_30 : decode cX2_unit 30 = .ok (.aload_n 0, 1) := by decide +kernel
theorem dX2_unit_31 : decode cX2_unit 31 = .ok (.invokevirtual 95, 3) := by decide +kernel
theorem dX2_unit_34 : decode cX2_unit 34 = .ok (.goto 82, 3) := by decide +kernel
theorem dX2_unit_37 : decode cX2_unit 37 = .ok (.iload_n 2, 1) := by decide +kernel
theorem dX2_unit_38 : decode cX2_unit 38 = .ok (.sipush 267, 3) := by decide +kernel
theorem dX2_unit_41 : decode cX2_unit 41 = .ok (.if_icmp .lt 23, 3) := by decide +kernel
theorem dX2_unit_44 : decode cX2_unit 44 = .ok (.aload_n 0, 1) := by decide +kernel
theorem dX2_unit_45 : decode cX2_unit 45 = .ok (.getfield 26, 3) := by decide +kernel
theorem dX2_unit_48 : decode cX2_unit 48 = .ok (.iconst 1, 1) := by decide +kernel
theorem dX2_unit_49 : decode cX2_unit 49 = .ok (.iload_n 2, 1) := by decide +kernel
theorem dX2_unit_50 : decode cX2_unit 50 = .ok (.sipush 267, 3) := by decide +kernel
theorem dX2_unit_53 : decode cX2_unit 53 = .ok (.isub, 1) := by decide +kernel
theorem dX2_unit_54 : decode cX2_unit 54 = .ok (.invokevirtual 149, 3) := by decide +kernel
theorem dX2_unit_57 : decode cX2_unit 57 = .ok (.aload_n 0, 1) := by decide +kernel
theorem dX2_unit_58 : decode cX2_unit 58 = .ok (.invokevirtual 95, 3) := by decide +kernel
theorem dX2_unit_61 : decode cX2_unit 61 = .ok (.goto 55, 3) := by decide +kernel
theorem dX2_unit_64 : decode cX2_unit 64 = .ok (.iload_n 2, 1) := by decide +kernel
theorem dX2_unit_65 : decode cX2_unit 65 = .ok (.bipush 40, 2) := by decide +kernel
theorem dX2_unit_67 : decode cX2_unit 67 = .ok (.if_icmp .eq 11, 3) := by decide +kernel
theorem dX2_unit_70 : decode cX2_unit 70 = .ok (.aload_n 0, 1) := by decide +kernel
theorem dX2_unit_71 : decode cX2_unit 71 = .ok (.iconst 1, 1) := by decide +kernel
theorem dX2_unit_72 : decode cX2_unit 72 = .ok (.invokevirtual 82, 3) := by decide +kernel
theorem dX2_unit_75 : decode cX2_unit 75 = .ok (.goto 41, 3) := by decide +kernel
theorem dX2_unit_78 : decode cX2_unit 78 = .ok (.iload_n 1, 1) := by decide +kernel
theorem dX2_unit_79 : decode cX2_unit 79 = .ok (.bipush 6, 2) := by decide +kernel
theorem dX2_unit_81 : decode cX2_unit 81 = .ok (.if_icmp .lt 11, 3) := by decide +kernel
theorem dX2_unit_84 : decode cX2_unit 84 = .ok (.aload_n 0, 1) := by decide +kernel
theorem dX2_unit_85 : decode cX2_unit 85 = .ok (.iconst 2, 1) := by decide +kernel
theorem dX2_unit_86 : decode cX2_unit 86 = .ok (.invokevirtual 82, 3) := by decide +kernel
theorem dX2_unit_89 : decode cX2_unit 89 = .ok (.goto 27, 3) := by decide +kernel
theorem dX2_unit_92 : decode cX2_unit 92 = .ok (.aload_n 0, 1) := by decide +kernel
theorem dX2_unit_93 : decode cX2_unit 93 = .ok (.getfield 38, 3) := by decide +kernel
theorem dX2_unit_96 : decode cX2_unit 96 = .ok (.ifCond .ne 20, 3) := by decide +kernel
theorem dX2_unit_99 : decode cX2_unit 99 = .ok (.aload_n 0, 1) := by decide +kernel
theorem dX2_unit_100 : decode cX2_unit 100 = .ok (.invokevirtual 95, 3) := by decide +kernel
theorem dX2_unit_103 : decode cX2_unit 103 = .ok (.aload_n 0, 1) := by decide +kernel
theorem dX2_unit_104 : decode cX2_unit 104 = .ok (.iload_n 1, 1) := by decide +kernel
theorem dX2_unit_105 : decode cX2_unit 105 = .ok (.iconst 1, 1) := by decide +kernel
theorem dX2_unit_106 : decode cX2_unit 106 = .ok (.iadd, 1) := by decide +kernel
theorem dX2_unit_107 : decode cX2_unit 107 = .ok (.invokevirtual 146, 3) := by decide +kernel
theorem dX2_unit_110 : decode cX2_unit 110 = .ok (.aload_n 0, 1) := by decide +kernel
theorem dX2_unit_111 : decode cX2_unit 111 = .ok (.bipush 41, 2) := by decide +kernel
theorem dX2_unit_113 : decode cX2_unit 113 = .ok (.invokevirtual 112, 3) := by decide +kernel
theorem dX2_unit_116 : decode cX2_unit 116 = .ok (.return_, 1) := by decide +kernel
theorem dX2_product_0 : decode cX2_product 0 = .ok (.aload_n 0, 1) := by decide +kernel
theorem dX2_product_1 : decode cX2_product 1 = .ok (.iload_n 1, 1) := by decide +kernel
theorem dX2_product_2 : decode cX2_product 2 = .ok (.invokevirtual 162, 3) := by decide +kernel
theorem dX2_product_5 : decode cX2_product 5 = .ok (.iconst 0, 1) := by decide +kernel
theorem dX2_product_6 : decode cX2_product 6 = .ok (.istore_n 2, 1) := by decide +kernel
theorem dX2_product_7 : decode cX2_product 7 = .ok (.iload_n 2, 1) := by decide +kernel
theorem dX2_product_8 : decode cX2_product 8 = .ok (.sipush 400, 3) := by decide +kernel
theorem dX2_product_11 : decode cX2_product 11 = .ok (.if_icmp .gt 62, 3) := by decide +kernel
theorem dX2_product_14 : decode cX2_product 14 = .ok (.aload_n 0, 1) := by decide +kernel
theorem dX2_product_15 : decode cX2_product 15 = .ok (.getfield 38, 3) := by decide +kernel
theorem dX2_product_18 : decode cX2_product 18 = .ok (.ifCond .ne 55, 3) := by decide +kernel
theorem dX2_product_21 : decode cX2_product 21 = .ok (.aload_n 0, 1) := by decide +kernel
theorem dX2_product_22 : decode cX2_product 22 = .ok (.invokevirtual 47, 3) := by decide +kernel
theorem dX2_product_25 : decode cX2_product 25 = .ok (.istore_n 3, 1) := by decide +kernel
theorem dX2_product_26 : decode cX2_product 26 = .ok (.iload_n 3, 1) := by decide +kernel
theorem dX2_product_27 : decode cX2_product 27 = .ok (.bipush 42, 2) := by decide +kernel
theorem dX2_product_29 : decode cX2_product 29 = .ok (.if_icmp .eq 10, 3) := by decide +kernel
theorem dX2_product_32 : decode cX2_product 32 = .ok (.iload_n 3, 1) := by decide +kernel
theorem dX2_product_33 : decode cX2_product 33 = .ok (.bipush 47, 2) := by decide +kernel
theorem dX2_product_35 : decode cX2_product 35 = .ok (.if_icmp .eq 4, 3) := by decide +kernel
theorem dX2_product_38 : decode cX2_product 38 = .ok (.return_, 1) := by decide +kernel
theorem dX2_product_39 : decode cX2_product 39 = .ok (.aload_n 0, 1) := by decide +kernel
theorem dX2_product_40 : decode cX2_product 40 = .ok (.invokevirtual 95, 3) := by decide +kernel
theorem dX2_product_43 : decode cX2_product 43 = .ok (.aload_n 0, 1) := by decide +kernel
theorem dX2_product_44 : decode cX2_product 44 = .ok (.iload_n 1, 1) := by decide +kernel
theorem dX2_product_45 : decode cX2_product 45 = .ok (.invokevirtual 162, 3) := by decide +kernel
theorem dX2_product_48 : decode cX2_product 48 = .ok (.aload_n 0, 1) := by decide +kernel
theorem dX2_product_49 : decode cX2_product 49 = .ok (.getfield 26, 3) := by decide +kernel
theorem dX2_product_52 : decode cX2_product 52 = .ok (.iload_n 3, 1) := by decide +kernel
theorem dX2_product_53 : decode cX2_product 53 = .ok (.bipush 42, 2) := by decide +kernel
theorem dX2_product_55 : decode cX2_product 55 = .ok (.if_icmp .ne 7, 3) := by decide +kernel
theorem dX2_product_58 : decode cX2_product 58 = .ok (.iconst 4, 1) := by decide +kernel
theorem dX2_product_59 : decode cX2_product 59 = .ok (.goto 4, 3) := by decide +kernel
theorem dX2_product_62 : decode cX2_product 62 = .ok (.iconst 5, 1) := by decide +kernel
theorem dX2_product_63 : decode cX2_product 63 = .ok (.iconst 0, 1) := by decide +kernel
theorem dX2_product_64 : decode cX2_product 64 = .ok (.invokevirtual 149, 3) := by decide +kernel
theorem dX2_product_67 : decode cX2_product 67 = .ok (.iinc 2 1, 3) := by decide +kernel
theorem dX2_product_70 : decode cX2_product 70 = .ok (.goto (-63), 3) := by decide +kernel
theorem dX2_product_73 : decode cX2_product 73 = .ok (.return_, 1) := by decide +kernel
theorem dX2_sum_0 : decode cX2_sum 0 = .ok (.aload_n 0, 1) := by decide +kernel
theorem dX2_sum_1 : decode cX2_sum 1 = .ok (.iload_n 1, 1) := by decide +kernel
theorem dX2_sum_2 : decode cX2_sum 2 = .ok (.invokevirtual 159, 3) := by decide +kernel
theorem dX2_sum_5 : decode cX2_sum 5 = .ok (.iconst 0, 1) := by decide +kernel
theorem dX2_sum_6 : decode cX2_sum 6 = .ok (.istore_n 2, 1) := by decide +kernel
theorem dX2_sum_7 : decode cX2_sum 7 = .ok (.iload_n 2, 1) := by decide +kernel
theorem dX2_sum_8 : decode cX2_sum 8 = .ok (.sipush 400, 3) := by decide +kernel
theorem dX2_sum_11 : decode cX2_sum 11 = .ok (.if_icmp .gt 62, 3) := by decide +kernel
theorem dX2_sum_14 : decode cX2_sum 14 = .ok (.aload_n 0, 1) := by decide +kernel
theorem dX2_sum_15 : decode cX2_sum 15 = .ok (.getfield 38, 3) := by decide +kernel
theorem dX2_sum_18 : decode cX2_sum 18 = .ok (.ifCond .ne 55, 3) := by decide +kernel
theorem dX2_sum_21 : decode cX2_sum 21 = .ok (.aload_n 0, 1) := by decide +kernel
theorem dX2_sum_22 : decode cX2_sum 22 = .ok (.invokevirtual 47, 3) := by decide +kernel
theorem dX2_sum_25 : decode cX2_sum 25 = .ok (.istore_n 3, 1) := by decide +kernel
theorem dX2_sum_26 : decode cX2_sum 26 = .ok (.iload_n 3, 1) := by decide +kernel
theorem dX2_sum_27 : decode cX2_sum 27 = .ok (.bipush 43, 2) := by decide +kernel
theorem dX2_sum_29 : decode cX2_sum 29 = .ok (.if_icmp .eq 10, 3) := by decide +kernel
theorem dX2_sum_32 : decode cX2_sum 32 = .ok (.iload_n 3, 1) := by decide +kernel
theorem dX2_sum_33 : decode cX2_sum 33 = .ok (.bipush 45, 2) := by decide +kernel
theorem dX2_sum_35 : decode cX2_sum 35 = .ok (.if_icmp .eq 4, 3) := by decide +kernel
theorem dX2_sum_38 : decode cX2_sum 38 = .ok (.return_, 1) := by decide +kernel
theorem dX2_sum_39 : decode cX2_sum 39 = .ok (.aload_n 0, 1) := by decide +kernel
theorem dX2_sum_40 : decode cX2_sum 40 = .ok (.invokevirtual 95, 3) := by decide +kernel
theorem dX2_sum_43 : decode cX2_sum 43 = .ok (.aload_n 0, 1) := by decide +kernel
theorem dX2_sum_44 : decode cX2_sum 44 = .ok (.iload_n 1, 1) := by decide +kernel
theorem dX2_sum_45 : decode cX2_sum 45 = .ok (.invokevirtual 159, 3) := by decide +kernel
theorem dX2_sum_48 : decode cX2_sum 48 = .ok (.aload_n 0, 1) := by decide +kernel
theorem dX2_sum_49 : decode cX2_sum 49 = .ok (.getfield 26, 3) := by decide +kernel
theorem dX2_sum_52 : decode cX2_sum 52 = .ok (.iload_n 3, 1) := by decide +kernel
theorem dX2_sum_53 : decode cX2_sum 53 = .ok (.bipush 43, 2) := by decide +kernel
theorem dX2_sum_55 : decode cX2_sum 55 = .ok (.if_icmp .ne 7, 3) := by decide +kernel
theorem dX2_sum_58 : decode cX2_sum 58 = .ok (.iconst 2, 1) := by decide +kernel
theorem dX2_sum_59 : decode cX2_sum 59 = .ok (.goto 4, 3) := by decide +kernel
theorem dX2_sum_62 : decode cX2_sum 62 = .ok (.iconst 3, 1) := by decide +kernel
theorem dX2_sum_63 : decode cX2_sum 63 = .ok (.iconst 0, 1) := by decide +kernel
theorem dX2_sum_64 : decode cX2_sum 64 = .ok (.invokevirtual 149, 3) := by decide +kernel
theorem dX2_sum_67 : decode cX2_sum 67 = .ok (.iinc 2 1, 3) := by decide +kernel
theorem dX2_sum_70 : decode cX2_sum 70 = .ok (.goto (-63), 3) := by decide +kernel
theorem dX2_sum_73 : decode cX2_sum 73 = .ok (.return_, 1) := by decide +kernel
theorem dX2_tellTerm_0 : decode cX2_tellTerm 0 = .ok (.aload_n 0, 1) := by decide +kernel
theorem dX2_tellTerm_1 : decode cX2_tellTerm 1 = .ok (.getfield 26, 3) := by decide +kernel
theorem dX2_tellTerm_4 : decode cX2_tellTerm 4 = .ok (.getfield 134, 3) := by decide +kernel
theorem dX2_tellTerm_7 : decode cX2_tellTerm 7 = .ok (.istore_n 1, 1) := by decide +kernel
theorem dX2_tellTerm_8 : decode cX2_tellTerm 8 = .ok (.iload_n 1, 1) := by decide +kernel
theorem dX2_tellTerm_9 : decode cX2_tellTerm 9 = .ok (.bipush 6, 2) := by decide +kernel
theorem dX2_tellTerm_11 : decode cX2_tellTerm 11 = .ok (.if_icmp .lt 9, 3) := by decide +kernel
theorem dX2_tellTerm_14 : decode cX2_tellTerm 14 = .ok (.aload_n 0, 1) := by decide +kernel
theorem dX2_tellTerm_15 : decode cX2_tellTerm 15 = .ok (.iconst 2, 1) := by decide +kernel
theorem dX2_tellTerm_16 : decode cX2_tellTerm 16 = .ok (.invokevirtual 82, 3) := by decide +kernel
theorem dX2_tellTerm_19 : decode cX2_tellTerm 19 = .ok (.return_, 1) := by decide +kernel
theorem dX2_tellTerm_20 : decode cX2_tellTerm 20 = .ok (.aload_n 0, 1) := by decide +kernel
theorem dX2_tellTerm_21 : decode cX2_tellTerm 21 = .ok (.invokevirtual 95, 3) := by decide +kernel
theorem dX2_tellTerm_24 : decode cX2_tellTerm 24 = .ok (.aload_n 0, 1) := by decide +kernel
theorem dX2_tellTerm_25 : decode cX2_tellTerm 25 = .ok (.getfield 26, 3) := by decide +kernel
theorem dX2_tellTerm_28 : decode cX2_tellTerm 28 = .ok (.getfield 137, 3) := by decide +kernel
theorem dX2_tellTerm_31 : decode cX2_tellTerm 31 = .ok (.iload_n 1, 1) := by decide +kernel
theorem dX2_tellTerm_32 : decode cX2_tellTerm 32 = .ok (.aload_n 0, 1) := by decide +kernel
theorem dX2_tellTerm_33 : decode cX2_tellTerm 33 = .ok (.aload_n 0, 1) := by decide +kernel
theorem dX2_tellTerm_34 : decode cX2_tellTerm 34 = .ok (.getfield 15, 3) := by decide +kernel
theorem dX2_tellTerm_37 : decode cX2_tellTerm 37 = .ok (.aload_n 0, 1) := by decide +kernel
theorem dX2_tellTerm_38 : decode cX2_tellTerm 38 = .ok (.getfield 26, 3) := by decide +kernel
theorem dX2_tellTerm_41 : decode cX2_tellTerm 41 = .ok (.getfield 115, 3) := by decide +kernel
theorem dX2_tellTerm_44 : decode cX2_tellTerm 44 = .ok (.invokevirtual 121, 3) := by decide +kernel
theorem dX2_tellTerm_47 : decode cX2_tellTerm 47 = .ok (.iastore, 1) := by decide +kernel
theorem dX2_tellTerm_48 : decode cX2_tellTerm 48 = .ok (.aload_n 0, 1) := by decide +kernel
theorem dX2_tellTerm_49 : decode cX2_tellTerm 49 = .ok (.getfield 26, 3) := by decide +kernel
theorem dX2_tellTerm_52 : decode cX2_tellTerm 52 = .ok (.getfield 140, 3) := by decide +kernel
theorem dX2_tellTerm_55 : decode cX2_tellTerm 55 = .ok (.iload_n 1, 1) := by decide +kernel
theorem dX2_tellTerm_56 : decode cX2_tellTerm 56 = .ok (.aload_n 0, 1) := by decide +kernel
theorem dX2_tellTerm_57 : decode cX2_tellTerm 57 = .ok (.getfield 26, 3) := by decide +kernel
theorem dX2_tellTerm_60 : decode cX2_tellTerm 60 = .ok (.getfield 143, 3) := by decide +kernel
theorem dX2_tellTerm_63 : decode cX2_tellTerm 63 = .ok (.iastore, 1) := by decide +kernel
theorem dX2_tellTerm_64 : decode cX2_tellTerm 64 = .ok (.aload_n 0, 1) := by decide +kernel
theorem dX2_tellTerm_65 : decode cX2_tellTerm 65 = .ok (.iconst 0, 1) := by decide +kernel
theorem dX2_tellTerm_66 : decode cX2_tellTerm 66 = .ok (.invokevirtual 146, 3) := by decide +kernel
theorem dX2_tellTerm_69 : decode cX2_tellTerm 69 = .ok (.aload_n 0, 1) := by decide +kernel
theorem dX2_tellTerm_70 : decode cX2_tellTerm 70 = .ok (.getfield 26, 3) := by decide +kernel
theorem dX2_tellTerm_73 : decode cX2_tellTerm 73 = .ok (.bipush 7, 2) := by decide +kernel
theorem dX2_tellTerm_75 : decode cX2_tellTerm 75 = .ok (.iconst 0, 1) := by decide +kernel
theorem dX2_tellTerm_76 : decode cX2_tellTerm 76 = .ok (.invokevirtual 149, 3) := by decide +kernel
theorem dX2_tellTerm_79 : decode cX2_tellTerm 79 = .ok (.aload_n 0, 1) := by decide +kernel
theorem dX2_tellTerm_80 : decode cX2_tellTerm 80 = .ok (.bipush 60, 2) := by decide +kernel
theorem dX2_tellTerm_82 : decode cX2_tellTerm 82 = .ok (.invokevirtual 112, 3) := by decide +kernel
theorem dX2_tellTerm_85 : decode cX2_tellTerm 85 = .ok (.aload_n 0, 1) := by decide +kernel
theorem dX2_tellTerm_86 : decode cX2_tellTerm 86 = .ok (.getfield 26, 3) := by decide +kernel
theorem dX2_tellTerm_89 : decode cX2_tellTerm 89 = .ok (.getfield 153, 3) := by decide +kernel
theorem dX2_tellTerm_92 : decode cX2_tellTerm 92 = .ok (.iload_n 1, 1) := by decide +kernel
theorem dX2_tellTerm_93 : decode cX2_tellTerm 93 = .ok (.aload_n 0, 1) := by decide +kernel
theorem dX2_tellTerm_94 : decode cX2_tellTerm 94 = .ok (.getfield 26, 3) := by decide +kernel
theorem dX2_tellTerm_97 : decode cX2_tellTerm 97 = .ok (.getfield 143, 3) := by decide +kernel
theorem dX2_tellTerm_100 : decode cX2_tellTerm 100 = .ok (.iastore, 1) := by decide +kernel
theorem dX2_tellTerm_101 : decode cX2_tellTerm 101 = .ok (.aload_n 0, 1) := by decide +kernel
theorem dX2_tellTerm_102 : decode cX2_tellTerm 102 = .ok (.iconst 0, 1) := by decide +kernel
theorem dX2_tellTerm_103 : decode cX2_tellTerm 103 = .ok (.invokevirtual 146, 3) := by decide +kernel
theorem dX2_tellTerm_106 : decode cX2_tellTerm 106 = .ok (.aload_n 0, 1) := by decide +kernel
theorem dX2_tellTerm_107 : decode cX2_tellTerm 107 = .ok (.getfield 26, 3) := by decide +kernel
theorem dX2_tellTerm_110 : decode cX2_tellTerm 110 = .ok (.bipush 7, 2) := by decide +kernel
theorem dX2_tellTerm_112 : decode cX2_tellTerm 112 = .ok (.iconst 0, 1) := by decide +kernel
theorem dX2_tellTerm_113 : decode cX2_tellTerm 113 = .ok (.invokevirtual 149, 3) := by decide +kernel
theorem dX2_tellTerm_116 : decode cX2_tellTerm 116 = .ok (.aload_n 0, 1) := by decide +kernel
theorem dX2_tellTerm_117 : decode cX2_tellTerm 117 = .ok (.bipush 59, 2) := by decide +kernel
theorem dX2_tellTerm_119 : decode cX2_tellTerm 119 = .ok (.invokevirtual 112, 3) := by decide +kernel
theorem dX2_tellTerm_122 : decode cX2_tellTerm 122 = .ok (.aload_n 0, 1) := by decide +kernel
theorem dX2_tellTerm_123 : decode cX2_tellTerm 123 = .ok (.getfield 26, 3) := by decide +kernel
theorem dX2_tellTerm_126 : decode cX2_tellTerm 126 = .ok (.dup, 1) := by decide +kernel
theorem dX2_tellTerm_127 : decode cX2_tellTerm 127 = .ok (.getfield 134, 3) := by decide +kernel
theorem dX2_tellTerm_130 : decode cX2_tellTerm 130 = .ok (.iconst 1, 1) := by decide +kernel
theorem dX2_tellTerm_131 : decode cX2_tellTerm 131 = .ok (.iadd, 1) := by decide +kernel
theorem dX2_tellTerm_132 : decode cX2_tellTerm 132 = .ok (.putfield 134, 3) := by decide +kernel
theorem dX2_tellTerm_135 : decode cX2_tellTerm 135 = .ok (.return_, 1) := by decide +kernel
theorem dX8_putGoal_0 : decode cX8_putGoal 0 = .ok (.iload_n 1, 1) := by decide +kernel
theorem dX8_putGoal_1 : decode cX8_putGoal 1 = .ok (.ifCond .lt 28, 3) := by decide +kernel
theorem dX8_putGoal_4 : decode cX8_putGoal 4 = .ok (.iload_n 1, 1) := by decide +kernel
theorem dX8_putGoal_5 : decode cX8_putGoal 5 = .ok (.aload_n 0, 1) := by decide +kernel
theorem dX8_putGoal_6 : decode cX8_putGoal 6 = .ok (.getfield 64, 3) := by decide +kernel
theorem dX8_putGoal_9 : decode cX8_putGoal 9 = .ok (.if_icmp .ge 20, 3) := by decide +kernel
theorem dX8_putGoal_12 : decode cX8_putGoal 12 = .ok (.aload_n 0, 1) := by decide +kernel
theorem dX8_putGoal_13 : decode cX8_putGoal 13 = .ok (.getfield 39, 3) := by decide +kernel
theorem dX8_putGoal_16 : decode cX8_putGoal 16 = .ok (.iload_n 1, 1) := by decide +kernel
theorem dX8_putGoal_17 : decode cX8_putGoal 17 = .ok (.ldc 79, 2) := by decide +kernel
theorem dX8_putGoal_19 : decode cX8_putGoal 19 = .ok (.aload_n 0, 1) := by decide +kernel
theorem dX8_putGoal_20 : decode cX8_putGoal 20 = .ok (.getfield 64, 3) := by decide +kernel
theorem dX8_putGoal_23 : decode cX8_putGoal 23 = .ok (.sipush 16383, 3) := by decide +kernel
theorem dX8_putGoal_26 : decode cX8_putGoal 26 = .ok (.iand, 1) := by decide +kernel
theorem dX8_putGoal_27 : decode cX8_putGoal 27 = .ok (.ior, 1) := by decide +kernel
theorem dX8_putGoal_28 : decode cX8_putGoal 28 = .ok (.iastore, 1) := by decide +kernel
theorem dX8_putGoal_29 : decode cX8_putGoal 29 = .ok (.return_, 1) := by decide +kernel
theorem dX2_law_0 : decode cX2_law 0 = .ok (.aload_n 0, 1) := by decide +kernel
theorem dX2_law_1 : decode cX2_law 1 = .ok (.getfield 26, 3) := by decide +kernel
theorem dX2_law_4 : decode cX2_law 4 = .ok (.getfield 143, 3) := by decide +kernel
theorem dX2_law_7 : decode cX2_law 7 = .ok (.istore_n 1, 1) := by decide +kernel
theorem dX2_law_8 : decode cX2_law 8 = .ok (.aload_n 0, 1) := by decide +kernel
theorem dX2_law_9 : decode cX2_law 9 = .ok (.invokevirtual 95, 3) := by decide +kernel
theorem dX2_law_12 : decode cX2_law 12 = .ok (.aload_n 0, 1) := by decide +kernel
theorem dX2_law_13 : decode cX2_law 13 = .ok (.bipush 61, 2) := by decide +kernel
theorem dX2_law_15 : decode cX2_law 15 = .ok (.invokevirtual 112, 3) := by decide +kernel
theorem dX2_law_18 : decode cX2_law 18 = .ok (.iconst 0, 1) := by decide +kernel
theorem dX2_law_19 : decode cX2_law 19 = .ok (.istore_n 2, 1) := by decide +kernel
theorem dX2_law_20 : decode cX2_law 20 = .ok (.iload_n 2, 1) := by decide +kernel
theorem dX2_law_21 : decode cX2_law 21 = .ok (.iconst 4, 1) := by decide +kernel
theorem dX2_law_22 : decode cX2_law 22 = .ok (.if_icmp .gt 111, 3) := by decide +kernel
theorem dX2_law_25 : decode cX2_law 25 = .ok (.aload_n 0, 1) := by decide +kernel
theorem dX2_law_26 : decode cX2_law 26 = .ok (.getfield 38, 3) := by decide +kernel
theorem dX2_law_29 : decode cX2_law 29 = .ok (.ifCond .ne 104, 3) := by decide +kernel
theorem dX2_law_32 : decode cX2_law 32 = .ok (.aload_n 0, 1) := by decide +kernel
theorem dX2_law_33 : decode cX2_law 33 = .ok (.invokevirtual 47, 3) := by decide +kernel
theorem dX2_law_36 : decode cX2_law 36 = .ok (.sipush 264, 3) := by decide +kernel
theorem dX2_law_39 : decode cX2_law 39 = .ok (.if_icmp .ne 94, 3) := by decide +kernel
theorem dX2_law_42 : decode cX2_law 42 = .ok (.iload_n 2, 1) := by decide +kernel
theorem dX2_law_43 : decode cX2_law 43 = .ok (.iconst 4, 1) := by decide +kernel
theorem dX2_law_44 : decode cX2_law 44 = .ok (.if_icmp .ne 8, 3) := by decide +kernel
theorem dX2_law_47 : decode cX2_law 47 = .ok (.aload_n 0, 1) := by decide +kernel
theorem dX2_law_48 : decode cX2_law 48 = .ok (.iconst 2, 1) := by decide +kernel
theorem dX2_law_49 : decode cX2_law 49 = .ok (.invokevirtual 82, 3) := by decide +kernel
theorem dX2_law_52 : decode cX2_law 52 = .ok (.aload_n 0, 1) := by decide +kernel
theorem dX2_law_53 : decode cX2_law 53 = .ok (.invokevirtual 95, 3) := by decide +kernel
theorem dX2_law_56 : decode cX2_law 56 = .ok (.aload_n 0, 1) := by decide +kernel
theorem dX2_law_57 : decode cX2_law 57 = .ok (.iconst 0, 1) := by decide +kernel
theorem dX2_law_58 : decode cX2_law 58 = .ok (.invokevirtual 146, 3) := by decide +kernel
theorem dX2_law_61 : decode cX2_law 61 = .ok (.aload_n 0, 1) := by decide +kernel
theorem dX2_law_62 : decode cX2_law 62 = .ok (.bipush 60, 2) := by decide +kernel
theorem dX2_law_64 : decode cX2_law 64 = .ok (.invokevirtual 112, 3) := by decide +kernel
theorem dX2_law_67 : decode cX2_law 67 = .ok (.aload_n 0, 1) := by decide +kernel
theorem dX2_law_68 : decode cX2_law 68 = .ok (.iconst 0, 1) := by decide +kernel
theorem dX2_law_69 : decode cX2_law 69 = .ok (.invokevirtual 146, 3) := by decide +kernel
theorem dX2_law_72 : decode cX2_law 72 = .ok (.aload_n 0, 1) := by decide +kernel
theorem dX2_law_73 : decode cX2_law 73 = .ok (.getfield 26, 3) := by decide +kernel
theorem dX2_law_76 : decode cX2_law 76 = .ok (.getfield 143, 3) := by decide +kernel
theorem dX2_law_79 : decode cX2_law 79 = .ok (.istore_n 3, 1) := by decide +kernel
theorem dX2_law_80 : decode cX2_law 80 = .ok (.aload_n 0, 1) := by decide +kernel
theorem dX2_law_81 : decode cX2_law 81 = .ok (.getfield 26, 3) := by decide +kernel
theorem dX2_law_84 : decode cX2_law 84 = .ok (.bipush 6, 2) := by decide +kernel
theorem dX2_law_86 : decode cX2_law 86 = .ok (.iconst 0, 1) := by decide +kernel
theorem dX2_law_87 : decode cX2_law 87 = .ok (.invokevirtual 149, 3) := by decide +kernel
theorem dX2_law_90 : decode cX2_law 90 = .ok (.aload_n 0, 1) := by decide +kernel
theorem dX2_law_91 : decode cX2_law 91 = .ok (.sipush 265, 3) := by decide +kernel
theorem dX2_law_94 : decode cX2_law 94 = .ok (.invokevirtual 112, 3) := by decide +kernel
theorem dX2_law_97 : decode cX2_law 97 = .ok (.aload_n 0, 1) := by decide +kernel
theorem dX2_law_98 : decode cX2_law 98 = .ok (.iconst 0, 1) := by decide +kernel
theorem dX2_law_99 : decode cX2_law 99 = .ok (.invokevirtual 146, 3) := by decide +kernel
theorem dX2_law_102 : decode cX2_law 102 = .ok (.aload_n 0, 1) := by decide +kernel
theorem dX2_law_103 : decode cX2_law 103 = .ok (.getfield 26, 3) := by decide +kernel
theorem dX2_law_106 : decode cX2_law 106 = .ok (.bipush 7, 2) := by decide +kernel
theorem dX2_law_108 : decode cX2_law 108 = .ok (.iconst 0, 1) := by decide +kernel
theorem dX2_law_109 : decode cX2_law 109 = .ok (.invokevirtual 149, 3) := by decide +kernel
theorem dX2_law_112 : decode cX2_law 112 = .ok (.aload_n 0, 1) := by decide +kernel
theorem dX2_law_113 : decode cX2_law 113 = .ok (.sipush 266, 3) := by decide +kernel
theorem dX2_law_116 : decode cX2_law 116 = .ok (.invokevirtual 112, 3) := by decide +kernel
theorem dX2_law_119 : decode cX2_law 119 = .ok (.aload_n 0, 1) := by decide +kernel
theorem dX2_law_120 : decode cX2_law 120 = .ok (.getfield 26, 3) := by decide +kernel
theorem dX2_law_123 : decode cX2_law 123 = .ok (.iload_n 3, 1) := by decide +kernel
theorem dX2_law_124 : decode cX2_law 124 = .ok (.invokevirtual 156, 3) := by decide +kernel
theorem dX2_law_127 : decode cX2_law 127 = .ok (.iinc 2 1, 3) := by decide +kernel
theorem dX2_law_130 : decode cX2_law 130 = .ok (.goto (-110), 3) := by decide +kernel
theorem dX2_law_133 : decode cX2_law 133 = .ok (.aload_n 0, 1) := by decide +kernel
theorem dX2_law_134 : decode cX2_law 134 = .ok (.iconst 0, 1) := by decide +kernel
theorem dX2_law_135 : decode cX2_law 135 = .ok (.invokevirtual 146, 3) := by decide +kernel
theorem dX2_law_138 : decode cX2_law 138 = .ok (.aload_n 0, 1) := by decide +kernel
theorem dX2_law_139 : decode cX2_law 139 = .ok (.getfield 26, 3) := by decide +kernel
theorem dX2_law_142 : decode cX2_law 142 = .ok (.bipush 7, 2) := by decide +kernel
theorem dX2_law_144 : decode cX2_law 144 = .ok (.iconst 0, 1) := by decide +kernel
theorem dX2_law_145 : decode cX2_law 145 = .ok (.invokevirtual 149, 3) := by decide +kernel
theorem dX2_law_148 : decode cX2_law 148 = .ok (.aload_n 0, 1) := by decide +kernel
theorem dX2_law_149 : decode cX2_law 149 = .ok (.bipush 59, 2) := by decide +kernel
theorem dX2_law_151 : decode cX2_law 151 = .ok (.invokevirtual 112, 3) := by decide +kernel
theorem dX2_law_154 : decode cX2_law 154 = .ok (.iload_n 1, 1) := by decide +kernel
theorem dX2_law_155 : decode cX2_law 155 = .ok (.ireturn, 1) := by decide +kernel
theorem dX2_onlyNumber_0 : decode cX2_onlyNumber 0 = .ok (.aload_n 0, 1) := by decide +kernel
theorem dX2_onlyNumber_1 : decode cX2_onlyNumber 1 = .ok (.invokevirtual 95, 3) := by decide +kernel
theorem dX2_onlyNumber_4 : decode cX2_onlyNumber 4 = .ok (.aload_n 0, 1) := by decide +kernel
theorem dX2_onlyNumber_5 : decode cX2_onlyNumber 5 = .ok (.iload_n 1, 1) := by decide +kernel
theorem dX2_onlyNumber_6 : decode cX2_onlyNumber 6 = .ok (.iload_n 2, 1) := by decide +kernel
theorem dX2_onlyNumber_7 : decode cX2_onlyNumber 7 = .ok (.invokevirtual 106, 3) := by decide +kernel
theorem dX2_onlyNumber_10 : decode cX2_onlyNumber 10 = .ok (.istore_n 3, 1) := by decide +kernel
theorem dX2_onlyNumber_11 : decode cX2_onlyNumber 11 = .ok (.aload_n 0, 1) := by decide +kernel
theorem dX2_onlyNumber_12 : decode cX2_onlyNumber 12 = .ok (.bipush 59, 2) := by decide +kernel
theorem dX2_onlyNumber_14 : decode cX2_onlyNumber 14 = .ok (.invokevirtual 112, 3) := by decide +kernel
theorem dX2_onlyNumber_17 : decode cX2_onlyNumber 17 = .ok (.iload_n 3, 1) := by decide +kernel
theorem dX2_onlyNumber_18 : decode cX2_onlyNumber 18 = .ok (.ireturn, 1) := by decide +kernel
theorem dX2_compile_0 : decode cX2_compile 0 = .ok (.aload_n 0, 1) := by decide +kernel
theorem dX2_compile_1 : decode cX2_compile 1 = .ok (.aload_n 1, 1) := by decide +kernel
theorem dX2_compile_2 : decode cX2_compile 2 = .ok (.putfield 26, 3) := by decide +kernel
theorem dX2_compile_5 : decode cX2_compile 5 = .ok (.aload_n 0, 1) := by decide +kernel
theorem dX2_compile_6 : decode cX2_compile 6 = .ok (.getfield 26, 3) := by decide +kernel
theorem dX2_compile_9 : decode cX2_compile 9 = .ok (.invokevirtual 30, 3) := by decide +kernel
theorem dX2_compile_12 : decode cX2_compile 12 = .ok (.aload_n 0, 1) := by decide +kernel
theorem dX2_compile_13 : decode cX2_compile 13 = .ok (.iconst 0, 1) := by decide +kernel
theorem dX2_compile_14 : decode cX2_compile 14 = .ok (.putfield 35, 3) := by decide +kernel
theorem dX2_compile_17 : decode cX2_compile 17 = .ok (.aload_n 0, 1) := by decide +kernel
theorem dX2_compile_18 : decode cX2_compile 18 = .ok (.iconst 0, 1) := by decide +kernel
theorem dX2_compile_19 : decode cX2_compile 19 = .ok (.putfield 38, 3) := by decide +kernel
theorem dX2_compile_22 : decode cX2_compile 22 = .ok (.aload_n 0, 1) := by decide +kernel
theorem dX2_compile_23 : decode cX2_compile 23 = .ok (.iconst 0, 1) := by decide +kernel
theorem dX2_compile_24 : decode cX2_compile 24 = .ok (.putfield 41, 3) := by decide +kernel
theorem dX2_compile_27 : decode cX2_compile 27 = .ok (.aload_n 0, 1) := by decide +kernel
theorem dX2_compile_28 : decode cX2_compile 28 = .ok (.iconst (-1), 1) := by decide +kernel
theorem dX2_compile_29 : decode cX2_compile 29 = .ok (.putfield 44, 3) := by decide +kernel
theorem dX2_compile_32 : decode cX2_compile 32 = .ok (.iconst 0, 1) := by decide +kernel
theorem dX2_compile_33 : decode cX2_compile 33 = .ok (.istore_n 2, 1) := by decide +kernel
theorem dX2_compile_34 : decode cX2_compile 34 = .ok (.iload_n 2, 1) := by decide +kernel
theorem dX2_compile_35 : decode cX2_compile 35 = .ok (.sipush 400, 3) := by decide +kernel
theorem dX2_compile_38 : decode cX2_compile 38 = .ok (.if_icmp .gt 177, 3) := by decide +kernel
theorem dX2_compile_41 : decode cX2_compile 41 = .ok (.aload_n 0, 1) := by decide +kernel
theorem dX2_compile_42 : decode cX2_compile 42 = .ok (.getfield 38, 3) := by decide +kernel
theorem dX2_compile_45 : decode cX2_compile 45 = .ok (.ifCond .ne 170, 3) := by decide +kernel
theorem dX2_compile_48 : decode cX2_compile 48 = .ok (.aload_n 0, 1) := by decide +kernel
theorem dX2_compile_49 : decode cX2_compile 49 = .ok (.invokevirtual 47, 3) := by decide +kernel
theorem dX2_compile_52 : decode cX2_compile 52 = .ok (.ifCond .eq 163, 3) := by decide +kernel
theorem dX2_compile_55 : decode cX2_compile 55 = .ok (.aload_n 0, 1) := by decide +kernel
theorem dX2_compile_56 : decode cX2_compile 56 = .ok (.invokevirtual 47, 3) := by decide +kernel
theorem dX2_compile_59 : decode cX2_compile 59 = .ok (.tableswitch 145 256 263 #[45, 52, 59, 66, 80, 94, 111, 127], 45) := by decide +kernel
theorem dX2_compile_104 : decode cX2_compile 104 = .ok (.aload_n 0, 1) := by decide +kernel
theorem dX2_compile_105 : decode cX2_compile 105 = .ok (.invokevirtual 51, 3) := by decide +kernel
theorem dX2_compile_108 : decode cX2_compile 108 = .ok (.goto 101, 3) := by decide +kernel
theorem dX2_compile_111 : decode cX2_compile 111 = .ok (.aload_n 0, 1) := by decide +kernel
theorem dX2_compile_112 : decode cX2_compile 112 = .ok (.invokevirtual 54, 3) := by decide +kernel
theorem dX2_compile_115 : decode cX2_compile 115 = .ok (.goto 94, 3) := by decide +kernel
theorem dX2_compile_118 : decode cX2_compile 118 = .ok (.aload_n 0, 1) := by decide +kernel
theorem dX2_compile_119 : decode cX2_compile 119 = .ok (.invokevirtual 57, 3) := by decide +kernel
theorem dX2_compile_122 : decode cX2_compile 122 = .ok (.goto 87, 3) := by decide +kernel
theorem dX2_compile_125 : decode cX2_compile 125 = .ok (.aload_n 0, 1) := by decide +kernel
theorem dX2_compile_126 : decode cX2_compile 126 = .ok (.getfield 26, 3) := by decide +kernel
theorem dX2_compile_129 : decode cX2_compile 129 = .ok (.aload_n 0, 1) := by decide +kernel
theorem dX2_compile_130 : decode cX2_compile 130 = .ok (.invokevirtual 60, 3) := by decide +kernel
theorem dX2_compile_133 : decode cX2_compile 133 = .ok (.putfield 63, 3) := by decide +kernel
theorem dX2_compile_136 : decode cX2_compile 136 = .ok (.goto 73, 3) := by decide +kernel
theorem dX2_compile_139 : decode cX2_compile 139 = .ok (.aload_n 0, 1) := by decide +kernel
theorem dX2_compile_140 : decode cX2_compile 140 = .ok (.getfield 26, 3) := by decide +kernel
theorem dX2_compile_143 : decode cX2_compile 143 = .ok (.aload_n 0, 1) := by decide +kernel
theorem dX2_compile_144 : decode cX2_compile 144 = .ok (.invokevirtual 60, 3) := by decide +kernel
theorem dX2_compile_147 : decode cX2_compile 147 = .ok (.putfield 66, 3) := by decide +kernel
theorem dX2_compile_150 : decode cX2_compile 150 = .ok (.goto 59, 3) := by decide +kernel
theorem dX2_compile_153 : decode cX2_compile 153 = .ok (.aload_n 0, 1) := by decide +kernel
theorem dX2_compile_154 : decode cX2_compile 154 = .ok (.getfield 26, 3) := by decide +kernel
theorem dX2_compile_157 : decode cX2_compile 157 = .ok (.aload_n 0, 1) := by decide +kernel
theorem dX2_compile_158 : decode cX2_compile 158 = .ok (.iconst 0, 1) := by decide +kernel
theorem dX2_compile_159 : decode cX2_compile 159 = .ok (.bipush 100, 2) := by decide +kernel
theorem dX2_compile_161 : decode cX2_compile 161 = .ok (.invokevirtual 69, 3) := by decide +kernel
theorem dX2_compile_164 : decode cX2_compile 164 = .ok (.putfield 73, 3) := by decide +kernel
theorem dX2_compile_167 : decode cX2_compile 167 = .ok (.goto 42, 3) := by decide +kernel
theorem dX2_compile_170 : decode cX2_compile 170 = .ok (.aload_n 0, 1) := by decide +kernel
theorem dX2_compile_171 : decode cX2_compile 171 = .ok (.getfield 26, 3) := by decide +kernel
theorem dX2_compile_174 : decode cX2_compile 174 = .ok (.aload_n 0, 1) := by decide +kernel
theorem dX2_compile_175 : decode cX2_compile 175 = .ok (.iconst 1, 1) := by decide +kernel
theorem dX2_compile_176 : decode cX2_compile 176 = .ok (.iconst 3, 1) := by decide +kernel
theorem dX2_compile_177 : decode cX2_compile 177 = .ok (.invokevirtual 69, 3) := by decide +kernel
theorem dX2_compile_180 : decode cX2_compile 180 = .ok (.putfield 76, 3) := by decide +kernel
theorem dX2_compile_183 : decode cX2_compile 183 = .ok (.goto 26, 3) := by decide +kernel
theorem dX2_compile_186 : decode cX2_compile 186 = .ok (.aload_n 0, 1) := by decide +kernel
theorem dX2_compile_187 : decode cX2_compile 187 = .ok (.getfield 26, 3) := by decide +kernel
theorem dX2_compile_190 : decode cX2_compile 190 = .ok (.aload_n 0, 1) := by decide +kernel
theorem dX2_compile_191 : decode cX2_compile 191 = .ok (.iconst 0, 1) := by decide +kernel
theorem dX2_compile_192 : decode cX2_compile 192 = .ok (.sipush 9999, 3) := by decide +kernel
theorem dX2_compile_195 : decode cX2_compile 195 = .ok (.invokevirtual 69, 3) := by decide +kernel
theorem dX2_compile_198 : decode cX2_compile 198 = .ok (.putfield 79, 3) := by decide +kernel
theorem dX2_compile_201 : decode cX2_compile 201 = .ok (.goto 8, 3) := by decide +kernel
theorem dX2_compile_204 : decode cX2_compile 204 = .ok (.aload_n 0, 1) := by decide +kernel
theorem dX2_compile_205 : decode cX2_compile 205 = .ok (.iconst 1, 1) := by decide +kernel
theorem dX2_compile_206 : decode cX2_compile 206 = .ok (.invokevirtual 82, 3) := by decide +kernel
theorem dX2_compile_209 : decode cX2_compile 209 = .ok (.iinc 2 1, 3) := by decide +kernel
theorem dX2_compile_212 : decode cX2_compile 212 = .ok (.goto (-178), 3) := by decide +kernel
theorem dX2_compile_215 : decode cX2_compile 215 = .ok (.aload_n 0, 1) := by decide +kernel
theorem dX2_compile_216 : decode cX2_compile 216 = .ok (.getfield 38, 3) := by decide +kernel
theorem dX2_compile_219 : decode cX2_compile 219 = .ok (.ifCond .ne 22, 3) := by decide +kernel
theorem dX2_compile_222 : decode cX2_compile 222 = .ok (.aload_n 0, 1) := by decide +kernel
theorem dX2_compile_223 : decode cX2_compile 223 = .ok (.aload_n 0, 1) := by decide +kernel
theorem dX2_compile_224 : decode cX2_compile 224 = .ok (.getfield 41, 3) := by decide +kernel
theorem dX2_compile_227 : decode cX2_compile 227 = .ok (.putfield 38, 3) := by decide +kernel
theorem dX2_compile_230 : decode cX2_compile 230 = .ok (.aload_n 0, 1) := by decide +kernel
theorem dX2_compile_231 : decode cX2_compile 231 = .ok (.aload_n 0, 1) := by decide +kernel
theorem dX2_compile_232 : decode cX2_compile 232 = .ok (.getfield 44, 3) := by decide +kernel
theorem dX2_compile_235 : decode cX2_compile 235 = .ok (.putfield 22, 3) := by decide +kernel
theorem dX2_compile_238 : decode cX2_compile 238 = .ok (.goto 18, 3) := by decide +kernel
theorem dX2_compile_241 : decode cX2_compile 241 = .ok (.aload_n 0, 1) := by decide +kernel
theorem dX2_compile_242 : decode cX2_compile 242 = .ok (.aload_n 0, 1) := by decide +kernel
theorem dX2_compile_243 : decode cX2_compile 243 = .ok (.getfield 18, 3) := by decide +kernel
theorem dX2_compile_246 : decode cX2_compile 246 = .ok (.aload_n 0, 1) := by decide +kernel
theorem dX2_compile_247 : decode cX2_compile 247 = .ok (.getfield 35, 3) := by decide +kernel
theorem dX2_compile_250 : decode cX2_compile 250 = .ok (.invokevirtual 86, 3) := by decide +kernel
theorem dX2_compile_253 : decode cX2_compile 253 = .ok (.putfield 22, 3) := by decide +kernel
theorem dX2_compile_256 : decode cX2_compile 256 = .ok (.aload_n 0, 1) := by decide +kernel
theorem dX2_compile_257 : decode cX2_compile 257 = .ok (.getfield 38, 3) := by decide +kernel
theorem dX2_compile_260 : decode cX2_compile 260 = .ok (.ireturn, 1) := by decide +kernel
theorem dX4_arrival_0 : decode cX4_arrival 0 = .ok (.aload_n 0, 1) := by decide +kernel
theorem dX4_arrival_1 : decode cX4_arrival 1 = .ok (.getfield 11, 3) := by decide +kernel
theorem dX4_arrival_4 : decode cX4_arrival 4 = .ok (.bipush 10, 2) := by decide +kernel
theorem dX4_arrival_6 : decode cX4_arrival 6 = .ok (.iload_n 1, 1) := by decide +kernel
theorem dX4_arrival_7 : decode cX4_arrival 7 = .ok (.iadd, 1) := by decide +kernel
theorem dX4_arrival_8 : decode cX4_arrival 8 = .ok (.iaload, 1) := by decide +kernel
theorem dX4_arrival_9 : decode cX4_arrival 9 = .ok (.ireturn, 1) := by decide +kernel
theorem dX4_goal_0 : decode cX4_goal 0 = .ok (.aload_n 0, 1) := by decide +kernel
theorem dX4_goal_1 : decode cX4_goal 1 = .ok (.getfield 11, 3) := by decide +kernel
theorem dX4_goal_4 : decode cX4_goal 4 = .ok (.iconst 4, 1) := by decide +kernel
theorem dX4_goal_5 : decode cX4_goal 5 = .ok (.iload_n 1, 1) := by decide +kernel
theorem dX4_goal_6 : decode cX4_goal 6 = .ok (.iadd, 1) := by decide +kernel
theorem dX4_goal_7 : decode cX4_goal 7 = .ok (.iaload, 1) := by decide +kernel
theorem dX4_goal_8 : decode cX4_goal 8 = .ok (.ireturn, 1) := by decide +kernel
theorem dX3_look_0 : decode cX3_look 0 = .ok (.aload_n 0, 1) := by decide +kernel
theorem dX3_look_1 : decode cX3_look 1 = .ok (.aload_n 1, 1) := by decide +kernel
theorem dX3_look_2 : decode cX3_look 2 = .ok (.putfield 22, 3) := by decide +kernel
theorem dX3_look_5 : decode cX3_look 5 = .ok (.aload_n 0, 1) := by decide +kernel
theorem dX3_look_6 : decode cX3_look 6 = .ok (.getfield 12, 3) := by decide +kernel
theorem dX3_look_9 : decode cX3_look 9 = .ok (.getfield 26, 3) := by decide +kernel
theorem dX3_look_12 : decode cX3_look 12 = .ok (.bipush 8, 2) := by decide +kernel
theorem dX3_look_14 : decode cX3_look 14 = .ok (.iload_n 3, 1) := by decide +kernel
theorem dX3_look_15 : decode cX3_look 15 = .ok (.iastore, 1) := by decide +kernel
theorem dX3_look_16 : decode cX3_look 16 = .ok (.iconst 0, 1) := by decide +kernel
theorem dX3_look_17 : decode cX3_look 17 = .ok (.istore 4, 2) := by decide +kernel
theorem dX3_look_19 : decode cX3_look 19 = .ok (.iload 4, 2) := by decide +kernel
theorem dX3_look_21 : decode cX3_look 21 = .ok (.aload_n 0, 1) := by decide +kernel
theorem dX3_look_22 : decode cX3_look 22 = .ok (.getfield 22, 3) := by decide +kernel
theorem dX3_look_25 : decode cX3_look 25 = .ok (.getfield 29, 3) := by decide +kernel
theorem dX3_look_28 : decode cX3_look 28 = .ok (.if_icmp .ge 36, 3) := by decide +kernel
theorem dX3_look_31 : decode cX3_look 31 = .ok (.aload_n 0, 1) := by decide +kernel
theorem dX3_look_32 : decode cX3_look 32 = .ok (.getfield 18, 3) := by decide +kernel
theorem dX3_look_35 : decode cX3_look 35 = .ok (.iload 4, 2) := by decide +kernel
theorem dX3_look_37 : decode cX3_look 37 = .ok (.aload_n 2, 1) := by decide +kernel
theorem dX3_look_38 : decode cX3_look 38 = .ok (.iload 4, 2) := by decide +kernel
theorem dX3_look_40 : decode cX3_look 40 = .ok (.invokevirtual 35, 3) := by decide +kernel
theorem dX3_look_43 : decode cX3_look 43 = .ok (.iload_n 3, 1) := by decide +kernel
theorem dX3_look_44 : decode cX3_look 44 = .ok (.if_icmp .gt 12, 3) := by decide +kernel
theorem dX3_look_47 : decode cX3_look 47 = .ok (.aload_n 2, 1) := by decide +kernel
theorem dX3_look_48 : decode cX3_look 48 = .ok (.iload 4, 2) := by decide +kernel
theorem dX3_look_50 : decode cX3_look 50 = .ok (.invokevirtual 41, 3) := by decide +kernel
theorem dX3_look_53 : decode cX3_look 53 = .ok (.goto 4, 3) := by decide +kernel
theorem dX3_look_56 : decode cX3_look 56 = .ok (.iconst (-1), 1) := by decide +kernel
theorem dX3_look_57 : decode cX3_look 57 = .ok (.iastore, 1) := by decide +kernel
theorem dX3_look_58 : decode cX3_look 58 = .ok (.iinc 4 1, 3) := by decide +kernel
theorem dX3_look_61 : decode cX3_look 61 = .ok (.goto (-42), 3) := by decide +kernel
theorem dX3_look_64 : decode cX3_look 64 = .ok (.return_, 1) := by decide +kernel
theorem dX3_spot_0 : decode cX3_spot 0 = .ok (.aload_n 0, 1) := by decide +kernel
theorem dX3_spot_1 : decode cX3_spot 1 = .ok (.getfield 18, 3) := by decide +kernel
theorem dX3_spot_4 : decode cX3_spot 4 = .ok (.iload_n 1, 1) := by decide +kernel
theorem dX3_spot_5 : decode cX3_spot 5 = .ok (.iaload, 1) := by decide +kernel
theorem dX3_spot_6 : decode cX3_spot 6 = .ok (.ireturn, 1) := by decide +kernel
theorem dX3_enterAmong_0 : decode cX3_enterAmong 0 = .ok (.aload_n 0, 1) := by decide +kernel
theorem dX3_enterAmong_1 : decode cX3_enterAmong 1 = .ok (.getfield 12, 3) := by decide +kernel
theorem dX3_enterAmong_4 : decode cX3_enterAmong 4 = .ok (.getfield 26, 3) := by decide +kernel
theorem dX3_enterAmong_7 : decode cX3_enterAmong 7 = .ok (.astore 5, 2) := by decide +kernel
theorem dX3_enterAmong_9 : decode cX3_enterAmong 9 = .ok (.aload 5, 2) := by decide +kernel
theorem dX3_enterAmong_11 : decode cX3_enterAmong 11 = .ok (.iconst 0, 1) := by decide +kernel
theorem dX3_enterAmong_12 : decode cX3_enterAmong 12 = .ok (.aload_n 0, 1) := by decide +kernel
theorem dX3_enterAmong_13 : decode cX3_enterAmong 13 = .ok (.getfield 22, 3) := by decide +kernel
theorem dX3_enterAmong_16 : decode cX3_enterAmong 16 = .ok (.getfield 51, 3) := by decide +kernel
theorem dX3_enterAmong_19 : decode cX3_enterAmong 19 = .ok (.iload_n 2, 1) := by decide +kernel
theorem dX3_enterAmong_20 : decode cX3_enterAmong 20 = .ok (.iaload, 1) := by decide +kernel
theorem dX3_enterAmong_21 : decode cX3_enterAmong 21 = .ok (.iastore, 1) := by decide +kernel
theorem dX3_enterAmong_22 : decode cX3_enterAmong 22 = .ok (.aload 5, 2) := by decide +kernel
theorem dX3_enterAmong_24 : decode cX3_enterAmong 24 = .ok (.iconst 1, 1) := by decide +kernel
theorem dX3_enterAmong_25 : decode cX3_enterAmong 25 = .ok (.aload_n 0, 1) := by decide +kernel
theorem dX3_enterAmong_26 : decode cX3_enterAmong 26 = .ok (.getfield 22, 3) := by decide +kernel
theorem dX3_enterAmong_29 : decode cX3_enterAmong 29 = .ok (.getfield 54, 3) := by decide +kernel
theorem dX3_enterAmong_32 : decode cX3_enterAmong 32 = .ok (.iload_n 2, 1) := by decide +kernel
theorem dX3_enterAmong_33 : decode cX3_enterAmong 33 = .ok (.iaload, 1) := by decide +kernel
theorem dX3_enterAmong_34 : decode cX3_enterAmong 34 = .ok (.iastore, 1) := by decide +kernel
theorem dX3_enterAmong_35 : decode cX3_enterAmong 35 = .ok (.aload 5, 2) := by decide +kernel
theorem dX3_enterAmong_37 : decode cX3_enterAmong 37 = .ok (.iconst 2, 1) := by decide +kernel
theorem dX3_enterAmong_38 : decode cX3_enterAmong 38 = .ok (.aload_n 0, 1) := by decide +kernel
theorem dX3_enterAmong_39 : decode cX3_enterAmong 39 = .ok (.getfield 22, 3) := by decide +kernel
theorem dX3_enterAmong_42 : decode cX3_enterAmong 42 = .ok (.getfield 44, 3) := by decide +kernel
theorem dX3_enterAmong_45 : decode cX3_enterAmong 45 = .ok (.iload_n 1, 1) := by decide +kernel
theorem dX3_enterAmong_46 : decode cX3_enterAmong 46 = .ok (.iaload, 1) := by decide +kernel
theorem dX3_enterAmong_47 : decode cX3_enterAmong 47 = .ok (.iastore, 1) := by decide +kernel
theorem dX3_enterAmong_48 : decode cX3_enterAmong 48 = .ok (.aload 5, 2) := by decide +kernel
theorem dX3_enterAmong_50 : decode cX3_enterAmong 50 = .ok (.iconst 3, 1) := by decide +kernel
theorem dX3_enterAmong_51 : decode cX3_enterAmong 51 = .ok (.aload_n 0, 1) := by decide +kernel
theorem dX3_enterAmong_52 : decode cX3_enterAmong 52 = .ok (.getfield 22, 3) := by decide +kernel
theorem dX3_enterAmong_55 : decode cX3_enterAmong 55 = .ok (.getfield 57, 3) := by decide +kernel
theorem dX3_enterAmong_58 : decode cX3_enterAmong 58 = .ok (.iload_n 1, 1) := by decide +kernel
theorem dX3_enterAmong_59 : decode cX3_enterAmong 59 = .ok (.iaload, 1) := by decide +kernel
theorem dX3_enterAmong_60 : decode cX3_enterAmong 60 = .ok (.iastore, 1) := by decide +kernel
theorem dX3_enterAmong_61 : decode cX3_enterAmong 61 = .ok (.aload 5, 2) := by decide +kernel
theorem dX3_enterAmong_63 : decode cX3_enterAmong 63 = .ok (.iconst 4, 1) := by decide +kernel
theorem dX3_enterAmong_64 : decode cX3_enterAmong 64 = .ok (.iload_n 3, 1) := by decide +kernel
theorem dX3_enterAmong_65 : decode cX3_enterAmong 65 = .ok (.iastore, 1) := by decide +kernel
theorem dX3_enterAmong_66 : decode cX3_enterAmong 66 = .ok (.aload 5, 2) := by decide +kernel
theorem dX3_enterAmong_68 : decode cX3_enterAmong 68 = .ok (.iconst 5, 1) := by decide +kernel
theorem dX3_enterAmong_69 : decode cX3_enterAmong 69 = .ok (.iload 4, 2) := by decide +kernel
theorem dX3_enterAmong_71 : decode cX3_enterAmong 71 = .ok (.iastore, 1) := by decide +kernel
theorem dX3_enterAmong_72 : decode cX3_enterAmong 72 = .ok (.aload 5, 2) := by decide +kernel
theorem dX3_enterAmong_74 : decode cX3_enterAmong 74 = .ok (.bipush 6, 2) := by decide +kernel
theorem dX3_enterAmong_76 : decode cX3_enterAmong 76 = .ok (.aload_n 0, 1) := by decide +kernel
theorem dX3_enterAmong_77 : decode cX3_enterAmong 77 = .ok (.getfield 22, 3) := by decide +kernel
theorem dX3_enterAmong_80 : decode cX3_enterAmong 80 = .ok (.getfield 60, 3) := by decide +kernel
theorem dX3_enterAmong_83 : decode cX3_enterAmong 83 = .ok (.iload_n 1, 1) := by decide +kernel
theorem dX3_enterAmong_84 : decode cX3_enterAmong 84 = .ok (.iaload, 1) := by decide +kernel
theorem dX3_enterAmong_85 : decode cX3_enterAmong 85 = .ok (.iload_n 2, 1) := by decide +kernel
theorem dX3_enterAmong_86 : decode cX3_enterAmong 86 = .ok (.if_icmp .ne 7, 3) := by decide +kernel
theorem dX3_enterAmong_89 : decode cX3_enterAmong 89 = .ok (.iconst 1, 1) := by decide +kernel
theorem dX3_enterAmong_90 : decode cX3_enterAmong 90 = .ok (.goto 4, 3) := by decide +kernel
theorem dX3_enterAmong_93 : decode cX3_enterAmong 93 = .ok (.iconst 0, 1) := by decide +kernel
theorem dX3_enterAmong_94 : decode cX3_enterAmong 94 = .ok (.iastore, 1) := by decide +kernel
theorem dX3_enterAmong_95 : decode cX3_enterAmong 95 = .ok (.aload 5, 2) := by decide +kernel
theorem dX3_enterAmong_97 : decode cX3_enterAmong 97 = .ok (.bipush 7, 2) := by decide +kernel
theorem dX3_enterAmong_99 : decode cX3_enterAmong 99 = .ok (.iload_n 2, 1) := by decide +kernel
theorem dX3_enterAmong_100 : decode cX3_enterAmong 100 = .ok (.iastore, 1) := by decide +kernel
theorem dX3_enterAmong_101 : decode cX3_enterAmong 101 = .ok (.return_, 1) := by decide +kernel
