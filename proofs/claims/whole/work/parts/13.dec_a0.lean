theorem dX0_size_0 : decode cX0_size 0 = .ok (.aload_n 0, 1) := by decide +kernel
theorem dX0_size_1 : decode cX0_size 1 = .ok (.getfield 33, 3) := by decide +kernel
theorem dX0_size_4 : decode cX0_size 4 = .ok (.ireturn, 1) := by decide +kernel
theorem dX0_empty_0 : decode cX0_empty 0 = .ok (.aload_n 0, 1) := by decide +kernel
theorem dX0_empty_1 : decode cX0_empty 1 = .ok (.iconst 0, 1) := by decide +kernel
theorem dX0_empty_2 : decode cX0_empty 2 = .ok (.putfield 33, 3) := by decide +kernel
theorem dX0_empty_5 : decode cX0_empty 5 = .ok (.return_, 1) := by decide +kernel
theorem dX0_addList_0 : decode cX0_addList 0 = .ok (.aload_n 0, 1) := by decide +kernel
theorem dX0_addList_1 : decode cX0_addList 1 = .ok (.getfield 33, 3) := by decide +kernel
theorem dX0_addList_4 : decode cX0_addList 4 = .ok (.bipush 20, 2) := by decide +kernel
theorem dX0_addList_6 : decode cX0_addList 6 = .ok (.if_icmp .lt 5, 3) := by decide +kernel
theorem dX0_addList_9 : decode cX0_addList 9 = .ok (.iconst (-1), 1) := by decide +kernel
theorem dX0_addList_10 : decode cX0_addList 10 = .ok (.ireturn, 1) := by decide +kernel
theorem dX0_addList_11 : decode cX0_addList 11 = .ok (.aload_n 0, 1) := by decide +kernel
theorem dX0_addList_12 : decode cX0_addList 12 = .ok (.getfield 11, 3) := by decide +kernel
theorem dX0_addList_15 : decode cX0_addList 15 = .ok (.aload_n 0, 1) := by decide +kernel
theorem dX0_addList_16 : decode cX0_addList 16 = .ok (.getfield 33, 3) := by decide +kernel
theorem dX0_addList_19 : decode cX0_addList 19 = .ok (.iload_n 1, 1) := by decide +kernel
theorem dX0_addList_20 : decode cX0_addList 20 = .ok (.iastore, 1) := by decide +kernel
theorem dX0_addList_21 : decode cX0_addList 21 = .ok (.aload_n 0, 1) := by decide +kernel
theorem dX0_addList_22 : decode cX0_addList 22 = .ok (.getfield 15, 3) := by decide +kernel
theorem dX0_addList_25 : decode cX0_addList 25 = .ok (.aload_n 0, 1) := by decide +kernel
theorem dX0_addList_26 : decode cX0_addList 26 = .ok (.getfield 33, 3) := by decide +kernel
theorem dX0_addList_29 : decode cX0_addList 29 = .ok (.iload_n 2, 1) := by decide +kernel
theorem dX0_addList_30 : decode cX0_addList 30 = .ok (.iastore, 1) := by decide +kernel
theorem dX0_addList_31 : decode cX0_addList 31 = .ok (.aload_n 0, 1) := by decide +kernel
theorem dX0_addList_32 : decode cX0_addList 32 = .ok (.getfield 18, 3) := by decide +kernel
theorem dX0_addList_35 : decode cX0_addList 35 = .ok (.aload_n 0, 1) := by decide +kernel
theorem dX0_addList_36 : decode cX0_addList 36 = .ok (.getfield 33, 3) := by decide +kernel
theorem dX0_addList_39 : decode cX0_addList 39 = .ok (.iload_n 3, 1) := by decide +kernel
theorem dX0_addList_40 : decode cX0_addList 40 = .ok (.iastore, 1) := by decide +kernel
theorem dX0_addList_41 : decode cX0_addList 41 = .ok (.aload_n 0, 1) := by decide +kernel
theorem dX0_addList_42 : decode cX0_addList 42 = .ok (.dup, 1) := by decide +kernel
theorem dX0_addList_43 : decode cX0_addList 43 = .ok (.getfield 33, 3) := by decide +kernel
theorem dX0_addList_46 : decode cX0_addList 46 = .ok (.iconst 1, 1) := by decide +kernel
theorem dX0_addList_47 : decode cX0_addList 47 = .ok (.iadd, 1) := by decide +kernel
theorem dX0_addList_48 : decode cX0_addList 48 = .ok (.putfield 33, 3) := by decide +kernel
theorem dX0_addList_51 : decode cX0_addList 51 = .ok (.aload_n 0, 1) := by decide +kernel
theorem dX0_addList_52 : decode cX0_addList 52 = .ok (.getfield 33, 3) := by decide +kernel
theorem dX0_addList_55 : decode cX0_addList 55 = .ok (.iconst 1, 1) := by decide +kernel
theorem dX0_addList_56 : decode cX0_addList 56 = .ok (.isub, 1) := by decide +kernel
theorem dX0_addList_57 : decode cX0_addList 57 = .ok (.ireturn, 1) := by decide +kernel
theorem dX0_waysWith_0 : decode cX0_waysWith 0 = .ok (.aload_n 0, 1) := by decide +kernel
theorem dX0_waysWith_1 : decode cX0_waysWith 1 = .ok (.getfield 24, 3) := by decide +kernel
theorem dX0_waysWith_4 : decode cX0_waysWith 4 = .ok (.iload_n 1, 1) := by decide +kernel
theorem dX0_waysWith_5 : decode cX0_waysWith 5 = .ok (.iaload, 1) := by decide +kernel
theorem dX0_waysWith_6 : decode cX0_waysWith 6 = .ok (.ireturn, 1) := by decide +kernel
theorem dX0_fewestWrong_0 : decode cX0_fewestWrong 0 = .ok (.aload_n 0, 1) := by decide +kernel
theorem dX0_fewestWrong_1 : decode cX0_fewestWrong 1 = .ok (.getfield 37, 3) := by decide +kernel
theorem dX0_fewestWrong_4 : decode cX0_fewestWrong 4 = .ok (.ireturn, 1) := by decide +kernel
theorem dX0_couldHave_0 : decode cX0_couldHave 0 = .ok (.aload_n 0, 1) := by decide +kernel
theorem dX0_couldHave_1 : decode cX0_couldHave 1 = .ok (.getfield 30, 3) := by decide +kernel
theorem dX0_couldHave_4 : decode cX0_couldHave 4 = .ok (.iload_n 1, 1) := by decide +kernel
theorem dX0_couldHave_5 : decode cX0_couldHave 5 = .ok (.iaload, 1) := by decide +kernel
theorem dX0_couldHave_6 : decode cX0_couldHave 6 = .ok (.ireturn, 1) := by decide +kernel
theorem dX0_keepWay_0 : decode cX0_keepWay 0 = .ok (.iload_n 2, 1) := by decide +kernel
theorem dX0_keepWay_1 : decode cX0_keepWay 1 = .ok (.bipush 20, 2) := by decide +kernel
theorem dX0_keepWay_3 : decode cX0_keepWay 3 = .ok (.if_icmp .le 4, 3) := by decide +kernel
theorem dX0_keepWay_6 : decode cX0_keepWay 6 = .ok (.return_, 1) := by decide +kernel
theorem dX0_keepWay_7 : decode cX0_keepWay 7 = .ok (.aload_n 0, 1) := by decide +kernel
theorem dX0_keepWay_8 : decode cX0_keepWay 8 = .ok (.getfield 24, 3) := by decide +kernel
theorem dX0_keepWay_11 : decode cX0_keepWay 11 = .ok (.iload_n 2, 1) := by decide +kernel
theorem dX0_keepWay_12 : decode cX0_keepWay 12 = .ok (.dup2, 1) := by decide +kernel
theorem dX0_keepWay_13 : decode cX0_keepWay 13 = .ok (.iaload, 1) := by decide +kernel
theorem dX0_keepWay_14 : decode cX0_keepWay 14 = .ok (.iconst 1, 1) := by decide +kernel
theorem dX0_keepWay_15 : decode cX0_keepWay 15 = .ok (.iadd, 1) := by decide +kernel
theorem dX0_keepWay_16 : decode cX0_keepWay 16 = .ok (.iastore, 1) := by decide +kernel
theorem dX0_keepWay_17 : decode cX0_keepWay 17 = .ok (.iload_n 2, 1) := by decide +kernel
theorem dX0_keepWay_18 : decode cX0_keepWay 18 = .ok (.aload_n 0, 1) := by decide +kernel
theorem dX0_keepWay_19 : decode cX0_keepWay 19 = .ok (.getfield 37, 3) := by decide +kernel
theorem dX0_keepWay_22 : decode cX0_keepWay 22 = .ok (.if_icmp .ge 16, 3) := by decide +kernel
theorem dX0_keepWay_25 : decode cX0_keepWay 25 = .ok (.aload_n 0, 1) := by decide +kernel
theorem dX0_keepWay_26 : decode cX0_keepWay 26 = .ok (.iload_n 2, 1) := by decide +kernel
theorem dX0_keepWay_27 : decode cX0_keepWay 27 = .ok (.putfield 37, 3) := by decide +kernel
theorem dX0_keepWay_30 : decode cX0_keepWay 30 = .ok (.aload_n 0, 1) := by decide +kernel
theorem dX0_keepWay_31 : decode cX0_keepWay 31 = .ok (.getfield 30, 3) := by decide +kernel
theorem dX0_keepWay_34 : decode cX0_keepWay 34 = .ok (.iconst 0, 1) := by decide +kernel
theorem dX0_keepWay_35 : decode cX0_keepWay 35 = .ok (.invokestatic 40, 3) := by decide +kernel
theorem dX0_keepWay_38 : decode cX0_keepWay 38 = .ok (.iload_n 2, 1) := by decide +kernel
theorem dX0_keepWay_39 : decode cX0_keepWay 39 = .ok (.aload_n 0, 1) := by decide +kernel
theorem dX0_keepWay_40 : decode cX0_keepWay 40 = .ok (.getfield 37, 3) := by decide +kernel
theorem dX0_keepWay_43 : decode cX0_keepWay 43 = .ok (.if_icmp .ne 33, 3) := by decide +kernel
theorem dX0_keepWay_46 : decode cX0_keepWay 46 = .ok (.iconst 0, 1) := by decide +kernel
theorem dX0_keepWay_47 : decode cX0_keepWay 47 = .ok (.istore_n 3, 1) := by decide +kernel
theorem dX0_keepWay_48 : decode cX0_keepWay 48 = .ok (.iload_n 3, 1) := by decide +kernel
theorem dX0_keepWay_49 : decode cX0_keepWay 49 = .ok (.iload_n 1, 1) := by decide +kernel
theorem dX0_keepWay_50 : decode cX0_keepWay 50 = .ok (.if_icmp .ge 26, 3) := by decide +kernel
theorem dX0_keepWay_53 : decode cX0_keepWay 53 = .ok (.aload_n 0, 1) := by decide +kernel
theorem dX0_keepWay_54 : decode cX0_keepWay 54 = .ok (.getfield 30, 3) := by decide +kernel
theorem dX0_keepWay_57 : decode cX0_keepWay 57 = .ok (.iload_n 3, 1) := by decide +kernel
theorem dX0_keepWay_58 : decode cX0_keepWay 58 = .ok (.dup2, 1) := by decide +kernel
theorem dX0_keepWay_59 : decode cX0_keepWay 59 = .ok (.iaload, 1) := by decide +kernel
theorem dX0_keepWay_60 : decode cX0_keepWay 60 = .ok (.iconst 1, 1) := by decide +kernel
theorem dX0_keepWay_61 : decode cX0_keepWay 61 = .ok (.aload_n 0, 1) := by decide +kernel
theorem dX0_keepWay_62 : decode cX0_keepWay 62 = .ok (.getfield 27, 3) := by decide +kernel
theorem dX0_keepWay_65 : decode cX0_keepWay 65 = .ok (.iload_n 3, 1) := by decide +kernel
theorem dX0_keepWay_66 : decode cX0_keepWay 66 = .ok (.iaload, 1) := by decide +kernel
theorem dX0_keepWay_67 : decode cX0_keepWay 67 = .ok (.ishl, 1) := by decide +kernel
theorem dX0_keepWay_68 : decode cX0_keepWay 68 = .ok (.ior, 1) := by decide +kernel
theorem dX0_keepWay_69 : decode cX0_keepWay 69 = .ok (.iastore, 1) := by decide +kernel
theorem dX0_keepWay_70 : decode cX0_keepWay 70 = .ok (.iinc 3 1, 3) := by decide +kernel
theorem dX0_keepWay_73 : decode cX0_keepWay 73 = .ok (.goto (-25), 3) := by decide +kernel
theorem dX0_keepWay_76 : decode cX0_keepWay 76 = .ok (.return_, 1) := by decide +kernel
theorem dX1_size_0 : decode cX1_size 0 = .ok (.aload_n 0, 1) := by decide +kernel
theorem dX1_size_1 : decode cX1_size 1 = .ok (.getfield 15, 3) := by decide +kernel
theorem dX1_size_4 : decode cX1_size 4 = .ok (.ireturn, 1) := by decide +kernel
theorem dX1_empty_0 : decode cX1_empty 0 = .ok (.aload_n 0, 1) := by decide +kernel
theorem dX1_empty_1 : decode cX1_empty 1 = .ok (.iconst 0, 1) := by decide +kernel
theorem dX1_empty_2 : decode cX1_empty 2 = .ok (.putfield 15, 3) := by decide +kernel
theorem dX1_empty_5 : decode cX1_empty 5 = .ok (.return_, 1) := by decide +kernel
theorem dX1_keep_0 : decode cX1_keep 0 = .ok (.aload_n 1, 1) := by decide +kernel
theorem dX1_keep_1 : decode cX1_keep 1 = .ok (.iconst 0, 1) := by decide +kernel
theorem dX1_keep_2 : decode cX1_keep 2 = .ok (.aload_n 0, 1) := by decide +kernel
theorem dX1_keep_3 : decode cX1_keep 3 = .ok (.getfield 11, 3) := by decide +kernel
theorem dX1_keep_6 : decode cX1_keep 6 = .ok (.aload_n 0, 1) := by decide +kernel
theorem dX1_keep_7 : decode cX1_keep 7 = .ok (.getfield 19, 3) := by decide +kernel
theorem dX1_keep_10 : decode cX1_keep 10 = .ok (.bipush 47, 2) := by decide +kernel
theorem dX1_keep_12 : decode cX1_keep 12 = .ok (.imul, 1) := by decide +kernel
theorem dX1_keep_13 : decode cX1_keep 13 = .ok (.bipush 47, 2) := by decide +kernel
theorem dX1_keep_15 : decode cX1_keep 15 = .ok (.invokestatic 22, 3) := by decide +kernel
theorem dX1_keep_18 : decode cX1_keep 18 = .ok (.aload_n 0, 1) := by decide +kernel
theorem dX1_keep_19 : decode cX1_keep 19 = .ok (.aload_n 0, 1) := by decide +kernel
theorem dX1_keep_20 : decode cX1_keep 20 = .ok (.getfield 19, 3) := by decide +kernel
theorem dX1_keep_23 : decode cX1_keep 23 = .ok (.iconst 1, 1) := by decide +kernel
theorem dX1_keep_24 : decode cX1_keep 24 = .ok (.iadd, 1) := by decide +kernel
theorem dX1_keep_25 : decode cX1_keep 25 = .ok (.bipush 40, 2) := by decide +kernel
theorem dX1_keep_27 : decode cX1_keep 27 = .ok (.irem, 1) := by decide +kernel
theorem dX1_keep_28 : decode cX1_keep 28 = .ok (.putfield 19, 3) := by decide +kernel
theorem dX1_keep_31 : decode cX1_keep 31 = .ok (.aload_n 0, 1) := by decide +kernel
theorem dX1_keep_32 : decode cX1_keep 32 = .ok (.aload_n 0, 1) := by decide +kernel
theorem dX1_keep_33 : decode cX1_keep 33 = .ok (.getfield 15, 3) := by decide +kernel
theorem dX1_keep_36 : decode cX1_keep 36 = .ok (.iconst 1, 1) := by decide +kernel
theorem dX1_keep_37 : decode cX1_keep 37 = .ok (.iadd, 1) := by decide +kernel
theorem dX1_keep_38 : decode cX1_keep 38 = .ok (.bipush 40, 2) := by decide +kernel
theorem dX1_keep_40 : decode cX1_keep 40 = .ok (.invokestatic 28, 3) := by decide +kernel
theorem dX1_keep_43 : decode cX1_keep 43 = .ok (.putfield 15, 3) := by decide +kernel
theorem dX1_keep_46 : decode cX1_keep 46 = .ok (.return_, 1) := by decide +kernel
theorem dX1_takeBack_0 : decode cX1_takeBack 0 = .ok (.aload_n 0, 1) := by decide +kernel
theorem dX1_takeBack_1 : decode cX1_takeBack 1 = .ok (.getfield 15, 3) := by decide +kernel
theorem dX1_takeBack_4 : decode cX1_takeBack 4 = .ok (.ifCond .le 47, 3) := by decide +kernel
theorem dX1_takeBack_7 : decode cX1_takeBack 7 = .ok (.aload_n 0, 1) := by decide +kernel
theorem dX1_takeBack_8 : decode cX1_takeBack 8 = .ok (.aload_n 0, 1) := by decide +kernel
theorem dX1_takeBack_9 : decode cX1_takeBack 9 = .ok (.getfield 19, 3) := by decide +kernel
theorem dX1_takeBack_12 : decode cX1_takeBack 12 = .ok (.bipush 40, 2) := by decide +kernel
theorem dX1_takeBack_14 : decode cX1_takeBack 14 = .ok (.iadd, 1) := by decide +kernel
theorem dX1_takeBack_15 : decode cX1_takeBack 15 = .ok (.iconst 1, 1) := by decide +kernel
theorem dX1_takeBack_16 : decode cX1_takeBack 16 = .ok (.isub, 1) := by decide +kernel
theorem dX1_takeBack_17 : decode cX1_takeBack 17 = .ok (.bipush 40, 2) := by decide +kernel
theorem dX1_takeBack_19 : decode cX1_takeBack 19 = .ok (.irem, 1) := by decide +kernel
theorem dX1_takeBack_20 : decode cX1_takeBack 20 = .ok (.putfield 19, 3) := by decide +kernel
theorem dX1_takeBack_23 : decode cX1_takeBack 23 = .ok (.aload_n 0, 1) := by decide +kernel
theorem dX1_takeBack_24 : decode cX1_takeBack 24 = .ok (.dup, 1) := by decide +kernel
theorem dX1_takeBack_25 : decode cX1_takeBack 25 = .ok (.getfield 15, 3) := by decide +kernel
theorem dX1_takeBack_28 : decode cX1_takeBack 28 = .ok (.iconst 1, 1) := by decide +kernel
theorem dX1_takeBack_29 : decode cX1_takeBack 29 = .ok (.isub, 1) := by decide +kernel
theorem dX1_takeBack_30 : decode cX1_takeBack 30 = .ok (.putfield 15, 3) := by decide +kernel
theorem dX1_takeBack_33 : decode cX1_takeBack 33 = .ok (.aload_n 0, 1) := by decide +kernel
theorem dX1_takeBack_34 : decode cX1_takeBack 34 = .ok (.getfield 11, 3) := by decide +kernel
theorem dX1_takeBack_37 : decode cX1_takeBack 37 = .ok (.aload_n 0, 1) := by decide +kernel
theorem dX1_takeBack_38 : decode cX1_takeBack 38 = .ok (.getfield 19, 3) := by decide +kernel
theorem dX1_takeBack_41 : decode cX1_takeBack 41 = .ok (.bipush 47, 2) := by decide +kernel
theorem dX1_takeBack_43 : decode cX1_takeBack 43 = .ok (.imul, 1) := by decide +kernel
theorem dX1_takeBack_44 : decode cX1_takeBack 44 = .ok (.aload_n 1, 1) := by decide +kernel
theorem dX1_takeBack_45 : decode cX1_takeBack 45 = .ok (.iconst 0, 1) := by decide +kernel
theorem dX1_takeBack_46 : decode cX1_takeBack 46 = .ok (.bipush 47, 2) := by decide +kernel
theorem dX1_takeBack_48 : decode cX1_takeBack 48 = .ok (.invokestatic 22, 3) := by decide +kernel
theorem dX1_takeBack_51 : decode cX1_takeBack 51 = .ok (.return_, 1) := by decide +kernel
theorem dX2_faultPlace_0 : decode cX2_faultPlace 0 = .ok (.aload_n 0, 1) := by decide +kernel
theorem dX2_faultPlace_1 : decode cX2_faultPlace 1 = .ok (.getfield 22, 3) := by decide +kernel
theorem dX2_faultPlace_4 : decode cX2_faultPlace 4 = .ok (.ireturn, 1) := by decide +kernel
theorem dX8_put_0 : decode cX8_put 0 = .ok (.aload_n 0, 1) := by decide +kernel
theorem dX8_put_1 : decode cX8_put 1 = .ok (.getfield 64, 3) := by decide +kernel
theorem dX8_put_4 : decode cX8_put 4 = .ok (.sipush 408, 3) := by decide +kernel
theorem dX8_put_7 : decode cX8_put 7 = .ok (.if_icmp .ge 32, 3) := by decide +kernel
theorem dX8_put_10 : decode cX8_put 10 = .ok (.aload_n 0, 1) := by decide +kernel
theorem dX8_put_11 : decode cX8_put 11 = .ok (.getfield 39, 3) := by decide +kernel
theorem dX8_put_14 : decode cX8_put 14 = .ok (.aload_n 0, 1) := by decide +kernel
theorem dX8_put_15 : decode cX8_put 15 = .ok (.getfield 64, 3) := by decide +kernel
theorem dX8_put_18 : decode cX8_put 18 = .ok (.iload_n 1, 1) := by decide +kernel
theorem dX8_put_19 : decode cX8_put 19 = .ok (.bipush 14, 2) := by decide +kernel
theorem dX8_put_21 : decode cX8_put 21 = .ok (.ishl, 1) := by decide +kernel
theorem dX8_put_22 : decode cX8_put 22 = .ok (.iload_n 2, 1) := by decide +kernel
theorem dX8_put_23 : decode cX8_put 23 = .ok (.sipush 16383, 3) := by decide +kernel
theorem dX8_put_26 : decode cX8_put 26 = .ok (.iand, 1) := by decide +kernel
theorem dX8_put_27 : decode cX8_put 27 = .ok (.ior, 1) := by decide +kernel
theorem dX8_put_28 : decode cX8_put 28 = .ok (.iastore, 1) := by decide +kernel
theorem dX8_put_29 : decode cX8_put 29 = .ok (.aload_n 0, 1) := by decide +kernel
theorem dX8_put_30 : decode cX8_put 30 = .ok (.dup, 1) := by decide +kernel
theorem dX8_put_31 : decode cX8_put 31 = .ok (.getfield 64, 3) := by decide +kernel
theorem dX8_put_34 : decode cX8_put 34 = .ok (.iconst 1, 1) := by decide +kernel
theorem dX8_put_35 : decode cX8_put 35 = .ok (.iadd, 1) := by decide +kernel
theorem dX8_put_36 : decode cX8_put 36 = .ok (.putfield 64, 3) := by decide +kernel
theorem dX8_put_39 : decode cX8_put 39 = .ok (.return_, 1) := by decide +kernel
theorem dX8_clear_0 : decode cX8_clear 0 = .ok (.aload_n 0, 1) := by decide +kernel
theorem dX8_clear_1 : decode cX8_clear 1 = .ok (.iconst 0, 1) := by decide +kernel
theorem dX8_clear_2 : decode cX8_clear 2 = .ok (.putfield 45, 3) := by decide +kernel
theorem dX8_clear_5 : decode cX8_clear 5 = .ok (.aload_n 0, 1) := by decide +kernel
theorem dX8_clear_6 : decode cX8_clear 6 = .ok (.iconst 0, 1) := by decide +kernel
theorem dX8_clear_7 : decode cX8_clear 7 = .ok (.putfield 49, 3) := by decide +kernel
theorem dX8_clear_10 : decode cX8_clear 10 = .ok (.aload_n 0, 1) := by decide +kernel
theorem dX8_clear_11 : decode cX8_clear 11 = .ok (.iconst 0, 1) := by decide +kernel
theorem dX8_clear_12 : decode cX8_clear 12 = .ok (.putfield 52, 3) := by decide +kernel
theorem dX8_clear_15 : decode cX8_clear 15 = .ok (.aload_n 0, 1) := by decide +kernel
theorem dX8_clear_16 : decode cX8_clear 16 = .ok (.iconst 0, 1) := by decide +kernel
theorem dX8_clear_17 : decode cX8_clear 17 = .ok (.putfield 55, 3) := by decide +kernel
theorem dX8_clear_20 : decode cX8_clear 20 = .ok (.aload_n 0, 1) := by decide +kernel
theorem dX8_clear_21 : decode cX8_clear 21 = .ok (.iconst 1, 1) := by decide +kernel
theorem dX8_clear_22 : decode cX8_clear 22 = .ok (.putfield 58, 3) := by decide +kernel
theorem dX8_clear_25 : decode cX8_clear 25 = .ok (.aload_n 0, 1) := by decide +kernel
theorem dX8_clear_26 : decode cX8_clear 26 = .ok (.iconst 0, 1) := by decide +kernel
theorem dX8_clear_27 : decode cX8_clear 27 = .ok (.putfield 61, 3) := by decide +kernel
theorem dX8_clear_30 : decode cX8_clear 30 = .ok (.aload_n 0, 1) := by decide +kernel
theorem dX8_clear_31 : decode cX8_clear 31 = .ok (.iconst 0, 1) := by decide +kernel
theorem dX8_clear_32 : decode cX8_clear 32 = .ok (.putfield 64, 3) := by decide +kernel
theorem dX8_clear_35 : decode cX8_clear 35 = .ok (.aload_n 0, 1) := by decide +kernel
theorem dX8_clear_36 : decode cX8_clear 36 = .ok (.aload_n 0, 1) := by decide +kernel
theorem dX8_clear_37 : decode cX8_clear 37 = .ok (.getfield 64, 3) := by decide +kernel
theorem dX8_clear_40 : decode cX8_clear 40 = .ok (.putfield 67, 3) := by decide +kernel
theorem dX8_clear_43 : decode cX8_clear 43 = .ok (.aload_n 0, 1) := by decide +kernel
theorem dX8_clear_44 : decode cX8_clear 44 = .ok (.iconst 0, 1) := by decide +kernel
theorem dX8_clear_45 : decode cX8_clear 45 = .ok (.iconst 3, 1) := by decide +kernel
theorem dX8_clear_46 : decode cX8_clear 46 = .ok (.invokevirtual 70, 3) := by decide +kernel
theorem dX8_clear_49 : decode cX8_clear 49 = .ok (.aload_n 0, 1) := by decide +kernel
theorem dX8_clear_50 : decode cX8_clear 50 = .ok (.bipush 7, 2) := by decide +kernel
theorem dX8_clear_52 : decode cX8_clear 52 = .ok (.iconst 0, 1) := by decide +kernel
theorem dX8_clear_53 : decode cX8_clear 53 = .ok (.invokevirtual 70, 3) := by decide +kernel
theorem dX8_clear_56 : decode cX8_clear 56 = .ok (.aload_n 0, 1) := by decide +kernel
theorem dX8_clear_57 : decode cX8_clear 57 = .ok (.aload_n 0, 1) := by decide +kernel
theorem dX8_clear_58 : decode cX8_clear 58 = .ok (.getfield 64, 3) := by decide +kernel
theorem dX8_clear_61 : decode cX8_clear 61 = .ok (.putfield 74, 3) := by decide +kernel
theorem dX8_clear_64 : decode cX8_clear 64 = .ok (.aload_n 0, 1) := by decide +kernel
theorem dX8_clear_65 : decode cX8_clear 65 = .ok (.iconst 1, 1) := by decide +kernel
theorem dX8_clear_66 : decode cX8_clear 66 = .ok (.iconst 3, 1) := by decide +kernel
theorem dX8_clear_67 : decode cX8_clear 67 = .ok (.invokevirtual 70, 3) := by decide +kernel
theorem dX8_clear_70 : decode cX8_clear 70 = .ok (.aload_n 0, 1) := by decide +kernel
theorem dX8_clear_71 : decode cX8_clear 71 = .ok (.bipush 7, 2) := by decide +kernel
theorem dX8_clear_73 : decode cX8_clear 73 = .ok (.iconst 0, 1) := by decide +kernel
theorem dX8_clear_74 : decode cX8_clear 74 = .ok (.invokevirtual 70, 3) := by decide +kernel
theorem dX8_clear_77 : decode cX8_clear 77 = .ok (.return_, 1) := by decide +kernel
theorem dX7_sortAt_0 : decode cX7_sortAt 0 = .ok (.iload_n 1, 1) := by decide +kernel
theorem dX7_sortAt_1 : decode cX7_sortAt 1 = .ok (.ifCond .lt 20, 3) := by decide +kernel
theorem dX7_sortAt_4 : decode cX7_sortAt 4 = .ok (.iload_n 1, 1) := by decide +kernel
theorem dX7_sortAt_5 : decode cX7_sortAt 5 = .ok (.aload_n 0, 1) := by decide +kernel
theorem dX7_sortAt_6 : decode cX7_sortAt 6 = .ok (.getfield 41, 3) := by decide +kernel
theorem dX7_sortAt_9 : decode cX7_sortAt 9 = .ok (.if_icmp .ge 12, 3) := by decide +kernel
theorem dX7_sortAt_12 : decode cX7_sortAt 12 = .ok (.aload_n 0, 1) := by decide +kernel
theorem dX7_sortAt_13 : decode cX7_sortAt 13 = .ok (.getfield 11, 3) := by decide +kernel
theorem dX7_sortAt_16 : decode cX7_sortAt 16 = .ok (.iload_n 1, 1) := by decide +kernel
theorem dX7_sortAt_17 : decode cX7_sortAt 17 = .ok (.iaload, 1) := by decide +kernel
theorem dX7_sortAt_18 : decode cX7_sortAt 18 = .ok (.goto 4, 3) := by decide +kernel
theorem dX7_sortAt_21 : decode cX7_sortAt 21 = .ok (.iconst 0, 1) := by decide +kernel
theorem dX7_sortAt_22 : decode cX7_sortAt 22 = .ok (.ireturn, 1) := by decide +kernel
theorem dX2_sort_0 : decode cX2_sort 0 = .ok (.aload_n 0, 1) := by decide +kernel
theorem dX2_sort_1 : decode cX2_sort 1 = .ok (.getfield 18, 3) := by decide +kernel
theorem dX2_sort_4 : decode cX2_sort 4 = .ok (.aload_n 0, 1) := by decide +kernel
theorem dX2_sort_5 : decode cX2_sort 5 = .ok (.getfield 35, 3) := by decide +kernel
theorem dX2_sort_8 : decode cX2_sort 8 = .ok (.invokevirtual 181, 3) := by decide +kernel
theorem dX2_sort_11 : decode cX2_sort 11 = .ok (.ireturn, 1) := by decide +kernel
theorem dX2_fail_0 : decode cX2_fail 0 = .ok (.aload_n 0, 1) := by decide +kernel
theorem dX2_fail_1 : decode cX2_fail 1 = .ok (.getfield 38, 3) := by decide +kernel
theorem dX2_fail_4 : decode cX2_fail 4 = .ok (.ifCond .ne 8, 3) := by decide +kernel
theorem dX2_fail_7 : decode cX2_fail 7 = .ok (.aload_n 0, 1) := by decide +kernel
theorem dX2_fail_8 : decode cX2_fail 8 = .ok (.iload_n 1, 1) := by decide +kernel
theorem dX2_fail_9 : decode cX2_fail 9 = .ok (.putfield 38, 3) := by decide +kernel
theorem dX2_fail_12 : decode cX2_fail 12 = .ok (.return_, 1) := by decide +kernel
theorem dX2_take_0 : decode cX2_take 0 = .ok (.aload_n 0, 1) := by decide +kernel
theorem dX2_take_1 : decode cX2_take 1 = .ok (.getfield 38, 3) := by decide +kernel
theorem dX2_take_4 : decode cX2_take 4 = .ok (.ifCond .eq 4, 3) := by decide +kernel
theorem dX2_take_7 : decode cX2_take 7 = .ok (.return_, 1) := by decide +kernel
theorem dX2_take_8 : decode cX2_take 8 = .ok (.aload_n 0, 1) := by decide +kernel
theorem dX2_take_9 : decode cX2_take 9 = .ok (.getfield 35, 3) := by decide +kernel
theorem dX2_take_12 : decode cX2_take 12 = .ok (.sipush 400, 3) := by decide +kernel
theorem dX2_take_15 : decode cX2_take 15 = .ok (.if_icmp .ge 16, 3) := by decide +kernel
theorem dX2_take_18 : decode cX2_take 18 = .ok (.aload_n 0, 1) := by decide +kernel
theorem dX2_take_19 : decode cX2_take 19 = .ok (.dup, 1) := by decide +kernel
theorem dX2_take_20 : decode cX2_take 20 = .ok (.getfield 35, 3) := by decide +kernel
theorem dX2_take_23 : decode cX2_take 23 = .ok (.iconst 1, 1) := by decide +kernel
theorem dX2_take_24 : decode cX2_take 24 = .ok (.iadd, 1) := by decide +kernel
theorem dX2_take_25 : decode cX2_take 25 = .ok (.putfield 35, 3) := by decide +kernel
theorem dX2_take_28 : decode cX2_take 28 = .ok (.goto 8, 3) := by decide +kernel
theorem dX2_take_31 : decode cX2_take 31 = .ok (.aload_n 0, 1) := by decide +kernel
theorem dX2_take_32 : decode cX2_take 32 = .ok (.iconst 2, 1) := by decide +kernel
theorem dX2_take_33 : decode cX2_take 33 = .ok (.putfield 38, 3) := by decide +kernel
theorem dX2_take_36 : decode cX2_take 36 = .ok (.return_, 1) := by decide +kernel
theorem dX7_worthAt_0 : decode cX7_worthAt 0 = .ok (.iload_n 1, 1) := by decide +kernel
theorem dX7_worthAt_1 : decode cX7_worthAt 1 = .ok (.ifCond .lt 20, 3) := by decide +kernel
theorem dX7_worthAt_4 : decode cX7_worthAt 4 = .ok (.iload_n 1, 1) := by decide +kernel
theorem dX7_worthAt_5 : decode cX7_worthAt 5 = .ok (.aload_n 0, 1) := by decide +kernel
theorem dX7_worthAt_6 : decode cX7_worthAt 6 = .ok (.getfield 41, 3) := by decide +kernel
theorem dX7_worthAt_9 : decode cX7_worthAt 9 = .ok (.if_icmp .ge 12, 3) := by decide +kernel
theorem dX7_worthAt_12 : decode cX7_worthAt 12 = .ok (.aload_n 0, 1) := by decide +kernel
theorem dX7_worthAt_13 : decode cX7_worthAt 13 = .ok (.getfield 18, 3) := by decide +kernel
theorem dX7_worthAt_16 : decode cX7_worthAt 16 = .ok (.iload_n 1, 1) := by decide +kernel
theorem dX7_worthAt_17 : decode cX7_worthAt 17 = .ok (.laload, 1) := by decide +kernel
theorem dX7_worthAt_18 : decode cX7_worthAt 18 = .ok (.goto 4, 3) := by decide +kernel
theorem dX7_worthAt_21 : decode cX7_worthAt 21 = .ok (.lconst 0, 1) := by decide +kernel
theorem dX7_worthAt_22 : decode cX7_worthAt 22 = .ok (.lreturn, 1) := by decide +kernel
theorem dX2_find_0 : decode cX2_find 0 = .ok (.iconst 0, 1) := by decide +kernel
theorem dX2_find_1 : decode cX2_find 1 = .ok (.istore 4, 2) := by decide +kernel
theorem dX2_find_3 : decode cX2_find 3 = .ok (.iload 4, 2) := by decide +kernel
theorem dX2_find_5 : decode cX2_find 5 = .ok (.iload_n 3, 1) := by decide +kernel
theorem dX2_find_6 : decode cX2_find 6 = .ok (.if_icmp .ge 28, 3) := by decide +kernel
theorem dX2_find_9 : decode cX2_find 9 = .ok (.iload 4, 2) := by decide +kernel
theorem dX2_find_11 : decode cX2_find 11 = .ok (.aload_n 2, 1) := by decide +kernel
theorem dX2_find_12 : decode cX2_find 12 = .ok (.arraylength, 1) := by decide +kernel
theorem dX2_find_13 : decode cX2_find 13 = .ok (.if_icmp .ge 21, 3) := by decide +kernel
theorem dX2_find_16 : decode cX2_find 16 = .ok (.aload_n 2, 1) := by decide +kernel
theorem dX2_find_17 : decode cX2_find 17 = .ok (.iload 4, 2) := by decide +kernel
theorem dX2_find_19 : decode cX2_find 19 = .ok (.laload, 1) := by decide +kernel
theorem dX2_find_20 : decode cX2_find 20 = .ok (.lload_n 0, 1) := by decide +kernel
theorem dX2_find_21 : decode cX2_find 21 = .ok (.lcmp, 1) := by decide +kernel
theorem dX2_find_22 : decode cX2_find 22 = .ok (.ifCond .ne 6, 3) := by decide +kernel
theorem dX2_find_25 : decode cX2_find 25 = .ok (.iload 4, 2) := by decide +kernel
theorem dX2_find_27 : decode cX2_find 27 = .ok (.ireturn, 1) := by decide +kernel
theorem dX2_find_28 : decode cX2_find 28 = .ok (.iinc 4 1, 3) := by decide +kernel
theorem dX2_find_31 : decode cX2_find 31 = .ok (.goto (-28), 3) := by decide +kernel
theorem dX2_find_34 : decode cX2_find 34 = .ok (.iconst (-1), 1) := by decide +kernel
theorem dX2_find_35 : decode cX2_find 35 = .ok (.ireturn, 1) := by decide +kernel
theorem dX7_placeAt_0 : decode cX7_placeAt 0 = .ok (.iload_n 1, 1) := by decide +kernel
theorem dX7_placeAt_1 : decode cX7_placeAt 1 = .ok (.ifCond .lt 20, 3) := by decide +kernel
theorem dX7_placeAt_4 : decode cX7_placeAt 4 = .ok (.iload_n 1, 1) := by decide +kernel
theorem dX7_placeAt_5 : decode cX7_placeAt 5 = .ok (.aload_n 0, 1) := by decide +kernel
theorem dX7_placeAt_6 : decode cX7_placeAt 6 = .ok (.getfield 41, 3) := by decide +kernel
theorem dX7_placeAt_9 : decode cX7_placeAt 9 = .ok (.if_icmp .ge 12, 3) := by decide +kernel
theorem dX7_placeAt_12 : decode cX7_placeAt 12 = .ok (.aload_n 0, 1) := by decide +kernel
theorem dX7_placeAt_13 : decode cX7_placeAt 13 = .ok (.getfield 15, 3) := by decide +kernel
theorem dX7_placeAt_16 : decode cX7_placeAt 16 = .ok (.iload_n 1, 1) := by decide +kernel
theorem dX7_placeAt_17 : decode cX7_placeAt 17 = .ok (.iaload, 1) := by decide +kernel
theorem dX7_placeAt_18 : decode cX7_placeAt 18 = .ok (.goto 4, 3) := by decide +kernel
theorem dX7_placeAt_21 : decode cX7_placeAt 21 = .ok (.iconst (-1), 1) := by decide +kernel
theorem dX7_placeAt_22 : decode cX7_placeAt 22 = .ok (.ireturn, 1) := by decide +kernel
theorem dX2_note_0 : decode cX2_note 0 = .ok (.aload_n 0, 1) := by decide +kernel
theorem dX2_note_1 : decode cX2_note 1 = .ok (.getfield 38, 3) := by decide +kernel
theorem dX2_note_4 : decode cX2_note 4 = .ok (.ifCond .ne 30, 3) := by decide +kernel
theorem dX2_note_7 : decode cX2_note 7 = .ok (.aload_n 0, 1) := by decide +kernel
theorem dX2_note_8 : decode cX2_note 8 = .ok (.getfield 41, 3) := by decide +kernel
theorem dX2_note_11 : decode cX2_note 11 = .ok (.ifCond .ne 23, 3) := by decide +kernel
theorem dX2_note_14 : decode cX2_note 14 = .ok (.aload_n 0, 1) := by decide +kernel
theorem dX2_note_15 : decode cX2_note 15 = .ok (.iload_n 1, 1) := by decide +kernel
theorem dX2_note_16 : decode cX2_note 16 = .ok (.putfield 41, 3) := by decide +kernel
theorem dX2_note_19 : decode cX2_note 19 = .ok (.aload_n 0, 1) := by decide +kernel
theorem dX2_note_20 : decode cX2_note 20 = .ok (.aload_n 0, 1) := by decide +kernel
theorem dX2_note_21 : decode cX2_note 21 = .ok (.getfield 18, 3) := by decide +kernel
theorem dX2_note_24 : decode cX2_note 24 = .ok (.aload_n 0, 1) := by decide +kernel
theorem dX2_note_25 : decode cX2_note 25 = .ok (.getfield 35, 3) := by decide +kernel
theorem dX2_note_28 : decode cX2_note 28 = .ok (.invokevirtual 86, 3) := by decide +kernel
theorem dX2_note_31 : decode cX2_note 31 = .ok (.putfield 44, 3) := by decide +kernel
theorem dX2_note_34 : decode cX2_note 34 = .ok (.return_, 1) := by decide +kernel
theorem dX2_expect_0 : decode cX2_expect 0 = .ok (.aload_n 0, 1) := by decide +kernel
theorem dX2_expect_1 : decode cX2_expect 1 = .ok (.invokevirtual 47, 3) := by decide +kernel
theorem dX2_expect_4 : decode cX2_expect 4 = .ok (.iload_n 1, 1) := by decide +kernel
theorem dX2_expect_5 : decode cX2_expect 5 = .ok (.if_icmp .ne 10, 3) := by decide +kernel
theorem dX2_expect_8 : decode cX2_expect 8 = .ok (.aload_n 0, 1) := by decide +kernel
theorem dX2_expect_9 : decode cX2_expect 9 = .ok (.invokevirtual 95, 3) := by decide +kernel
theorem dX2_expect_12 : decode cX2_expect 12 = .ok (.goto 8, 3) := by decide +kernel
theorem dX2_expect_15 : decode cX2_expect 15 = .ok (.aload_n 0, 1) := by decide +kernel
theorem dX2_expect_16 : decode cX2_expect 16 = .ok (.iconst 1, 1) := by decide +kernel
theorem dX2_expect_17 : decode cX2_expect 17 = .ok (.invokevirtual 82, 3) := by decide +kernel
theorem dX2_expect_20 : decode cX2_expect 20 = .ok (.return_, 1) := by decide +kernel
theorem dX2_newName_0 : decode cX2_newName 0 = .ok (.aload_n 0, 1) := by decide +kernel
theorem dX2_newName_1 : decode cX2_newName 1 = .ok (.getfield 18, 3) := by decide +kernel
theorem dX2_newName_4 : decode cX2_newName 4 = .ok (.aload_n 0, 1) := by decide +kernel
theorem dX2_newName_5 : decode cX2_newName 5 = .ok (.getfield 35, 3) := by decide +kernel
theorem dX2_newName_8 : decode cX2_newName 8 = .ok (.invokevirtual 165, 3) := by decide +kernel
theorem dX2_newName_11 : decode cX2_newName 11 = .ok (.lstore_n 1, 1) := by decide +kernel
theorem dX2_newName_12 : decode cX2_newName 12 = .ok (.lload_n 1, 1) := by decide +kernel
theorem dX2_newName_13 : decode cX2_newName 13 = .ok (.aload_n 0, 1) := by decide +kernel
theorem dX2_newName_14 : decode cX2_newName 14 = .ok (.getfield 9, 3) := by decide +kernel
theorem dX2_newName_17 : decode cX2_newName 17 = .ok (.aload_n 0, 1) := by decide +kernel
theorem dX2_newName_18 : decode cX2_newName 18 = .ok (.getfield 26, 3) := by decide +kernel
theorem dX2_newName_21 : decode cX2_newName 21 = .ok (.getfield 92, 3) := by decide +kernel
theorem dX2_newName_24 : decode cX2_newName 24 = .ok (.invokestatic 172, 3) := by decide +kernel
theorem dX2_newName_27 : decode cX2_newName 27 = .ok (.iconst (-1), 1) := by decide +kernel
theorem dX2_newName_28 : decode cX2_newName 28 = .ok (.if_icmp .ne 22, 3) := by decide +kernel
theorem dX2_newName_31 : decode cX2_newName 31 = .ok (.lload_n 1, 1) := by decide +kernel
theorem dX2_newName_32 : decode cX2_newName 32 = .ok (.aload_n 0, 1) := by decide +kernel
theorem dX2_newName_33 : decode cX2_newName 33 = .ok (.getfield 15, 3) := by decide +kernel
theorem dX2_newName_36 : decode cX2_newName 36 = .ok (.aload_n 0, 1) := by decide +kernel
theorem dX2_newName_37 : decode cX2_newName 37 = .ok (.getfield 26, 3) := by decide +kernel
theorem dX2_newName_40 : decode cX2_newName 40 = .ok (.getfield 115, 3) := by decide +kernel
theorem dX2_newName_43 : decode cX2_newName 43 = .ok (.invokestatic 172, 3) := by decide +kernel
theorem dX2_newName_46 : decode cX2_newName 46 = .ok (.iconst (-1), 1) := by decide +kernel
theorem dX2_newName_47 : decode cX2_newName 47 = .ok (.if_icmp .eq 8, 3) := by decide +kernel
theorem dX2_newName_50 : decode cX2_newName 50 = .ok (.aload_n 0, 1) := by decide +kernel
theorem dX2_newName_51 : decode cX2_newName 51 = .ok (.iconst 3, 1) := by decide +kernel
theorem dX2_newName_52 : decode cX2_newName 52 = .ok (.invokevirtual 169, 3) := by decide +kernel
theorem dX2_newName_55 : decode cX2_newName 55 = .ok (.aload_n 0, 1) := by decide +kernel
theorem dX2_newName_56 : decode cX2_newName 56 = .ok (.iconst 2, 1) := by decide +kernel
theorem dX2_newName_57 : decode cX2_newName 57 = .ok (.invokevirtual 112, 3) := by decide +kernel
theorem dX2_newName_60 : decode cX2_newName 60 = .ok (.lload_n 1, 1) := by decide +kernel
theorem dX2_newName_61 : decode cX2_newName 61 = .ok (.lreturn, 1) := by decide +kernel
theorem dX2_number_0 : decode cX2_number 0 = .ok (.aload_n 0, 1) := by decide +kernel
theorem dX2_number_1 : decode cX2_number 1 = .ok (.getfield 18, 3) := by decide +kernel
theorem dX2_number_4 : decode cX2_number 4 = .ok (.aload_n 0, 1) := by decide +kernel
theorem dX2_number_5 : decode cX2_number 5 = .ok (.getfield 35, 3) := by decide +kernel
theorem dX2_number_8 : decode cX2_number 8 = .ok (.invokevirtual 165, 3) := by decide +kernel
theorem dX2_number_11 : decode cX2_number 11 = .ok (.l2i, 1) := by decide +kernel
theorem dX2_number_12 : decode cX2_number 12 = .ok (.istore_n 3, 1) := by decide +kernel
theorem dX2_number_13 : decode cX2_number 13 = .ok (.aload_n 0, 1) := by decide +kernel
theorem dX2_number_14 : decode cX2_number 14 = .ok (.invokevirtual 47, 3) := by decide +kernel
theorem dX2_number_17 : decode cX2_number 17 = .ok (.iconst 3, 1) := by decide +kernel
theorem dX2_number_18 : decode cX2_number 18 = .ok (.if_icmp .ne 18, 3) := by decide +kernel
theorem dX2_number_21 : decode cX2_number 21 = .ok (.iload_n 3, 1) := by decide +kernel
theorem dX2_number_22 : decode cX2_number 22 = .ok (.iload_n 1, 1) := by decide +kernel
theorem dX2_number_23 : decode cX2_number 23 = .ok (.if_icmp .lt 8, 3) := by decide +kernel
theorem dX2_number_26 : decode cX2_number 26 = .ok (.iload_n 3, 1) := by decide +kernel
theorem dX2_number_27 : decode cX2_number 27 = .ok (.iload_n 2, 1) := by decide +kernel
theorem dX2_number_28 : decode cX2_number 28 = .ok (.if_icmp .le 8, 3) := by decide +kernel
theorem dX2_number_31 : decode cX2_number 31 = .ok (.aload_n 0, 1) := by decide +kernel
theorem dX2_number_32 : decode cX2_number 32 = .ok (.iconst 5, 1) := by decide +kernel
theorem dX2_number_33 : decode cX2_number 33 = .ok (.invokevirtual 169, 3) := by decide +kernel
theorem dX2_number_36 : decode cX2_number 36 = .ok (.aload_n 0, 1) := by decide +kernel
theorem dX2_number_37 : decode cX2_number 37 = .ok (.iconst 3, 1) := by decide +kernel
theorem dX2_number_38 : decode cX2_number 38 = .ok (.invokevirtual 112, 3) := by decide +kernel
theorem dX2_number_41 : decode cX2_number 41 = .ok (.iload_n 3, 1) := by decide +kernel
theorem dX2_number_42 : decode cX2_number 42 = .ok (.ireturn, 1) := by decide +kernel
theorem dX2_tellHouse_0 : decode cX2_tellHouse 0 = .ok (.aload_n 0, 1) := by decide +kernel
theorem dX2_tellHouse_1 : decode cX2_tellHouse 1 = .ok (.getfield 26, 3) := by decide +kernel
theorem dX2_tellHouse_4 : decode cX2_tellHouse 4 = .ok (.getfield 92, 3) := by decide +kernel
theorem dX2_tellHouse_7 : decode cX2_tellHouse 7 = .ok (.istore_n 1, 1) := by decide +kernel
theorem dX2_tellHouse_8 : decode cX2_tellHouse 8 = .ok (.iload_n 1, 1) := by decide +kernel
theorem dX2_tellHouse_9 : decode cX2_tellHouse 9 = .ok (.iconst 5, 1) := by decide +kernel
theorem dX2_tellHouse_10 : decode cX2_tellHouse 10 = .ok (.if_icmp .lt 9, 3) := by decide +kernel
theorem dX2_tellHouse_13 : decode cX2_tellHouse 13 = .ok (.aload_n 0, 1) := by decide +kernel
theorem dX2_tellHouse_14 : decode cX2_tellHouse 14 = .ok (.iconst 2, 1) := by decide +kernel
theorem dX2_tellHouse_15 : decode cX2_tellHouse 15 = .ok (.invokevirtual 82, 3) := by decide +kernel
theorem dX2_tellHouse_18 : decode cX2_tellHouse 18 = .ok (.return_, 1) := by decide +kernel
theorem dX2_tellHouse_19 : decode cX2_tellHouse 19 = .ok (.aload_n 0, 1) := by decide +kernel
theorem dX2_tellHouse_20 : decode cX2_tellHouse 20 = .ok (.invokevirtual 95, 3) := by decide +kernel
theorem dX2_tellHouse_23 : decode cX2_tellHouse 23 = .ok (.aload_n 0, 1) := by decide +kernel
theorem dX2_tellHouse_24 : decode cX2_tellHouse 24 = .ok (.getfield 9, 3) := by decide +kernel
theorem dX2_tellHouse_27 : decode cX2_tellHouse 27 = .ok (.iload_n 1, 1) := by decide +kernel
theorem dX2_tellHouse_28 : decode cX2_tellHouse 28 = .ok (.aload_n 0, 1) := by decide +kernel
theorem dX2_tellHouse_29 : decode cX2_tellHouse 29 = .ok (.invokevirtual 98, 3) := by decide +kernel
theorem dX2_tellHouse_32 : decode cX2_tellHouse 32 = .ok (.lastore, 1) := by decide +kernel
theorem dX2_tellHouse_33 : decode cX2_tellHouse 33 = .ok (.aload_n 0, 1) := by decide +kernel
theorem dX2_tellHouse_34 : decode cX2_tellHouse 34 = .ok (.getfield 26, 3) := by decide +kernel
theorem dX2_tellHouse_37 : decode cX2_tellHouse 37 = .ok (.getfield 102, 3) := by decide +kernel
theorem dX2_tellHouse_40 : decode cX2_tellHouse 40 = .ok (.iload_n 1, 1) := by decide +kernel
theorem dX2_tellHouse_41 : decode cX2_tellHouse 41 = .ok (.aload_n 0, 1) := by decide +kernel
theorem dX2_tellHouse_42 : decode cX2_tellHouse 42 = .ok (.iconst 0, 1) := by decide +kernel
theorem dX2_tellHouse_43 : decode cX2_tellHouse 43 = .ok (.bipush 9, 2) := by decide +kernel
theorem dX2_tellHouse_45 : decode cX2_tellHouse 45 = .ok (.invokevirtual 106, 3) := by decide +kernel
theorem dX2_tellHouse_48 : decode cX2_tellHouse 48 = .ok (.iastore, 1) := by decide +kernel
theorem dX2_tellHouse_49 : decode cX2_tellHouse 49 = .ok (.aload_n 0, 1) := by decide +kernel
theorem dX2_tellHouse_50 : decode cX2_tellHouse 50 = .ok (.getfield 26, 3) := by decide +kernel
theorem dX2_tellHouse_53 : decode cX2_tellHouse 53 = .ok (.getfield 109, 3) := by decide +kernel
theorem dX2_tellHouse_56 : decode cX2_tellHouse 56 = .ok (.iload_n 1, 1) := by decide +kernel
theorem dX2_tellHouse_57 : decode cX2_tellHouse 57 = .ok (.aload_n 0, 1) := by decide +kernel
theorem dX2_tellHouse_58 : decode cX2_tellHouse 58 = .ok (.iconst 0, 1) := by decide +kernel
theorem dX2_tellHouse_59 : decode cX2_tellHouse 59 = .ok (.bipush 9, 2) := by decide +kernel
theorem dX2_tellHouse_61 : decode cX2_tellHouse 61 = .ok (.invokevirtual 106, 3) := by decide +kernel
theorem dX2_tellHouse_64 : decode cX2_tellHouse 64 = .ok (.iastore, 1) := by decide +kernel
theorem dX2_tellHouse_65 : decode cX2_tellHouse 65 = .ok (.aload_n 0, 1) := by decide +kernel
theorem dX2_tellHouse_66 : decode cX2_tellHouse 66 = .ok (.bipush 59, 2) := by decide +kernel
theorem dX2_tellHouse_68 : decode cX2_tellHouse 68 = .ok (.invokevirtual 112, 3) := by decide +kernel
theorem dX2_tellHouse_71 : decode cX2_tellHouse 71 = .ok (.aload_n 0, 1) := by decide +kernel
theorem dX2_tellHouse_72 : decode cX2_tellHouse 72 = .ok (.getfield 26, 3) := by decide +kernel
theorem dX2_tellHouse_75 : decode cX2_tellHouse 75 = .ok (.dup, 1) := by decide +kernel
theorem dX2_tellHouse_76 : decode cX2_tellHouse 76 = .ok (.getfield 92, 3) := by decide +kernel
theorem dX2_tellHouse_79 : decode cX2_tellHouse 79 = .ok (.iconst 1, 1) := by decide +kernel
theorem dX2_tellHouse_80 : decode cX2_tellHouse 80 = .ok (.iadd, 1) := by decide +kernel
theorem dX2_tellHouse_81 : decode cX2_tellHouse 81 = .ok (.putfield 92, 3) := by decide +kernel
theorem dX2_tellHouse_84 : decode cX2_tellHouse 84 = .ok (.return_, 1) := by decide +kernel
theorem dX2_toldName_0 : decode cX2_toldName 0 = .ok (.aload_n 0, 1) := by decide +kernel
theorem dX2_toldName_1 : decode cX2_toldName 1 = .ok (.getfield 18, 3) := by decide +kernel
theorem dX2_toldName_4 : decode cX2_toldName 4 = .ok (.aload_n 0, 1) := by decide +kernel
theorem dX2_toldName_5 : decode cX2_toldName 5 = .ok (.getfield 35, 3) := by decide +kernel
theorem dX2_toldName_8 : decode cX2_toldName 8 = .ok (.invokevirtual 165, 3) := by decide +kernel
theorem dX2_toldName_11 : decode cX2_toldName 11 = .ok (.aload_n 1, 1) := by decide +kernel
theorem dX2_toldName_12 : decode cX2_toldName 12 = .ok (.iload_n 2, 1) := by decide +kernel
theorem dX2_toldName_13 : decode cX2_toldName 13 = .ok (.invokestatic 172, 3) := by decide +kernel
theorem dX2_toldName_16 : decode cX2_toldName 16 = .ok (.istore_n 3, 1) := by decide +kernel
theorem dX2_toldName_17 : decode cX2_toldName 17 = .ok (.iload_n 3, 1) := by decide +kernel
theorem dX2_toldName_18 : decode cX2_toldName 18 = .ok (.iconst (-1), 1) := by decide +kernel
theorem dX2_toldName_19 : decode cX2_toldName 19 = .ok (.if_icmp .ne 8, 3) := by decide +kernel
theorem dX2_toldName_22 : decode cX2_toldName 22 = .ok (.aload_n 0, 1) := by decide +kernel
theorem dX2_toldName_23 : decode cX2_toldName 23 = .ok (.iconst 4, 1) := by decide +kernel
theorem dX2_toldName_24 : decode cX2_toldName 24 = .ok (.invokevirtual 169, 3) := by decide +kernel
theorem dX2_toldName_27 : decode cX2_toldName 27 = .ok (.aload_n 0, 1) := by decide +kernel
theorem dX2_toldName_28 : decode cX2_toldName 28 = .ok (.iconst 2, 1) := by decide +kernel
theorem dX2_toldName_29 : decode cX2_toldName 29 = .ok (.invokevirtual 112, 3) := by decide +kernel
theorem dX2_toldName_32 : decode cX2_toldName 32 = .ok (.iload_n 3, 1) := by decide +kernel
theorem dX2_toldName_33 : decode cX2_toldName 33 = .ok (.iconst 0, 1) := by decide +kernel
theorem dX2_toldName_34 : decode cX2_toldName 34 = .ok (.invokestatic 176, 3) := by decide +kernel
theorem dX2_toldName_37 : decode cX2_toldName 37 = .ok (.ireturn, 1) := by decide +kernel
theorem dX2_tellWork_0 : decode cX2_tellWork 0 = .ok (.aload_n 0, 1) := by decide +kernel
theorem dX2_tellWork_1 : decode cX2_tellWork 1 = .ok (.getfield 26, 3) := by decide +kernel
theorem dX2_tellWork_4 : decode cX2_tellWork 4 = .ok (.getfield 115, 3) := by decide +kernel
theorem dX2_tellWork_7 : decode cX2_tellWork 7 = .ok (.istore_n 1, 1) := by decide +kernel
theorem dX2_tellWork_8 : decode cX2_tellWork 8 = .ok (.iload_n 1, 1) := by decide +kernel
theorem dX2_tellWork_9 : decode cX2_tellWork 9 = .ok (.bipush 6, 2) := by decide +kernel
theorem dX2_tellWork_11 : decode cX2_tellWork 11 = .ok (.if_icmp .lt 9, 3) := by decide +kernel
theorem dX2_tellWork_14 : decode cX2_tellWork 14 = .ok (.aload_n 0, 1) := by decide +kernel
theorem dX2_tellWork_15 : decode cX2_tellWork 15 = .ok (.iconst 2, 1) := by decide +kernel
theorem dX2_tellWork_16 : decode cX2_tellWork 16 = .ok (.invokevirtual 82, 3) := by decide +kernel
theorem dX2_tellWork_19 : decode cX2_tellWork 19 = .ok (.return_, 1) := by decide +kernel
theorem dX2_tellWork_20 : decode cX2_tellWork 20 = .ok (.aload_n 0, 1) := by decide +kernel
theorem dX2_tellWork_21 : decode cX2_tellWork 21 = .ok (.invokevirtual 95, 3) := by decide +kernel
theorem dX2_tellWork_24 : decode cX2_tellWork 24 = .ok (.aload_n 0, 1) := by decide +kernel
theorem dX2_tellWork_25 : decode cX2_tellWork 25 = .ok (.getfield 15, 3) := by decide +kernel
theorem dX2_tellWork_28 : decode cX2_tellWork 28 = .ok (.iload_n 1, 1) := by decide +kernel
theorem dX2_tellWork_29 : decode cX2_tellWork 29 = .ok (.aload_n 0, 1) := by decide +kernel
theorem dX2_tellWork_30 : decode cX2_tellWork 30 = .ok (.invokevirtual 98, 3) := by decide +kernel
theorem dX2_tellWork_33 : decode cX2_tellWork 33 = .ok (.lastore, 1) := by decide +kernel
theorem dX2_tellWork_34 : decode cX2_tellWork 34 = .ok (.aload_n 0, 1) := by decide +kernel
theorem dX2_tellWork_35 : decode cX2_tellWork 35 = .ok (.getfield 26, 3) := by decide +kernel
theorem dX2_tellWork_38 : decode cX2_tellWork 38 = .ok (.getfield 118, 3) := by decide +kernel
theorem dX2_tellWork_41 : decode cX2_tellWork 41 = .ok (.iload_n 1, 1) := by decide +kernel
theorem dX2_tellWork_42 : decode cX2_tellWork 42 = .ok (.aload_n 0, 1) := by decide +kernel
theorem dX2_tellWork_43 : decode cX2_tellWork 43 = .ok (.aload_n 0, 1) := by decide +kernel
theorem dX2_tellWork_44 : decode cX2_tellWork 44 = .ok (.getfield 9, 3) := by decide +kernel
theorem dX2_tellWork_47 : decode cX2_tellWork 47 = .ok (.aload_n 0, 1) := by decide +kernel
theorem dX2_tellWork_48 : decode cX2_tellWork 48 = .ok (.getfield 26, 3) := by decide +kernel
theorem dX2_tellWork_51 : decode cX2_tellWork 51 = .ok (.getfield 92, 3) := by decide +kernel
theorem dX2_tellWork_54 : decode cX2_tellWork 54 = .ok (.invokevirtual 121, 3) := by decide +kernel
theorem dX2_tellWork_57 : decode cX2_tellWork 57 = .ok (.iastore, 1) := by decide +kernel
theorem dX2_tellWork_58 : decode cX2_tellWork 58 = .ok (.aload_n 0, 1) := by decide +kernel
theorem dX2_tellWork_59 : decode cX2_tellWork 59 = .ok (.getfield 26, 3) := by decide +kernel
theorem dX2_tellWork_62 : decode cX2_tellWork 62 = .ok (.getfield 125, 3) := by decide +kernel
theorem dX2_tellWork_65 : decode cX2_tellWork 65 = .ok (.iload_n 1, 1) := by decide +kernel
theorem dX2_tellWork_66 : decode cX2_tellWork 66 = .ok (.aload_n 0, 1) := by decide +kernel
theorem dX2_tellWork_67 : decode cX2_tellWork 67 = .ok (.aload_n 0, 1) := by decide +kernel
theorem dX2_tellWork_68 : decode cX2_tellWork 68 = .ok (.getfield 9, 3) := by decide +kernel
theorem dX2_tellWork_71 : decode cX2_tellWork 71 = .ok (.aload_n 0, 1) := by decide +kernel
theorem dX2_tellWork_72 : decode cX2_tellWork 72 = .ok (.getfield 26, 3) := by decide +kernel
theorem dX2_tellWork_75 : decode cX2_tellWork 75 = .ok (.getfield 92, 3) := by decide +kernel
theorem dX2_tellWork_78 : decode cX2_tellWork 78 = .ok (.invokevirtual 121, 3) := by decide +kernel
theorem dX2_tellWork_81 : decode cX2_tellWork 81 = .ok (.iastore, 1) := by decide +kernel
theorem dX2_tellWork_82 : decode cX2_tellWork 82 = .ok (.aload_n 0, 1) := by decide +kernel
theorem dX2_tellWork_83 : decode cX2_tellWork 83 = .ok (.getfield 26, 3) := by decide +kernel
theorem dX2_tellWork_86 : decode cX2_tellWork 86 = .ok (.getfield 128, 3) := by decide +kernel
theorem dX2_tellWork_89 : decode cX2_tellWork 89 = .ok (.iload_n 1, 1) := by decide +kernel
theorem dX2_tellWork_90 : decode cX2_tellWork 90 = .ok (.aload_n 0, 1) := by decide +kernel
theorem dX2_tellWork_91 : decode cX2_tellWork 91 = .ok (.iconst 0, 1) := by decide +kernel
theorem dX2_tellWork_92 : decode cX2_tellWork 92 = .ok (.bipush 9, 2) := by decide +kernel
theorem dX2_tellWork_94 : decode cX2_tellWork 94 = .ok (.invokevirtual 106, 3) := by decide +kernel
theorem dX2_tellWork_97 : decode cX2_tellWork 97 = .ok (.iastore, 1) := by decide +kernel
theorem dX2_tellWork_98 : decode cX2_tellWork 98 = .ok (.aload_n 0, 1) := by decide +kernel
theorem dX2_tellWork_99 : decode cX2_tellWork 99 = .ok (.getfield 26, 3) := by decide +kernel
theorem dX2_tellWork_102 : decode cX2_tellWork 102 = .ok (.getfield 131, 3) := by decide +kernel
theorem dX2_tellWork_105 : decode cX2_tellWork 105 = .ok (.iload_n 1, 1) := by decide +kernel
theorem dX2_tellWork_106 : decode cX2_tellWork 106 = .ok (.aload_n 0, 1) := by decide +kernel
theorem dX2_tellWork_107 : decode cX2_tellWork 107 = .ok (.iconst 0, 1) := by decide +kernel
theorem dX2_tellWork_108 : decode cX2_tellWork 108 = .ok (.bipush 99, 2) := by decide +kernel
theorem dX2_tellWork_110 : decode cX2_tellWork 110 = .ok (.invokevirtual 106, 3) := by decide +kernel
theorem dX2_tellWork_113 : decode cX2_tellWork 113 = .ok (.iastore, 1) := by decide +kernel
theorem dX2_tellWork_114 : decode cX2_tellWork 114 = .ok (.aload_n 0, 1) := by decide +kernel
theorem dX2_tellWork_115 : decode cX2_tellWork 115 = .ok (.bipush 59, 2) := by decide +kernel
theorem dX2_tellWork_117 : decode cX2_tellWork 117 = .ok (.invokevirtual 112, 3) := by decide +kernel
theorem dX2_tellWork_120 : decode cX2_tellWork 120 = .ok (.aload_n 0, 1) := by decide +kernel
theorem dX2_tellWork_121 : decode cX2_tellWork 121 = .ok (.getfield 26, 3) := by decide +kernel
theorem dX2_tellWork_124 : decode cX2_tellWork 124 = .ok (.dup, 1) := by decide +kernel
theorem dX2_tellWork_125 : decode cX2_tellWork 125 = .ok (.getfield 115, 3) := by decide +kernel
theorem dX2_tellWork_128 : decode cX2_tellWork 128 = .ok (.iconst 1, 1) := by decide +kernel
theorem dX2_tellWork_129 : decode cX2_tellWork 129 = .ok (.iadd, 1) := by decide +kernel
theorem dX2_tellWork_130 : decode cX2_tellWork 130 = .ok (.putfield 115, 3) := by decide +kernel
theorem dX2_tellWork_133 : decode cX2_tellWork 133 = .ok (.return_, 1) := by decide +kernel
theorem dX8_putGoal_0 : decode cX8_putGoal 0 = .ok (.iload_n 1, 1) := by decide +kernel
theorem dX8_putGoal_1 : decode cX8_putGoal 1 = .ok (.ifCond .lt 28, 3) := by decide +kernel
theorem dX8_putGoal_4 : decode cX8_putGoal 4 = .ok (.iload_n 1, 1) := by decide +kernel
theorem dX8_putGoal_5 : decode cX8_putGoal 5 = .ok (.aload_n 0, 1) := by decide +kernel
theorem dX8_putGoal_6 : decode cX8_putGoal 6 = .ok (.getfield 64, 3) := by decide +kernel
theorem dX8_putGoal_9 : decode cX8_putGoal 9 = .ok (.if_icmp .ge 20, 3) := by decide +kernel
theorem dX8_putGoal_12 : decode cX8_putGoal 12 = .ok (.aload_n 0, 1) := by decide +kernel
theorem dX8_putGoal_13 : decode cX8_putGoal 13 = .ok (.getfield 39, 3) := by decide +kernel
theorem dX8_putGoal_16 : decode cX8_putGoal 16 = .ok (.iload_n 1, 1) := by decide +kernel
theorem dX8_putGoal_17 : decode cX8_putGoal 17 = .ok (.ldc 79, 2) := by decide +kernel
theorem dX8_putGoal_19 : decode cX8_putGoal 19 = .ok (.aload_n 0, 1) := by decide +kernel
theorem dX8_putGoal_20 : decode cX8_putGoal 20 = .ok (.getfield 64, 3) := by decide +kernel
theorem dX8_putGoal_23 : decode cX8_putGoal 23 = .ok (.sipush 16383, 3) := by decide +kernel
theorem dX8_putGoal_26 : decode cX8_putGoal 26 = .ok (.iand, 1) := by decide +kernel
theorem dX8_putGoal_27 : decode cX8_putGoal 27 = .ok (.ior, 1) := by decide +kernel
theorem dX8_putGoal_28 : decode cX8_putGoal 28 = .ok (.iastore, 1) := by decide +kernel
theorem dX8_putGoal_29 : decode cX8_putGoal 29 = .ok (.return_, 1) := by decide +kernel
theorem dX2_onlyNumber_0 : decode cX2_onlyNumber 0 = .ok (.aload_n 0, 1) := by decide +kernel
theorem dX2_onlyNumber_1 : decode cX2_onlyNumber 1 = .ok (.invokevirtual 95, 3) := by decide +kernel
theorem dX2_onlyNumber_4 : decode cX2_onlyNumber 4 = .ok (.aload_n 0, 1) := by decide +kernel
theorem dX2_onlyNumber_5 : decode cX2_onlyNumber 5 = .ok (.iload_n 1, 1) := by decide +kernel
theorem dX2_onlyNumber_6 : decode cX2_onlyNumber 6 = .ok (.iload_n 2, 1) := by decide +kernel
theorem dX2_onlyNumber_7 : decode cX2_onlyNumber 7 = .ok (.invokevirtual 106, 3) := by decide +kernel
theorem dX2_onlyNumber_10 : decode cX2_onlyNumber 10 = .ok (.istore_n 3, 1) := by decide +kernel
theorem dX2_onlyNumber_11 : decode cX2_onlyNumber 11 = .ok (.aload_n 0, 1) := by decide +kernel
theorem dX2_onlyNumber_12 : decode cX2_onlyNumber 12 = .ok (.bipush 59, 2) := by decide +kernel
theorem dX2_onlyNumber_14 : decode cX2_onlyNumber 14 = .ok (.invokevirtual 112, 3) := by decide +kernel
theorem dX2_onlyNumber_17 : decode cX2_onlyNumber 17 = .ok (.iload_n 3, 1) := by decide +kernel
theorem dX2_onlyNumber_18 : decode cX2_onlyNumber 18 = .ok (.ireturn, 1) := by decide +kernel
theorem dX4_arrival_0 : decode cX4_arrival 0 = .ok (.aload_n 0, 1) := by decide +kernel
theorem dX4_arrival_1 : decode cX4_arrival 1 = .ok (.getfield 11, 3) := by decide +kernel
theorem dX4_arrival_4 : decode cX4_arrival 4 = .ok (.bipush 10, 2) := by decide +kernel
theorem dX4_arrival_6 : decode cX4_arrival 6 = .ok (.iload_n 1, 1) := by decide +kernel
theorem dX4_arrival_7 : decode cX4_arrival 7 = .ok (.iadd, 1) := by decide +kernel
theorem dX4_arrival_8 : decode cX4_arrival 8 = .ok (.iaload, 1) := by decide +kernel
theorem dX4_arrival_9 : decode cX4_arrival 9 = .ok (.ireturn, 1) := by decide +kernel
theorem dX4_goal_0 : decode cX4_goal 0 = .ok (.aload_n 0, 1) := by decide +kernel
theorem dX4_goal_1 : decode cX4_goal 1 = .ok (.getfield 11, 3) := by decide +kernel
theorem dX4_goal_4 : decode cX4_goal 4 = .ok (.iconst 4, 1) := by decide +kernel
theorem dX4_goal_5 : decode cX4_goal 5 = .ok (.iload_n 1, 1) := by decide +kernel
theorem dX4_goal_6 : decode cX4_goal 6 = .ok (.iadd, 1) := by decide +kernel
theorem dX4_goal_7 : decode cX4_goal 7 = .ok (.iaload, 1) := by decide +kernel
theorem dX4_goal_8 : decode cX4_goal 8 = .ok (.ireturn, 1) := by decide +kernel
theorem dX3_look_0 : decode cX3_look 0 = .ok (.aload_n 0, 1) := by decide +kernel
theorem dX3_look_1 : decode cX3_look 1 = .ok (.aload_n 1, 1) := by decide +kernel
theorem dX3_look_2 : decode cX3_look 2 = .ok (.putfield 22, 3) := by decide +kernel
theorem dX3_look_5 : decode cX3_look 5 = .ok (.aload_n 0, 1) := by decide +kernel
theorem dX3_look_6 : decode cX3_look 6 = .ok (.getfield 12, 3) := by decide +kernel
theorem dX3_look_9 : decode cX3_look 9 = .ok (.getfield 26, 3) := by decide +kernel
theorem dX3_look_12 : decode cX3_look 12 = .ok (.bipush 8, 2) := by decide +kernel
theorem dX3_look_14 : decode cX3_look 14 = .ok (.iload_n 3, 1) := by decide +kernel
theorem dX3_look_15 : decode cX3_look 15 = .ok (.iastore, 1) := by decide +kernel
theorem dX3_look_16 : decode cX3_look 16 = .ok (.iconst 0, 1) := by decide +kernel
theorem dX3_look_17 : decode cX3_look 17 = .ok (.istore 4, 2) := by decide +kernel
theorem dX3_look_19 : decode cX3_look 19 = .ok (.iload 4, 2) := by decide +kernel
theorem dX3_look_21 : decode cX3_look 21 = .ok (.aload_n 0, 1) := by decide +kernel
theorem dX3_look_22 : decode cX3_look 22 = .ok (.getfield 22, 3) := by decide +kernel
theorem dX3_look_25 : decode cX3_look 25 = .ok (.getfield 29, 3) := by decide +kernel
theorem dX3_look_28 : decode cX3_look 28 = .ok (.if_icmp .ge 36, 3) := by decide +kernel
theorem dX3_look_31 : decode cX3_look 31 = .ok (.aload_n 0, 1) := by decide +kernel
theorem dX3_look_32 : decode cX3_look 32 = .ok (.getfield 18, 3) := by decide +kernel
theorem dX3_look_35 : decode cX3_look 35 = .ok (.iload 4, 2) := by decide +kernel
theorem dX3_look_37 : decode cX3_look 37 = .ok (.aload_n 2, 1) := by decide +kernel
theorem dX3_look_38 : decode cX3_look 38 = .ok (.iload 4, 2) := by decide +kernel
theorem dX3_look_40 : decode cX3_look 40 = .ok (.invokevirtual 35, 3) := by decide +kernel
theorem dX3_look_43 : decode cX3_look 43 = .ok (.iload_n 3, 1) := by decide +kernel
theorem dX3_look_44 : decode cX3_look 44 = .ok (.if_icmp .gt 12, 3) := by decide +kernel
theorem dX3_look_47 : decode cX3_look 47 = .ok (.aload_n 2, 1) := by decide +kernel
theorem dX3_look_48 : decode cX3_look 48 = .ok (.iload 4, 2) := by decide +kernel
theorem dX3_look_50 : decode cX3_look 50 = .ok (.invokevirtual 41, 3) := by decide +kernel
theorem dX3_look_53 : decode cX3_look 53 = .ok (.goto 4, 3) := by decide +kernel
theorem dX3_look_56 : decode cX3_look 56 = .ok (.iconst (-1), 1) := by decide +kernel
theorem dX3_look_57 : decode cX3_look 57 = .ok (.iastore, 1) := by decide +kernel
theorem dX3_look_58 : decode cX3_look 58 = .ok (.iinc 4 1, 3) := by decide +kernel
theorem dX3_look_61 : decode cX3_look 61 = .ok (.goto (-42), 3) := by decide +kernel
theorem dX3_look_64 : decode cX3_look 64 = .ok (.return_, 1) := by decide +kernel
theorem dX3_spot_0 : decode cX3_spot 0 = .ok (.aload_n 0, 1) := by decide +kernel
theorem dX3_spot_1 : decode cX3_spot 1 = .ok (.getfield 18, 3) := by decide +kernel
theorem dX3_spot_4 : decode cX3_spot 4 = .ok (.iload_n 1, 1) := by decide +kernel
theorem dX3_spot_5 : decode cX3_spot 5 = .ok (.iaload, 1) := by decide +kernel
theorem dX3_spot_6 : decode cX3_spot 6 = .ok (.ireturn, 1) := by decide +kernel
theorem dX3_enterAmong_0 : decode cX3_enterAmong 0 = .ok (.aload_n 0, 1) := by decide +kernel
theorem dX3_enterAmong_1 : decode cX3_enterAmong 1 = .ok (.getfield 12, 3) := by decide +kernel
theorem dX3_enterAmong_4 : decode cX3_enterAmong 4 = .ok (.getfield 26, 3) := by decide +kernel
theorem dX3_enterAmong_7 : decode cX3_enterAmong 7 = .ok (.astore 5, 2) := by decide +kernel
theorem dX3_enterAmong_9 : decode cX3_enterAmong 9 = .ok (.aload 5, 2) := by decide +kernel
theorem dX3_enterAmong_11 : decode cX3_enterAmong 11 = .ok (.iconst 0, 1) := by decide +kernel
theorem dX3_enterAmong_12 : decode cX3_enterAmong 12 = .ok (.aload_n 0, 1) := by decide +kernel
theorem dX3_enterAmong_13 : decode cX3_enterAmong 13 = .ok (.getfield 22, 3) := by decide +kernel
theorem dX3_enterAmong_16 : decode cX3_enterAmong 16 = .ok (.getfield 51, 3) := by decide +kernel
theorem dX3_enterAmong_19 : decode cX3_enterAmong 19 = .ok (.iload_n 2, 1) := by decide +kernel
theorem dX3_enterAmong_20 : decode cX3_enterAmong 20 = .ok (.iaload, 1) := by decide +kernel
theorem dX3_enterAmong_21 : decode cX3_enterAmong 21 = .ok (.iastore, 1) := by decide +kernel
theorem dX3_enterAmong_22 : decode cX3_enterAmong 22 = .ok (.aload 5, 2) := by decide +kernel
theorem dX3_enterAmong_24 : decode cX3_enterAmong 24 = .ok (.iconst 1, 1) := by decide +kernel
theorem dX3_enterAmong_25 : decode cX3_enterAmong 25 = .ok (.aload_n 0, 1) := by decide +kernel
theorem dX3_enterAmong_26 : decode cX3_enterAmong 26 = .ok (.getfield 22, 3) := by decide +kernel
theorem dX3_enterAmong_29 : decode cX3_enterAmong 29 = .ok (.getfield 54, 3) := by decide +kernel
theorem dX3_enterAmong_32 : decode cX3_enterAmong 32 = .ok (.iload_n 2, 1) := by decide +kernel
theorem dX3_enterAmong_33 : decode cX3_enterAmong 33 = .ok (.iaload, 1) := by decide +kernel
theorem dX3_enterAmong_34 : decode cX3_enterAmong 34 = .ok (.iastore, 1) := by decide +kernel
theorem dX3_enterAmong_35 : decode cX3_enterAmong 35 = .ok (.aload 5, 2) := by decide +kernel
theorem dX3_enterAmong_37 : decode cX3_enterAmong 37 = .ok (.iconst 2, 1) := by decide +kernel
theorem dX3_enterAmong_38 : decode cX3_enterAmong 38 = .ok (.aload_n 0, 1) := by decide +kernel
theorem dX3_enterAmong_39 : decode cX3_enterAmong 39 = .ok (.getfield 22, 3) := by decide +kernel
theorem dX3_enterAmong_42 : decode cX3_enterAmong 42 = .ok (.getfield 44, 3) := by decide +kernel
theorem dX3_enterAmong_45 : decode cX3_enterAmong 45 = .ok (.iload_n 1, 1) := by decide +kernel
theorem dX3_enterAmong_46 : decode cX3_enterAmong 46 = .ok (.iaload, 1) := by decide +kernel
theorem dX3_enterAmong_47 : decode cX3_enterAmong 47 = .ok (.iastore, 1) := by decide +kernel
theorem dX3_enterAmong_48 : decode cX3_enterAmong 48 = .ok (.aload 5, 2) := by decide +kernel
theorem dX3_enterAmong_50 : decode cX3_enterAmong 50 = .ok (.iconst 3, 1) := by decide +kernel
theorem dX3_enterAmong_51 : decode cX3_enterAmong 51 = .ok (.aload_n 0, 1) := by decide +kernel
theorem dX3_enterAmong_52 : decode cX3_enterAmong 52 = .ok (.getfield 22, 3) := by decide +kernel
theorem dX3_enterAmong_55 : decode cX3_enterAmong 55 = .ok (.getfield 57, 3) := by decide +kernel
theorem dX3_enterAmong_58 : decode cX3_enterAmong 58 = .ok (.iload_n 1, 1) := by decide +kernel
theorem dX3_enterAmong_59 : decode cX3_enterAmong 59 = .ok (.iaload, 1) := by decide +kernel
theorem dX3_enterAmong_60 : decode cX3_enterAmong 60 = .ok (.iastore, 1) := by decide +kernel
theorem dX3_enterAmong_61 : decode cX3_enterAmong 61 = .ok (.aload 5, 2) := by decide +kernel
theorem dX3_enterAmong_63 : decode cX3_enterAmong 63 = .ok (.iconst 4, 1) := by decide +kernel
theorem dX3_enterAmong_64 : decode cX3_enterAmong 64 = .ok (.iload_n 3, 1) := by decide +kernel
theorem dX3_enterAmong_65 : decode cX3_enterAmong 65 = .ok (.iastore, 1) := by decide +kernel
theorem dX3_enterAmong_66 : decode cX3_enterAmong 66 = .ok (.aload 5, 2) := by decide +kernel
theorem dX3_enterAmong_68 : decode cX3_enterAmong 68 = .ok (.iconst 5, 1) := by decide +kernel
theorem dX3_enterAmong_69 : decode cX3_enterAmong 69 = .ok (.iload 4, 2) := by decide +kernel
theorem dX3_enterAmong_71 : decode cX3_enterAmong 71 = .ok (.iastore, 1) := by decide +kernel
theorem dX3_enterAmong_72 : decode cX3_enterAmong 72 = .ok (.aload 5, 2) := by decide +kernel
theorem dX3_enterAmong_74 : decode cX3_enterAmong 74 = .ok (.bipush 6, 2) := by decide +kernel
theorem dX3_enterAmong_76 : decode cX3_enterAmong 76 = .ok (.aload_n 0, 1) := by decide +kernel
theorem dX3_enterAmong_77 : decode cX3_enterAmong 77 = .ok (.getfield 22, 3) := by decide +kernel
theorem dX3_enterAmong_80 : decode cX3_enterAmong 80 = .ok (.getfield 60, 3) := by decide +kernel
theorem dX3_enterAmong_83 : decode cX3_enterAmong 83 = .ok (.iload_n 1, 1) := by decide +kernel
theorem dX3_enterAmong_84 : decode cX3_enterAmong 84 = .ok (.iaload, 1) := by decide +kernel
theorem dX3_enterAmong_85 : decode cX3_enterAmong 85 = .ok (.iload_n 2, 1) := by decide +kernel
theorem dX3_enterAmong_86 : decode cX3_enterAmong 86 = .ok (.if_icmp .ne 7, 3) := by decide +kernel
theorem dX3_enterAmong_89 : decode cX3_enterAmong 89 = .ok (.iconst 1, 1) := by decide +kernel
theorem dX3_enterAmong_90 : decode cX3_enterAmong 90 = .ok (.goto 4, 3) := by decide +kernel
theorem dX3_enterAmong_93 : decode cX3_enterAmong 93 = .ok (.iconst 0, 1) := by decide +kernel
theorem dX3_enterAmong_94 : decode cX3_enterAmong 94 = .ok (.iastore, 1) := by decide +kernel
theorem dX3_enterAmong_95 : decode cX3_enterAmong 95 = .ok (.aload 5, 2) := by decide +kernel
theorem dX3_enterAmong_97 : decode cX3_enterAmong 97 = .ok (.bipush 7, 2) := by decide +kernel
theorem dX3_enterAmong_99 : decode cX3_enterAmong 99 = .ok (.iload_n 2, 1) := by decide +kernel
theorem dX3_enterAmong_100 : decode cX3_enterAmong 100 = .ok (.iastore, 1) := by decide +kernel
theorem dX3_enterAmong_101 : decode cX3_enterAmong 101 = .ok (.return_, 1) := by decide +kernel
theorem dX3_enter_0 : decode cX3_enter 0 = .ok (.iconst 0, 1) := by decide +kernel
theorem dX3_enter_1 : decode cX3_enter 1 = .ok (.istore 4, 2) := by decide +kernel
theorem dX3_enter_3 : decode cX3_enter 3 = .ok (.iconst 0, 1) := by decide +kernel
theorem dX3_enter_4 : decode cX3_enter 4 = .ok (.istore 5, 2) := by decide +kernel
theorem dX3_enter_6 : decode cX3_enter 6 = .ok (.iconst 0, 1) := by decide +kernel
theorem dX3_enter_7 : decode cX3_enter 7 = .ok (.istore 6, 2) := by decide +kernel
theorem dX3_enter_9 : decode cX3_enter 9 = .ok (.iload 6, 2) := by decide +kernel
theorem dX3_enter_11 : decode cX3_enter 11 = .ok (.aload_n 0, 1) := by decide +kernel
theorem dX3_enter_12 : decode cX3_enter 12 = .ok (.getfield 22, 3) := by decide +kernel
theorem dX3_enter_15 : decode cX3_enter 15 = .ok (.getfield 29, 3) := by decide +kernel
theorem dX3_enter_18 : decode cX3_enter 18 = .ok (.if_icmp .ge 60, 3) := by decide +kernel
theorem dX3_enter_21 : decode cX3_enter 21 = .ok (.aload_n 0, 1) := by decide +kernel
theorem dX3_enter_22 : decode cX3_enter 22 = .ok (.getfield 18, 3) := by decide +kernel
theorem dX3_enter_25 : decode cX3_enter 25 = .ok (.iload 6, 2) := by decide +kernel
theorem dX3_enter_27 : decode cX3_enter 27 = .ok (.iaload, 1) := by decide +kernel
theorem dX3_enter_28 : decode cX3_enter 28 = .ok (.iload_n 2, 1) := by decide +kernel
theorem dX3_enter_29 : decode cX3_enter 29 = .ok (.if_icmp .ne 43, 3) := by decide +kernel
theorem dX3_enter_32 : decode cX3_enter 32 = .ok (.iload 6, 2) := by decide +kernel
theorem dX3_enter_34 : decode cX3_enter 34 = .ok (.iload_n 1, 1) := by decide +kernel
theorem dX3_enter_35 : decode cX3_enter 35 = .ok (.if_icmp .eq 37, 3) := by decide +kernel
theorem dX3_enter_38 : decode cX3_enter 38 = .ok (.iload 6, 2) := by decide +kernel
theorem dX3_enter_40 : decode cX3_enter 40 = .ok (.iload_n 3, 1) := by decide +kernel
theorem dX3_enter_41 : decode cX3_enter 41 = .ok (.if_icmp .eq 31, 3) := by decide +kernel
theorem dX3_enter_44 : decode cX3_enter 44 = .ok (.iinc 4 1, 3) := by decide +kernel
theorem dX3_enter_47 : decode cX3_enter 47 = .ok (.aload_n 0, 1) := by decide +kernel
theorem dX3_enter_48 : decode cX3_enter 48 = .ok (.getfield 22, 3) := by decide +kernel
theorem dX3_enter_51 : decode cX3_enter 51 = .ok (.getfield 44, 3) := by decide +kernel
theorem dX3_enter_54 : decode cX3_enter 54 = .ok (.iload 6, 2) := by decide +kernel
theorem dX3_enter_56 : decode cX3_enter 56 = .ok (.iaload, 1) := by decide +kernel
theorem dX3_enter_57 : decode cX3_enter 57 = .ok (.aload_n 0, 1) := by decide +kernel
theorem dX3_enter_58 : decode cX3_enter 58 = .ok (.getfield 22, 3) := by decide +kernel
theorem dX3_enter_61 : decode cX3_enter 61 = .ok (.getfield 44, 3) := by decide +kernel
theorem dX3_enter_64 : decode cX3_enter 64 = .ok (.iload_n 1, 1) := by decide +kernel
theorem dX3_enter_65 : decode cX3_enter 65 = .ok (.iaload, 1) := by decide +kernel
theorem dX3_enter_66 : decode cX3_enter 66 = .ok (.if_icmp .ne 6, 3) := by decide +kernel
theorem dX3_enter_69 : decode cX3_enter 69 = .ok (.iinc 5 1, 3) := by decide +kernel
theorem dX3_enter_72 : decode cX3_enter 72 = .ok (.iinc 6 1, 3) := by decide +kernel
theorem dX3_enter_75 : decode cX3_enter 75 = .ok (.goto (-66), 3) := by decide +kernel
theorem dX3_enter_78 : decode cX3_enter 78 = .ok (.aload_n 0, 1) := by decide +kernel
theorem dX3_enter_79 : decode cX3_enter 79 = .ok (.iload_n 1, 1) := by decide +kernel
theorem dX3_enter_80 : decode cX3_enter 80 = .ok (.iload_n 2, 1) := by decide +kernel
theorem dX3_enter_81 : decode cX3_enter 81 = .ok (.iload 4, 2) := by decide +kernel
theorem dX3_enter_83 : decode cX3_enter 83 = .ok (.iload 5, 2) := by decide +kernel
theorem dX3_enter_85 : decode cX3_enter 85 = .ok (.invokevirtual 47, 3) := by decide +kernel
theorem dX3_enter_88 : decode cX3_enter 88 = .ok (.return_, 1) := by decide +kernel
theorem dX5_goThrough_0 : decode cX5_goThrough 0 = .ok (.iload_n 2, 1) := by decide +kernel
theorem dX5_goThrough_1 : decode cX5_goThrough 1 = .ok (.istore_n 3, 1) := by decide +kernel
theorem dX5_goThrough_2 : decode cX5_goThrough 2 = .ok (.iconst 0, 1) := by decide +kernel
theorem dX5_goThrough_3 : decode cX5_goThrough 3 = .ok (.istore 4, 2) := by decide +kernel
theorem dX5_goThrough_5 : decode cX5_goThrough 5 = .ok (.iconst 0, 1) := by decide +kernel
theorem dX5_goThrough_6 : decode cX5_goThrough 6 = .ok (.istore 5, 2) := by decide +kernel
theorem dX5_goThrough_8 : decode cX5_goThrough 8 = .ok (.iload 5, 2) := by decide +kernel
theorem dX5_goThrough_10 : decode cX5_goThrough 10 = .ok (.sipush 408, 3) := by decide +kernel
theorem dX5_goThrough_13 : decode cX5_goThrough 13 = .ok (.if_icmp .ge 287, 3) := by decide +kernel
theorem dX5_goThrough_16 : decode cX5_goThrough 16 = .ok (.iload_n 3, 1) := by decide +kernel
theorem dX5_goThrough_17 : decode cX5_goThrough 17 = .ok (.ifCond .lt 283, 3) := by decide +kernel
theorem dX5_goThrough_20 : decode cX5_goThrough 20 = .ok (.iload_n 3, 1) := by decide +kernel
theorem dX5_goThrough_21 : decode cX5_goThrough 21 = .ok (.aload_n 1, 1) := by decide +kernel
theorem dX5_goThrough_22 : decode cX5_goThrough 22 = .ok (.getfield 18, 3) := by decide +kernel
theorem dX5_goThrough_25 : decode cX5_goThrough 25 = .ok (.if_icmp .ge 275, 3) := by decide +kernel
theorem dX5_goThrough_28 : decode cX5_goThrough 28 = .ok (.aload_n 1, 1) := by decide +kernel
theorem dX5_goThrough_29 : decode cX5_goThrough 29 = .ok (.getfield 22, 3) := by decide +kernel
theorem dX5_goThrough_32 : decode cX5_goThrough 32 = .ok (.iload_n 3, 1) := by decide +kernel
theorem dX5_goThrough_33 : decode cX5_goThrough 33 = .ok (.iaload, 1) := by decide +kernel
theorem dX5_goThrough_34 : decode cX5_goThrough 34 = .ok (.bipush 14, 2) := by decide +kernel
theorem dX5_goThrough_36 : decode cX5_goThrough 36 = .ok (.ishr, 1) := by decide +kernel
theorem dX5_goThrough_37 : decode cX5_goThrough 37 = .ok (.istore 6, 2) := by decide +kernel
theorem dX5_goThrough_39 : decode cX5_goThrough 39 = .ok (.aload_n 1, 1) := by decide +kernel
theorem dX5_goThrough_40 : decode cX5_goThrough 40 = .ok (.getfield 22, 3) := by decide +kernel
theorem dX5_goThrough_43 : decode cX5_goThrough 43 = .ok (.iload_n 3, 1) := by decide +kernel
theorem dX5_goThrough_44 : decode cX5_goThrough 44 = .ok (.iaload, 1) := by decide +kernel
theorem dX5_goThrough_45 : decode cX5_goThrough 45 = .ok (.sipush 16383, 3) := by decide +kernel
theorem dX5_goThrough_48 : decode cX5_goThrough 48 = .ok (.iand, 1) := by decide +kernel
theorem dX5_goThrough_49 : decode cX5_goThrough 49 = .ok (.istore 7, 2) := by decide +kernel
theorem dX5_goThrough_51 : decode cX5_goThrough 51 = .ok (.iinc 3 1, 3) := by decide +kernel
theorem dX5_goThrough_54 : decode cX5_goThrough 54 = .ok (.iload 6, 2) := by decide +kernel
theorem dX5_goThrough_56 : decode cX5_goThrough 56 = .ok (.bipush 7, 2) := by decide +kernel
theorem dX5_goThrough_58 : decode cX5_goThrough 58 = .ok (.if_icmp .ne 22, 3) := by decide +kernel
theorem dX5_goThrough_61 : decode cX5_goThrough 61 = .ok (.iload 4, 2) := by decide +kernel
theorem dX5_goThrough_63 : decode cX5_goThrough 63 = .ok (.ifCond .le 15, 3) := by decide +kernel
theorem dX5_goThrough_66 : decode cX5_goThrough 66 = .ok (.aload_n 0, 1) := by decide +kernel
theorem dX5_goThrough_67 : decode cX5_goThrough 67 = .ok (.getfield 13, 3) := by decide +kernel
theorem dX5_goThrough_70 : decode cX5_goThrough 70 = .ok (.iload 4, 2) := by decide +kernel
theorem dX5_goThrough_72 : decode cX5_goThrough 72 = .ok (.iconst 1, 1) := by decide +kernel
theorem dX5_goThrough_73 : decode cX5_goThrough 73 = .ok (.isub, 1) := by decide +kernel
theorem dX5_goThrough_74 : decode cX5_goThrough 74 = .ok (.iaload, 1) := by decide +kernel
theorem dX5_goThrough_75 : decode cX5_goThrough 75 = .ok (.goto 4, 3) := by decide +kernel
theorem dX5_goThrough_78 : decode cX5_goThrough 78 = .ok (.iconst 0, 1) := by decide +kernel
theorem dX5_goThrough_79 : decode cX5_goThrough 79 = .ok (.ireturn, 1) := by decide +kernel
theorem dX5_goThrough_80 : decode cX5_goThrough 80 = .ok (.iload 6, 2) := by decide +kernel
theorem dX5_goThrough_82 : decode cX5_goThrough 82 = .ok (.ifCond .eq 9, 3) := by decide +kernel
theorem dX5_goThrough_85 : decode cX5_goThrough 85 = .ok (.iload 6, 2) := by decide +kernel
theorem dX5_goThrough_87 : decode cX5_goThrough 87 = .ok (.iconst 1, 1) := by decide +kernel
theorem dX5_goThrough_88 : decode cX5_goThrough 88 = .ok (.if_icmp .ne 55, 3) := by decide +kernel
theorem dX5_goThrough_91 : decode cX5_goThrough 91 = .ok (.iload 4, 2) := by decide +kernel
theorem dX5_goThrough_93 : decode cX5_goThrough 93 = .ok (.bipush 24, 2) := by decide +kernel
theorem dX5_goThrough_95 : decode cX5_goThrough 95 = .ok (.if_icmp .ge 16, 3) := by decide +kernel
theorem dX5_goThrough_98 : decode cX5_goThrough 98 = .ok (.iload 6, 2) := by decide +kernel
theorem dX5_goThrough_100 : decode cX5_goThrough 100 = .ok (.iconst 1, 1) := by decide +kernel
theorem dX5_goThrough_101 : decode cX5_goThrough 101 = .ok (.if_icmp .ne 12, 3) := by decide +kernel
theorem dX5_goThrough_104 : decode cX5_goThrough 104 = .ok (.iload 7, 2) := by decide +kernel
theorem dX5_goThrough_106 : decode cX5_goThrough 106 = .ok (.bipush 9, 2) := by decide +kernel
theorem dX5_goThrough_108 : decode cX5_goThrough 108 = .ok (.if_icmp .lt 5, 3) := by decide +kernel
theorem dX5_goThrough_111 : decode cX5_goThrough 111 = .ok (.iconst 0, 1) := by decide +kernel
theorem dX5_goThrough_112 : decode cX5_goThrough 112 = .ok (.ireturn, 1) := by decide +kernel
theorem dX5_goThrough_113 : decode cX5_goThrough 113 = .ok (.aload_n 0, 1) := by decide +kernel
theorem dX5_goThrough_114 : decode cX5_goThrough 114 = .ok (.getfield 13, 3) := by decide +kernel
theorem dX5_goThrough_117 : decode cX5_goThrough 117 = .ok (.iload 4, 2) := by decide +kernel
theorem dX5_goThrough_119 : decode cX5_goThrough 119 = .ok (.iload 6, 2) := by decide +kernel
theorem dX5_goThrough_121 : decode cX5_goThrough 121 = .ok (.ifCond .ne 8, 3) := by decide +kernel
theorem dX5_goThrough_124 : decode cX5_goThrough 124 = .ok (.iload 7, 2) := by decide +kernel
theorem dX5_goThrough_126 : decode cX5_goThrough 126 = .ok (.goto 10, 3) := by decide +kernel
theorem dX5_goThrough_129 : decode cX5_goThrough 129 = .ok (.aload_n 0, 1) := by decide +kernel
theorem dX5_goThrough_130 : decode cX5_goThrough 130 = .ok (.getfield 9, 3) := by decide +kernel
theorem dX5_goThrough_133 : decode cX5_goThrough 133 = .ok (.iload 7, 2) := by decide +kernel
theorem dX5_goThrough_135 : decode cX5_goThrough 135 = .ok (.iaload, 1) := by decide +kernel
theorem dX5_goThrough_136 : decode cX5_goThrough 136 = .ok (.iastore, 1) := by decide +kernel
theorem dX5_goThrough_137 : decode cX5_goThrough 137 = .ok (.iinc 4 1, 3) := by decide +kernel
theorem dX5_goThrough_140 : decode cX5_goThrough 140 = .ok (.goto 154, 3) := by decide +kernel
theorem dX5_goThrough_143 : decode cX5_goThrough 143 = .ok (.iload 4, 2) := by decide +kernel
theorem dX5_goThrough_145 : decode cX5_goThrough 145 = .ok (.iconst 2, 1) := by decide +kernel
theorem dX5_goThrough_146 : decode cX5_goThrough 146 = .ok (.if_icmp .ge 5, 3) := by decide +kernel
theorem dX5_goThrough_149 : decode cX5_goThrough 149 = .ok (.iconst 0, 1) := by decide +kernel
theorem dX5_goThrough_150 : decode cX5_goThrough 150 = .ok (.ireturn, 1) := by decide +kernel
theorem dX5_goThrough_151 : decode cX5_goThrough 151 = .ok (.iinc 4 (-1), 3) := by decide +kernel
theorem dX5_goThrough_154 : decode cX5_goThrough 154 = .ok (.aload_n 0, 1) := by decide +kernel
theorem dX5_goThrough_155 : decode cX5_goThrough 155 = .ok (.getfield 13, 3) := by decide +kernel
theorem dX5_goThrough_158 : decode cX5_goThrough 158 = .ok (.iload 4, 2) := by decide +kernel
theorem dX5_goThrough_160 : decode cX5_goThrough 160 = .ok (.iconst 1, 1) := by decide +kernel
theorem dX5_goThrough_161 : decode cX5_goThrough 161 = .ok (.isub, 1) := by decide +kernel
theorem dX5_goThrough_162 : decode cX5_goThrough 162 = .ok (.iaload, 1) := by decide +kernel
theorem dX5_goThrough_163 : decode cX5_goThrough 163 = .ok (.istore 8, 2) := by decide +kernel
theorem dX5_goThrough_165 : decode cX5_goThrough 165 = .ok (.aload_n 0, 1) := by decide +kernel
theorem dX5_goThrough_166 : decode cX5_goThrough 166 = .ok (.getfield 13, 3) := by decide +kernel
theorem dX5_goThrough_169 : decode cX5_goThrough 169 = .ok (.iload 4, 2) := by decide +kernel
theorem dX5_goThrough_171 : decode cX5_goThrough 171 = .ok (.iaload, 1) := by decide +kernel
theorem dX5_goThrough_172 : decode cX5_goThrough 172 = .ok (.istore 9, 2) := by decide +kernel
theorem dX5_goThrough_174 : decode cX5_goThrough 174 = .ok (.iload 6, 2) := by decide +kernel
theorem dX5_goThrough_176 : decode cX5_goThrough 176 = .ok (.iconst 2, 1) := by decide +kernel
theorem dX5_goThrough_177 : decode cX5_goThrough 177 = .ok (.if_icmp .ne 20, 3) := by decide +kernel
theorem dX5_goThrough_180 : decode cX5_goThrough 180 = .ok (.aload_n 0, 1) := by decide +kernel
theorem dX5_goThrough_181 : decode cX5_goThrough 181 = .ok (.getfield 13, 3) := by decide +kernel
theorem dX5_goThrough_184 : decode cX5_goThrough 184 = .ok (.iload 4, 2) := by decide +kernel
theorem dX5_goThrough_186 : decode cX5_goThrough 186 = .ok (.iconst 1, 1) := by decide +kernel
theorem dX5_goThrough_187 : decode cX5_goThrough 187 = .ok (.isub, 1) := by decide +kernel
theorem dX5_goThrough_188 : decode cX5_goThrough 188 = .ok (.iload 8, 2) := by decide +kernel
theorem dX5_goThrough_190 : decode cX5_goThrough 190 = .ok (.iload 9, 2) := by decide +kernel
theorem dX5_goThrough_192 : decode cX5_goThrough 192 = .ok (.iadd, 1) := by decide +kernel
theorem dX5_goThrough_193 : decode cX5_goThrough 193 = .ok (.iastore, 1) := by decide +kernel
theorem dX5_goThrough_194 : decode cX5_goThrough 194 = .ok (.goto 100, 3) := by decide +kernel
theorem dX5_goThrough_197 : decode cX5_goThrough 197 = .ok (.iload 6, 2) := by decide +kernel
theorem dX5_goThrough_199 : decode cX5_goThrough 199 = .ok (.iconst 3, 1) := by decide +kernel
theorem dX5_goThrough_200 : decode cX5_goThrough 200 = .ok (.if_icmp .ne 20, 3) := by decide +kernel
theorem dX5_goThrough_203 : decode cX5_goThrough 203 = .ok (.aload_n 0, 1) := by decide +kernel
theorem dX5_goThrough_204 : decode cX5_goThrough 204 = .ok (.getfield 13, 3) := by decide +kernel
theorem dX5_goThrough_207 : decode cX5_goThrough 207 = .ok (.iload 4, 2) := by decide +kernel
theorem dX5_goThrough_209 : decode cX5_goThrough 209 = .ok (.iconst 1, 1) := by decide +kernel
theorem dX5_goThrough_210 : decode cX5_goThrough 210 = .ok (.isub, 1) := by decide +kernel
theorem dX5_goThrough_211 : decode cX5_goThrough 211 = .ok (.iload 8, 2) := by decide +kernel
theorem dX5_goThrough_213 : decode cX5_goThrough 213 = .ok (.iload 9, 2) := by decide +kernel
theorem dX5_goThrough_215 : decode cX5_goThrough 215 = .ok (.isub, 1) := by decide +kernel
theorem dX5_goThrough_216 : decode cX5_goThrough 216 = .ok (.iastore, 1) := by decide +kernel
theorem dX5_goThrough_217 : decode cX5_goThrough 217 = .ok (.goto 77, 3) := by decide +kernel
theorem dX5_goThrough_220 : decode cX5_goThrough 220 = .ok (.iload 6, 2) := by decide +kernel
theorem dX5_goThrough_222 : decode cX5_goThrough 222 = .ok (.iconst 4, 1) := by decide +kernel
theorem dX5_goThrough_223 : decode cX5_goThrough 223 = .ok (.if_icmp .ne 20, 3) := by decide +kernel
theorem dX5_goThrough_226 : decode cX5_goThrough 226 = .ok (.aload_n 0, 1) := by decide +kernel
theorem dX5_goThrough_227 : decode cX5_goThrough 227 = .ok (.getfield 13, 3) := by decide +kernel
theorem dX5_goThrough_230 : decode cX5_goThrough 230 = .ok (.iload 4, 2) := by decide +kernel
theorem dX5_goThrough_232 : decode cX5_goThrough 232 = .ok (.iconst 1, 1) := by decide +kernel
theorem dX5_goThrough_233 : decode cX5_goThrough 233 = .ok (.isub, 1) := by decide +kernel
theorem dX5_goThrough_234 : decode cX5_goThrough 234 = .ok (.iload 8, 2) := by decide +kernel
theorem dX5_goThrough_236 : decode cX5_goThrough 236 = .ok (.iload 9, 2) := by decide +kernel
theorem dX5_goThrough_238 : decode cX5_goThrough 238 = .ok (.imul, 1) := by decide +kernel
theorem dX5_goThrough_239 : decode cX5_goThrough 239 = .ok (.iastore, 1) := by decide +kernel
theorem dX5_goThrough_240 : decode cX5_goThrough 240 = .ok (.goto 54, 3) := by decide +kernel
theorem dX5_goThrough_243 : decode cX5_goThrough 243 = .ok (.iload 6, 2) := by decide +kernel
theorem dX5_goThrough_245 : decode cX5_goThrough 245 = .ok (.bipush 6, 2) := by decide +kernel
theorem dX5_goThrough_247 : decode cX5_goThrough 247 = .ok (.if_icmp .ne 23, 3) := by decide +kernel
theorem dX5_goThrough_250 : decode cX5_goThrough 250 = .ok (.iinc 4 (-1), 3) := by decide +kernel
theorem dX5_goThrough_253 : decode cX5_goThrough 253 = .ok (.iload 8, 2) := by decide +kernel
theorem dX5_goThrough_255 : decode cX5_goThrough 255 = .ok (.iload 9, 2) := by decide +kernel
theorem dX5_goThrough_257 : decode cX5_goThrough 257 = .ok (.if_icmp .ge 7, 3) := by decide +kernel
theorem dX5_goThrough_260 : decode cX5_goThrough 260 = .ok (.iload_n 3, 1) := by decide +kernel
theorem dX5_goThrough_261 : decode cX5_goThrough 261 = .ok (.goto 5, 3) := by decide +kernel
theorem dX5_goThrough_264 : decode cX5_goThrough 264 = .ok (.iload 7, 2) := by decide +kernel
theorem dX5_goThrough_266 : decode cX5_goThrough 266 = .ok (.istore_n 3, 1) := by decide +kernel
theorem dX5_goThrough_267 : decode cX5_goThrough 267 = .ok (.goto 27, 3) := by decide +kernel
theorem dX5_goThrough_270 : decode cX5_goThrough 270 = .ok (.iload 9, 2) := by decide +kernel
theorem dX5_goThrough_272 : decode cX5_goThrough 272 = .ok (.ifCond .eq 20, 3) := by decide +kernel
theorem dX5_goThrough_275 : decode cX5_goThrough 275 = .ok (.aload_n 0, 1) := by decide +kernel
theorem dX5_goThrough_276 : decode cX5_goThrough 276 = .ok (.getfield 13, 3) := by decide +kernel
theorem dX5_goThrough_279 : decode cX5_goThrough 279 = .ok (.iload 4, 2) := by decide +kernel
theorem dX5_goThrough_281 : decode cX5_goThrough 281 = .ok (.iconst 1, 1) := by decide +kernel
theorem dX5_goThrough_282 : decode cX5_goThrough 282 = .ok (.isub, 1) := by decide +kernel
theorem dX5_goThrough_283 : decode cX5_goThrough 283 = .ok (.iload 8, 2) := by decide +kernel
theorem dX5_goThrough_285 : decode cX5_goThrough 285 = .ok (.iload 9, 2) := by decide +kernel
theorem dX5_goThrough_287 : decode cX5_goThrough 287 = .ok (.idiv, 1) := by decide +kernel
theorem dX5_goThrough_288 : decode cX5_goThrough 288 = .ok (.iastore, 1) := by decide +kernel
theorem dX5_goThrough_289 : decode cX5_goThrough 289 = .ok (.goto 5, 3) := by decide +kernel
theorem dX5_goThrough_292 : decode cX5_goThrough 292 = .ok (.iconst 0, 1) := by decide +kernel
theorem dX5_goThrough_293 : decode cX5_goThrough 293 = .ok (.ireturn, 1) := by decide +kernel
theorem dX5_goThrough_294 : decode cX5_goThrough 294 = .ok (.iinc 5 1, 3) := by decide +kernel
theorem dX5_goThrough_297 : decode cX5_goThrough 297 = .ok (.goto (-289), 3) := by decide +kernel
theorem dX5_goThrough_300 : decode cX5_goThrough 300 = .ok (.iconst 0, 1) := by decide +kernel
theorem dX5_goThrough_301 : decode cX5_goThrough 301 = .ok (.ireturn, 1) := by decide +kernel
theorem dX3_keptAsEntered_0 : decode cX3_keptAsEntered 0 = .ok (.aload_n 0, 1) := by decide +kernel
theorem dX3_keptAsEntered_1 : decode cX3_keptAsEntered 1 = .ok (.getfield 12, 3) := by decide +kernel
theorem dX3_keptAsEntered_4 : decode cX3_keptAsEntered 4 = .ok (.aload_n 0, 1) := by decide +kernel
theorem dX3_keptAsEntered_5 : decode cX3_keptAsEntered 5 = .ok (.getfield 22, 3) := by decide +kernel
theorem dX3_keptAsEntered_8 : decode cX3_keptAsEntered 8 = .ok (.aload_n 0, 1) := by decide +kernel
theorem dX3_keptAsEntered_9 : decode cX3_keptAsEntered 9 = .ok (.getfield 22, 3) := by decide +kernel
theorem dX3_keptAsEntered_12 : decode cX3_keptAsEntered 12 = .ok (.getfield 63, 3) := by decide +kernel
theorem dX3_keptAsEntered_15 : decode cX3_keptAsEntered 15 = .ok (.iload_n 1, 1) := by decide +kernel
theorem dX3_keptAsEntered_16 : decode cX3_keptAsEntered 16 = .ok (.iaload, 1) := by decide +kernel
theorem dX3_keptAsEntered_17 : decode cX3_keptAsEntered 17 = .ok (.invokevirtual 66, 3) := by decide +kernel
theorem dX3_keptAsEntered_20 : decode cX3_keptAsEntered 20 = .ok (.aload_n 0, 1) := by decide +kernel
theorem dX3_keptAsEntered_21 : decode cX3_keptAsEntered 21 = .ok (.getfield 12, 3) := by decide +kernel
theorem dX3_keptAsEntered_24 : decode cX3_keptAsEntered 24 = .ok (.aload_n 0, 1) := by decide +kernel
theorem dX3_keptAsEntered_25 : decode cX3_keptAsEntered 25 = .ok (.getfield 22, 3) := by decide +kernel
theorem dX3_keptAsEntered_28 : decode cX3_keptAsEntered 28 = .ok (.aload_n 0, 1) := by decide +kernel
theorem dX3_keptAsEntered_29 : decode cX3_keptAsEntered 29 = .ok (.getfield 22, 3) := by decide +kernel
theorem dX3_keptAsEntered_32 : decode cX3_keptAsEntered 32 = .ok (.getfield 70, 3) := by decide +kernel
theorem dX3_keptAsEntered_35 : decode cX3_keptAsEntered 35 = .ok (.iload_n 1, 1) := by decide +kernel
theorem dX3_keptAsEntered_36 : decode cX3_keptAsEntered 36 = .ok (.iaload, 1) := by decide +kernel
theorem dX3_keptAsEntered_37 : decode cX3_keptAsEntered 37 = .ok (.invokevirtual 66, 3) := by decide +kernel
theorem dX3_keptAsEntered_40 : decode cX3_keptAsEntered 40 = .ok (.if_icmp .ge 7, 3) := by decide +kernel
theorem dX3_keptAsEntered_43 : decode cX3_keptAsEntered 43 = .ok (.iconst 1, 1) := by decide +kernel
theorem dX3_keptAsEntered_44 : decode cX3_keptAsEntered 44 = .ok (.goto 4, 3) := by decide +kernel
theorem dX3_keptAsEntered_47 : decode cX3_keptAsEntered 47 = .ok (.iconst 0, 1) := by decide +kernel
theorem dX3_keptAsEntered_48 : decode cX3_keptAsEntered 48 = .ok (.ireturn, 1) := by decide +kernel
theorem dX3_brokenAsEntered_0 : decode cX3_brokenAsEntered 0 = .ok (.iconst 0, 1) := by decide +kernel
theorem dX3_brokenAsEntered_1 : decode cX3_brokenAsEntered 1 = .ok (.istore_n 2, 1) := by decide +kernel
theorem dX3_brokenAsEntered_2 : decode cX3_brokenAsEntered 2 = .ok (.iconst 0, 1) := by decide +kernel
theorem dX3_brokenAsEntered_3 : decode cX3_brokenAsEntered 3 = .ok (.istore_n 3, 1) := by decide +kernel
theorem dX3_brokenAsEntered_4 : decode cX3_brokenAsEntered 4 = .ok (.iload_n 3, 1) := by decide +kernel
theorem dX3_brokenAsEntered_5 : decode cX3_brokenAsEntered 5 = .ok (.aload_n 0, 1) := by decide +kernel
theorem dX3_brokenAsEntered_6 : decode cX3_brokenAsEntered 6 = .ok (.getfield 22, 3) := by decide +kernel
theorem dX3_brokenAsEntered_9 : decode cX3_brokenAsEntered 9 = .ok (.getfield 73, 3) := by decide +kernel
theorem dX3_brokenAsEntered_12 : decode cX3_brokenAsEntered 12 = .ok (.if_icmp .ge 32, 3) := by decide +kernel
theorem dX3_brokenAsEntered_15 : decode cX3_brokenAsEntered 15 = .ok (.iload_n 1, 1) := by decide +kernel
theorem dX3_brokenAsEntered_16 : decode cX3_brokenAsEntered 16 = .ok (.iload_n 3, 1) := by decide +kernel
theorem dX3_brokenAsEntered_17 : decode cX3_brokenAsEntered 17 = .ok (.ishr, 1) := by decide +kernel
theorem dX3_brokenAsEntered_18 : decode cX3_brokenAsEntered 18 = .ok (.iconst 1, 1) := by decide +kernel
theorem dX3_brokenAsEntered_19 : decode cX3_brokenAsEntered 19 = .ok (.iand, 1) := by decide +kernel
theorem dX3_brokenAsEntered_20 : decode cX3_brokenAsEntered 20 = .ok (.iconst 1, 1) := by decide +kernel
theorem dX3_brokenAsEntered_21 : decode cX3_brokenAsEntered 21 = .ok (.if_icmp .ne 17, 3) := by decide +kernel
theorem dX3_brokenAsEntered_24 : decode cX3_brokenAsEntered 24 = .ok (.aload_n 0, 1) := by decide +kernel
theorem dX3_brokenAsEntered_25 : decode cX3_brokenAsEntered 25 = .ok (.iload_n 3, 1) := by decide +kernel
theorem dX3_brokenAsEntered_26 : decode cX3_brokenAsEntered 26 = .ok (.invokevirtual 76, 3) := by decide +kernel
theorem dX3_brokenAsEntered_29 : decode cX3_brokenAsEntered 29 = .ok (.ifCond .ne 9, 3) := by decide +kernel
theorem dX3_brokenAsEntered_32 : decode cX3_brokenAsEntered 32 = .ok (.iload_n 2, 1) := by decide +kernel
theorem dX3_brokenAsEntered_33 : decode cX3_brokenAsEntered 33 = .ok (.iconst 1, 1) := by decide +kernel
theorem dX3_brokenAsEntered_34 : decode cX3_brokenAsEntered 34 = .ok (.iload_n 3, 1) := by decide +kernel
theorem dX3_brokenAsEntered_35 : decode cX3_brokenAsEntered 35 = .ok (.ishl, 1) := by decide +kernel
theorem dX3_brokenAsEntered_36 : decode cX3_brokenAsEntered 36 = .ok (.ior, 1) := by decide +kernel
theorem dX3_brokenAsEntered_37 : decode cX3_brokenAsEntered 37 = .ok (.istore_n 2, 1) := by decide +kernel
theorem dX3_brokenAsEntered_38 : decode cX3_brokenAsEntered 38 = .ok (.iinc 3 1, 3) := by decide +kernel
theorem dX3_brokenAsEntered_41 : decode cX3_brokenAsEntered 41 = .ok (.goto (-37), 3) := by decide +kernel
theorem dX3_brokenAsEntered_44 : decode cX3_brokenAsEntered 44 = .ok (.iload_n 2, 1) := by decide +kernel
theorem dX3_brokenAsEntered_45 : decode cX3_brokenAsEntered 45 = .ok (.ireturn, 1) := by decide +kernel
theorem dX3_termKept_0 : decode cX3_termKept 0 = .ok (.aload_n 0, 1) := by decide +kernel
theorem dX3_termKept_1 : decode cX3_termKept 1 = .ok (.aload_n 0, 1) := by decide +kernel
theorem dX3_termKept_2 : decode cX3_termKept 2 = .ok (.getfield 22, 3) := by decide +kernel
theorem dX3_termKept_5 : decode cX3_termKept 5 = .ok (.getfield 80, 3) := by decide +kernel
theorem dX3_termKept_8 : decode cX3_termKept 8 = .ok (.iload_n 1, 1) := by decide +kernel
theorem dX3_termKept_9 : decode cX3_termKept 9 = .ok (.iaload, 1) := by decide +kernel
theorem dX3_termKept_10 : decode cX3_termKept 10 = .ok (.iload_n 2, 1) := by decide +kernel
theorem dX3_termKept_11 : decode cX3_termKept 11 = .ok (.iconst (-1), 1) := by decide +kernel
theorem dX3_termKept_12 : decode cX3_termKept 12 = .ok (.invokevirtual 83, 3) := by decide +kernel
theorem dX3_termKept_15 : decode cX3_termKept 15 = .ok (.aload_n 0, 1) := by decide +kernel
theorem dX3_termKept_16 : decode cX3_termKept 16 = .ok (.iload_n 1, 1) := by decide +kernel
theorem dX3_termKept_17 : decode cX3_termKept 17 = .ok (.invokevirtual 76, 3) := by decide +kernel
theorem dX3_termKept_20 : decode cX3_termKept 20 = .ok (.ireturn, 1) := by decide +kernel
theorem dX8_termsOf_0 : decode cX8_termsOf 0 = .ok (.iconst 0, 1) := by decide +kernel
theorem dX8_termsOf_1 : decode cX8_termsOf 1 = .ok (.istore_n 2, 1) := by decide +kernel
theorem dX8_termsOf_2 : decode cX8_termsOf 2 = .ok (.iconst 0, 1) := by decide +kernel
theorem dX8_termsOf_3 : decode cX8_termsOf 3 = .ok (.istore_n 3, 1) := by decide +kernel
theorem dX8_termsOf_4 : decode cX8_termsOf 4 = .ok (.iload_n 3, 1) := by decide +kernel
theorem dX8_termsOf_5 : decode cX8_termsOf 5 = .ok (.aload_n 0, 1) := by decide +kernel
theorem dX8_termsOf_6 : decode cX8_termsOf 6 = .ok (.getfield 52, 3) := by decide +kernel
theorem dX8_termsOf_9 : decode cX8_termsOf 9 = .ok (.if_icmp .ge 25, 3) := by decide +kernel
theorem dX8_termsOf_12 : decode cX8_termsOf 12 = .ok (.aload_n 0, 1) := by decide +kernel
theorem dX8_termsOf_13 : decode cX8_termsOf 13 = .ok (.getfield 30, 3) := by decide +kernel
theorem dX8_termsOf_16 : decode cX8_termsOf 16 = .ok (.iload_n 3, 1) := by decide +kernel
theorem dX8_termsOf_17 : decode cX8_termsOf 17 = .ok (.iaload, 1) := by decide +kernel
theorem dX8_termsOf_18 : decode cX8_termsOf 18 = .ok (.iload_n 1, 1) := by decide +kernel
theorem dX8_termsOf_19 : decode cX8_termsOf 19 = .ok (.if_icmp .ne 9, 3) := by decide +kernel
theorem dX8_termsOf_22 : decode cX8_termsOf 22 = .ok (.iload_n 2, 1) := by decide +kernel
theorem dX8_termsOf_23 : decode cX8_termsOf 23 = .ok (.iconst 1, 1) := by decide +kernel
theorem dX8_termsOf_24 : decode cX8_termsOf 24 = .ok (.iload_n 3, 1) := by decide +kernel
theorem dX8_termsOf_25 : decode cX8_termsOf 25 = .ok (.ishl, 1) := by decide +kernel
theorem dX8_termsOf_26 : decode cX8_termsOf 26 = .ok (.ior, 1) := by decide +kernel
theorem dX8_termsOf_27 : decode cX8_termsOf 27 = .ok (.istore_n 2, 1) := by decide +kernel
theorem dX8_termsOf_28 : decode cX8_termsOf 28 = .ok (.iinc 3 1, 3) := by decide +kernel
theorem dX8_termsOf_31 : decode cX8_termsOf 31 = .ok (.goto (-27), 3) := by decide +kernel
theorem dX8_termsOf_34 : decode cX8_termsOf 34 = .ok (.iload_n 2, 1) := by decide +kernel
theorem dX8_termsOf_35 : decode cX8_termsOf 35 = .ok (.ireturn, 1) := by decide +kernel
theorem dX3_canHang_0 : decode cX3_canHang 0 = .ok (.aload_n 0, 1) := by decide +kernel
theorem dX3_canHang_1 : decode cX3_canHang 1 = .ok (.iload_n 1, 1) := by decide +kernel
theorem dX3_canHang_2 : decode cX3_canHang 2 = .ok (.iload_n 2, 1) := by decide +kernel
theorem dX3_canHang_3 : decode cX3_canHang 3 = .ok (.iconst (-1), 1) := by decide +kernel
theorem dX3_canHang_4 : decode cX3_canHang 4 = .ok (.invokevirtual 83, 3) := by decide +kernel
theorem dX3_canHang_7 : decode cX3_canHang 7 = .ok (.aload_n 0, 1) := by decide +kernel
theorem dX3_canHang_8 : decode cX3_canHang 8 = .ok (.getfield 12, 3) := by decide +kernel
theorem dX3_canHang_11 : decode cX3_canHang 11 = .ok (.getfield 26, 3) := by decide +kernel
theorem dX3_canHang_14 : decode cX3_canHang 14 = .ok (.iconst 4, 1) := by decide +kernel
theorem dX3_canHang_15 : decode cX3_canHang 15 = .ok (.iaload, 1) := by decide +kernel
theorem dX3_canHang_16 : decode cX3_canHang 16 = .ok (.aload_n 0, 1) := by decide +kernel
theorem dX3_canHang_17 : decode cX3_canHang 17 = .ok (.getfield 22, 3) := by decide +kernel
theorem dX3_canHang_20 : decode cX3_canHang 20 = .ok (.getfield 54, 3) := by decide +kernel
theorem dX3_canHang_23 : decode cX3_canHang 23 = .ok (.iload_n 2, 1) := by decide +kernel
theorem dX3_canHang_24 : decode cX3_canHang 24 = .ok (.iaload, 1) := by decide +kernel
theorem dX3_canHang_25 : decode cX3_canHang 25 = .ok (.if_icmp .ge 24, 3) := by decide +kernel
theorem dX3_canHang_28 : decode cX3_canHang 28 = .ok (.aload_n 0, 1) := by decide +kernel
theorem dX3_canHang_29 : decode cX3_canHang 29 = .ok (.aload_n 0, 1) := by decide +kernel
theorem dX3_canHang_30 : decode cX3_canHang 30 = .ok (.getfield 22, 3) := by decide +kernel
theorem dX3_canHang_33 : decode cX3_canHang 33 = .ok (.iload_n 1, 1) := by decide +kernel
theorem dX3_canHang_34 : decode cX3_canHang 34 = .ok (.invokevirtual 87, 3) := by decide +kernel
theorem dX3_canHang_37 : decode cX3_canHang 37 = .ok (.iload_n 3, 1) := by decide +kernel
theorem dX3_canHang_38 : decode cX3_canHang 38 = .ok (.iand, 1) := by decide +kernel
theorem dX3_canHang_39 : decode cX3_canHang 39 = .ok (.invokevirtual 90, 3) := by decide +kernel
theorem dX3_canHang_42 : decode cX3_canHang 42 = .ok (.ifCond .ne 7, 3) := by decide +kernel
theorem dX3_canHang_45 : decode cX3_canHang 45 = .ok (.iconst 1, 1) := by decide +kernel
theorem dX3_canHang_46 : decode cX3_canHang 46 = .ok (.goto 4, 3) := by decide +kernel
theorem dX3_canHang_49 : decode cX3_canHang 49 = .ok (.iconst 0, 1) := by decide +kernel
theorem dX3_canHang_50 : decode cX3_canHang 50 = .ok (.ireturn, 1) := by decide +kernel
theorem dX3_allWell_0 : decode cX3_allWell 0 = .ok (.iconst 0, 1) := by decide +kernel
theorem dX3_allWell_1 : decode cX3_allWell 1 = .ok (.istore_n 2, 1) := by decide +kernel
theorem dX3_allWell_2 : decode cX3_allWell 2 = .ok (.iload_n 2, 1) := by decide +kernel
theorem dX3_allWell_3 : decode cX3_allWell 3 = .ok (.aload_n 0, 1) := by decide +kernel
theorem dX3_allWell_4 : decode cX3_allWell 4 = .ok (.getfield 22, 3) := by decide +kernel
theorem dX3_allWell_7 : decode cX3_allWell 7 = .ok (.getfield 29, 3) := by decide +kernel
theorem dX3_allWell_10 : decode cX3_allWell 10 = .ok (.if_icmp .ge 36, 3) := by decide +kernel
theorem dX3_allWell_13 : decode cX3_allWell 13 = .ok (.aload_n 0, 1) := by decide +kernel
theorem dX3_allWell_14 : decode cX3_allWell 14 = .ok (.getfield 18, 3) := by decide +kernel
theorem dX3_allWell_17 : decode cX3_allWell 17 = .ok (.iload_n 2, 1) := by decide +kernel
theorem dX3_allWell_18 : decode cX3_allWell 18 = .ok (.iaload, 1) := by decide +kernel
theorem dX3_allWell_19 : decode cX3_allWell 19 = .ok (.iconst (-1), 1) := by decide +kernel
theorem dX3_allWell_20 : decode cX3_allWell 20 = .ok (.if_icmp .eq 20, 3) := by decide +kernel
theorem dX3_allWell_23 : decode cX3_allWell 23 = .ok (.aload_n 0, 1) := by decide +kernel
theorem dX3_allWell_24 : decode cX3_allWell 24 = .ok (.iload_n 2, 1) := by decide +kernel
theorem dX3_allWell_25 : decode cX3_allWell 25 = .ok (.aload_n 0, 1) := by decide +kernel
theorem dX3_allWell_26 : decode cX3_allWell 26 = .ok (.getfield 18, 3) := by decide +kernel
theorem dX3_allWell_29 : decode cX3_allWell 29 = .ok (.iload_n 2, 1) := by decide +kernel
theorem dX3_allWell_30 : decode cX3_allWell 30 = .ok (.iaload, 1) := by decide +kernel
theorem dX3_allWell_31 : decode cX3_allWell 31 = .ok (.iload_n 1, 1) := by decide +kernel
theorem dX3_allWell_32 : decode cX3_allWell 32 = .ok (.invokevirtual 93, 3) := by decide +kernel
theorem dX3_allWell_35 : decode cX3_allWell 35 = .ok (.ifCond .ne 5, 3) := by decide +kernel
theorem dX3_allWell_38 : decode cX3_allWell 38 = .ok (.iconst 0, 1) := by decide +kernel
theorem dX3_allWell_39 : decode cX3_allWell 39 = .ok (.ireturn, 1) := by decide +kernel
theorem dX3_allWell_40 : decode cX3_allWell 40 = .ok (.iinc 2 1, 3) := by decide +kernel
theorem dX3_allWell_43 : decode cX3_allWell 43 = .ok (.goto (-41), 3) := by decide +kernel
theorem dX3_allWell_46 : decode cX3_allWell 46 = .ok (.iconst 1, 1) := by decide +kernel
theorem dX3_allWell_47 : decode cX3_allWell 47 = .ok (.ireturn, 1) := by decide +kernel
theorem dX3_likingAsEntered_0 : decode cX3_likingAsEntered 0 = .ok (.iconst 0, 1) := by decide +kernel
theorem dX3_likingAsEntered_1 : decode cX3_likingAsEntered 1 = .ok (.bipush 99, 2) := by decide +kernel
theorem dX3_likingAsEntered_3 : decode cX3_likingAsEntered 3 = .ok (.aload_n 0, 1) := by decide +kernel
theorem dX3_likingAsEntered_4 : decode cX3_likingAsEntered 4 = .ok (.getfield 12, 3) := by decide +kernel
theorem dX3_likingAsEntered_7 : decode cX3_likingAsEntered 7 = .ok (.aload_n 0, 1) := by decide +kernel
theorem dX3_likingAsEntered_8 : decode cX3_likingAsEntered 8 = .ok (.getfield 22, 3) := by decide +kernel
theorem dX3_likingAsEntered_11 : decode cX3_likingAsEntered 11 = .ok (.aload_n 0, 1) := by decide +kernel
theorem dX3_likingAsEntered_12 : decode cX3_likingAsEntered 12 = .ok (.getfield 22, 3) := by decide +kernel
theorem dX3_likingAsEntered_15 : decode cX3_likingAsEntered 15 = .ok (.getfield 101, 3) := by decide +kernel
theorem dX3_likingAsEntered_18 : decode cX3_likingAsEntered 18 = .ok (.invokevirtual 66, 3) := by decide +kernel
theorem dX3_likingAsEntered_21 : decode cX3_likingAsEntered 21 = .ok (.invokestatic 104, 3) := by decide +kernel
theorem dX3_likingAsEntered_24 : decode cX3_likingAsEntered 24 = .ok (.invokestatic 110, 3) := by decide +kernel
theorem dX3_likingAsEntered_27 : decode cX3_likingAsEntered 27 = .ok (.ireturn, 1) := by decide +kernel
theorem dX3_liking_0 : decode cX3_liking 0 = .ok (.aload_n 0, 1) := by decide +kernel
theorem dX3_liking_1 : decode cX3_liking 1 = .ok (.iload_n 2, 1) := by decide +kernel
theorem dX3_liking_2 : decode cX3_liking 2 = .ok (.iload_n 1, 1) := by decide +kernel
theorem dX3_liking_3 : decode cX3_liking 3 = .ok (.iload_n 3, 1) := by decide +kernel
theorem dX3_liking_4 : decode cX3_liking 4 = .ok (.invokevirtual 83, 3) := by decide +kernel
theorem dX3_liking_7 : decode cX3_liking 7 = .ok (.aload_n 0, 1) := by decide +kernel
theorem dX3_liking_8 : decode cX3_liking 8 = .ok (.invokevirtual 97, 3) := by decide +kernel
theorem dX3_liking_11 : decode cX3_liking 11 = .ok (.ireturn, 1) := by decide +kernel
theorem dX3_likingAlone_0 : decode cX3_likingAlone 0 = .ok (.aload_n 0, 1) := by decide +kernel
theorem dX3_likingAlone_1 : decode cX3_likingAlone 1 = .ok (.iload_n 2, 1) := by decide +kernel
theorem dX3_likingAlone_2 : decode cX3_likingAlone 2 = .ok (.iload_n 1, 1) := by decide +kernel
theorem dX3_likingAlone_3 : decode cX3_likingAlone 3 = .ok (.iconst 0, 1) := by decide +kernel
theorem dX3_likingAlone_4 : decode cX3_likingAlone 4 = .ok (.iconst 0, 1) := by decide +kernel
theorem dX3_likingAlone_5 : decode cX3_likingAlone 5 = .ok (.invokevirtual 47, 3) := by decide +kernel
theorem dX3_likingAlone_8 : decode cX3_likingAlone 8 = .ok (.aload_n 0, 1) := by decide +kernel
theorem dX3_likingAlone_9 : decode cX3_likingAlone 9 = .ok (.invokevirtual 97, 3) := by decide +kernel
theorem dX3_likingAlone_12 : decode cX3_likingAlone 12 = .ok (.ireturn, 1) := by decide +kernel
theorem dX3_journey_0 : decode cX3_journey 0 = .ok (.aload_n 0, 1) := by decide +kernel
theorem dX3_journey_1 : decode cX3_journey 1 = .ok (.iload_n 1, 1) := by decide +kernel
theorem dX3_journey_2 : decode cX3_journey 2 = .ok (.iload_n 2, 1) := by decide +kernel
theorem dX3_journey_3 : decode cX3_journey 3 = .ok (.iconst 0, 1) := by decide +kernel
theorem dX3_journey_4 : decode cX3_journey 4 = .ok (.iconst 0, 1) := by decide +kernel
theorem dX3_journey_5 : decode cX3_journey 5 = .ok (.invokevirtual 47, 3) := by decide +kernel
theorem dX3_journey_8 : decode cX3_journey 8 = .ok (.iconst 1, 1) := by decide +kernel
theorem dX3_journey_9 : decode cX3_journey 9 = .ok (.bipush 99, 2) := by decide +kernel
theorem dX3_journey_11 : decode cX3_journey 11 = .ok (.aload_n 0, 1) := by decide +kernel
theorem dX3_journey_12 : decode cX3_journey 12 = .ok (.getfield 12, 3) := by decide +kernel
theorem dX3_journey_15 : decode cX3_journey 15 = .ok (.aload_n 0, 1) := by decide +kernel
theorem dX3_journey_16 : decode cX3_journey 16 = .ok (.getfield 22, 3) := by decide +kernel
theorem dX3_journey_19 : decode cX3_journey 19 = .ok (.aload_n 0, 1) := by decide +kernel
theorem dX3_journey_20 : decode cX3_journey 20 = .ok (.getfield 22, 3) := by decide +kernel
theorem dX3_journey_23 : decode cX3_journey 23 = .ok (.getfield 113, 3) := by decide +kernel
theorem dX3_journey_26 : decode cX3_journey 26 = .ok (.invokevirtual 66, 3) := by decide +kernel
theorem dX3_journey_29 : decode cX3_journey 29 = .ok (.invokestatic 104, 3) := by decide +kernel
theorem dX3_journey_32 : decode cX3_journey 32 = .ok (.invokestatic 110, 3) := by decide +kernel
theorem dX3_journey_35 : decode cX3_journey 35 = .ok (.ireturn, 1) := by decide +kernel
theorem dX4_begin_0 : decode cX4_begin 0 = .ok (.aload_n 0, 1) := by decide +kernel
theorem dX4_begin_1 : decode cX4_begin 1 = .ok (.getfield 11, 3) := by decide +kernel
theorem dX4_begin_4 : decode cX4_begin 4 = .ok (.iconst 0, 1) := by decide +kernel
theorem dX4_begin_5 : decode cX4_begin 5 = .ok (.invokestatic 15, 3) := by decide +kernel
theorem dX4_begin_8 : decode cX4_begin 8 = .ok (.iconst 0, 1) := by decide +kernel
theorem dX4_begin_9 : decode cX4_begin 9 = .ok (.istore_n 2, 1) := by decide +kernel
theorem dX4_begin_10 : decode cX4_begin 10 = .ok (.iload_n 2, 1) := by decide +kernel
theorem dX4_begin_11 : decode cX4_begin 11 = .ok (.aload_n 1, 1) := by decide +kernel
theorem dX4_begin_12 : decode cX4_begin 12 = .ok (.getfield 21, 3) := by decide +kernel
theorem dX4_begin_15 : decode cX4_begin 15 = .ok (.if_icmp .ge 23, 3) := by decide +kernel
theorem dX4_begin_18 : decode cX4_begin 18 = .ok (.aload_n 0, 1) := by decide +kernel
theorem dX4_begin_19 : decode cX4_begin 19 = .ok (.getfield 11, 3) := by decide +kernel
theorem dX4_begin_22 : decode cX4_begin 22 = .ok (.iconst 4, 1) := by decide +kernel
theorem dX4_begin_23 : decode cX4_begin 23 = .ok (.iload_n 2, 1) := by decide +kernel
theorem dX4_begin_24 : decode cX4_begin 24 = .ok (.iadd, 1) := by decide +kernel
theorem dX4_begin_25 : decode cX4_begin 25 = .ok (.aload_n 1, 1) := by decide +kernel
theorem dX4_begin_26 : decode cX4_begin 26 = .ok (.getfield 27, 3) := by decide +kernel
theorem dX4_begin_29 : decode cX4_begin 29 = .ok (.iload_n 2, 1) := by decide +kernel
theorem dX4_begin_30 : decode cX4_begin 30 = .ok (.iaload, 1) := by decide +kernel
theorem dX4_begin_31 : decode cX4_begin 31 = .ok (.iastore, 1) := by decide +kernel
theorem dX4_begin_32 : decode cX4_begin 32 = .ok (.iinc 2 1, 3) := by decide +kernel
theorem dX4_begin_35 : decode cX4_begin 35 = .ok (.goto (-25), 3) := by decide +kernel
theorem dX4_begin_38 : decode cX4_begin 38 = .ok (.return_, 1) := by decide +kernel
theorem dX4_today_0 : decode cX4_today 0 = .ok (.aload_n 0, 1) := by decide +kernel
theorem dX4_today_1 : decode cX4_today 1 = .ok (.getfield 11, 3) := by decide +kernel
theorem dX4_today_4 : decode cX4_today 4 = .ok (.iconst 0, 1) := by decide +kernel
theorem dX4_today_5 : decode cX4_today 5 = .ok (.iaload, 1) := by decide +kernel
theorem dX4_today_6 : decode cX4_today 6 = .ok (.ireturn, 1) := by decide +kernel
theorem dX4_tripsSoFar_0 : decode cX4_tripsSoFar 0 = .ok (.aload_n 0, 1) := by decide +kernel
theorem dX4_tripsSoFar_1 : decode cX4_tripsSoFar 1 = .ok (.getfield 11, 3) := by decide +kernel
theorem dX4_tripsSoFar_4 : decode cX4_tripsSoFar 4 = .ok (.iconst 1, 1) := by decide +kernel
theorem dX4_tripsSoFar_5 : decode cX4_tripsSoFar 5 = .ok (.iaload, 1) := by decide +kernel
theorem dX4_tripsSoFar_6 : decode cX4_tripsSoFar 6 = .ok (.ireturn, 1) := by decide +kernel
theorem dX4_underWay_0 : decode cX4_underWay 0 = .ok (.aload_n 0, 1) := by decide +kernel
theorem dX4_underWay_1 : decode cX4_underWay 1 = .ok (.iload_n 1, 1) := by decide +kernel
theorem dX4_underWay_2 : decode cX4_underWay 2 = .ok (.invokevirtual 30, 3) := by decide +kernel
theorem dX4_underWay_5 : decode cX4_underWay 5 = .ok (.aload_n 0, 1) := by decide +kernel
theorem dX4_underWay_6 : decode cX4_underWay 6 = .ok (.invokevirtual 34, 3) := by decide +kernel
theorem dX4_underWay_9 : decode cX4_underWay 9 = .ok (.if_icmp .le 7, 3) := by decide +kernel
theorem dX4_underWay_12 : decode cX4_underWay 12 = .ok (.iconst 1, 1) := by decide +kernel
theorem dX4_underWay_13 : decode cX4_underWay 13 = .ok (.goto 4, 3) := by decide +kernel
theorem dX4_underWay_16 : decode cX4_underWay 16 = .ok (.iconst 0, 1) := by decide +kernel
theorem dX4_underWay_17 : decode cX4_underWay 17 = .ok (.ireturn, 1) := by decide +kernel
theorem dX4_isIn_0 : decode cX4_isIn 0 = .ok (.aload_n 0, 1) := by decide +kernel
theorem dX4_isIn_1 : decode cX4_isIn 1 = .ok (.iload_n 1, 1) := by decide +kernel
theorem dX4_isIn_2 : decode cX4_isIn 2 = .ok (.invokevirtual 38, 3) := by decide +kernel
theorem dX4_isIn_5 : decode cX4_isIn 5 = .ok (.iload_n 2, 1) := by decide +kernel
theorem dX4_isIn_6 : decode cX4_isIn 6 = .ok (.if_icmp .ne 15, 3) := by decide +kernel
theorem dX4_isIn_9 : decode cX4_isIn 9 = .ok (.aload_n 0, 1) := by decide +kernel
theorem dX4_isIn_10 : decode cX4_isIn 10 = .ok (.iload_n 1, 1) := by decide +kernel
theorem dX4_isIn_11 : decode cX4_isIn 11 = .ok (.invokevirtual 41, 3) := by decide +kernel
theorem dX4_isIn_14 : decode cX4_isIn 14 = .ok (.ifCond .ne 7, 3) := by decide +kernel
theorem dX4_isIn_17 : decode cX4_isIn 17 = .ok (.iconst 1, 1) := by decide +kernel
theorem dX4_isIn_18 : decode cX4_isIn 18 = .ok (.goto 4, 3) := by decide +kernel
theorem dX4_isIn_21 : decode cX4_isIn 21 = .ok (.iconst 0, 1) := by decide +kernel
theorem dX4_isIn_22 : decode cX4_isIn 22 = .ok (.ireturn, 1) := by decide +kernel
theorem dX4_depart_0 : decode cX4_depart 0 = .ok (.aload_n 0, 1) := by decide +kernel
theorem dX4_depart_1 : decode cX4_depart 1 = .ok (.getfield 11, 3) := by decide +kernel
theorem dX4_depart_4 : decode cX4_depart 4 = .ok (.bipush 22, 2) := by decide +kernel
theorem dX4_depart_6 : decode cX4_depart 6 = .ok (.aload_n 0, 1) := by decide +kernel
theorem dX4_depart_7 : decode cX4_depart 7 = .ok (.iload_n 1, 1) := by decide +kernel
theorem dX4_depart_8 : decode cX4_depart 8 = .ok (.invokevirtual 38, 3) := by decide +kernel
theorem dX4_depart_11 : decode cX4_depart 11 = .ok (.iconst 5, 1) := by decide +kernel
theorem dX4_depart_12 : decode cX4_depart 12 = .ok (.imul, 1) := by decide +kernel
theorem dX4_depart_13 : decode cX4_depart 13 = .ok (.iadd, 1) := by decide +kernel
theorem dX4_depart_14 : decode cX4_depart 14 = .ok (.iload_n 2, 1) := by decide +kernel
theorem dX4_depart_15 : decode cX4_depart 15 = .ok (.iadd, 1) := by decide +kernel
theorem dX4_depart_16 : decode cX4_depart 16 = .ok (.dup2, 1) := by decide +kernel
theorem dX4_depart_17 : decode cX4_depart 17 = .ok (.iaload, 1) := by decide +kernel
theorem dX4_depart_18 : decode cX4_depart 18 = .ok (.iconst 1, 1) := by decide +kernel
theorem dX4_depart_19 : decode cX4_depart 19 = .ok (.iadd, 1) := by decide +kernel
theorem dX4_depart_20 : decode cX4_depart 20 = .ok (.iastore, 1) := by decide +kernel
theorem dX4_depart_21 : decode cX4_depart 21 = .ok (.aload_n 0, 1) := by decide +kernel
theorem dX4_depart_22 : decode cX4_depart 22 = .ok (.getfield 11, 3) := by decide +kernel
theorem dX4_depart_25 : decode cX4_depart 25 = .ok (.iconst 4, 1) := by decide +kernel
theorem dX4_depart_26 : decode cX4_depart 26 = .ok (.iload_n 1, 1) := by decide +kernel
theorem dX4_depart_27 : decode cX4_depart 27 = .ok (.iadd, 1) := by decide +kernel
theorem dX4_depart_28 : decode cX4_depart 28 = .ok (.iload_n 2, 1) := by decide +kernel
theorem dX4_depart_29 : decode cX4_depart 29 = .ok (.iastore, 1) := by decide +kernel
theorem dX4_depart_30 : decode cX4_depart 30 = .ok (.aload_n 0, 1) := by decide +kernel
theorem dX4_depart_31 : decode cX4_depart 31 = .ok (.getfield 11, 3) := by decide +kernel
theorem dX4_depart_34 : decode cX4_depart 34 = .ok (.bipush 10, 2) := by decide +kernel
theorem dX4_depart_36 : decode cX4_depart 36 = .ok (.iload_n 1, 1) := by decide +kernel
theorem dX4_depart_37 : decode cX4_depart 37 = .ok (.iadd, 1) := by decide +kernel
theorem dX4_depart_38 : decode cX4_depart 38 = .ok (.aload_n 0, 1) := by decide +kernel
theorem dX4_depart_39 : decode cX4_depart 39 = .ok (.invokevirtual 34, 3) := by decide +kernel
theorem dX4_depart_42 : decode cX4_depart 42 = .ok (.iload_n 3, 1) := by decide +kernel
theorem dX4_depart_43 : decode cX4_depart 43 = .ok (.iadd, 1) := by decide +kernel
theorem dX4_depart_44 : decode cX4_depart 44 = .ok (.iastore, 1) := by decide +kernel
theorem dX4_depart_45 : decode cX4_depart 45 = .ok (.aload_n 0, 1) := by decide +kernel
theorem dX4_depart_46 : decode cX4_depart 46 = .ok (.getfield 11, 3) := by decide +kernel
theorem dX4_depart_49 : decode cX4_depart 49 = .ok (.bipush 16, 2) := by decide +kernel
theorem dX4_depart_51 : decode cX4_depart 51 = .ok (.iload_n 1, 1) := by decide +kernel
theorem dX4_depart_52 : decode cX4_depart 52 = .ok (.iadd, 1) := by decide +kernel
theorem dX4_depart_53 : decode cX4_depart 53 = .ok (.dup2, 1) := by decide +kernel
theorem dX4_depart_54 : decode cX4_depart 54 = .ok (.iaload, 1) := by decide +kernel
theorem dX4_depart_55 : decode cX4_depart 55 = .ok (.iconst 1, 1) := by decide +kernel
theorem dX4_depart_56 : decode cX4_depart 56 = .ok (.iadd, 1) := by decide +kernel
theorem dX4_depart_57 : decode cX4_depart 57 = .ok (.iastore, 1) := by decide +kernel
theorem dX4_depart_58 : decode cX4_depart 58 = .ok (.aload_n 0, 1) := by decide +kernel
theorem dX4_depart_59 : decode cX4_depart 59 = .ok (.getfield 11, 3) := by decide +kernel
theorem dX4_depart_62 : decode cX4_depart 62 = .ok (.iconst 1, 1) := by decide +kernel
theorem dX4_depart_63 : decode cX4_depart 63 = .ok (.dup2, 1) := by decide +kernel
theorem dX4_depart_64 : decode cX4_depart 64 = .ok (.iaload, 1) := by decide +kernel
theorem dX4_depart_65 : decode cX4_depart 65 = .ok (.iconst 1, 1) := by decide +kernel
theorem dX4_depart_66 : decode cX4_depart 66 = .ok (.iadd, 1) := by decide +kernel
theorem dX4_depart_67 : decode cX4_depart 67 = .ok (.iastore, 1) := by decide +kernel
theorem dX4_depart_68 : decode cX4_depart 68 = .ok (.iload 4, 2) := by decide +kernel
theorem dX4_depart_70 : decode cX4_depart 70 = .ok (.ifCond .eq 13, 3) := by decide +kernel
theorem dX4_depart_73 : decode cX4_depart 73 = .ok (.aload_n 0, 1) := by decide +kernel
theorem dX4_depart_74 : decode cX4_depart 74 = .ok (.getfield 11, 3) := by decide +kernel
theorem dX4_depart_77 : decode cX4_depart 77 = .ok (.iconst 2, 1) := by decide +kernel
theorem dX4_depart_78 : decode cX4_depart 78 = .ok (.dup2, 1) := by decide +kernel
theorem dX4_depart_79 : decode cX4_depart 79 = .ok (.iaload, 1) := by decide +kernel
theorem dX4_depart_80 : decode cX4_depart 80 = .ok (.iconst 1, 1) := by decide +kernel
theorem dX4_depart_81 : decode cX4_depart 81 = .ok (.iadd, 1) := by decide +kernel
theorem dX4_depart_82 : decode cX4_depart 82 = .ok (.iastore, 1) := by decide +kernel
theorem dX4_depart_83 : decode cX4_depart 83 = .ok (.return_, 1) := by decide +kernel
