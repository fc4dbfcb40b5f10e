theorem dX10_richest_0 : decode cX10_richest 0 = .ok (.bipush (-2), 2) := by decide +kernel
theorem dX10_richest_2 : decode cX10_richest 2 = .ok (.istore_n 2, 1) := by decide +kernel
theorem dX10_richest_3 : decode cX10_richest 3 = .ok (.bipush (-2), 2) := by decide +kernel
theorem dX10_richest_5 : decode cX10_richest 5 = .ok (.istore_n 3, 1) := by decide +kernel
theorem dX10_richest_6 : decode cX10_richest 6 = .ok (.iconst 0, 1) := by decide +kernel
theorem dX10_richest_7 : decode cX10_richest 7 = .ok (.istore 4, 2) := by decide +kernel
theorem dX10_richest_9 : decode cX10_richest 9 = .ok (.iload 4, 2) := by decide +kernel
theorem dX10_richest_11 : decode cX10_richest 11 = .ok (.aload_n 0, 1) := by decide +kernel
theorem dX10_richest_12 : decode cX10_richest 12 = .ok (.getfield 60, 3) := by decide +kernel
theorem dX10_richest_15 : decode cX10_richest 15 = .ok (.getfield 272, 3) := by decide +kernel
theorem dX10_richest_18 : decode cX10_richest 18 = .ok (.if_icmp .ge 29, 3) := by decide +kernel
theorem dX10_richest_21 : decode cX10_richest 21 = .ok (.aload_n 0, 1) := by decide +kernel
theorem dX10_richest_22 : decode cX10_richest 22 = .ok (.iload 4, 2) := by decide +kernel
theorem dX10_richest_24 : decode cX10_richest 24 = .ok (.invokevirtual 275, 3) := by decide +kernel
theorem dX10_richest_27 : decode cX10_richest 27 = .ok (.istore 5, 2) := by decide +kernel
theorem dX10_richest_29 : decode cX10_richest 29 = .ok (.iload 5, 2) := by decide +kernel
theorem dX10_richest_31 : decode cX10_richest 31 = .ok (.iload_n 3, 1) := by decide +kernel
theorem dX10_richest_32 : decode cX10_richest 32 = .ok (.if_icmp .le 9, 3) := by decide +kernel
theorem dX10_richest_35 : decode cX10_richest 35 = .ok (.iload 4, 2) := by decide +kernel
theorem dX10_richest_37 : decode cX10_richest 37 = .ok (.istore_n 2, 1) := by decide +kernel
theorem dX10_richest_38 : decode cX10_richest 38 = .ok (.iload 5, 2) := by decide +kernel
theorem dX10_richest_40 : decode cX10_richest 40 = .ok (.istore_n 3, 1) := by decide +kernel
theorem dX10_richest_41 : decode cX10_richest 41 = .ok (.iinc 4 1, 3) := by decide +kernel
theorem dX10_richest_44 : decode cX10_richest 44 = .ok (.goto (-35), 3) := by decide +kernel
theorem dX10_richest_47 : decode cX10_richest 47 = .ok (.iload_n 1, 1) := by decide +kernel
theorem dX10_richest_48 : decode cX10_richest 48 = .ok (.ifCond .eq 7, 3) := by decide +kernel
theorem dX10_richest_51 : decode cX10_richest 51 = .ok (.iload_n 3, 1) := by decide +kernel
theorem dX10_richest_52 : decode cX10_richest 52 = .ok (.goto 4, 3) := by decide +kernel
theorem dX10_richest_55 : decode cX10_richest 55 = .ok (.iload_n 2, 1) := by decide +kernel
theorem dX10_richest_56 : decode cX10_richest 56 = .ok (.ireturn, 1) := by decide +kernel
theorem dX10_lent_0 : decode cX10_lent 0 = .ok (.aload_n 0, 1) := by decide +kernel
theorem dX10_lent_1 : decode cX10_lent 1 = .ok (.iload_n 1, 1) := by decide +kernel
theorem dX10_lent_2 : decode cX10_lent 2 = .ok (.invokevirtual 101, 3) := by decide +kernel
theorem dX10_lent_5 : decode cX10_lent 5 = .ok (.ifCond .eq 16, 3) := by decide +kernel
theorem dX10_lent_8 : decode cX10_lent 8 = .ok (.aload_n 0, 1) := by decide +kernel
theorem dX10_lent_9 : decode cX10_lent 9 = .ok (.iload_n 2, 1) := by decide +kernel
theorem dX10_lent_10 : decode cX10_lent 10 = .ok (.invokevirtual 101, 3) := by decide +kernel
theorem dX10_lent_13 : decode cX10_lent 13 = .ok (.ifCond .eq 8, 3) := by decide +kernel
theorem dX10_lent_16 : decode cX10_lent 16 = .ok (.iload_n 1, 1) := by decide +kernel
theorem dX10_lent_17 : decode cX10_lent 17 = .ok (.iload_n 2, 1) := by decide +kernel
theorem dX10_lent_18 : decode cX10_lent 18 = .ok (.if_icmp .ne 5, 3) := by decide +kernel
theorem dX10_lent_21 : decode cX10_lent 21 = .ok (.iconst (-1), 1) := by decide +kernel
theorem dX10_lent_22 : decode cX10_lent 22 = .ok (.ireturn, 1) := by decide +kernel
theorem dX10_lent_23 : decode cX10_lent 23 = .ok (.aload_n 0, 1) := by decide +kernel
theorem dX10_lent_24 : decode cX10_lent 24 = .ok (.getfield 32, 3) := by decide +kernel
theorem dX10_lent_27 : decode cX10_lent 27 = .ok (.getfield 142, 3) := by decide +kernel
theorem dX10_lent_30 : decode cX10_lent 30 = .ok (.bipush 22, 2) := by decide +kernel
theorem dX10_lent_32 : decode cX10_lent 32 = .ok (.iload_n 1, 1) := by decide +kernel
theorem dX10_lent_33 : decode cX10_lent 33 = .ok (.iconst 5, 1) := by decide +kernel
theorem dX10_lent_34 : decode cX10_lent 34 = .ok (.imul, 1) := by decide +kernel
theorem dX10_lent_35 : decode cX10_lent 35 = .ok (.iadd, 1) := by decide +kernel
theorem dX10_lent_36 : decode cX10_lent 36 = .ok (.iload_n 2, 1) := by decide +kernel
theorem dX10_lent_37 : decode cX10_lent 37 = .ok (.iadd, 1) := by decide +kernel
theorem dX10_lent_38 : decode cX10_lent 38 = .ok (.iaload, 1) := by decide +kernel
theorem dX10_lent_39 : decode cX10_lent 39 = .ok (.ireturn, 1) := by decide +kernel
theorem dX10_limitOf_0 : decode cX10_limitOf 0 = .ok (.iload_n 1, 1) := by decide +kernel
theorem dX10_limitOf_1 : decode cX10_limitOf 1 = .ok (.tableswitch 41 0 2 #[27, 30, 33], 27) := by decide +kernel
theorem dX10_limitOf_28 : decode cX10_limitOf 28 = .ok (.bipush 10, 2) := by decide +kernel
theorem dX10_limitOf_30 : decode cX10_limitOf 30 = .ok (.ireturn, 1) := by decide +kernel
theorem dX10_limitOf_31 : decode cX10_limitOf 31 = .ok (.bipush 100, 2) := by decide +kernel
theorem dX10_limitOf_33 : decode cX10_limitOf 33 = .ok (.ireturn, 1) := by decide +kernel
theorem dX10_limitOf_34 : decode cX10_limitOf 34 = .ok (.aload_n 0, 1) := by decide +kernel
theorem dX10_limitOf_35 : decode cX10_limitOf 35 = .ok (.getfield 60, 3) := by decide +kernel
theorem dX10_limitOf_38 : decode cX10_limitOf 38 = .ok (.getfield 272, 3) := by decide +kernel
theorem dX10_limitOf_41 : decode cX10_limitOf 41 = .ok (.ireturn, 1) := by decide +kernel
theorem dX10_limitOf_42 : decode cX10_limitOf 42 = .ok (.iconst 0, 1) := by decide +kernel
theorem dX10_limitOf_43 : decode cX10_limitOf 43 = .ok (.ireturn, 1) := by decide +kernel
theorem dX10_list_0 : decode cX10_list 0 = .ok (.aload_n 0, 1) := by decide +kernel
theorem dX10_list_1 : decode cX10_list 1 = .ok (.iload_n 1, 1) := by decide +kernel
theorem dX10_list_2 : decode cX10_list 2 = .ok (.invokevirtual 121, 3) := by decide +kernel
theorem dX10_list_5 : decode cX10_list 5 = .ok (.ifCond .eq 16, 3) := by decide +kernel
theorem dX10_list_8 : decode cX10_list 8 = .ok (.iload_n 3, 1) := by decide +kernel
theorem dX10_list_9 : decode cX10_list 9 = .ok (.ifCond .lt 12, 3) := by decide +kernel
theorem dX10_list_12 : decode cX10_list 12 = .ok (.iload_n 3, 1) := by decide +kernel
theorem dX10_list_13 : decode cX10_list 13 = .ok (.aload_n 0, 1) := by decide +kernel
theorem dX10_list_14 : decode cX10_list 14 = .ok (.iload_n 2, 1) := by decide +kernel
theorem dX10_list_15 : decode cX10_list 15 = .ok (.invokevirtual 278, 3) := by decide +kernel
theorem dX10_list_18 : decode cX10_list 18 = .ok (.if_icmp .lt 5, 3) := by decide +kernel
theorem dX10_list_21 : decode cX10_list 21 = .ok (.iconst (-1), 1) := by decide +kernel
theorem dX10_list_22 : decode cX10_list 22 = .ok (.ireturn, 1) := by decide +kernel
theorem dX10_list_23 : decode cX10_list 23 = .ok (.aload_n 0, 1) := by decide +kernel
theorem dX10_list_24 : decode cX10_list 24 = .ok (.getfield 50, 3) := by decide +kernel
theorem dX10_list_27 : decode cX10_list 27 = .ok (.iload_n 1, 1) := by decide +kernel
theorem dX10_list_28 : decode cX10_list 28 = .ok (.iload_n 2, 1) := by decide +kernel
theorem dX10_list_29 : decode cX10_list 29 = .ok (.iload_n 3, 1) := by decide +kernel
theorem dX10_list_30 : decode cX10_list 30 = .ok (.invokevirtual 281, 3) := by decide +kernel
theorem dX10_list_33 : decode cX10_list 33 = .ok (.ireturn, 1) := by decide +kernel
theorem dX10_forget_0 : decode cX10_forget 0 = .ok (.aload_n 0, 1) := by decide +kernel
theorem dX10_forget_1 : decode cX10_forget 1 = .ok (.getfield 50, 3) := by decide +kernel
theorem dX10_forget_4 : decode cX10_forget 4 = .ok (.invokevirtual 284, 3) := by decide +kernel
theorem dX10_forget_7 : decode cX10_forget 7 = .ok (.istore_n 1, 1) := by decide +kernel
theorem dX10_forget_8 : decode cX10_forget 8 = .ok (.aload_n 0, 1) := by decide +kernel
theorem dX10_forget_9 : decode cX10_forget 9 = .ok (.getfield 50, 3) := by decide +kernel
theorem dX10_forget_12 : decode cX10_forget 12 = .ok (.invokevirtual 285, 3) := by decide +kernel
theorem dX10_forget_15 : decode cX10_forget 15 = .ok (.iload_n 1, 1) := by decide +kernel
theorem dX10_forget_16 : decode cX10_forget 16 = .ok (.ireturn, 1) := by decide +kernel
theorem dX10_isKnown_0 : decode cX10_isKnown 0 = .ok (.iload_n 1, 1) := by decide +kernel
theorem dX10_isKnown_1 : decode cX10_isKnown 1 = .ok (.ifCond .lt 18, 3) := by decide +kernel
theorem dX10_isKnown_4 : decode cX10_isKnown 4 = .ok (.iload_n 1, 1) := by decide +kernel
theorem dX10_isKnown_5 : decode cX10_isKnown 5 = .ok (.aload_n 0, 1) := by decide +kernel
theorem dX10_isKnown_6 : decode cX10_isKnown 6 = .ok (.getfield 50, 3) := by decide +kernel
theorem dX10_isKnown_9 : decode cX10_isKnown 9 = .ok (.invokevirtual 284, 3) := by decide +kernel
theorem dX10_isKnown_12 : decode cX10_isKnown 12 = .ok (.if_icmp .gt 7, 3) := by decide +kernel
theorem dX10_isKnown_15 : decode cX10_isKnown 15 = .ok (.iconst 1, 1) := by decide +kernel
theorem dX10_isKnown_16 : decode cX10_isKnown 16 = .ok (.goto 4, 3) := by decide +kernel
theorem dX10_isKnown_19 : decode cX10_isKnown 19 = .ok (.iconst 0, 1) := by decide +kernel
theorem dX10_isKnown_20 : decode cX10_isKnown 20 = .ok (.ireturn, 1) := by decide +kernel
theorem dX10_fits_0 : decode cX10_fits 0 = .ok (.aload_n 0, 1) := by decide +kernel
theorem dX10_fits_1 : decode cX10_fits 1 = .ok (.iload_n 1, 1) := by decide +kernel
theorem dX10_fits_2 : decode cX10_fits 2 = .ok (.invokevirtual 288, 3) := by decide +kernel
theorem dX10_fits_5 : decode cX10_fits 5 = .ok (.ifCond .eq 13, 3) := by decide +kernel
theorem dX10_fits_8 : decode cX10_fits 8 = .ok (.iload_n 2, 1) := by decide +kernel
theorem dX10_fits_9 : decode cX10_fits 9 = .ok (.ifCond .lt 9, 3) := by decide +kernel
theorem dX10_fits_12 : decode cX10_fits 12 = .ok (.iload_n 2, 1) := by decide +kernel
theorem dX10_fits_13 : decode cX10_fits 13 = .ok (.bipush 20, 2) := by decide +kernel
theorem dX10_fits_15 : decode cX10_fits 15 = .ok (.if_icmp .le 5, 3) := by decide +kernel
theorem dX10_fits_18 : decode cX10_fits 18 = .ok (.iconst (-1), 1) := by decide +kernel
theorem dX10_fits_19 : decode cX10_fits 19 = .ok (.ireturn, 1) := by decide +kernel
theorem dX10_fits_20 : decode cX10_fits 20 = .ok (.aload_n 0, 1) := by decide +kernel
theorem dX10_fits_21 : decode cX10_fits 21 = .ok (.getfield 50, 3) := by decide +kernel
theorem dX10_fits_24 : decode cX10_fits 24 = .ok (.aload_n 0, 1) := by decide +kernel
theorem dX10_fits_25 : decode cX10_fits 25 = .ok (.getfield 60, 3) := by decide +kernel
theorem dX10_fits_28 : decode cX10_fits 28 = .ok (.iload_n 1, 1) := by decide +kernel
theorem dX10_fits_29 : decode cX10_fits 29 = .ok (.invokevirtual 291, 3) := by decide +kernel
theorem dX10_fits_32 : decode cX10_fits 32 = .ok (.aload_n 0, 1) := by decide +kernel
theorem dX10_fits_33 : decode cX10_fits 33 = .ok (.getfield 50, 3) := by decide +kernel
theorem dX10_fits_36 : decode cX10_fits 36 = .ok (.iload_n 2, 1) := by decide +kernel
theorem dX10_fits_37 : decode cX10_fits 37 = .ok (.invokevirtual 295, 3) := by decide +kernel
theorem dX10_fits_40 : decode cX10_fits 40 = .ok (.ireturn, 1) := by decide +kernel
theorem dX10_least_0 : decode cX10_least 0 = .ok (.aload_n 0, 1) := by decide +kernel
theorem dX10_least_1 : decode cX10_least 1 = .ok (.iload_n 1, 1) := by decide +kernel
theorem dX10_least_2 : decode cX10_least 2 = .ok (.invokevirtual 288, 3) := by decide +kernel
theorem dX10_least_5 : decode cX10_least 5 = .ok (.ifCond .ne 5, 3) := by decide +kernel
theorem dX10_least_8 : decode cX10_least 8 = .ok (.iconst (-1), 1) := by decide +kernel
theorem dX10_least_9 : decode cX10_least 9 = .ok (.ireturn, 1) := by decide +kernel
theorem dX10_least_10 : decode cX10_least 10 = .ok (.aload_n 0, 1) := by decide +kernel
theorem dX10_least_11 : decode cX10_least 11 = .ok (.getfield 50, 3) := by decide +kernel
theorem dX10_least_14 : decode cX10_least 14 = .ok (.aload_n 0, 1) := by decide +kernel
theorem dX10_least_15 : decode cX10_least 15 = .ok (.getfield 60, 3) := by decide +kernel
theorem dX10_least_18 : decode cX10_least 18 = .ok (.iload_n 1, 1) := by decide +kernel
theorem dX10_least_19 : decode cX10_least 19 = .ok (.invokevirtual 291, 3) := by decide +kernel
theorem dX10_least_22 : decode cX10_least 22 = .ok (.aload_n 0, 1) := by decide +kernel
theorem dX10_least_23 : decode cX10_least 23 = .ok (.getfield 50, 3) := by decide +kernel
theorem dX10_least_26 : decode cX10_least 26 = .ok (.invokevirtual 298, 3) := by decide +kernel
theorem dX10_least_29 : decode cX10_least 29 = .ok (.ireturn, 1) := by decide +kernel
theorem dX10_sure_0 : decode cX10_sure 0 = .ok (.aload_n 0, 1) := by decide +kernel
theorem dX10_sure_1 : decode cX10_sure 1 = .ok (.iload_n 1, 1) := by decide +kernel
theorem dX10_sure_2 : decode cX10_sure 2 = .ok (.invokevirtual 288, 3) := by decide +kernel
theorem dX10_sure_5 : decode cX10_sure 5 = .ok (.ifCond .eq 11, 3) := by decide +kernel
theorem dX10_sure_8 : decode cX10_sure 8 = .ok (.aload_n 0, 1) := by decide +kernel
theorem dX10_sure_9 : decode cX10_sure 9 = .ok (.iload_n 2, 1) := by decide +kernel
theorem dX10_sure_10 : decode cX10_sure 10 = .ok (.invokevirtual 121, 3) := by decide +kernel
theorem dX10_sure_13 : decode cX10_sure 13 = .ok (.ifCond .ne 5, 3) := by decide +kernel
theorem dX10_sure_16 : decode cX10_sure 16 = .ok (.iconst (-1), 1) := by decide +kernel
theorem dX10_sure_17 : decode cX10_sure 17 = .ok (.ireturn, 1) := by decide +kernel
theorem dX10_sure_18 : decode cX10_sure 18 = .ok (.aload_n 0, 1) := by decide +kernel
theorem dX10_sure_19 : decode cX10_sure 19 = .ok (.getfield 50, 3) := by decide +kernel
theorem dX10_sure_22 : decode cX10_sure 22 = .ok (.aload_n 0, 1) := by decide +kernel
theorem dX10_sure_23 : decode cX10_sure 23 = .ok (.getfield 60, 3) := by decide +kernel
theorem dX10_sure_26 : decode cX10_sure 26 = .ok (.iload_n 1, 1) := by decide +kernel
theorem dX10_sure_27 : decode cX10_sure 27 = .ok (.invokevirtual 291, 3) := by decide +kernel
theorem dX10_sure_30 : decode cX10_sure 30 = .ok (.aload_n 0, 1) := by decide +kernel
theorem dX10_sure_31 : decode cX10_sure 31 = .ok (.getfield 50, 3) := by decide +kernel
theorem dX10_sure_34 : decode cX10_sure 34 = .ok (.iload_n 2, 1) := by decide +kernel
theorem dX10_sure_35 : decode cX10_sure 35 = .ok (.invokevirtual 301, 3) := by decide +kernel
theorem dX10_sure_38 : decode cX10_sure 38 = .ok (.istore_n 3, 1) := by decide +kernel
theorem dX10_sure_39 : decode cX10_sure 39 = .ok (.iload_n 3, 1) := by decide +kernel
theorem dX10_sure_40 : decode cX10_sure 40 = .ok (.invokestatic 231, 3) := by decide +kernel
theorem dX10_sure_43 : decode cX10_sure 43 = .ok (.iconst 1, 1) := by decide +kernel
theorem dX10_sure_44 : decode cX10_sure 44 = .ok (.if_icmp .ne 10, 3) := by decide +kernel
theorem dX10_sure_47 : decode cX10_sure 47 = .ok (.iload_n 3, 1) := by decide +kernel
theorem dX10_sure_48 : decode cX10_sure 48 = .ok (.invokestatic 304, 3) := by decide +kernel
theorem dX10_sure_51 : decode cX10_sure 51 = .ok (.goto 5, 3) := by decide +kernel
theorem dX10_sure_54 : decode cX10_sure 54 = .ok (.bipush (-2), 2) := by decide +kernel
theorem dX10_sure_56 : decode cX10_sure 56 = .ok (.ireturn, 1) := by decide +kernel
theorem dX10_hold_0 : decode cX10_hold 0 = .ok (.iload_n 1, 1) := by decide +kernel
theorem dX10_hold_1 : decode cX10_hold 1 = .ok (.ifCond .lt 8, 3) := by decide +kernel
theorem dX10_hold_4 : decode cX10_hold 4 = .ok (.iload_n 1, 1) := by decide +kernel
theorem dX10_hold_5 : decode cX10_hold 5 = .ok (.iconst 3, 1) := by decide +kernel
theorem dX10_hold_6 : decode cX10_hold 6 = .ok (.if_icmp .lt 5, 3) := by decide +kernel
theorem dX10_hold_9 : decode cX10_hold 9 = .ok (.iconst 0, 1) := by decide +kernel
theorem dX10_hold_10 : decode cX10_hold 10 = .ok (.ireturn, 1) := by decide +kernel
theorem dX10_hold_11 : decode cX10_hold 11 = .ok (.aload_n 0, 1) := by decide +kernel
theorem dX10_hold_12 : decode cX10_hold 12 = .ok (.getfield 32, 3) := by decide +kernel
theorem dX10_hold_15 : decode cX10_hold 15 = .ok (.getfield 142, 3) := by decide +kernel
theorem dX10_hold_18 : decode cX10_hold 18 = .ok (.iconst 0, 1) := by decide +kernel
theorem dX10_hold_19 : decode cX10_hold 19 = .ok (.aload_n 0, 1) := by decide +kernel
theorem dX10_hold_20 : decode cX10_hold 20 = .ok (.getfield 43, 3) := by decide +kernel
theorem dX10_hold_23 : decode cX10_hold 23 = .ok (.iload_n 1, 1) := by decide +kernel
theorem dX10_hold_24 : decode cX10_hold 24 = .ok (.bipush 47, 2) := by decide +kernel
theorem dX10_hold_26 : decode cX10_hold 26 = .ok (.imul, 1) := by decide +kernel
theorem dX10_hold_27 : decode cX10_hold 27 = .ok (.bipush 47, 2) := by decide +kernel
theorem dX10_hold_29 : decode cX10_hold 29 = .ok (.invokestatic 307, 3) := by decide +kernel
theorem dX10_hold_32 : decode cX10_hold 32 = .ok (.aload_n 0, 1) := by decide +kernel
theorem dX10_hold_33 : decode cX10_hold 33 = .ok (.dup, 1) := by decide +kernel
theorem dX10_hold_34 : decode cX10_hold 34 = .ok (.getfield 313, 3) := by decide +kernel
theorem dX10_hold_37 : decode cX10_hold 37 = .ok (.iconst 1, 1) := by decide +kernel
theorem dX10_hold_38 : decode cX10_hold 38 = .ok (.iload_n 1, 1) := by decide +kernel
theorem dX10_hold_39 : decode cX10_hold 39 = .ok (.ishl, 1) := by decide +kernel
theorem dX10_hold_40 : decode cX10_hold 40 = .ok (.ior, 1) := by decide +kernel
theorem dX10_hold_41 : decode cX10_hold 41 = .ok (.putfield 313, 3) := by decide +kernel
theorem dX10_hold_44 : decode cX10_hold 44 = .ok (.iconst 1, 1) := by decide +kernel
theorem dX10_hold_45 : decode cX10_hold 45 = .ok (.ireturn, 1) := by decide +kernel
theorem dX10_restore_0 : decode cX10_restore 0 = .ok (.iload_n 1, 1) := by decide +kernel
theorem dX10_restore_1 : decode cX10_restore 1 = .ok (.ifCond .lt 19, 3) := by decide +kernel
theorem dX10_restore_4 : decode cX10_restore 4 = .ok (.iload_n 1, 1) := by decide +kernel
theorem dX10_restore_5 : decode cX10_restore 5 = .ok (.iconst 3, 1) := by decide +kernel
theorem dX10_restore_6 : decode cX10_restore 6 = .ok (.if_icmp .ge 14, 3) := by decide +kernel
theorem dX10_restore_9 : decode cX10_restore 9 = .ok (.aload_n 0, 1) := by decide +kernel
theorem dX10_restore_10 : decode cX10_restore 10 = .ok (.getfield 313, 3) := by decide +kernel
theorem dX10_restore_13 : decode cX10_restore 13 = .ok (.iload_n 1, 1) := by decide +kernel
theorem dX10_restore_14 : decode cX10_restore 14 = .ok (.ishr, 1) := by decide +kernel
theorem dX10_restore_15 : decode cX10_restore 15 = .ok (.iconst 1, 1) := by decide +kernel
theorem dX10_restore_16 : decode cX10_restore 16 = .ok (.iand, 1) := by decide +kernel
theorem dX10_restore_17 : decode cX10_restore 17 = .ok (.ifCond .ne 5, 3) := by decide +kernel
theorem dX10_restore_20 : decode cX10_restore 20 = .ok (.iconst 0, 1) := by decide +kernel
theorem dX10_restore_21 : decode cX10_restore 21 = .ok (.ireturn, 1) := by decide +kernel
theorem dX10_restore_22 : decode cX10_restore 22 = .ok (.aload_n 0, 1) := by decide +kernel
theorem dX10_restore_23 : decode cX10_restore 23 = .ok (.getfield 43, 3) := by decide +kernel
theorem dX10_restore_26 : decode cX10_restore 26 = .ok (.iload_n 1, 1) := by decide +kernel
theorem dX10_restore_27 : decode cX10_restore 27 = .ok (.bipush 47, 2) := by decide +kernel
theorem dX10_restore_29 : decode cX10_restore 29 = .ok (.imul, 1) := by decide +kernel
theorem dX10_restore_30 : decode cX10_restore 30 = .ok (.aload_n 0, 1) := by decide +kernel
theorem dX10_restore_31 : decode cX10_restore 31 = .ok (.getfield 32, 3) := by decide +kernel
theorem dX10_restore_34 : decode cX10_restore 34 = .ok (.getfield 142, 3) := by decide +kernel
theorem dX10_restore_37 : decode cX10_restore 37 = .ok (.iconst 0, 1) := by decide +kernel
theorem dX10_restore_38 : decode cX10_restore 38 = .ok (.bipush 47, 2) := by decide +kernel
theorem dX10_restore_40 : decode cX10_restore 40 = .ok (.invokestatic 307, 3) := by decide +kernel
theorem dX10_restore_43 : decode cX10_restore 43 = .ok (.aload_n 0, 1) := by decide +kernel
theorem dX10_restore_44 : decode cX10_restore 44 = .ok (.getfield 39, 3) := by decide +kernel
theorem dX10_restore_47 : decode cX10_restore 47 = .ok (.invokevirtual 316, 3) := by decide +kernel
theorem dX10_restore_50 : decode cX10_restore 50 = .ok (.aload_n 0, 1) := by decide +kernel
theorem dX10_restore_51 : decode cX10_restore 51 = .ok (.iconst 0, 1) := by decide +kernel
theorem dX10_restore_52 : decode cX10_restore 52 = .ok (.putfield 199, 3) := by decide +kernel
theorem dX10_restore_55 : decode cX10_restore 55 = .ok (.iconst 1, 1) := by decide +kernel
theorem dX10_restore_56 : decode cX10_restore 56 = .ok (.ireturn, 1) := by decide +kernel
theorem dX10_worksUnderWay_0 : decode cX10_worksUnderWay 0 = .ok (.iconst 0, 1) := by decide +kernel
theorem dX10_worksUnderWay_1 : decode cX10_worksUnderWay 1 = .ok (.istore_n 1, 1) := by decide +kernel
theorem dX10_worksUnderWay_2 : decode cX10_worksUnderWay 2 = .ok (.iconst 0, 1) := by decide +kernel
theorem dX10_worksUnderWay_3 : decode cX10_worksUnderWay 3 = .ok (.istore_n 2, 1) := by decide +kernel
theorem dX10_worksUnderWay_4 : decode cX10_worksUnderWay 4 = .ok (.iload_n 2, 1) := by decide +kernel
theorem dX10_worksUnderWay_5 : decode cX10_worksUnderWay 5 = .ok (.aload_n 0, 1) := by decide +kernel
theorem dX10_worksUnderWay_6 : decode cX10_worksUnderWay 6 = .ok (.getfield 60, 3) := by decide +kernel
theorem dX10_worksUnderWay_9 : decode cX10_worksUnderWay 9 = .ok (.getfield 236, 3) := by decide +kernel
theorem dX10_worksUnderWay_12 : decode cX10_worksUnderWay 12 = .ok (.if_icmp .ge 26, 3) := by decide +kernel
theorem dX10_worksUnderWay_15 : decode cX10_worksUnderWay 15 = .ok (.aload_n 0, 1) := by decide +kernel
theorem dX10_worksUnderWay_16 : decode cX10_worksUnderWay 16 = .ok (.getfield 32, 3) := by decide +kernel
theorem dX10_worksUnderWay_19 : decode cX10_worksUnderWay 19 = .ok (.iload_n 2, 1) := by decide +kernel
theorem dX10_worksUnderWay_20 : decode cX10_worksUnderWay 20 = .ok (.invokevirtual 124, 3) := by decide +kernel
theorem dX10_worksUnderWay_23 : decode cX10_worksUnderWay 23 = .ok (.ifCond .eq 9, 3) := by decide +kernel
theorem dX10_worksUnderWay_26 : decode cX10_worksUnderWay 26 = .ok (.iload_n 1, 1) := by decide +kernel
theorem dX10_worksUnderWay_27 : decode cX10_worksUnderWay 27 = .ok (.iconst 1, 1) := by decide +kernel
theorem dX10_worksUnderWay_28 : decode cX10_worksUnderWay 28 = .ok (.iload_n 2, 1) := by decide +kernel
theorem dX10_worksUnderWay_29 : decode cX10_worksUnderWay 29 = .ok (.ishl, 1) := by decide +kernel
theorem dX10_worksUnderWay_30 : decode cX10_worksUnderWay 30 = .ok (.ior, 1) := by decide +kernel
theorem dX10_worksUnderWay_31 : decode cX10_worksUnderWay 31 = .ok (.istore_n 1, 1) := by decide +kernel
theorem dX10_worksUnderWay_32 : decode cX10_worksUnderWay 32 = .ok (.iinc 2 1, 3) := by decide +kernel
theorem dX10_worksUnderWay_35 : decode cX10_worksUnderWay 35 = .ok (.goto (-31), 3) := by decide +kernel
theorem dX10_worksUnderWay_38 : decode cX10_worksUnderWay 38 = .ok (.iload_n 1, 1) := by decide +kernel
theorem dX10_worksUnderWay_39 : decode cX10_worksUnderWay 39 = .ok (.ireturn, 1) := by decide +kernel
theorem dX10_worksAtOwners_0 : decode cX10_worksAtOwners 0 = .ok (.iconst 0, 1) := by decide +kernel
theorem dX10_worksAtOwners_1 : decode cX10_worksAtOwners 1 = .ok (.istore_n 1, 1) := by decide +kernel
theorem dX10_worksAtOwners_2 : decode cX10_worksAtOwners 2 = .ok (.iconst 0, 1) := by decide +kernel
theorem dX10_worksAtOwners_3 : decode cX10_worksAtOwners 3 = .ok (.istore_n 2, 1) := by decide +kernel
theorem dX10_worksAtOwners_4 : decode cX10_worksAtOwners 4 = .ok (.iload_n 2, 1) := by decide +kernel
theorem dX10_worksAtOwners_5 : decode cX10_worksAtOwners 5 = .ok (.aload_n 0, 1) := by decide +kernel
theorem dX10_worksAtOwners_6 : decode cX10_worksAtOwners 6 = .ok (.getfield 60, 3) := by decide +kernel
theorem dX10_worksAtOwners_9 : decode cX10_worksAtOwners 9 = .ok (.getfield 236, 3) := by decide +kernel
theorem dX10_worksAtOwners_12 : decode cX10_worksAtOwners 12 = .ok (.if_icmp .ge 35, 3) := by decide +kernel
theorem dX10_worksAtOwners_15 : decode cX10_worksAtOwners 15 = .ok (.aload_n 0, 1) := by decide +kernel
theorem dX10_worksAtOwners_16 : decode cX10_worksAtOwners 16 = .ok (.getfield 32, 3) := by decide +kernel
theorem dX10_worksAtOwners_19 : decode cX10_worksAtOwners 19 = .ok (.iload_n 2, 1) := by decide +kernel
theorem dX10_worksAtOwners_20 : decode cX10_worksAtOwners 20 = .ok (.aload_n 0, 1) := by decide +kernel
theorem dX10_worksAtOwners_21 : decode cX10_worksAtOwners 21 = .ok (.getfield 60, 3) := by decide +kernel
theorem dX10_worksAtOwners_24 : decode cX10_worksAtOwners 24 = .ok (.getfield 127, 3) := by decide +kernel
theorem dX10_worksAtOwners_27 : decode cX10_worksAtOwners 27 = .ok (.iload_n 2, 1) := by decide +kernel
theorem dX10_worksAtOwners_28 : decode cX10_worksAtOwners 28 = .ok (.iaload, 1) := by decide +kernel
theorem dX10_worksAtOwners_29 : decode cX10_worksAtOwners 29 = .ok (.invokevirtual 352, 3) := by decide +kernel
theorem dX10_worksAtOwners_32 : decode cX10_worksAtOwners 32 = .ok (.ifCond .eq 9, 3) := by decide +kernel
theorem dX10_worksAtOwners_35 : decode cX10_worksAtOwners 35 = .ok (.iload_n 1, 1) := by decide +kernel
theorem dX10_worksAtOwners_36 : decode cX10_worksAtOwners 36 = .ok (.iconst 1, 1) := by decide +kernel
theorem dX10_worksAtOwners_37 : decode cX10_worksAtOwners 37 = .ok (.iload_n 2, 1) := by decide +kernel
theorem dX10_worksAtOwners_38 : decode cX10_worksAtOwners 38 = .ok (.ishl, 1) := by decide +kernel
theorem dX10_worksAtOwners_39 : decode cX10_worksAtOwners 39 = .ok (.ior, 1) := by decide +kernel
theorem dX10_worksAtOwners_40 : decode cX10_worksAtOwners 40 = .ok (.istore_n 1, 1) := by decide +kernel
theorem dX10_worksAtOwners_41 : decode cX10_worksAtOwners 41 = .ok (.iinc 2 1, 3) := by decide +kernel
theorem dX10_worksAtOwners_44 : decode cX10_worksAtOwners 44 = .ok (.goto (-40), 3) := by decide +kernel
theorem dX10_worksAtOwners_47 : decode cX10_worksAtOwners 47 = .ok (.iload_n 1, 1) := by decide +kernel
theorem dX10_worksAtOwners_48 : decode cX10_worksAtOwners 48 = .ok (.ireturn, 1) := by decide +kernel
theorem dX10_count_0 : decode cX10_count 0 = .ok (.iload_n 1, 1) := by decide +kernel
theorem dX10_count_1 : decode cX10_count 1 = .ok (.tableswitch 161 0 12 #[67, 75, 83, 91, 99, 107, 112, 117, 122, 127, 135, 143, 151], 67) := by decide +kernel
theorem dX10_count_68 : decode cX10_count 68 = .ok (.aload_n 0, 1) := by decide +kernel
theorem dX10_count_69 : decode cX10_count 69 = .ok (.getfield 60, 3) := by decide +kernel
theorem dX10_count_72 : decode cX10_count 72 = .ok (.getfield 272, 3) := by decide +kernel
theorem dX10_count_75 : decode cX10_count 75 = .ok (.ireturn, 1) := by decide +kernel
theorem dX10_count_76 : decode cX10_count 76 = .ok (.aload_n 0, 1) := by decide +kernel
theorem dX10_count_77 : decode cX10_count 77 = .ok (.getfield 60, 3) := by decide +kernel
theorem dX10_count_80 : decode cX10_count 80 = .ok (.getfield 236, 3) := by decide +kernel
theorem dX10_count_83 : decode cX10_count 83 = .ok (.ireturn, 1) := by decide +kernel
theorem dX10_count_84 : decode cX10_count 84 = .ok (.aload_n 0, 1) := by decide +kernel
theorem dX10_count_85 : decode cX10_count 85 = .ok (.getfield 60, 3) := by decide +kernel
theorem dX10_count_88 : decode cX10_count 88 = .ok (.getfield 317, 3) := by decide +kernel
theorem dX10_count_91 : decode cX10_count 91 = .ok (.ireturn, 1) := by decide +kernel
theorem dX10_count_92 : decode cX10_count 92 = .ok (.aload_n 0, 1) := by decide +kernel
theorem dX10_count_93 : decode cX10_count 93 = .ok (.getfield 32, 3) := by decide +kernel
theorem dX10_count_96 : decode cX10_count 96 = .ok (.invokevirtual 189, 3) := by decide +kernel
theorem dX10_count_99 : decode cX10_count 99 = .ok (.ireturn, 1) := by decide +kernel
theorem dX10_count_100 : decode cX10_count 100 = .ok (.aload_n 0, 1) := by decide +kernel
theorem dX10_count_101 : decode cX10_count 101 = .ok (.getfield 32, 3) := by decide +kernel
theorem dX10_count_104 : decode cX10_count 104 = .ok (.invokevirtual 320, 3) := by decide +kernel
theorem dX10_count_107 : decode cX10_count 107 = .ok (.ireturn, 1) := by decide +kernel
theorem dX10_count_108 : decode cX10_count 108 = .ok (.aload_n 0, 1) := by decide +kernel
theorem dX10_count_109 : decode cX10_count 109 = .ok (.invokevirtual 323, 3) := by decide +kernel
theorem dX10_count_112 : decode cX10_count 112 = .ok (.ireturn, 1) := by decide +kernel
theorem dX10_count_113 : decode cX10_count 113 = .ok (.aload_n 0, 1) := by decide +kernel
theorem dX10_count_114 : decode cX10_count 114 = .ok (.invokevirtual 326, 3) := by decide +kernel
theorem dX10_count_117 : decode cX10_count 117 = .ok (.ireturn, 1) := by decide +kernel
theorem dX10_count_118 : decode cX10_count 118 = .ok (.aload_n 0, 1) := by decide +kernel
theorem dX10_count_119 : decode cX10_count 119 = .ok (.invokevirtual 148, 3) := by decide +kernel
theorem dX10_count_122 : decode cX10_count 122 = .ok (.ireturn, 1) := by decide +kernel
theorem dX10_count_123 : decode cX10_count 123 = .ok (.aload_n 0, 1) := by decide +kernel
theorem dX10_count_124 : decode cX10_count 124 = .ok (.getfield 80, 3) := by decide +kernel
theorem dX10_count_127 : decode cX10_count 127 = .ok (.ireturn, 1) := by decide +kernel
theorem dX10_count_128 : decode cX10_count 128 = .ok (.aload_n 0, 1) := by decide +kernel
theorem dX10_count_129 : decode cX10_count 129 = .ok (.getfield 39, 3) := by decide +kernel
theorem dX10_count_132 : decode cX10_count 132 = .ok (.invokevirtual 192, 3) := by decide +kernel
theorem dX10_count_135 : decode cX10_count 135 = .ok (.ireturn, 1) := by decide +kernel
theorem dX10_count_136 : decode cX10_count 136 = .ok (.aload_n 0, 1) := by decide +kernel
theorem dX10_count_137 : decode cX10_count 137 = .ok (.getfield 50, 3) := by decide +kernel
theorem dX10_count_140 : decode cX10_count 140 = .ok (.invokevirtual 284, 3) := by decide +kernel
theorem dX10_count_143 : decode cX10_count 143 = .ok (.ireturn, 1) := by decide +kernel
theorem dX10_count_144 : decode cX10_count 144 = .ok (.aload_n 0, 1) := by decide +kernel
theorem dX10_count_145 : decode cX10_count 145 = .ok (.getfield 313, 3) := by decide +kernel
theorem dX10_count_148 : decode cX10_count 148 = .ok (.invokestatic 231, 3) := by decide +kernel
theorem dX10_count_151 : decode cX10_count 151 = .ok (.ireturn, 1) := by decide +kernel
theorem dX10_count_152 : decode cX10_count 152 = .ok (.aload_n 0, 1) := by decide +kernel
theorem dX10_count_153 : decode cX10_count 153 = .ok (.getfield 32, 3) := by decide +kernel
theorem dX10_count_156 : decode cX10_count 156 = .ok (.getfield 142, 3) := by decide +kernel
theorem dX10_count_159 : decode cX10_count 159 = .ok (.iconst 2, 1) := by decide +kernel
theorem dX10_count_160 : decode cX10_count 160 = .ok (.iaload, 1) := by decide +kernel
theorem dX10_count_161 : decode cX10_count 161 = .ok (.ireturn, 1) := by decide +kernel
theorem dX10_count_162 : decode cX10_count 162 = .ok (.iconst (-1), 1) := by decide +kernel
theorem dX10_count_163 : decode cX10_count 163 = .ok (.ireturn, 1) := by decide +kernel
