theorem dX10_putBytes_0 : decode cX10_putBytes 0 = .ok (.bipush 24, 2) := by decide +kernel
theorem dX10_putBytes_2 : decode cX10_putBytes 2 = .ok (.istore_n 2, 1) := by decide +kernel
theorem dX10_putBytes_3 : decode cX10_putBytes 3 = .ok (.iload_n 2, 1) := by decide +kernel
theorem dX10_putBytes_4 : decode cX10_putBytes 4 = .ok (.ifCond .lt 42, 3) := by decide +kernel
theorem dX10_putBytes_7 : decode cX10_putBytes 7 = .ok (.aload_n 0, 1) := by decide +kernel
theorem dX10_putBytes_8 : decode cX10_putBytes 8 = .ok (.getfield 80, 3) := by decide +kernel
theorem dX10_putBytes_11 : decode cX10_putBytes 11 = .ok (.sipush 2000, 3) := by decide +kernel
theorem dX10_putBytes_14 : decode cX10_putBytes 14 = .ok (.if_icmp .ge 26, 3) := by decide +kernel
theorem dX10_putBytes_17 : decode cX10_putBytes 17 = .ok (.aload_n 0, 1) := by decide +kernel
theorem dX10_putBytes_18 : decode cX10_putBytes 18 = .ok (.getfield 9, 3) := by decide +kernel
theorem dX10_putBytes_21 : decode cX10_putBytes 21 = .ok (.aload_n 0, 1) := by decide +kernel
theorem dX10_putBytes_22 : decode cX10_putBytes 22 = .ok (.getfield 80, 3) := by decide +kernel
theorem dX10_putBytes_25 : decode cX10_putBytes 25 = .ok (.iload_n 1, 1) := by decide +kernel
theorem dX10_putBytes_26 : decode cX10_putBytes 26 = .ok (.iload_n 2, 1) := by decide +kernel
theorem dX10_putBytes_27 : decode cX10_putBytes 27 = .ok (.ishr, 1) := by decide +kernel
theorem dX10_putBytes_28 : decode cX10_putBytes 28 = .ok (.i2b, 1) := by decide +kernel
theorem dX10_putBytes_29 : decode cX10_putBytes 29 = .ok (.bastore, 1) := by decide +kernel
theorem dX10_putBytes_30 : decode cX10_putBytes 30 = .ok (.aload_n 0, 1) := by decide +kernel
theorem dX10_putBytes_31 : decode cX10_putBytes 31 = .ok (.dup, 1) := by decide +kernel
theorem dX10_putBytes_32 : decode cX10_putBytes 32 = .ok (.getfield 80, 3) := by decide +kernel
theorem dX10_putBytes_35 : decode cX10_putBytes 35 = .ok (.iconst 1, 1) := by decide +kernel
theorem dX10_putBytes_36 : decode cX10_putBytes 36 = .ok (.iadd, 1) := by decide +kernel
theorem dX10_putBytes_37 : decode cX10_putBytes 37 = .ok (.putfield 80, 3) := by decide +kernel
theorem dX10_putBytes_40 : decode cX10_putBytes 40 = .ok (.iinc 2 (-8), 3) := by decide +kernel
theorem dX10_putBytes_43 : decode cX10_putBytes 43 = .ok (.goto (-40), 3) := by decide +kernel
theorem dX10_putBytes_46 : decode cX10_putBytes 46 = .ok (.return_, 1) := by decide +kernel
theorem dX10_feed_0 : decode cX10_feed 0 = .ok (.aload_n 0, 1) := by decide +kernel
theorem dX10_feed_1 : decode cX10_feed 1 = .ok (.getfield 80, 3) := by decide +kernel
theorem dX10_feed_4 : decode cX10_feed 4 = .ok (.sipush 1980, 3) := by decide +kernel
theorem dX10_feed_7 : decode cX10_feed 7 = .ok (.if_icmp .le 5, 3) := by decide +kernel
theorem dX10_feed_10 : decode cX10_feed 10 = .ok (.iconst (-1), 1) := by decide +kernel
theorem dX10_feed_11 : decode cX10_feed 11 = .ok (.ireturn, 1) := by decide +kernel
theorem dX10_feed_12 : decode cX10_feed 12 = .ok (.aload_n 0, 1) := by decide +kernel
theorem dX10_feed_13 : decode cX10_feed 13 = .ok (.iload_n 1, 1) := by decide +kernel
theorem dX10_feed_14 : decode cX10_feed 14 = .ok (.invokevirtual 83, 3) := by decide +kernel
theorem dX10_feed_17 : decode cX10_feed 17 = .ok (.aload_n 0, 1) := by decide +kernel
theorem dX10_feed_18 : decode cX10_feed 18 = .ok (.iload_n 2, 1) := by decide +kernel
theorem dX10_feed_19 : decode cX10_feed 19 = .ok (.invokevirtual 83, 3) := by decide +kernel
theorem dX10_feed_22 : decode cX10_feed 22 = .ok (.aload_n 0, 1) := by decide +kernel
theorem dX10_feed_23 : decode cX10_feed 23 = .ok (.iload_n 3, 1) := by decide +kernel
theorem dX10_feed_24 : decode cX10_feed 24 = .ok (.invokevirtual 83, 3) := by decide +kernel
theorem dX10_feed_27 : decode cX10_feed 27 = .ok (.aload_n 0, 1) := by decide +kernel
theorem dX10_feed_28 : decode cX10_feed 28 = .ok (.iload 4, 2) := by decide +kernel
theorem dX10_feed_30 : decode cX10_feed 30 = .ok (.invokevirtual 83, 3) := by decide +kernel
theorem dX10_feed_33 : decode cX10_feed 33 = .ok (.aload_n 0, 1) := by decide +kernel
theorem dX10_feed_34 : decode cX10_feed 34 = .ok (.iload 5, 2) := by decide +kernel
theorem dX10_feed_36 : decode cX10_feed 36 = .ok (.invokevirtual 83, 3) := by decide +kernel
theorem dX10_feed_39 : decode cX10_feed 39 = .ok (.aload_n 0, 1) := by decide +kernel
theorem dX10_feed_40 : decode cX10_feed 40 = .ok (.getfield 80, 3) := by decide +kernel
theorem dX10_feed_43 : decode cX10_feed 43 = .ok (.ireturn, 1) := by decide +kernel
theorem dX10_back_0 : decode cX10_back 0 = .ok (.iload_n 1, 1) := by decide +kernel
theorem dX10_back_1 : decode cX10_back 1 = .ok (.ifCond .lt 11, 3) := by decide +kernel
theorem dX10_back_4 : decode cX10_back 4 = .ok (.iload_n 1, 1) := by decide +kernel
theorem dX10_back_5 : decode cX10_back 5 = .ok (.aload_n 0, 1) := by decide +kernel
theorem dX10_back_6 : decode cX10_back 6 = .ok (.getfield 80, 3) := by decide +kernel
theorem dX10_back_9 : decode cX10_back 9 = .ok (.if_icmp .le 5, 3) := by decide +kernel
theorem dX10_back_12 : decode cX10_back 12 = .ok (.iconst (-1), 1) := by decide +kernel
theorem dX10_back_13 : decode cX10_back 13 = .ok (.ireturn, 1) := by decide +kernel
theorem dX10_back_14 : decode cX10_back 14 = .ok (.aload_n 0, 1) := by decide +kernel
theorem dX10_back_15 : decode cX10_back 15 = .ok (.dup, 1) := by decide +kernel
theorem dX10_back_16 : decode cX10_back 16 = .ok (.getfield 80, 3) := by decide +kernel
theorem dX10_back_19 : decode cX10_back 19 = .ok (.iload_n 1, 1) := by decide +kernel
theorem dX10_back_20 : decode cX10_back 20 = .ok (.isub, 1) := by decide +kernel
theorem dX10_back_21 : decode cX10_back 21 = .ok (.putfield 80, 3) := by decide +kernel
theorem dX10_back_24 : decode cX10_back 24 = .ok (.aload_n 0, 1) := by decide +kernel
theorem dX10_back_25 : decode cX10_back 25 = .ok (.getfield 80, 3) := by decide +kernel
theorem dX10_back_28 : decode cX10_back 28 = .ok (.ireturn, 1) := by decide +kernel
theorem dX10_takeUp_0 : decode cX10_takeUp 0 = .ok (.aload_n 0, 1) := by decide +kernel
theorem dX10_takeUp_1 : decode cX10_takeUp 1 = .ok (.getfield 60, 3) := by decide +kernel
theorem dX10_takeUp_4 : decode cX10_takeUp 4 = .ok (.astore_n 1, 1) := by decide +kernel
theorem dX10_takeUp_5 : decode cX10_takeUp 5 = .ok (.aload_n 0, 1) := by decide +kernel
theorem dX10_takeUp_6 : decode cX10_takeUp 6 = .ok (.aload_n 0, 1) := by decide +kernel
theorem dX10_takeUp_7 : decode cX10_takeUp 7 = .ok (.getfield 64, 3) := by decide +kernel
theorem dX10_takeUp_10 : decode cX10_takeUp 10 = .ok (.putfield 60, 3) := by decide +kernel
theorem dX10_takeUp_13 : decode cX10_takeUp 13 = .ok (.aload_n 0, 1) := by decide +kernel
theorem dX10_takeUp_14 : decode cX10_takeUp 14 = .ok (.aload_n 1, 1) := by decide +kernel
theorem dX10_takeUp_15 : decode cX10_takeUp 15 = .ok (.putfield 64, 3) := by decide +kernel
theorem dX10_takeUp_18 : decode cX10_takeUp 18 = .ok (.aload_n 0, 1) := by decide +kernel
theorem dX10_takeUp_19 : decode cX10_takeUp 19 = .ok (.getfield 32, 3) := by decide +kernel
theorem dX10_takeUp_22 : decode cX10_takeUp 22 = .ok (.aload_n 0, 1) := by decide +kernel
theorem dX10_takeUp_23 : decode cX10_takeUp 23 = .ok (.getfield 60, 3) := by decide +kernel
theorem dX10_takeUp_26 : decode cX10_takeUp 26 = .ok (.invokevirtual 329, 3) := by decide +kernel
theorem dX10_takeUp_29 : decode cX10_takeUp 29 = .ok (.aload_n 0, 1) := by decide +kernel
theorem dX10_takeUp_30 : decode cX10_takeUp 30 = .ok (.getfield 39, 3) := by decide +kernel
theorem dX10_takeUp_33 : decode cX10_takeUp 33 = .ok (.invokevirtual 316, 3) := by decide +kernel
theorem dX10_takeUp_36 : decode cX10_takeUp 36 = .ok (.aload_n 0, 1) := by decide +kernel
theorem dX10_takeUp_37 : decode cX10_takeUp 37 = .ok (.getfield 50, 3) := by decide +kernel
theorem dX10_takeUp_40 : decode cX10_takeUp 40 = .ok (.invokevirtual 285, 3) := by decide +kernel
theorem dX10_takeUp_43 : decode cX10_takeUp 43 = .ok (.aload_n 0, 1) := by decide +kernel
theorem dX10_takeUp_44 : decode cX10_takeUp 44 = .ok (.iconst 0, 1) := by decide +kernel
theorem dX10_takeUp_45 : decode cX10_takeUp 45 = .ok (.putfield 313, 3) := by decide +kernel
theorem dX10_takeUp_48 : decode cX10_takeUp 48 = .ok (.aload_n 0, 1) := by decide +kernel
theorem dX10_takeUp_49 : decode cX10_takeUp 49 = .ok (.iconst 0, 1) := by decide +kernel
theorem dX10_takeUp_50 : decode cX10_takeUp 50 = .ok (.putfield 199, 3) := by decide +kernel
theorem dX10_takeUp_53 : decode cX10_takeUp 53 = .ok (.return_, 1) := by decide +kernel
theorem dX10_read_0 : decode cX10_read 0 = .ok (.aload_n 0, 1) := by decide +kernel
theorem dX10_read_1 : decode cX10_read 1 = .ok (.getfield 16, 3) := by decide +kernel
theorem dX10_read_4 : decode cX10_read 4 = .ok (.aload_n 0, 1) := by decide +kernel
theorem dX10_read_5 : decode cX10_read 5 = .ok (.getfield 9, 3) := by decide +kernel
theorem dX10_read_8 : decode cX10_read 8 = .ok (.aload_n 0, 1) := by decide +kernel
theorem dX10_read_9 : decode cX10_read 9 = .ok (.getfield 80, 3) := by decide +kernel
theorem dX10_read_12 : decode cX10_read 12 = .ok (.invokevirtual 87, 3) := by decide +kernel
theorem dX10_read_15 : decode cX10_read 15 = .ok (.aload_n 0, 1) := by decide +kernel
theorem dX10_read_16 : decode cX10_read 16 = .ok (.iconst 0, 1) := by decide +kernel
theorem dX10_read_17 : decode cX10_read 17 = .ok (.putfield 80, 3) := by decide +kernel
theorem dX10_read_20 : decode cX10_read 20 = .ok (.aload_n 0, 1) := by decide +kernel
theorem dX10_read_21 : decode cX10_read 21 = .ok (.getfield 25, 3) := by decide +kernel
theorem dX10_read_24 : decode cX10_read 24 = .ok (.aload_n 0, 1) := by decide +kernel
theorem dX10_read_25 : decode cX10_read 25 = .ok (.getfield 64, 3) := by decide +kernel
theorem dX10_read_28 : decode cX10_read 28 = .ok (.invokevirtual 91, 3) := by decide +kernel
theorem dX10_read_31 : decode cX10_read 31 = .ok (.istore_n 1, 1) := by decide +kernel
theorem dX10_read_32 : decode cX10_read 32 = .ok (.aload_n 0, 1) := by decide +kernel
theorem dX10_read_33 : decode cX10_read 33 = .ok (.aload_n 0, 1) := by decide +kernel
theorem dX10_read_34 : decode cX10_read 34 = .ok (.getfield 25, 3) := by decide +kernel
theorem dX10_read_37 : decode cX10_read 37 = .ok (.invokevirtual 95, 3) := by decide +kernel
theorem dX10_read_40 : decode cX10_read 40 = .ok (.putfield 67, 3) := by decide +kernel
theorem dX10_read_43 : decode cX10_read 43 = .ok (.iload_n 1, 1) := by decide +kernel
theorem dX10_read_44 : decode cX10_read 44 = .ok (.ifCond .ne 7, 3) := by decide +kernel
theorem dX10_read_47 : decode cX10_read 47 = .ok (.aload_n 0, 1) := by decide +kernel
theorem dX10_read_48 : decode cX10_read 48 = .ok (.invokevirtual 98, 3) := by decide +kernel
theorem dX10_read_51 : decode cX10_read 51 = .ok (.iload_n 1, 1) := by decide +kernel
theorem dX10_read_52 : decode cX10_read 52 = .ok (.ireturn, 1) := by decide +kernel
theorem dX10_place_0 : decode cX10_place 0 = .ok (.aload_n 0, 1) := by decide +kernel
theorem dX10_place_1 : decode cX10_place 1 = .ok (.getfield 67, 3) := by decide +kernel
theorem dX10_place_4 : decode cX10_place 4 = .ok (.ireturn, 1) := by decide +kernel
theorem dX10_isHouse_0 : decode cX10_isHouse 0 = .ok (.iload_n 1, 1) := by decide +kernel
theorem dX10_isHouse_1 : decode cX10_isHouse 1 = .ok (.ifCond .lt 18, 3) := by decide +kernel
theorem dX10_isHouse_4 : decode cX10_isHouse 4 = .ok (.iload_n 1, 1) := by decide +kernel
theorem dX10_isHouse_5 : decode cX10_isHouse 5 = .ok (.aload_n 0, 1) := by decide +kernel
theorem dX10_isHouse_6 : decode cX10_isHouse 6 = .ok (.getfield 60, 3) := by decide +kernel
theorem dX10_isHouse_9 : decode cX10_isHouse 9 = .ok (.getfield 272, 3) := by decide +kernel
theorem dX10_isHouse_12 : decode cX10_isHouse 12 = .ok (.if_icmp .ge 7, 3) := by decide +kernel
theorem dX10_isHouse_15 : decode cX10_isHouse 15 = .ok (.iconst 1, 1) := by decide +kernel
theorem dX10_isHouse_16 : decode cX10_isHouse 16 = .ok (.goto 4, 3) := by decide +kernel
theorem dX10_isHouse_19 : decode cX10_isHouse 19 = .ok (.iconst 0, 1) := by decide +kernel
theorem dX10_isHouse_20 : decode cX10_isHouse 20 = .ok (.ireturn, 1) := by decide +kernel
theorem dX10_worksIn_0 : decode cX10_worksIn 0 = .ok (.iconst 0, 1) := by decide +kernel
theorem dX10_worksIn_1 : decode cX10_worksIn 1 = .ok (.istore_n 2, 1) := by decide +kernel
theorem dX10_worksIn_2 : decode cX10_worksIn 2 = .ok (.iconst 0, 1) := by decide +kernel
theorem dX10_worksIn_3 : decode cX10_worksIn 3 = .ok (.istore_n 3, 1) := by decide +kernel
theorem dX10_worksIn_4 : decode cX10_worksIn 4 = .ok (.iload_n 3, 1) := by decide +kernel
theorem dX10_worksIn_5 : decode cX10_worksIn 5 = .ok (.aload_n 0, 1) := by decide +kernel
theorem dX10_worksIn_6 : decode cX10_worksIn 6 = .ok (.getfield 60, 3) := by decide +kernel
theorem dX10_worksIn_9 : decode cX10_worksIn 9 = .ok (.getfield 236, 3) := by decide +kernel
theorem dX10_worksIn_12 : decode cX10_worksIn 12 = .ok (.if_icmp .ge 27, 3) := by decide +kernel
theorem dX10_worksIn_15 : decode cX10_worksIn 15 = .ok (.aload_n 0, 1) := by decide +kernel
theorem dX10_worksIn_16 : decode cX10_worksIn 16 = .ok (.getfield 32, 3) := by decide +kernel
theorem dX10_worksIn_19 : decode cX10_worksIn 19 = .ok (.iload_n 3, 1) := by decide +kernel
theorem dX10_worksIn_20 : decode cX10_worksIn 20 = .ok (.iload_n 1, 1) := by decide +kernel
theorem dX10_worksIn_21 : decode cX10_worksIn 21 = .ok (.invokevirtual 352, 3) := by decide +kernel
theorem dX10_worksIn_24 : decode cX10_worksIn 24 = .ok (.ifCond .eq 9, 3) := by decide +kernel
theorem dX10_worksIn_27 : decode cX10_worksIn 27 = .ok (.iload_n 2, 1) := by decide +kernel
theorem dX10_worksIn_28 : decode cX10_worksIn 28 = .ok (.iconst 1, 1) := by decide +kernel
theorem dX10_worksIn_29 : decode cX10_worksIn 29 = .ok (.iload_n 3, 1) := by decide +kernel
theorem dX10_worksIn_30 : decode cX10_worksIn 30 = .ok (.ishl, 1) := by decide +kernel
theorem dX10_worksIn_31 : decode cX10_worksIn 31 = .ok (.ior, 1) := by decide +kernel
theorem dX10_worksIn_32 : decode cX10_worksIn 32 = .ok (.istore_n 2, 1) := by decide +kernel
theorem dX10_worksIn_33 : decode cX10_worksIn 33 = .ok (.iinc 3 1, 3) := by decide +kernel
theorem dX10_worksIn_36 : decode cX10_worksIn 36 = .ok (.goto (-32), 3) := by decide +kernel
theorem dX10_worksIn_39 : decode cX10_worksIn 39 = .ok (.iload_n 2, 1) := by decide +kernel
theorem dX10_worksIn_40 : decode cX10_worksIn 40 = .ok (.ireturn, 1) := by decide +kernel
theorem dX10_worksOwnedBy_0 : decode cX10_worksOwnedBy 0 = .ok (.iconst 0, 1) := by decide +kernel
theorem dX10_worksOwnedBy_1 : decode cX10_worksOwnedBy 1 = .ok (.istore_n 2, 1) := by decide +kernel
theorem dX10_worksOwnedBy_2 : decode cX10_worksOwnedBy 2 = .ok (.iconst 0, 1) := by decide +kernel
theorem dX10_worksOwnedBy_3 : decode cX10_worksOwnedBy 3 = .ok (.istore_n 3, 1) := by decide +kernel
theorem dX10_worksOwnedBy_4 : decode cX10_worksOwnedBy 4 = .ok (.iload_n 3, 1) := by decide +kernel
theorem dX10_worksOwnedBy_5 : decode cX10_worksOwnedBy 5 = .ok (.aload_n 0, 1) := by decide +kernel
theorem dX10_worksOwnedBy_6 : decode cX10_worksOwnedBy 6 = .ok (.getfield 60, 3) := by decide +kernel
theorem dX10_worksOwnedBy_9 : decode cX10_worksOwnedBy 9 = .ok (.getfield 236, 3) := by decide +kernel
theorem dX10_worksOwnedBy_12 : decode cX10_worksOwnedBy 12 = .ok (.if_icmp .ge 28, 3) := by decide +kernel
theorem dX10_worksOwnedBy_15 : decode cX10_worksOwnedBy 15 = .ok (.aload_n 0, 1) := by decide +kernel
theorem dX10_worksOwnedBy_16 : decode cX10_worksOwnedBy 16 = .ok (.getfield 60, 3) := by decide +kernel
theorem dX10_worksOwnedBy_19 : decode cX10_worksOwnedBy 19 = .ok (.getfield 127, 3) := by decide +kernel
theorem dX10_worksOwnedBy_22 : decode cX10_worksOwnedBy 22 = .ok (.iload_n 3, 1) := by decide +kernel
theorem dX10_worksOwnedBy_23 : decode cX10_worksOwnedBy 23 = .ok (.iaload, 1) := by decide +kernel
theorem dX10_worksOwnedBy_24 : decode cX10_worksOwnedBy 24 = .ok (.iload_n 1, 1) := by decide +kernel
theorem dX10_worksOwnedBy_25 : decode cX10_worksOwnedBy 25 = .ok (.if_icmp .ne 9, 3) := by decide +kernel
theorem dX10_worksOwnedBy_28 : decode cX10_worksOwnedBy 28 = .ok (.iload_n 2, 1) := by decide +kernel
theorem dX10_worksOwnedBy_29 : decode cX10_worksOwnedBy 29 = .ok (.iconst 1, 1) := by decide +kernel
theorem dX10_worksOwnedBy_30 : decode cX10_worksOwnedBy 30 = .ok (.iload_n 3, 1) := by decide +kernel
theorem dX10_worksOwnedBy_31 : decode cX10_worksOwnedBy 31 = .ok (.ishl, 1) := by decide +kernel
theorem dX10_worksOwnedBy_32 : decode cX10_worksOwnedBy 32 = .ok (.ior, 1) := by decide +kernel
theorem dX10_worksOwnedBy_33 : decode cX10_worksOwnedBy 33 = .ok (.istore_n 2, 1) := by decide +kernel
theorem dX10_worksOwnedBy_34 : decode cX10_worksOwnedBy 34 = .ok (.iinc 3 1, 3) := by decide +kernel
theorem dX10_worksOwnedBy_37 : decode cX10_worksOwnedBy 37 = .ok (.goto (-33), 3) := by decide +kernel
theorem dX10_worksOwnedBy_40 : decode cX10_worksOwnedBy 40 = .ok (.iload_n 2, 1) := by decide +kernel
theorem dX10_worksOwnedBy_41 : decode cX10_worksOwnedBy 41 = .ok (.ireturn, 1) := by decide +kernel
theorem dX10_lookToday_0 : decode cX10_lookToday 0 = .ok (.aload_n 0, 1) := by decide +kernel
theorem dX10_lookToday_1 : decode cX10_lookToday 1 = .ok (.getfield 76, 3) := by decide +kernel
theorem dX10_lookToday_4 : decode cX10_lookToday 4 = .ok (.aload_n 0, 1) := by decide +kernel
theorem dX10_lookToday_5 : decode cX10_lookToday 5 = .ok (.getfield 60, 3) := by decide +kernel
theorem dX10_lookToday_8 : decode cX10_lookToday 8 = .ok (.aload_n 0, 1) := by decide +kernel
theorem dX10_lookToday_9 : decode cX10_lookToday 9 = .ok (.getfield 32, 3) := by decide +kernel
theorem dX10_lookToday_12 : decode cX10_lookToday 12 = .ok (.aload_n 0, 1) := by decide +kernel
theorem dX10_lookToday_13 : decode cX10_lookToday 13 = .ok (.getfield 32, 3) := by decide +kernel
theorem dX10_lookToday_16 : decode cX10_lookToday 16 = .ok (.invokevirtual 189, 3) := by decide +kernel
theorem dX10_lookToday_19 : decode cX10_lookToday 19 = .ok (.invokevirtual 206, 3) := by decide +kernel
theorem dX10_lookToday_22 : decode cX10_lookToday 22 = .ok (.return_, 1) := by decide +kernel
theorem dX10_pleasureOf_0 : decode cX10_pleasureOf 0 = .ok (.aload_n 0, 1) := by decide +kernel
theorem dX10_pleasureOf_1 : decode cX10_pleasureOf 1 = .ok (.invokevirtual 151, 3) := by decide +kernel
theorem dX10_pleasureOf_4 : decode cX10_pleasureOf 4 = .ok (.iconst 0, 1) := by decide +kernel
theorem dX10_pleasureOf_5 : decode cX10_pleasureOf 5 = .ok (.istore_n 2, 1) := by decide +kernel
theorem dX10_pleasureOf_6 : decode cX10_pleasureOf 6 = .ok (.iconst 0, 1) := by decide +kernel
theorem dX10_pleasureOf_7 : decode cX10_pleasureOf 7 = .ok (.istore_n 3, 1) := by decide +kernel
theorem dX10_pleasureOf_8 : decode cX10_pleasureOf 8 = .ok (.iload_n 3, 1) := by decide +kernel
theorem dX10_pleasureOf_9 : decode cX10_pleasureOf 9 = .ok (.aload_n 0, 1) := by decide +kernel
theorem dX10_pleasureOf_10 : decode cX10_pleasureOf 10 = .ok (.getfield 60, 3) := by decide +kernel
theorem dX10_pleasureOf_13 : decode cX10_pleasureOf 13 = .ok (.getfield 236, 3) := by decide +kernel
theorem dX10_pleasureOf_16 : decode cX10_pleasureOf 16 = .ok (.if_icmp .ge 34, 3) := by decide +kernel
theorem dX10_pleasureOf_19 : decode cX10_pleasureOf 19 = .ok (.aload_n 0, 1) := by decide +kernel
theorem dX10_pleasureOf_20 : decode cX10_pleasureOf 20 = .ok (.getfield 32, 3) := by decide +kernel
theorem dX10_pleasureOf_23 : decode cX10_pleasureOf 23 = .ok (.iload_n 3, 1) := by decide +kernel
theorem dX10_pleasureOf_24 : decode cX10_pleasureOf 24 = .ok (.iload_n 1, 1) := by decide +kernel
theorem dX10_pleasureOf_25 : decode cX10_pleasureOf 25 = .ok (.invokevirtual 352, 3) := by decide +kernel
theorem dX10_pleasureOf_28 : decode cX10_pleasureOf 28 = .ok (.ifCond .eq 16, 3) := by decide +kernel
theorem dX10_pleasureOf_31 : decode cX10_pleasureOf 31 = .ok (.iload_n 2, 1) := by decide +kernel
theorem dX10_pleasureOf_32 : decode cX10_pleasureOf 32 = .ok (.aload_n 0, 1) := by decide +kernel
theorem dX10_pleasureOf_33 : decode cX10_pleasureOf 33 = .ok (.getfield 76, 3) := by decide +kernel
theorem dX10_pleasureOf_36 : decode cX10_pleasureOf 36 = .ok (.iload_n 1, 1) := by decide +kernel
theorem dX10_pleasureOf_37 : decode cX10_pleasureOf 37 = .ok (.iload_n 3, 1) := by decide +kernel
theorem dX10_pleasureOf_38 : decode cX10_pleasureOf 38 = .ok (.iconst (-1), 1) := by decide +kernel
theorem dX10_pleasureOf_39 : decode cX10_pleasureOf 39 = .ok (.invokevirtual 165, 3) := by decide +kernel
theorem dX10_pleasureOf_42 : decode cX10_pleasureOf 42 = .ok (.iadd, 1) := by decide +kernel
theorem dX10_pleasureOf_43 : decode cX10_pleasureOf 43 = .ok (.istore_n 2, 1) := by decide +kernel
theorem dX10_pleasureOf_44 : decode cX10_pleasureOf 44 = .ok (.iinc 3 1, 3) := by decide +kernel
theorem dX10_pleasureOf_47 : decode cX10_pleasureOf 47 = .ok (.goto (-39), 3) := by decide +kernel
theorem dX10_pleasureOf_50 : decode cX10_pleasureOf 50 = .ok (.iload_n 2, 1) := by decide +kernel
theorem dX10_pleasureOf_51 : decode cX10_pleasureOf 51 = .ok (.ireturn, 1) := by decide +kernel
theorem dX10_house_0 : decode cX10_house 0 = .ok (.aload_n 0, 1) := by decide +kernel
theorem dX10_house_1 : decode cX10_house 1 = .ok (.iload_n 1, 1) := by decide +kernel
theorem dX10_house_2 : decode cX10_house 2 = .ok (.invokevirtual 101, 3) := by decide +kernel
theorem dX10_house_5 : decode cX10_house 5 = .ok (.ifCond .ne 5, 3) := by decide +kernel
theorem dX10_house_8 : decode cX10_house 8 = .ok (.iconst (-1), 1) := by decide +kernel
theorem dX10_house_9 : decode cX10_house 9 = .ok (.ireturn, 1) := by decide +kernel
theorem dX10_house_10 : decode cX10_house 10 = .ok (.iload_n 2, 1) := by decide +kernel
theorem dX10_house_11 : decode cX10_house 11 = .ok (.tableswitch 71 0 4 #[33, 43, 53, 59, 65], 33) := by decide +kernel
theorem dX10_house_44 : decode cX10_house 44 = .ok (.aload_n 0, 1) := by decide +kernel
theorem dX10_house_45 : decode cX10_house 45 = .ok (.getfield 60, 3) := by decide +kernel
theorem dX10_house_48 : decode cX10_house 48 = .ok (.getfield 105, 3) := by decide +kernel
theorem dX10_house_51 : decode cX10_house 51 = .ok (.iload_n 1, 1) := by decide +kernel
theorem dX10_house_52 : decode cX10_house 52 = .ok (.iaload, 1) := by decide +kernel
theorem dX10_house_53 : decode cX10_house 53 = .ok (.ireturn, 1) := by decide +kernel
theorem dX10_house_54 : decode cX10_house 54 = .ok (.aload_n 0, 1) := by decide +kernel
theorem dX10_house_55 : decode cX10_house 55 = .ok (.getfield 60, 3) := by decide +kernel
theorem dX10_house_58 : decode cX10_house 58 = .ok (.getfield 108, 3) := by decide +kernel
theorem dX10_house_61 : decode cX10_house 61 = .ok (.iload_n 1, 1) := by decide +kernel
theorem dX10_house_62 : decode cX10_house 62 = .ok (.iaload, 1) := by decide +kernel
theorem dX10_house_63 : decode cX10_house 63 = .ok (.ireturn, 1) := by decide +kernel
theorem dX10_house_64 : decode cX10_house 64 = .ok (.aload_n 0, 1) := by decide +kernel
theorem dX10_house_65 : decode cX10_house 65 = .ok (.iload_n 1, 1) := by decide +kernel
theorem dX10_house_66 : decode cX10_house 66 = .ok (.invokevirtual 111, 3) := by decide +kernel
theorem dX10_house_69 : decode cX10_house 69 = .ok (.ireturn, 1) := by decide +kernel
theorem dX10_house_70 : decode cX10_house 70 = .ok (.aload_n 0, 1) := by decide +kernel
theorem dX10_house_71 : decode cX10_house 71 = .ok (.iload_n 1, 1) := by decide +kernel
theorem dX10_house_72 : decode cX10_house 72 = .ok (.invokevirtual 115, 3) := by decide +kernel
theorem dX10_house_75 : decode cX10_house 75 = .ok (.ireturn, 1) := by decide +kernel
theorem dX10_house_76 : decode cX10_house 76 = .ok (.aload_n 0, 1) := by decide +kernel
theorem dX10_house_77 : decode cX10_house 77 = .ok (.iload_n 1, 1) := by decide +kernel
theorem dX10_house_78 : decode cX10_house 78 = .ok (.invokevirtual 118, 3) := by decide +kernel
theorem dX10_house_81 : decode cX10_house 81 = .ok (.ireturn, 1) := by decide +kernel
theorem dX10_house_82 : decode cX10_house 82 = .ok (.iconst (-1), 1) := by decide +kernel
theorem dX10_house_83 : decode cX10_house 83 = .ok (.ireturn, 1) := by decide +kernel
theorem dX10_isWork_0 : decode cX10_isWork 0 = .ok (.iload_n 1, 1) := by decide +kernel
theorem dX10_isWork_1 : decode cX10_isWork 1 = .ok (.ifCond .lt 18, 3) := by decide +kernel
theorem dX10_isWork_4 : decode cX10_isWork 4 = .ok (.iload_n 1, 1) := by decide +kernel
theorem dX10_isWork_5 : decode cX10_isWork 5 = .ok (.aload_n 0, 1) := by decide +kernel
theorem dX10_isWork_6 : decode cX10_isWork 6 = .ok (.getfield 60, 3) := by decide +kernel
theorem dX10_isWork_9 : decode cX10_isWork 9 = .ok (.getfield 236, 3) := by decide +kernel
theorem dX10_isWork_12 : decode cX10_isWork 12 = .ok (.if_icmp .ge 7, 3) := by decide +kernel
theorem dX10_isWork_15 : decode cX10_isWork 15 = .ok (.iconst 1, 1) := by decide +kernel
theorem dX10_isWork_16 : decode cX10_isWork 16 = .ok (.goto 4, 3) := by decide +kernel
theorem dX10_isWork_19 : decode cX10_isWork 19 = .ok (.iconst 0, 1) := by decide +kernel
theorem dX10_isWork_20 : decode cX10_isWork 20 = .ok (.ireturn, 1) := by decide +kernel
theorem dX10_standing_0 : decode cX10_standing 0 = .ok (.iconst 1, 1) := by decide +kernel
theorem dX10_standing_1 : decode cX10_standing 1 = .ok (.aload_n 0, 1) := by decide +kernel
theorem dX10_standing_2 : decode cX10_standing 2 = .ok (.getfield 60, 3) := by decide +kernel
theorem dX10_standing_5 : decode cX10_standing 5 = .ok (.getfield 317, 3) := by decide +kernel
theorem dX10_standing_8 : decode cX10_standing 8 = .ok (.ishl, 1) := by decide +kernel
theorem dX10_standing_9 : decode cX10_standing 9 = .ok (.iconst 1, 1) := by decide +kernel
theorem dX10_standing_10 : decode cX10_standing 10 = .ok (.isub, 1) := by decide +kernel
theorem dX10_standing_11 : decode cX10_standing 11 = .ok (.aload_n 0, 1) := by decide +kernel
theorem dX10_standing_12 : decode cX10_standing 12 = .ok (.getfield 32, 3) := by decide +kernel
theorem dX10_standing_15 : decode cX10_standing 15 = .ok (.getfield 142, 3) := by decide +kernel
theorem dX10_standing_18 : decode cX10_standing 18 = .ok (.iconst 3, 1) := by decide +kernel
theorem dX10_standing_19 : decode cX10_standing 19 = .ok (.iaload, 1) := by decide +kernel
theorem dX10_standing_20 : decode cX10_standing 20 = .ok (.iconst (-1), 1) := by decide +kernel
theorem dX10_standing_21 : decode cX10_standing 21 = .ok (.ixor, 1) := by decide +kernel
theorem dX10_standing_22 : decode cX10_standing 22 = .ok (.iand, 1) := by decide +kernel
theorem dX10_standing_23 : decode cX10_standing 23 = .ok (.ireturn, 1) := by decide +kernel
theorem dX10_work_0 : decode cX10_work 0 = .ok (.aload_n 0, 1) := by decide +kernel
theorem dX10_work_1 : decode cX10_work 1 = .ok (.iload_n 1, 1) := by decide +kernel
theorem dX10_work_2 : decode cX10_work 2 = .ok (.invokevirtual 121, 3) := by decide +kernel
theorem dX10_work_5 : decode cX10_work 5 = .ok (.ifCond .ne 5, 3) := by decide +kernel
theorem dX10_work_8 : decode cX10_work 8 = .ok (.iconst (-1), 1) := by decide +kernel
theorem dX10_work_9 : decode cX10_work 9 = .ok (.ireturn, 1) := by decide +kernel
theorem dX10_work_10 : decode cX10_work 10 = .ok (.aload_n 0, 1) := by decide +kernel
theorem dX10_work_11 : decode cX10_work 11 = .ok (.getfield 32, 3) := by decide +kernel
theorem dX10_work_14 : decode cX10_work 14 = .ok (.iload_n 1, 1) := by decide +kernel
theorem dX10_work_15 : decode cX10_work 15 = .ok (.invokevirtual 124, 3) := by decide +kernel
theorem dX10_work_18 : decode cX10_work 18 = .ok (.istore_n 3, 1) := by decide +kernel
theorem dX10_work_19 : decode cX10_work 19 = .ok (.iload_n 2, 1) := by decide +kernel
theorem dX10_work_20 : decode cX10_work 20 = .ok (.tableswitch 159 0 7 #[48, 58, 76, 86, 96, 114, 132, 145], 48) := by decide +kernel
theorem dX10_work_68 : decode cX10_work 68 = .ok (.aload_n 0, 1) := by decide +kernel
theorem dX10_work_69 : decode cX10_work 69 = .ok (.getfield 60, 3) := by decide +kernel
theorem dX10_work_72 : decode cX10_work 72 = .ok (.getfield 127, 3) := by decide +kernel
theorem dX10_work_75 : decode cX10_work 75 = .ok (.iload_n 1, 1) := by decide +kernel
theorem dX10_work_76 : decode cX10_work 76 = .ok (.iaload, 1) := by decide +kernel
theorem dX10_work_77 : decode cX10_work 77 = .ok (.ireturn, 1) := by decide +kernel
theorem dX10_work_78 : decode cX10_work 78 = .ok (.iload_n 3, 1) := by decide +kernel
theorem dX10_work_79 : decode cX10_work 79 = .ok (.ifCond .eq 8, 3) := by decide +kernel
theorem dX10_work_82 : decode cX10_work 82 = .ok (.bipush (-2), 2) := by decide +kernel
theorem dX10_work_84 : decode cX10_work 84 = .ok (.goto 11, 3) := by decide +kernel
theorem dX10_work_87 : decode cX10_work 87 = .ok (.aload_n 0, 1) := by decide +kernel
theorem dX10_work_88 : decode cX10_work 88 = .ok (.getfield 32, 3) := by decide +kernel
theorem dX10_work_91 : decode cX10_work 91 = .ok (.iload_n 1, 1) := by decide +kernel
theorem dX10_work_92 : decode cX10_work 92 = .ok (.invokevirtual 130, 3) := by decide +kernel
theorem dX10_work_95 : decode cX10_work 95 = .ok (.ireturn, 1) := by decide +kernel
theorem dX10_work_96 : decode cX10_work 96 = .ok (.aload_n 0, 1) := by decide +kernel
theorem dX10_work_97 : decode cX10_work 97 = .ok (.getfield 60, 3) := by decide +kernel
theorem dX10_work_100 : decode cX10_work 100 = .ok (.getfield 133, 3) := by decide +kernel
theorem dX10_work_103 : decode cX10_work 103 = .ok (.iload_n 1, 1) := by decide +kernel
theorem dX10_work_104 : decode cX10_work 104 = .ok (.iaload, 1) := by decide +kernel
theorem dX10_work_105 : decode cX10_work 105 = .ok (.ireturn, 1) := by decide +kernel
theorem dX10_work_106 : decode cX10_work 106 = .ok (.aload_n 0, 1) := by decide +kernel
theorem dX10_work_107 : decode cX10_work 107 = .ok (.getfield 60, 3) := by decide +kernel
theorem dX10_work_110 : decode cX10_work 110 = .ok (.getfield 136, 3) := by decide +kernel
theorem dX10_work_113 : decode cX10_work 113 = .ok (.iload_n 1, 1) := by decide +kernel
theorem dX10_work_114 : decode cX10_work 114 = .ok (.iaload, 1) := by decide +kernel
theorem dX10_work_115 : decode cX10_work 115 = .ok (.ireturn, 1) := by decide +kernel
theorem dX10_work_116 : decode cX10_work 116 = .ok (.iload_n 3, 1) := by decide +kernel
theorem dX10_work_117 : decode cX10_work 117 = .ok (.ifCond .eq 14, 3) := by decide +kernel
theorem dX10_work_120 : decode cX10_work 120 = .ok (.aload_n 0, 1) := by decide +kernel
theorem dX10_work_121 : decode cX10_work 121 = .ok (.getfield 32, 3) := by decide +kernel
theorem dX10_work_124 : decode cX10_work 124 = .ok (.iload_n 1, 1) := by decide +kernel
theorem dX10_work_125 : decode cX10_work 125 = .ok (.invokevirtual 130, 3) := by decide +kernel
theorem dX10_work_128 : decode cX10_work 128 = .ok (.goto 5, 3) := by decide +kernel
theorem dX10_work_131 : decode cX10_work 131 = .ok (.bipush (-2), 2) := by decide +kernel
theorem dX10_work_133 : decode cX10_work 133 = .ok (.ireturn, 1) := by decide +kernel
theorem dX10_work_134 : decode cX10_work 134 = .ok (.iload_n 3, 1) := by decide +kernel
theorem dX10_work_135 : decode cX10_work 135 = .ok (.ifCond .eq 14, 3) := by decide +kernel
theorem dX10_work_138 : decode cX10_work 138 = .ok (.aload_n 0, 1) := by decide +kernel
theorem dX10_work_139 : decode cX10_work 139 = .ok (.getfield 32, 3) := by decide +kernel
theorem dX10_work_142 : decode cX10_work 142 = .ok (.iload_n 1, 1) := by decide +kernel
theorem dX10_work_143 : decode cX10_work 143 = .ok (.invokevirtual 139, 3) := by decide +kernel
theorem dX10_work_146 : decode cX10_work 146 = .ok (.goto 5, 3) := by decide +kernel
theorem dX10_work_149 : decode cX10_work 149 = .ok (.bipush (-2), 2) := by decide +kernel
theorem dX10_work_151 : decode cX10_work 151 = .ok (.ireturn, 1) := by decide +kernel
theorem dX10_work_152 : decode cX10_work 152 = .ok (.aload_n 0, 1) := by decide +kernel
theorem dX10_work_153 : decode cX10_work 153 = .ok (.getfield 32, 3) := by decide +kernel
theorem dX10_work_156 : decode cX10_work 156 = .ok (.getfield 142, 3) := by decide +kernel
theorem dX10_work_159 : decode cX10_work 159 = .ok (.bipush 16, 2) := by decide +kernel
theorem dX10_work_161 : decode cX10_work 161 = .ok (.iload_n 1, 1) := by decide +kernel
theorem dX10_work_162 : decode cX10_work 162 = .ok (.iadd, 1) := by decide +kernel
theorem dX10_work_163 : decode cX10_work 163 = .ok (.iaload, 1) := by decide +kernel
theorem dX10_work_164 : decode cX10_work 164 = .ok (.ireturn, 1) := by decide +kernel
theorem dX10_work_165 : decode cX10_work 165 = .ok (.aload_n 0, 1) := by decide +kernel
theorem dX10_work_166 : decode cX10_work 166 = .ok (.getfield 60, 3) := by decide +kernel
theorem dX10_work_169 : decode cX10_work 169 = .ok (.iload_n 1, 1) := by decide +kernel
theorem dX10_work_170 : decode cX10_work 170 = .ok (.invokevirtual 145, 3) := by decide +kernel
theorem dX10_work_173 : decode cX10_work 173 = .ok (.aload_n 0, 1) := by decide +kernel
theorem dX10_work_174 : decode cX10_work 174 = .ok (.invokevirtual 148, 3) := by decide +kernel
theorem dX10_work_177 : decode cX10_work 177 = .ok (.iand, 1) := by decide +kernel
theorem dX10_work_178 : decode cX10_work 178 = .ok (.ireturn, 1) := by decide +kernel
theorem dX10_work_179 : decode cX10_work 179 = .ok (.iconst (-1), 1) := by decide +kernel
theorem dX10_work_180 : decode cX10_work 180 = .ok (.ireturn, 1) := by decide +kernel
theorem dX10_may_0 : decode cX10_may 0 = .ok (.aload_n 0, 1) := by decide +kernel
theorem dX10_may_1 : decode cX10_may 1 = .ok (.iload_n 1, 1) := by decide +kernel
theorem dX10_may_2 : decode cX10_may 2 = .ok (.invokevirtual 121, 3) := by decide +kernel
theorem dX10_may_5 : decode cX10_may 5 = .ok (.ifCond .eq 11, 3) := by decide +kernel
theorem dX10_may_8 : decode cX10_may 8 = .ok (.aload_n 0, 1) := by decide +kernel
theorem dX10_may_9 : decode cX10_may 9 = .ok (.iload_n 2, 1) := by decide +kernel
theorem dX10_may_10 : decode cX10_may 10 = .ok (.invokevirtual 101, 3) := by decide +kernel
theorem dX10_may_13 : decode cX10_may 13 = .ok (.ifCond .ne 5, 3) := by decide +kernel
theorem dX10_may_16 : decode cX10_may 16 = .ok (.iconst (-1), 1) := by decide +kernel
theorem dX10_may_17 : decode cX10_may 17 = .ok (.ireturn, 1) := by decide +kernel
theorem dX10_may_18 : decode cX10_may 18 = .ok (.aload_n 0, 1) := by decide +kernel
theorem dX10_may_19 : decode cX10_may 19 = .ok (.invokevirtual 151, 3) := by decide +kernel
theorem dX10_may_22 : decode cX10_may 22 = .ok (.aload_n 0, 1) := by decide +kernel
theorem dX10_may_23 : decode cX10_may 23 = .ok (.getfield 76, 3) := by decide +kernel
theorem dX10_may_26 : decode cX10_may 26 = .ok (.iload_n 1, 1) := by decide +kernel
theorem dX10_may_27 : decode cX10_may 27 = .ok (.iload_n 2, 1) := by decide +kernel
theorem dX10_may_28 : decode cX10_may 28 = .ok (.aload_n 0, 1) := by decide +kernel
theorem dX10_may_29 : decode cX10_may 29 = .ok (.invokevirtual 148, 3) := by decide +kernel
theorem dX10_may_32 : decode cX10_may 32 = .ok (.invokevirtual 154, 3) := by decide +kernel
theorem dX10_may_35 : decode cX10_may 35 = .ok (.ifCond .eq 7, 3) := by decide +kernel
theorem dX10_may_38 : decode cX10_may 38 = .ok (.iconst 1, 1) := by decide +kernel
theorem dX10_may_39 : decode cX10_may 39 = .ok (.goto 4, 3) := by decide +kernel
theorem dX10_may_42 : decode cX10_may 42 = .ok (.iconst 0, 1) := by decide +kernel
theorem dX10_may_43 : decode cX10_may 43 = .ok (.ireturn, 1) := by decide +kernel
theorem dX10_isTerm_0 : decode cX10_isTerm 0 = .ok (.iload_n 1, 1) := by decide +kernel
theorem dX10_isTerm_1 : decode cX10_isTerm 1 = .ok (.ifCond .lt 18, 3) := by decide +kernel
theorem dX10_isTerm_4 : decode cX10_isTerm 4 = .ok (.iload_n 1, 1) := by decide +kernel
theorem dX10_isTerm_5 : decode cX10_isTerm 5 = .ok (.aload_n 0, 1) := by decide +kernel
theorem dX10_isTerm_6 : decode cX10_isTerm 6 = .ok (.getfield 60, 3) := by decide +kernel
theorem dX10_isTerm_9 : decode cX10_isTerm 9 = .ok (.getfield 317, 3) := by decide +kernel
theorem dX10_isTerm_12 : decode cX10_isTerm 12 = .ok (.if_icmp .ge 7, 3) := by decide +kernel
theorem dX10_isTerm_15 : decode cX10_isTerm 15 = .ok (.iconst 1, 1) := by decide +kernel
theorem dX10_isTerm_16 : decode cX10_isTerm 16 = .ok (.goto 4, 3) := by decide +kernel
theorem dX10_isTerm_19 : decode cX10_isTerm 19 = .ok (.iconst 0, 1) := by decide +kernel
theorem dX10_isTerm_20 : decode cX10_isTerm 20 = .ok (.ireturn, 1) := by decide +kernel
theorem dX10_holds_0 : decode cX10_holds 0 = .ok (.aload_n 0, 1) := by decide +kernel
theorem dX10_holds_1 : decode cX10_holds 1 = .ok (.iload_n 1, 1) := by decide +kernel
theorem dX10_holds_2 : decode cX10_holds 2 = .ok (.invokevirtual 158, 3) := by decide +kernel
theorem dX10_holds_5 : decode cX10_holds 5 = .ok (.ifCond .eq 11, 3) := by decide +kernel
theorem dX10_holds_8 : decode cX10_holds 8 = .ok (.aload_n 0, 1) := by decide +kernel
theorem dX10_holds_9 : decode cX10_holds 9 = .ok (.iload_n 2, 1) := by decide +kernel
theorem dX10_holds_10 : decode cX10_holds 10 = .ok (.invokevirtual 101, 3) := by decide +kernel
theorem dX10_holds_13 : decode cX10_holds 13 = .ok (.ifCond .ne 5, 3) := by decide +kernel
theorem dX10_holds_16 : decode cX10_holds 16 = .ok (.iconst (-1), 1) := by decide +kernel
theorem dX10_holds_17 : decode cX10_holds 17 = .ok (.ireturn, 1) := by decide +kernel
theorem dX10_holds_18 : decode cX10_holds 18 = .ok (.aload_n 0, 1) := by decide +kernel
theorem dX10_holds_19 : decode cX10_holds 19 = .ok (.invokevirtual 151, 3) := by decide +kernel
theorem dX10_holds_22 : decode cX10_holds 22 = .ok (.aload_n 0, 1) := by decide +kernel
theorem dX10_holds_23 : decode cX10_holds 23 = .ok (.getfield 76, 3) := by decide +kernel
theorem dX10_holds_26 : decode cX10_holds 26 = .ok (.iload_n 1, 1) := by decide +kernel
theorem dX10_holds_27 : decode cX10_holds 27 = .ok (.iload_n 2, 1) := by decide +kernel
theorem dX10_holds_28 : decode cX10_holds 28 = .ok (.invokevirtual 161, 3) := by decide +kernel
theorem dX10_holds_31 : decode cX10_holds 31 = .ok (.ifCond .eq 7, 3) := by decide +kernel
theorem dX10_holds_34 : decode cX10_holds 34 = .ok (.iconst 1, 1) := by decide +kernel
theorem dX10_holds_35 : decode cX10_holds 35 = .ok (.goto 4, 3) := by decide +kernel
theorem dX10_holds_38 : decode cX10_holds 38 = .ok (.iconst 0, 1) := by decide +kernel
theorem dX10_holds_39 : decode cX10_holds 39 = .ok (.ireturn, 1) := by decide +kernel
theorem dX10_likes_0 : decode cX10_likes 0 = .ok (.aload_n 0, 1) := by decide +kernel
theorem dX10_likes_1 : decode cX10_likes 1 = .ok (.iload_n 2, 1) := by decide +kernel
theorem dX10_likes_2 : decode cX10_likes 2 = .ok (.invokevirtual 121, 3) := by decide +kernel
theorem dX10_likes_5 : decode cX10_likes 5 = .ok (.ifCond .eq 11, 3) := by decide +kernel
theorem dX10_likes_8 : decode cX10_likes 8 = .ok (.aload_n 0, 1) := by decide +kernel
theorem dX10_likes_9 : decode cX10_likes 9 = .ok (.iload_n 1, 1) := by decide +kernel
theorem dX10_likes_10 : decode cX10_likes 10 = .ok (.invokevirtual 101, 3) := by decide +kernel
theorem dX10_likes_13 : decode cX10_likes 13 = .ok (.ifCond .ne 5, 3) := by decide +kernel
theorem dX10_likes_16 : decode cX10_likes 16 = .ok (.iconst (-1), 1) := by decide +kernel
theorem dX10_likes_17 : decode cX10_likes 17 = .ok (.ireturn, 1) := by decide +kernel
theorem dX10_likes_18 : decode cX10_likes 18 = .ok (.aload_n 0, 1) := by decide +kernel
theorem dX10_likes_19 : decode cX10_likes 19 = .ok (.invokevirtual 151, 3) := by decide +kernel
theorem dX10_likes_22 : decode cX10_likes 22 = .ok (.aload_n 0, 1) := by decide +kernel
theorem dX10_likes_23 : decode cX10_likes 23 = .ok (.getfield 76, 3) := by decide +kernel
theorem dX10_likes_26 : decode cX10_likes 26 = .ok (.iload_n 1, 1) := by decide +kernel
theorem dX10_likes_27 : decode cX10_likes 27 = .ok (.iload_n 2, 1) := by decide +kernel
theorem dX10_likes_28 : decode cX10_likes 28 = .ok (.iconst (-1), 1) := by decide +kernel
theorem dX10_likes_29 : decode cX10_likes 29 = .ok (.invokevirtual 165, 3) := by decide +kernel
theorem dX10_likes_32 : decode cX10_likes 32 = .ok (.ireturn, 1) := by decide +kernel
theorem dX10_trip_0 : decode cX10_trip 0 = .ok (.aload_n 0, 1) := by decide +kernel
theorem dX10_trip_1 : decode cX10_trip 1 = .ok (.iload_n 1, 1) := by decide +kernel
theorem dX10_trip_2 : decode cX10_trip 2 = .ok (.invokevirtual 121, 3) := by decide +kernel
theorem dX10_trip_5 : decode cX10_trip 5 = .ok (.ifCond .eq 11, 3) := by decide +kernel
theorem dX10_trip_8 : decode cX10_trip 8 = .ok (.aload_n 0, 1) := by decide +kernel
theorem dX10_trip_9 : decode cX10_trip 9 = .ok (.iload_n 2, 1) := by decide +kernel
theorem dX10_trip_10 : decode cX10_trip 10 = .ok (.invokevirtual 101, 3) := by decide +kernel
theorem dX10_trip_13 : decode cX10_trip 13 = .ok (.ifCond .ne 5, 3) := by decide +kernel
theorem dX10_trip_16 : decode cX10_trip 16 = .ok (.iconst (-1), 1) := by decide +kernel
theorem dX10_trip_17 : decode cX10_trip 17 = .ok (.ireturn, 1) := by decide +kernel
theorem dX10_trip_18 : decode cX10_trip 18 = .ok (.aload_n 0, 1) := by decide +kernel
theorem dX10_trip_19 : decode cX10_trip 19 = .ok (.invokevirtual 151, 3) := by decide +kernel
theorem dX10_trip_22 : decode cX10_trip 22 = .ok (.aload_n 0, 1) := by decide +kernel
theorem dX10_trip_23 : decode cX10_trip 23 = .ok (.getfield 76, 3) := by decide +kernel
theorem dX10_trip_26 : decode cX10_trip 26 = .ok (.iload_n 1, 1) := by decide +kernel
theorem dX10_trip_27 : decode cX10_trip 27 = .ok (.iload_n 2, 1) := by decide +kernel
theorem dX10_trip_28 : decode cX10_trip 28 = .ok (.invokevirtual 169, 3) := by decide +kernel
theorem dX10_trip_31 : decode cX10_trip 31 = .ok (.ireturn, 1) := by decide +kernel
theorem dX10_canBeSent_0 : decode cX10_canBeSent 0 = .ok (.aload_n 0, 1) := by decide +kernel
theorem dX10_canBeSent_1 : decode cX10_canBeSent 1 = .ok (.getfield 32, 3) := by decide +kernel
theorem dX10_canBeSent_4 : decode cX10_canBeSent 4 = .ok (.iload_n 1, 1) := by decide +kernel
theorem dX10_canBeSent_5 : decode cX10_canBeSent 5 = .ok (.invokevirtual 124, 3) := by decide +kernel
theorem dX10_canBeSent_8 : decode cX10_canBeSent 8 = .ok (.ifCond .ne 19, 3) := by decide +kernel
theorem dX10_canBeSent_11 : decode cX10_canBeSent 11 = .ok (.aload_n 0, 1) := by decide +kernel
theorem dX10_canBeSent_12 : decode cX10_canBeSent 12 = .ok (.getfield 32, 3) := by decide +kernel
theorem dX10_canBeSent_15 : decode cX10_canBeSent 15 = .ok (.iload_n 1, 1) := by decide +kernel
theorem dX10_canBeSent_16 : decode cX10_canBeSent 16 = .ok (.invokevirtual 130, 3) := by decide +kernel
theorem dX10_canBeSent_19 : decode cX10_canBeSent 19 = .ok (.iload_n 2, 1) := by decide +kernel
theorem dX10_canBeSent_20 : decode cX10_canBeSent 20 = .ok (.if_icmp .eq 7, 3) := by decide +kernel
theorem dX10_canBeSent_23 : decode cX10_canBeSent 23 = .ok (.iconst 1, 1) := by decide +kernel
theorem dX10_canBeSent_24 : decode cX10_canBeSent 24 = .ok (.goto 4, 3) := by decide +kernel
theorem dX10_canBeSent_27 : decode cX10_canBeSent 27 = .ok (.iconst 0, 1) := by decide +kernel
theorem dX10_canBeSent_28 : decode cX10_canBeSent 28 = .ok (.ireturn, 1) := by decide +kernel
theorem dX10_stir_0 : decode cX10_stir 0 = .ok (.iload_n 0, 1) := by decide +kernel
theorem dX10_stir_1 : decode cX10_stir 1 = .ok (.iload_n 1, 1) := by decide +kernel
theorem dX10_stir_2 : decode cX10_stir 2 = .ok (.ixor, 1) := by decide +kernel
theorem dX10_stir_3 : decode cX10_stir 3 = .ok (.ldc_w 351, 3) := by decide +kernel
theorem dX10_stir_6 : decode cX10_stir 6 = .ok (.imul, 1) := by decide +kernel
theorem dX10_stir_7 : decode cX10_stir 7 = .ok (.sipush 12345, 3) := by decide +kernel
theorem dX10_stir_10 : decode cX10_stir 10 = .ok (.iadd, 1) := by decide +kernel
theorem dX10_stir_11 : decode cX10_stir 11 = .ok (.istore_n 2, 1) := by decide +kernel
theorem dX10_stir_12 : decode cX10_stir 12 = .ok (.iload_n 2, 1) := by decide +kernel
theorem dX10_stir_13 : decode cX10_stir 13 = .ok (.iload_n 2, 1) := by decide +kernel
theorem dX10_stir_14 : decode cX10_stir 14 = .ok (.bipush 15, 2) := by decide +kernel
theorem dX10_stir_16 : decode cX10_stir 16 = .ok (.iushr, 1) := by decide +kernel
theorem dX10_stir_17 : decode cX10_stir 17 = .ok (.ixor, 1) := by decide +kernel
theorem dX10_stir_18 : decode cX10_stir 18 = .ok (.ireturn, 1) := by decide +kernel
theorem dX10_lotOf100_0 : decode cX10_lotOf100 0 = .ok (.iload_n 0, 1) := by decide +kernel
theorem dX10_lotOf100_1 : decode cX10_lotOf100 1 = .ok (.bipush 83, 2) := by decide +kernel
theorem dX10_lotOf100_3 : decode cX10_lotOf100 3 = .ok (.invokestatic 348, 3) := by decide +kernel
theorem dX10_lotOf100_6 : decode cX10_lotOf100 6 = .ok (.iload_n 1, 1) := by decide +kernel
theorem dX10_lotOf100_7 : decode cX10_lotOf100 7 = .ok (.invokestatic 348, 3) := by decide +kernel
theorem dX10_lotOf100_10 : decode cX10_lotOf100 10 = .ok (.istore_n 2, 1) := by decide +kernel
theorem dX10_lotOf100_11 : decode cX10_lotOf100 11 = .ok (.iload_n 2, 1) := by decide +kernel
theorem dX10_lotOf100_12 : decode cX10_lotOf100 12 = .ok (.iconst 1, 1) := by decide +kernel
theorem dX10_lotOf100_13 : decode cX10_lotOf100 13 = .ok (.iushr, 1) := by decide +kernel
theorem dX10_lotOf100_14 : decode cX10_lotOf100 14 = .ok (.bipush 100, 2) := by decide +kernel
theorem dX10_lotOf100_16 : decode cX10_lotOf100 16 = .ok (.irem, 1) := by decide +kernel
theorem dX10_lotOf100_17 : decode cX10_lotOf100 17 = .ok (.ireturn, 1) := by decide +kernel
theorem dX10_isLate_0 : decode cX10_isLate 0 = .ok (.iload_n 1, 1) := by decide +kernel
theorem dX10_isLate_1 : decode cX10_isLate 1 = .ok (.bipush 8, 2) := by decide +kernel
theorem dX10_isLate_3 : decode cX10_isLate 3 = .ok (.aload_n 0, 1) := by decide +kernel
theorem dX10_isLate_4 : decode cX10_isLate 4 = .ok (.getfield 32, 3) := by decide +kernel
theorem dX10_isLate_7 : decode cX10_isLate 7 = .ok (.invokevirtual 320, 3) := by decide +kernel
theorem dX10_isLate_10 : decode cX10_isLate 10 = .ok (.imul, 1) := by decide +kernel
theorem dX10_isLate_11 : decode cX10_isLate 11 = .ok (.invokestatic 342, 3) := by decide +kernel
theorem dX10_isLate_14 : decode cX10_isLate 14 = .ok (.aload_n 0, 1) := by decide +kernel
theorem dX10_isLate_15 : decode cX10_isLate 15 = .ok (.getfield 60, 3) := by decide +kernel
theorem dX10_isLate_18 : decode cX10_isLate 18 = .ok (.getfield 345, 3) := by decide +kernel
theorem dX10_isLate_21 : decode cX10_isLate 21 = .ok (.if_icmp .ge 7, 3) := by decide +kernel
theorem dX10_isLate_24 : decode cX10_isLate 24 = .ok (.iconst 1, 1) := by decide +kernel
theorem dX10_isLate_25 : decode cX10_isLate 25 = .ok (.goto 4, 3) := by decide +kernel
theorem dX10_isLate_28 : decode cX10_isLate 28 = .ok (.iconst 0, 1) := by decide +kernel
theorem dX10_isLate_29 : decode cX10_isLate 29 = .ok (.ireturn, 1) := by decide +kernel
theorem dX10_beforeChange_0 : decode cX10_beforeChange 0 = .ok (.aload_n 0, 1) := by decide +kernel
theorem dX10_beforeChange_1 : decode cX10_beforeChange 1 = .ok (.getfield 39, 3) := by decide +kernel
theorem dX10_beforeChange_4 : decode cX10_beforeChange 4 = .ok (.aload_n 0, 1) := by decide +kernel
theorem dX10_beforeChange_5 : decode cX10_beforeChange 5 = .ok (.getfield 32, 3) := by decide +kernel
theorem dX10_beforeChange_8 : decode cX10_beforeChange 8 = .ok (.getfield 142, 3) := by decide +kernel
theorem dX10_beforeChange_11 : decode cX10_beforeChange 11 = .ok (.invokevirtual 332, 3) := by decide +kernel
theorem dX10_beforeChange_14 : decode cX10_beforeChange 14 = .ok (.aload_n 0, 1) := by decide +kernel
theorem dX10_beforeChange_15 : decode cX10_beforeChange 15 = .ok (.iconst 0, 1) := by decide +kernel
theorem dX10_beforeChange_16 : decode cX10_beforeChange 16 = .ok (.putfield 199, 3) := by decide +kernel
theorem dX10_beforeChange_19 : decode cX10_beforeChange 19 = .ok (.return_, 1) := by decide +kernel
theorem dX10_send_0 : decode cX10_send 0 = .ok (.aload_n 0, 1) := by decide +kernel
theorem dX10_send_1 : decode cX10_send 1 = .ok (.iload_n 1, 1) := by decide +kernel
theorem dX10_send_2 : decode cX10_send 2 = .ok (.invokevirtual 121, 3) := by decide +kernel
theorem dX10_send_5 : decode cX10_send 5 = .ok (.ifCond .eq 11, 3) := by decide +kernel
theorem dX10_send_8 : decode cX10_send 8 = .ok (.aload_n 0, 1) := by decide +kernel
theorem dX10_send_9 : decode cX10_send 9 = .ok (.iload_n 2, 1) := by decide +kernel
theorem dX10_send_10 : decode cX10_send 10 = .ok (.invokevirtual 101, 3) := by decide +kernel
theorem dX10_send_13 : decode cX10_send 13 = .ok (.ifCond .ne 5, 3) := by decide +kernel
theorem dX10_send_16 : decode cX10_send 16 = .ok (.iconst (-1), 1) := by decide +kernel
theorem dX10_send_17 : decode cX10_send 17 = .ok (.ireturn, 1) := by decide +kernel
theorem dX10_send_18 : decode cX10_send 18 = .ok (.aload_n 0, 1) := by decide +kernel
theorem dX10_send_19 : decode cX10_send 19 = .ok (.iload_n 1, 1) := by decide +kernel
theorem dX10_send_20 : decode cX10_send 20 = .ok (.iload_n 2, 1) := by decide +kernel
theorem dX10_send_21 : decode cX10_send 21 = .ok (.invokevirtual 173, 3) := by decide +kernel
theorem dX10_send_24 : decode cX10_send 24 = .ok (.ifCond .ne 6, 3) := by decide +kernel
theorem dX10_send_27 : decode cX10_send 27 = .ok (.bipush (-2), 2) := by decide +kernel
theorem dX10_send_29 : decode cX10_send 29 = .ok (.ireturn, 1) := by decide +kernel
theorem dX10_send_30 : decode cX10_send 30 = .ok (.aload_n 0, 1) := by decide +kernel
theorem dX10_send_31 : decode cX10_send 31 = .ok (.invokevirtual 151, 3) := by decide +kernel
theorem dX10_send_34 : decode cX10_send 34 = .ok (.aload_n 0, 1) := by decide +kernel
theorem dX10_send_35 : decode cX10_send 35 = .ok (.getfield 76, 3) := by decide +kernel
theorem dX10_send_38 : decode cX10_send 38 = .ok (.iload_n 1, 1) := by decide +kernel
theorem dX10_send_39 : decode cX10_send 39 = .ok (.iload_n 2, 1) := by decide +kernel
theorem dX10_send_40 : decode cX10_send 40 = .ok (.invokevirtual 169, 3) := by decide +kernel
theorem dX10_send_43 : decode cX10_send 43 = .ok (.istore_n 3, 1) := by decide +kernel
theorem dX10_send_44 : decode cX10_send 44 = .ok (.aload_n 0, 1) := by decide +kernel
theorem dX10_send_45 : decode cX10_send 45 = .ok (.aload_n 0, 1) := by decide +kernel
theorem dX10_send_46 : decode cX10_send 46 = .ok (.getfield 60, 3) := by decide +kernel
theorem dX10_send_49 : decode cX10_send 49 = .ok (.getfield 176, 3) := by decide +kernel
theorem dX10_send_52 : decode cX10_send 52 = .ok (.invokevirtual 179, 3) := by decide +kernel
theorem dX10_send_55 : decode cX10_send 55 = .ok (.istore 4, 2) := by decide +kernel
theorem dX10_send_57 : decode cX10_send 57 = .ok (.aload_n 0, 1) := by decide +kernel
theorem dX10_send_58 : decode cX10_send 58 = .ok (.invokevirtual 182, 3) := by decide +kernel
theorem dX10_send_61 : decode cX10_send 61 = .ok (.aload_n 0, 1) := by decide +kernel
theorem dX10_send_62 : decode cX10_send 62 = .ok (.getfield 32, 3) := by decide +kernel
theorem dX10_send_65 : decode cX10_send 65 = .ok (.iload_n 1, 1) := by decide +kernel
theorem dX10_send_66 : decode cX10_send 66 = .ok (.iload_n 2, 1) := by decide +kernel
theorem dX10_send_67 : decode cX10_send 67 = .ok (.iload 4, 2) := by decide +kernel
theorem dX10_send_69 : decode cX10_send 69 = .ok (.ifCond .eq 9, 3) := by decide +kernel
theorem dX10_send_72 : decode cX10_send 72 = .ok (.iload_n 3, 1) := by decide +kernel
theorem dX10_send_73 : decode cX10_send 73 = .ok (.iconst 5, 1) := by decide +kernel
theorem dX10_send_74 : decode cX10_send 74 = .ok (.iadd, 1) := by decide +kernel
theorem dX10_send_75 : decode cX10_send 75 = .ok (.goto 4, 3) := by decide +kernel
theorem dX10_send_78 : decode cX10_send 78 = .ok (.iload_n 3, 1) := by decide +kernel
theorem dX10_send_79 : decode cX10_send 79 = .ok (.iload 4, 2) := by decide +kernel
theorem dX10_send_81 : decode cX10_send 81 = .ok (.invokevirtual 185, 3) := by decide +kernel
theorem dX10_send_84 : decode cX10_send 84 = .ok (.aload_n 0, 1) := by decide +kernel
theorem dX10_send_85 : decode cX10_send 85 = .ok (.getfield 32, 3) := by decide +kernel
theorem dX10_send_88 : decode cX10_send 88 = .ok (.iload_n 1, 1) := by decide +kernel
theorem dX10_send_89 : decode cX10_send 89 = .ok (.invokevirtual 139, 3) := by decide +kernel
theorem dX10_send_92 : decode cX10_send 92 = .ok (.ireturn, 1) := by decide +kernel
theorem dX10_lift_0 : decode cX10_lift 0 = .ok (.aload_n 0, 1) := by decide +kernel
theorem dX10_lift_1 : decode cX10_lift 1 = .ok (.iload_n 1, 1) := by decide +kernel
theorem dX10_lift_2 : decode cX10_lift 2 = .ok (.invokevirtual 158, 3) := by decide +kernel
theorem dX10_lift_5 : decode cX10_lift 5 = .ok (.ifCond .ne 5, 3) := by decide +kernel
theorem dX10_lift_8 : decode cX10_lift 8 = .ok (.iconst 0, 1) := by decide +kernel
theorem dX10_lift_9 : decode cX10_lift 9 = .ok (.ireturn, 1) := by decide +kernel
theorem dX10_lift_10 : decode cX10_lift 10 = .ok (.aload_n 0, 1) := by decide +kernel
theorem dX10_lift_11 : decode cX10_lift 11 = .ok (.invokevirtual 148, 3) := by decide +kernel
theorem dX10_lift_14 : decode cX10_lift 14 = .ok (.iload_n 1, 1) := by decide +kernel
theorem dX10_lift_15 : decode cX10_lift 15 = .ok (.ishr, 1) := by decide +kernel
theorem dX10_lift_16 : decode cX10_lift 16 = .ok (.iconst 1, 1) := by decide +kernel
theorem dX10_lift_17 : decode cX10_lift 17 = .ok (.iand, 1) := by decide +kernel
theorem dX10_lift_18 : decode cX10_lift 18 = .ok (.iconst 1, 1) := by decide +kernel
theorem dX10_lift_19 : decode cX10_lift 19 = .ok (.if_icmp .ne 7, 3) := by decide +kernel
theorem dX10_lift_22 : decode cX10_lift 22 = .ok (.iconst 1, 1) := by decide +kernel
theorem dX10_lift_23 : decode cX10_lift 23 = .ok (.goto 4, 3) := by decide +kernel
theorem dX10_lift_26 : decode cX10_lift 26 = .ok (.iconst 0, 1) := by decide +kernel
theorem dX10_lift_27 : decode cX10_lift 27 = .ok (.istore_n 3, 1) := by decide +kernel
theorem dX10_lift_28 : decode cX10_lift 28 = .ok (.iload_n 3, 1) := by decide +kernel
theorem dX10_lift_29 : decode cX10_lift 29 = .ok (.iload_n 2, 1) := by decide +kernel
theorem dX10_lift_30 : decode cX10_lift 30 = .ok (.if_icmp .eq 5, 3) := by decide +kernel
theorem dX10_lift_33 : decode cX10_lift 33 = .ok (.iconst 0, 1) := by decide +kernel
theorem dX10_lift_34 : decode cX10_lift 34 = .ok (.ireturn, 1) := by decide +kernel
theorem dX10_lift_35 : decode cX10_lift 35 = .ok (.aload_n 0, 1) := by decide +kernel
theorem dX10_lift_36 : decode cX10_lift 36 = .ok (.invokevirtual 182, 3) := by decide +kernel
theorem dX10_lift_39 : decode cX10_lift 39 = .ok (.aload_n 0, 1) := by decide +kernel
theorem dX10_lift_40 : decode cX10_lift 40 = .ok (.getfield 32, 3) := by decide +kernel
theorem dX10_lift_43 : decode cX10_lift 43 = .ok (.getfield 142, 3) := by decide +kernel
theorem dX10_lift_46 : decode cX10_lift 46 = .ok (.iconst 3, 1) := by decide +kernel
theorem dX10_lift_47 : decode cX10_lift 47 = .ok (.dup2, 1) := by decide +kernel
theorem dX10_lift_48 : decode cX10_lift 48 = .ok (.iaload, 1) := by decide +kernel
theorem dX10_lift_49 : decode cX10_lift 49 = .ok (.iconst 1, 1) := by decide +kernel
theorem dX10_lift_50 : decode cX10_lift 50 = .ok (.iload_n 1, 1) := by decide +kernel
theorem dX10_lift_51 : decode cX10_lift 51 = .ok (.ishl, 1) := by decide +kernel
theorem dX10_lift_52 : decode cX10_lift 52 = .ok (.ixor, 1) := by decide +kernel
theorem dX10_lift_53 : decode cX10_lift 53 = .ok (.iastore, 1) := by decide +kernel
theorem dX10_lift_54 : decode cX10_lift 54 = .ok (.iconst 1, 1) := by decide +kernel
theorem dX10_lift_55 : decode cX10_lift 55 = .ok (.ireturn, 1) := by decide +kernel
theorem dX10_days_0 : decode cX10_days 0 = .ok (.iload_n 1, 1) := by decide +kernel
theorem dX10_days_1 : decode cX10_days 1 = .ok (.ifCond .lt 9, 3) := by decide +kernel
theorem dX10_days_4 : decode cX10_days 4 = .ok (.iload_n 1, 1) := by decide +kernel
theorem dX10_days_5 : decode cX10_days 5 = .ok (.bipush 99, 2) := by decide +kernel
theorem dX10_days_7 : decode cX10_days 7 = .ok (.if_icmp .le 5, 3) := by decide +kernel
theorem dX10_days_10 : decode cX10_days 10 = .ok (.iconst (-1), 1) := by decide +kernel
theorem dX10_days_11 : decode cX10_days 11 = .ok (.ireturn, 1) := by decide +kernel
theorem dX10_days_12 : decode cX10_days 12 = .ok (.iload_n 1, 1) := by decide +kernel
theorem dX10_days_13 : decode cX10_days 13 = .ok (.ifCond .le 20, 3) := by decide +kernel
theorem dX10_days_16 : decode cX10_days 16 = .ok (.aload_n 0, 1) := by decide +kernel
theorem dX10_days_17 : decode cX10_days 17 = .ok (.invokevirtual 182, 3) := by decide +kernel
theorem dX10_days_20 : decode cX10_days 20 = .ok (.aload_n 0, 1) := by decide +kernel
theorem dX10_days_21 : decode cX10_days 21 = .ok (.getfield 32, 3) := by decide +kernel
theorem dX10_days_24 : decode cX10_days 24 = .ok (.getfield 142, 3) := by decide +kernel
theorem dX10_days_27 : decode cX10_days 27 = .ok (.iconst 0, 1) := by decide +kernel
theorem dX10_days_28 : decode cX10_days 28 = .ok (.dup2, 1) := by decide +kernel
theorem dX10_days_29 : decode cX10_days 29 = .ok (.iaload, 1) := by decide +kernel
theorem dX10_days_30 : decode cX10_days 30 = .ok (.iload_n 1, 1) := by decide +kernel
theorem dX10_days_31 : decode cX10_days 31 = .ok (.iadd, 1) := by decide +kernel
theorem dX10_days_32 : decode cX10_days 32 = .ok (.iastore, 1) := by decide +kernel
theorem dX10_days_33 : decode cX10_days 33 = .ok (.aload_n 0, 1) := by decide +kernel
theorem dX10_days_34 : decode cX10_days 34 = .ok (.getfield 32, 3) := by decide +kernel
theorem dX10_days_37 : decode cX10_days 37 = .ok (.invokevirtual 189, 3) := by decide +kernel
theorem dX10_days_40 : decode cX10_days 40 = .ok (.ireturn, 1) := by decide +kernel
theorem dX10_undo_0 : decode cX10_undo 0 = .ok (.aload_n 0, 1) := by decide +kernel
theorem dX10_undo_1 : decode cX10_undo 1 = .ok (.getfield 39, 3) := by decide +kernel
theorem dX10_undo_4 : decode cX10_undo 4 = .ok (.invokevirtual 192, 3) := by decide +kernel
theorem dX10_undo_7 : decode cX10_undo 7 = .ok (.ifCond .ne 5, 3) := by decide +kernel
theorem dX10_undo_10 : decode cX10_undo 10 = .ok (.iconst 0, 1) := by decide +kernel
theorem dX10_undo_11 : decode cX10_undo 11 = .ok (.ireturn, 1) := by decide +kernel
theorem dX10_undo_12 : decode cX10_undo 12 = .ok (.aload_n 0, 1) := by decide +kernel
theorem dX10_undo_13 : decode cX10_undo 13 = .ok (.getfield 39, 3) := by decide +kernel
theorem dX10_undo_16 : decode cX10_undo 16 = .ok (.aload_n 0, 1) := by decide +kernel
theorem dX10_undo_17 : decode cX10_undo 17 = .ok (.getfield 32, 3) := by decide +kernel
theorem dX10_undo_20 : decode cX10_undo 20 = .ok (.getfield 142, 3) := by decide +kernel
theorem dX10_undo_23 : decode cX10_undo 23 = .ok (.invokevirtual 195, 3) := by decide +kernel
theorem dX10_undo_26 : decode cX10_undo 26 = .ok (.aload_n 0, 1) := by decide +kernel
theorem dX10_undo_27 : decode cX10_undo 27 = .ok (.iconst 0, 1) := by decide +kernel
theorem dX10_undo_28 : decode cX10_undo 28 = .ok (.putfield 199, 3) := by decide +kernel
theorem dX10_undo_31 : decode cX10_undo 31 = .ok (.iconst 1, 1) := by decide +kernel
theorem dX10_undo_32 : decode cX10_undo 32 = .ok (.ireturn, 1) := by decide +kernel
theorem dX10_well_0 : decode cX10_well 0 = .ok (.aload_n 0, 1) := by decide +kernel
theorem dX10_well_1 : decode cX10_well 1 = .ok (.invokevirtual 151, 3) := by decide +kernel
theorem dX10_well_4 : decode cX10_well 4 = .ok (.aload_n 0, 1) := by decide +kernel
theorem dX10_well_5 : decode cX10_well 5 = .ok (.getfield 76, 3) := by decide +kernel
theorem dX10_well_8 : decode cX10_well 8 = .ok (.aload_n 0, 1) := by decide +kernel
theorem dX10_well_9 : decode cX10_well 9 = .ok (.invokevirtual 148, 3) := by decide +kernel
theorem dX10_well_12 : decode cX10_well 12 = .ok (.invokevirtual 203, 3) := by decide +kernel
theorem dX10_well_15 : decode cX10_well 15 = .ok (.ireturn, 1) := by decide +kernel
theorem dX10_bad_0 : decode cX10_bad 0 = .ok (.aload_n 0, 1) := by decide +kernel
theorem dX10_bad_1 : decode cX10_bad 1 = .ok (.invokevirtual 148, 3) := by decide +kernel
theorem dX10_bad_4 : decode cX10_bad 4 = .ok (.istore_n 1, 1) := by decide +kernel
theorem dX10_bad_5 : decode cX10_bad 5 = .ok (.iconst 0, 1) := by decide +kernel
theorem dX10_bad_6 : decode cX10_bad 6 = .ok (.istore_n 2, 1) := by decide +kernel
theorem dX10_bad_7 : decode cX10_bad 7 = .ok (.iload_n 2, 1) := by decide +kernel
theorem dX10_bad_8 : decode cX10_bad 8 = .ok (.sipush 200, 3) := by decide +kernel
theorem dX10_bad_11 : decode cX10_bad 11 = .ok (.if_icmp .gt 46, 3) := by decide +kernel
theorem dX10_bad_14 : decode cX10_bad 14 = .ok (.aload_n 0, 1) := by decide +kernel
theorem dX10_bad_15 : decode cX10_bad 15 = .ok (.getfield 76, 3) := by decide +kernel
theorem dX10_bad_18 : decode cX10_bad 18 = .ok (.aload_n 0, 1) := by decide +kernel
theorem dX10_bad_19 : decode cX10_bad 19 = .ok (.getfield 60, 3) := by decide +kernel
theorem dX10_bad_22 : decode cX10_bad 22 = .ok (.aload_n 0, 1) := by decide +kernel
theorem dX10_bad_23 : decode cX10_bad 23 = .ok (.getfield 32, 3) := by decide +kernel
theorem dX10_bad_26 : decode cX10_bad 26 = .ok (.aload_n 0, 1) := by decide +kernel
theorem dX10_bad_27 : decode cX10_bad 27 = .ok (.getfield 32, 3) := by decide +kernel
theorem dX10_bad_30 : decode cX10_bad 30 = .ok (.invokevirtual 189, 3) := by decide +kernel
theorem dX10_bad_33 : decode cX10_bad 33 = .ok (.iload_n 2, 1) := by decide +kernel
theorem dX10_bad_34 : decode cX10_bad 34 = .ok (.iadd, 1) := by decide +kernel
theorem dX10_bad_35 : decode cX10_bad 35 = .ok (.invokevirtual 206, 3) := by decide +kernel
theorem dX10_bad_38 : decode cX10_bad 38 = .ok (.aload_n 0, 1) := by decide +kernel
theorem dX10_bad_39 : decode cX10_bad 39 = .ok (.getfield 76, 3) := by decide +kernel
theorem dX10_bad_42 : decode cX10_bad 42 = .ok (.iload_n 1, 1) := by decide +kernel
theorem dX10_bad_43 : decode cX10_bad 43 = .ok (.invokevirtual 203, 3) := by decide +kernel
theorem dX10_bad_46 : decode cX10_bad 46 = .ok (.ifCond .ne 5, 3) := by decide +kernel
theorem dX10_bad_49 : decode cX10_bad 49 = .ok (.iload_n 2, 1) := by decide +kernel
theorem dX10_bad_50 : decode cX10_bad 50 = .ok (.ireturn, 1) := by decide +kernel
theorem dX10_bad_51 : decode cX10_bad 51 = .ok (.iinc 2 1, 3) := by decide +kernel
theorem dX10_bad_54 : decode cX10_bad 54 = .ok (.goto (-47), 3) := by decide +kernel
theorem dX10_bad_57 : decode cX10_bad 57 = .ok (.bipush (-2), 2) := by decide +kernel
theorem dX10_bad_59 : decode cX10_bad 59 = .ok (.ireturn, 1) := by decide +kernel
theorem dX10_gainOf_0 : decode cX10_gainOf 0 = .ok (.aload_n 0, 1) := by decide +kernel
theorem dX10_gainOf_1 : decode cX10_gainOf 1 = .ok (.getfield 76, 3) := by decide +kernel
theorem dX10_gainOf_4 : decode cX10_gainOf 4 = .ok (.iload_n 1, 1) := by decide +kernel
theorem dX10_gainOf_5 : decode cX10_gainOf 5 = .ok (.iload_n 3, 1) := by decide +kernel
theorem dX10_gainOf_6 : decode cX10_gainOf 6 = .ok (.iload_n 2, 1) := by decide +kernel
theorem dX10_gainOf_7 : decode cX10_gainOf 7 = .ok (.invokevirtual 165, 3) := by decide +kernel
theorem dX10_gainOf_10 : decode cX10_gainOf 10 = .ok (.aload_n 0, 1) := by decide +kernel
theorem dX10_gainOf_11 : decode cX10_gainOf 11 = .ok (.getfield 76, 3) := by decide +kernel
theorem dX10_gainOf_14 : decode cX10_gainOf 14 = .ok (.iload_n 1, 1) := by decide +kernel
theorem dX10_gainOf_15 : decode cX10_gainOf 15 = .ok (.iload_n 2, 1) := by decide +kernel
theorem dX10_gainOf_16 : decode cX10_gainOf 16 = .ok (.iconst (-1), 1) := by decide +kernel
theorem dX10_gainOf_17 : decode cX10_gainOf 17 = .ok (.invokevirtual 165, 3) := by decide +kernel
theorem dX10_gainOf_20 : decode cX10_gainOf 20 = .ok (.isub, 1) := by decide +kernel
theorem dX10_gainOf_21 : decode cX10_gainOf 21 = .ok (.ireturn, 1) := by decide +kernel
theorem dX10_gainsOfSwap_0 : decode cX10_gainsOfSwap 0 = .ok (.aload_n 0, 1) := by decide +kernel
theorem dX10_gainsOfSwap_1 : decode cX10_gainsOfSwap 1 = .ok (.getfield 32, 3) := by decide +kernel
theorem dX10_gainsOfSwap_4 : decode cX10_gainsOfSwap 4 = .ok (.iload_n 1, 1) := by decide +kernel
theorem dX10_gainsOfSwap_5 : decode cX10_gainsOfSwap 5 = .ok (.invokevirtual 124, 3) := by decide +kernel
theorem dX10_gainsOfSwap_8 : decode cX10_gainsOfSwap 8 = .ok (.ifCond .ne 33, 3) := by decide +kernel
theorem dX10_gainsOfSwap_11 : decode cX10_gainsOfSwap 11 = .ok (.aload_n 0, 1) := by decide +kernel
theorem dX10_gainsOfSwap_12 : decode cX10_gainsOfSwap 12 = .ok (.getfield 32, 3) := by decide +kernel
theorem dX10_gainsOfSwap_15 : decode cX10_gainsOfSwap 15 = .ok (.iload_n 2, 1) := by decide +kernel
theorem dX10_gainsOfSwap_16 : decode cX10_gainsOfSwap 16 = .ok (.invokevirtual 124, 3) := by decide +kernel
theorem dX10_gainsOfSwap_19 : decode cX10_gainsOfSwap 19 = .ok (.ifCond .ne 22, 3) := by decide +kernel
theorem dX10_gainsOfSwap_22 : decode cX10_gainsOfSwap 22 = .ok (.aload_n 0, 1) := by decide +kernel
theorem dX10_gainsOfSwap_23 : decode cX10_gainsOfSwap 23 = .ok (.getfield 32, 3) := by decide +kernel
theorem dX10_gainsOfSwap_26 : decode cX10_gainsOfSwap 26 = .ok (.iload_n 1, 1) := by decide +kernel
theorem dX10_gainsOfSwap_27 : decode cX10_gainsOfSwap 27 = .ok (.invokevirtual 130, 3) := by decide +kernel
theorem dX10_gainsOfSwap_30 : decode cX10_gainsOfSwap 30 = .ok (.aload_n 0, 1) := by decide +kernel
theorem dX10_gainsOfSwap_31 : decode cX10_gainsOfSwap 31 = .ok (.getfield 32, 3) := by decide +kernel
theorem dX10_gainsOfSwap_34 : decode cX10_gainsOfSwap 34 = .ok (.iload_n 2, 1) := by decide +kernel
theorem dX10_gainsOfSwap_35 : decode cX10_gainsOfSwap 35 = .ok (.invokevirtual 130, 3) := by decide +kernel
theorem dX10_gainsOfSwap_38 : decode cX10_gainsOfSwap 38 = .ok (.if_icmp .ne 5, 3) := by decide +kernel
theorem dX10_gainsOfSwap_41 : decode cX10_gainsOfSwap 41 = .ok (.iconst 0, 1) := by decide +kernel
theorem dX10_gainsOfSwap_42 : decode cX10_gainsOfSwap 42 = .ok (.ireturn, 1) := by decide +kernel
theorem dX10_gainsOfSwap_43 : decode cX10_gainsOfSwap 43 = .ok (.aload_n 0, 1) := by decide +kernel
theorem dX10_gainsOfSwap_44 : decode cX10_gainsOfSwap 44 = .ok (.aload_n 0, 1) := by decide +kernel
theorem dX10_gainsOfSwap_45 : decode cX10_gainsOfSwap 45 = .ok (.getfield 32, 3) := by decide +kernel
theorem dX10_gainsOfSwap_48 : decode cX10_gainsOfSwap 48 = .ok (.iload_n 1, 1) := by decide +kernel
theorem dX10_gainsOfSwap_49 : decode cX10_gainsOfSwap 49 = .ok (.invokevirtual 130, 3) := by decide +kernel
theorem dX10_gainsOfSwap_52 : decode cX10_gainsOfSwap 52 = .ok (.iload_n 1, 1) := by decide +kernel
theorem dX10_gainsOfSwap_53 : decode cX10_gainsOfSwap 53 = .ok (.iload_n 2, 1) := by decide +kernel
theorem dX10_gainsOfSwap_54 : decode cX10_gainsOfSwap 54 = .ok (.invokevirtual 358, 3) := by decide +kernel
theorem dX10_gainsOfSwap_57 : decode cX10_gainsOfSwap 57 = .ok (.istore_n 3, 1) := by decide +kernel
theorem dX10_gainsOfSwap_58 : decode cX10_gainsOfSwap 58 = .ok (.aload_n 0, 1) := by decide +kernel
theorem dX10_gainsOfSwap_59 : decode cX10_gainsOfSwap 59 = .ok (.aload_n 0, 1) := by decide +kernel
theorem dX10_gainsOfSwap_60 : decode cX10_gainsOfSwap 60 = .ok (.getfield 32, 3) := by decide +kernel
theorem dX10_gainsOfSwap_63 : decode cX10_gainsOfSwap 63 = .ok (.iload_n 2, 1) := by decide +kernel
theorem dX10_gainsOfSwap_64 : decode cX10_gainsOfSwap 64 = .ok (.invokevirtual 130, 3) := by decide +kernel
theorem dX10_gainsOfSwap_67 : decode cX10_gainsOfSwap 67 = .ok (.iload_n 2, 1) := by decide +kernel
theorem dX10_gainsOfSwap_68 : decode cX10_gainsOfSwap 68 = .ok (.iload_n 1, 1) := by decide +kernel
theorem dX10_gainsOfSwap_69 : decode cX10_gainsOfSwap 69 = .ok (.invokevirtual 358, 3) := by decide +kernel
theorem dX10_gainsOfSwap_72 : decode cX10_gainsOfSwap 72 = .ok (.istore 4, 2) := by decide +kernel
theorem dX10_gainsOfSwap_74 : decode cX10_gainsOfSwap 74 = .ok (.iload_n 3, 1) := by decide +kernel
theorem dX10_gainsOfSwap_75 : decode cX10_gainsOfSwap 75 = .ok (.ifCond .le 15, 3) := by decide +kernel
theorem dX10_gainsOfSwap_78 : decode cX10_gainsOfSwap 78 = .ok (.iload 4, 2) := by decide +kernel
theorem dX10_gainsOfSwap_80 : decode cX10_gainsOfSwap 80 = .ok (.ifCond .le 10, 3) := by decide +kernel
theorem dX10_gainsOfSwap_83 : decode cX10_gainsOfSwap 83 = .ok (.iload_n 3, 1) := by decide +kernel
theorem dX10_gainsOfSwap_84 : decode cX10_gainsOfSwap 84 = .ok (.iload 4, 2) := by decide +kernel
theorem dX10_gainsOfSwap_86 : decode cX10_gainsOfSwap 86 = .ok (.iadd, 1) := by decide +kernel
theorem dX10_gainsOfSwap_87 : decode cX10_gainsOfSwap 87 = .ok (.goto 4, 3) := by decide +kernel
theorem dX10_gainsOfSwap_90 : decode cX10_gainsOfSwap 90 = .ok (.iconst 0, 1) := by decide +kernel
theorem dX10_gainsOfSwap_91 : decode cX10_gainsOfSwap 91 = .ok (.ireturn, 1) := by decide +kernel
theorem dX10_swapAnswer_0 : decode cX10_swapAnswer 0 = .ok (.iconst 0, 1) := by decide +kernel
theorem dX10_swapAnswer_1 : decode cX10_swapAnswer 1 = .ok (.istore_n 2, 1) := by decide +kernel
theorem dX10_swapAnswer_2 : decode cX10_swapAnswer 2 = .ok (.iconst 0, 1) := by decide +kernel
theorem dX10_swapAnswer_3 : decode cX10_swapAnswer 3 = .ok (.istore_n 3, 1) := by decide +kernel
theorem dX10_swapAnswer_4 : decode cX10_swapAnswer 4 = .ok (.bipush (-2), 2) := by decide +kernel
theorem dX10_swapAnswer_6 : decode cX10_swapAnswer 6 = .ok (.istore 4, 2) := by decide +kernel
theorem dX10_swapAnswer_8 : decode cX10_swapAnswer 8 = .ok (.bipush (-2), 2) := by decide +kernel
theorem dX10_swapAnswer_10 : decode cX10_swapAnswer 10 = .ok (.istore 5, 2) := by decide +kernel
theorem dX10_swapAnswer_12 : decode cX10_swapAnswer 12 = .ok (.iconst 0, 1) := by decide +kernel
theorem dX10_swapAnswer_13 : decode cX10_swapAnswer 13 = .ok (.istore 6, 2) := by decide +kernel
theorem dX10_swapAnswer_15 : decode cX10_swapAnswer 15 = .ok (.iload 6, 2) := by decide +kernel
theorem dX10_swapAnswer_17 : decode cX10_swapAnswer 17 = .ok (.aload_n 0, 1) := by decide +kernel
theorem dX10_swapAnswer_18 : decode cX10_swapAnswer 18 = .ok (.getfield 60, 3) := by decide +kernel
theorem dX10_swapAnswer_21 : decode cX10_swapAnswer 21 = .ok (.getfield 236, 3) := by decide +kernel
theorem dX10_swapAnswer_24 : decode cX10_swapAnswer 24 = .ok (.if_icmp .ge 68, 3) := by decide +kernel
theorem dX10_swapAnswer_27 : decode cX10_swapAnswer 27 = .ok (.iload 6, 2) := by decide +kernel
theorem dX10_swapAnswer_29 : decode cX10_swapAnswer 29 = .ok (.iconst 1, 1) := by decide +kernel
theorem dX10_swapAnswer_30 : decode cX10_swapAnswer 30 = .ok (.iadd, 1) := by decide +kernel
theorem dX10_swapAnswer_31 : decode cX10_swapAnswer 31 = .ok (.istore 7, 2) := by decide +kernel
theorem dX10_swapAnswer_33 : decode cX10_swapAnswer 33 = .ok (.iload 7, 2) := by decide +kernel
theorem dX10_swapAnswer_35 : decode cX10_swapAnswer 35 = .ok (.aload_n 0, 1) := by decide +kernel
theorem dX10_swapAnswer_36 : decode cX10_swapAnswer 36 = .ok (.getfield 60, 3) := by decide +kernel
theorem dX10_swapAnswer_39 : decode cX10_swapAnswer 39 = .ok (.getfield 236, 3) := by decide +kernel
theorem dX10_swapAnswer_42 : decode cX10_swapAnswer 42 = .ok (.if_icmp .ge 44, 3) := by decide +kernel
theorem dX10_swapAnswer_45 : decode cX10_swapAnswer 45 = .ok (.aload_n 0, 1) := by decide +kernel
theorem dX10_swapAnswer_46 : decode cX10_swapAnswer 46 = .ok (.iload 6, 2) := by decide +kernel
theorem dX10_swapAnswer_48 : decode cX10_swapAnswer 48 = .ok (.iload 7, 2) := by decide +kernel
theorem dX10_swapAnswer_50 : decode cX10_swapAnswer 50 = .ok (.invokevirtual 355, 3) := by decide +kernel
theorem dX10_swapAnswer_53 : decode cX10_swapAnswer 53 = .ok (.istore 8, 2) := by decide +kernel
theorem dX10_swapAnswer_55 : decode cX10_swapAnswer 55 = .ok (.iload 8, 2) := by decide +kernel
theorem dX10_swapAnswer_57 : decode cX10_swapAnswer 57 = .ok (.ifCond .le 6, 3) := by decide +kernel
theorem dX10_swapAnswer_60 : decode cX10_swapAnswer 60 = .ok (.iinc 2 1, 3) := by decide +kernel
theorem dX10_swapAnswer_63 : decode cX10_swapAnswer 63 = .ok (.iload 8, 2) := by decide +kernel
theorem dX10_swapAnswer_65 : decode cX10_swapAnswer 65 = .ok (.iload_n 3, 1) := by decide +kernel
theorem dX10_swapAnswer_66 : decode cX10_swapAnswer 66 = .ok (.if_icmp .le 14, 3) := by decide +kernel
theorem dX10_swapAnswer_69 : decode cX10_swapAnswer 69 = .ok (.iload 8, 2) := by decide +kernel
theorem dX10_swapAnswer_71 : decode cX10_swapAnswer 71 = .ok (.istore_n 3, 1) := by decide +kernel
theorem dX10_swapAnswer_72 : decode cX10_swapAnswer 72 = .ok (.iload 6, 2) := by decide +kernel
theorem dX10_swapAnswer_74 : decode cX10_swapAnswer 74 = .ok (.istore 4, 2) := by decide +kernel
theorem dX10_swapAnswer_76 : decode cX10_swapAnswer 76 = .ok (.iload 7, 2) := by decide +kernel
theorem dX10_swapAnswer_78 : decode cX10_swapAnswer 78 = .ok (.istore 5, 2) := by decide +kernel
theorem dX10_swapAnswer_80 : decode cX10_swapAnswer 80 = .ok (.iinc 7 1, 3) := by decide +kernel
theorem dX10_swapAnswer_83 : decode cX10_swapAnswer 83 = .ok (.goto (-50), 3) := by decide +kernel
theorem dX10_swapAnswer_86 : decode cX10_swapAnswer 86 = .ok (.iinc 6 1, 3) := by decide +kernel
theorem dX10_swapAnswer_89 : decode cX10_swapAnswer 89 = .ok (.goto (-74), 3) := by decide +kernel
theorem dX10_swapAnswer_92 : decode cX10_swapAnswer 92 = .ok (.iload_n 1, 1) := by decide +kernel
theorem dX10_swapAnswer_93 : decode cX10_swapAnswer 93 = .ok (.iconst (-1), 1) := by decide +kernel
theorem dX10_swapAnswer_94 : decode cX10_swapAnswer 94 = .ok (.if_icmp .ne 5, 3) := by decide +kernel
theorem dX10_swapAnswer_97 : decode cX10_swapAnswer 97 = .ok (.iload_n 2, 1) := by decide +kernel
theorem dX10_swapAnswer_98 : decode cX10_swapAnswer 98 = .ok (.ireturn, 1) := by decide +kernel
theorem dX10_swapAnswer_99 : decode cX10_swapAnswer 99 = .ok (.iload_n 2, 1) := by decide +kernel
theorem dX10_swapAnswer_100 : decode cX10_swapAnswer 100 = .ok (.ifCond .ne 6, 3) := by decide +kernel
theorem dX10_swapAnswer_103 : decode cX10_swapAnswer 103 = .ok (.bipush (-2), 2) := by decide +kernel
theorem dX10_swapAnswer_105 : decode cX10_swapAnswer 105 = .ok (.ireturn, 1) := by decide +kernel
theorem dX10_swapAnswer_106 : decode cX10_swapAnswer 106 = .ok (.iload_n 1, 1) := by decide +kernel
theorem dX10_swapAnswer_107 : decode cX10_swapAnswer 107 = .ok (.ifCond .ne 8, 3) := by decide +kernel
theorem dX10_swapAnswer_110 : decode cX10_swapAnswer 110 = .ok (.iload 4, 2) := by decide +kernel
theorem dX10_swapAnswer_112 : decode cX10_swapAnswer 112 = .ok (.goto 14, 3) := by decide +kernel
theorem dX10_swapAnswer_115 : decode cX10_swapAnswer 115 = .ok (.iload_n 1, 1) := by decide +kernel
theorem dX10_swapAnswer_116 : decode cX10_swapAnswer 116 = .ok (.iconst 1, 1) := by decide +kernel
theorem dX10_swapAnswer_117 : decode cX10_swapAnswer 117 = .ok (.if_icmp .ne 8, 3) := by decide +kernel
theorem dX10_swapAnswer_120 : decode cX10_swapAnswer 120 = .ok (.iload 5, 2) := by decide +kernel
theorem dX10_swapAnswer_122 : decode cX10_swapAnswer 122 = .ok (.goto 4, 3) := by decide +kernel
theorem dX10_swapAnswer_125 : decode cX10_swapAnswer 125 = .ok (.iload_n 3, 1) := by decide +kernel
theorem dX10_swapAnswer_126 : decode cX10_swapAnswer 126 = .ok (.ireturn, 1) := by decide +kernel
theorem dX10_swaps_0 : decode cX10_swaps 0 = .ok (.iload_n 1, 1) := by decide +kernel
theorem dX10_swaps_1 : decode cX10_swaps 1 = .ok (.iconst (-1), 1) := by decide +kernel
theorem dX10_swaps_2 : decode cX10_swaps 2 = .ok (.if_icmp .lt 8, 3) := by decide +kernel
theorem dX10_swaps_5 : decode cX10_swaps 5 = .ok (.iload_n 1, 1) := by decide +kernel
theorem dX10_swaps_6 : decode cX10_swaps 6 = .ok (.iconst 2, 1) := by decide +kernel
theorem dX10_swaps_7 : decode cX10_swaps 7 = .ok (.if_icmp .le 5, 3) := by decide +kernel
theorem dX10_swaps_10 : decode cX10_swaps 10 = .ok (.iconst (-1), 1) := by decide +kernel
theorem dX10_swaps_11 : decode cX10_swaps 11 = .ok (.ireturn, 1) := by decide +kernel
theorem dX10_swaps_12 : decode cX10_swaps 12 = .ok (.aload_n 0, 1) := by decide +kernel
theorem dX10_swaps_13 : decode cX10_swaps 13 = .ok (.invokevirtual 151, 3) := by decide +kernel
theorem dX10_swaps_16 : decode cX10_swaps 16 = .ok (.aload_n 0, 1) := by decide +kernel
theorem dX10_swaps_17 : decode cX10_swaps 17 = .ok (.iload_n 1, 1) := by decide +kernel
theorem dX10_swaps_18 : decode cX10_swaps 18 = .ok (.invokevirtual 259, 3) := by decide +kernel
theorem dX10_swaps_21 : decode cX10_swaps 21 = .ok (.ireturn, 1) := by decide +kernel
theorem dX10_housesFreeToSendBack_0 : decode cX10_housesFreeToSendBack 0 = .ok (.aload_n 0, 1) := by decide +kernel
theorem dX10_housesFreeToSendBack_1 : decode cX10_housesFreeToSendBack 1 = .ok (.invokevirtual 151, 3) := by decide +kernel
theorem dX10_housesFreeToSendBack_4 : decode cX10_housesFreeToSendBack 4 = .ok (.iconst 1, 1) := by decide +kernel
theorem dX10_housesFreeToSendBack_5 : decode cX10_housesFreeToSendBack 5 = .ok (.aload_n 0, 1) := by decide +kernel
theorem dX10_housesFreeToSendBack_6 : decode cX10_housesFreeToSendBack 6 = .ok (.getfield 60, 3) := by decide +kernel
theorem dX10_housesFreeToSendBack_9 : decode cX10_housesFreeToSendBack 9 = .ok (.getfield 272, 3) := by decide +kernel
theorem dX10_housesFreeToSendBack_12 : decode cX10_housesFreeToSendBack 12 = .ok (.ishl, 1) := by decide +kernel
theorem dX10_housesFreeToSendBack_13 : decode cX10_housesFreeToSendBack 13 = .ok (.iconst 1, 1) := by decide +kernel
theorem dX10_housesFreeToSendBack_14 : decode cX10_housesFreeToSendBack 14 = .ok (.isub, 1) := by decide +kernel
theorem dX10_housesFreeToSendBack_15 : decode cX10_housesFreeToSendBack 15 = .ok (.istore_n 1, 1) := by decide +kernel
theorem dX10_housesFreeToSendBack_16 : decode cX10_housesFreeToSendBack 16 = .ok (.iconst 0, 1) := by decide +kernel
theorem dX10_housesFreeToSendBack_17 : decode cX10_housesFreeToSendBack 17 = .ok (.istore_n 2, 1) := by decide +kernel
theorem dX10_housesFreeToSendBack_18 : decode cX10_housesFreeToSendBack 18 = .ok (.iload_n 2, 1) := by decide +kernel
theorem dX10_housesFreeToSendBack_19 : decode cX10_housesFreeToSendBack 19 = .ok (.aload_n 0, 1) := by decide +kernel
theorem dX10_housesFreeToSendBack_20 : decode cX10_housesFreeToSendBack 20 = .ok (.getfield 60, 3) := by decide +kernel
theorem dX10_housesFreeToSendBack_23 : decode cX10_housesFreeToSendBack 23 = .ok (.getfield 236, 3) := by decide +kernel
theorem dX10_housesFreeToSendBack_26 : decode cX10_housesFreeToSendBack 26 = .ok (.if_icmp .ge 51, 3) := by decide +kernel
theorem dX10_housesFreeToSendBack_29 : decode cX10_housesFreeToSendBack 29 = .ok (.aload_n 0, 1) := by decide +kernel
theorem dX10_housesFreeToSendBack_30 : decode cX10_housesFreeToSendBack 30 = .ok (.getfield 32, 3) := by decide +kernel
theorem dX10_housesFreeToSendBack_33 : decode cX10_housesFreeToSendBack 33 = .ok (.iload_n 2, 1) := by decide +kernel
theorem dX10_housesFreeToSendBack_34 : decode cX10_housesFreeToSendBack 34 = .ok (.invokevirtual 130, 3) := by decide +kernel
theorem dX10_housesFreeToSendBack_37 : decode cX10_housesFreeToSendBack 37 = .ok (.istore_n 3, 1) := by decide +kernel
theorem dX10_housesFreeToSendBack_38 : decode cX10_housesFreeToSendBack 38 = .ok (.iload_n 3, 1) := by decide +kernel
theorem dX10_housesFreeToSendBack_39 : decode cX10_housesFreeToSendBack 39 = .ok (.aload_n 0, 1) := by decide +kernel
theorem dX10_housesFreeToSendBack_40 : decode cX10_housesFreeToSendBack 40 = .ok (.getfield 60, 3) := by decide +kernel
theorem dX10_housesFreeToSendBack_43 : decode cX10_housesFreeToSendBack 43 = .ok (.getfield 127, 3) := by decide +kernel
theorem dX10_housesFreeToSendBack_46 : decode cX10_housesFreeToSendBack 46 = .ok (.iload_n 2, 1) := by decide +kernel
theorem dX10_housesFreeToSendBack_47 : decode cX10_housesFreeToSendBack 47 = .ok (.iaload, 1) := by decide +kernel
theorem dX10_housesFreeToSendBack_48 : decode cX10_housesFreeToSendBack 48 = .ok (.if_icmp .eq 23, 3) := by decide +kernel
theorem dX10_housesFreeToSendBack_51 : decode cX10_housesFreeToSendBack 51 = .ok (.aload_n 0, 1) := by decide +kernel
theorem dX10_housesFreeToSendBack_52 : decode cX10_housesFreeToSendBack 52 = .ok (.getfield 76, 3) := by decide +kernel
theorem dX10_housesFreeToSendBack_55 : decode cX10_housesFreeToSendBack 55 = .ok (.iload_n 3, 1) := by decide +kernel
theorem dX10_housesFreeToSendBack_56 : decode cX10_housesFreeToSendBack 56 = .ok (.iload_n 2, 1) := by decide +kernel
theorem dX10_housesFreeToSendBack_57 : decode cX10_housesFreeToSendBack 57 = .ok (.invokevirtual 361, 3) := by decide +kernel
theorem dX10_housesFreeToSendBack_60 : decode cX10_housesFreeToSendBack 60 = .ok (.ifCond .le 11, 3) := by decide +kernel
theorem dX10_housesFreeToSendBack_63 : decode cX10_housesFreeToSendBack 63 = .ok (.iload_n 1, 1) := by decide +kernel
theorem dX10_housesFreeToSendBack_64 : decode cX10_housesFreeToSendBack 64 = .ok (.iconst 1, 1) := by decide +kernel
theorem dX10_housesFreeToSendBack_65 : decode cX10_housesFreeToSendBack 65 = .ok (.iload_n 3, 1) := by decide +kernel
theorem dX10_housesFreeToSendBack_66 : decode cX10_housesFreeToSendBack 66 = .ok (.ishl, 1) := by decide +kernel
theorem dX10_housesFreeToSendBack_67 : decode cX10_housesFreeToSendBack 67 = .ok (.iconst (-1), 1) := by decide +kernel
theorem dX10_housesFreeToSendBack_68 : decode cX10_housesFreeToSendBack 68 = .ok (.ixor, 1) := by decide +kernel
theorem dX10_housesFreeToSendBack_69 : decode cX10_housesFreeToSendBack 69 = .ok (.iand, 1) := by decide +kernel
theorem dX10_housesFreeToSendBack_70 : decode cX10_housesFreeToSendBack 70 = .ok (.istore_n 1, 1) := by decide +kernel
theorem dX10_housesFreeToSendBack_71 : decode cX10_housesFreeToSendBack 71 = .ok (.iinc 2 1, 3) := by decide +kernel
theorem dX10_housesFreeToSendBack_74 : decode cX10_housesFreeToSendBack 74 = .ok (.goto (-56), 3) := by decide +kernel
theorem dX10_housesFreeToSendBack_77 : decode cX10_housesFreeToSendBack 77 = .ok (.iload_n 1, 1) := by decide +kernel
theorem dX10_housesFreeToSendBack_78 : decode cX10_housesFreeToSendBack 78 = .ok (.ireturn, 1) := by decide +kernel
theorem dX10_subsetOf_0 : decode cX10_subsetOf 0 = .ok (.iconst 0, 1) := by decide +kernel
theorem dX10_subsetOf_1 : decode cX10_subsetOf 1 = .ok (.istore_n 2, 1) := by decide +kernel
theorem dX10_subsetOf_2 : decode cX10_subsetOf 2 = .ok (.iload_n 1, 1) := by decide +kernel
theorem dX10_subsetOf_3 : decode cX10_subsetOf 3 = .ok (.istore_n 3, 1) := by decide +kernel
theorem dX10_subsetOf_4 : decode cX10_subsetOf 4 = .ok (.iconst 0, 1) := by decide +kernel
theorem dX10_subsetOf_5 : decode cX10_subsetOf 5 = .ok (.istore 4, 2) := by decide +kernel
theorem dX10_subsetOf_7 : decode cX10_subsetOf 7 = .ok (.iload 4, 2) := by decide +kernel
theorem dX10_subsetOf_9 : decode cX10_subsetOf 9 = .ok (.iconst 5, 1) := by decide +kernel
theorem dX10_subsetOf_10 : decode cX10_subsetOf 10 = .ok (.if_icmp .ge 32, 3) := by decide +kernel
theorem dX10_subsetOf_13 : decode cX10_subsetOf 13 = .ok (.iload_n 0, 1) := by decide +kernel
theorem dX10_subsetOf_14 : decode cX10_subsetOf 14 = .ok (.iload 4, 2) := by decide +kernel
theorem dX10_subsetOf_16 : decode cX10_subsetOf 16 = .ok (.ishr, 1) := by decide +kernel
theorem dX10_subsetOf_17 : decode cX10_subsetOf 17 = .ok (.iconst 1, 1) := by decide +kernel
theorem dX10_subsetOf_18 : decode cX10_subsetOf 18 = .ok (.iand, 1) := by decide +kernel
theorem dX10_subsetOf_19 : decode cX10_subsetOf 19 = .ok (.iconst 1, 1) := by decide +kernel
theorem dX10_subsetOf_20 : decode cX10_subsetOf 20 = .ok (.if_icmp .ne 16, 3) := by decide +kernel
theorem dX10_subsetOf_23 : decode cX10_subsetOf 23 = .ok (.iload_n 2, 1) := by decide +kernel
theorem dX10_subsetOf_24 : decode cX10_subsetOf 24 = .ok (.iload_n 3, 1) := by decide +kernel
theorem dX10_subsetOf_25 : decode cX10_subsetOf 25 = .ok (.iconst 1, 1) := by decide +kernel
theorem dX10_subsetOf_26 : decode cX10_subsetOf 26 = .ok (.iand, 1) := by decide +kernel
theorem dX10_subsetOf_27 : decode cX10_subsetOf 27 = .ok (.iload 4, 2) := by decide +kernel
theorem dX10_subsetOf_29 : decode cX10_subsetOf 29 = .ok (.ishl, 1) := by decide +kernel
theorem dX10_subsetOf_30 : decode cX10_subsetOf 30 = .ok (.ior, 1) := by decide +kernel
theorem dX10_subsetOf_31 : decode cX10_subsetOf 31 = .ok (.istore_n 2, 1) := by decide +kernel
theorem dX10_subsetOf_32 : decode cX10_subsetOf 32 = .ok (.iload_n 3, 1) := by decide +kernel
theorem dX10_subsetOf_33 : decode cX10_subsetOf 33 = .ok (.iconst 1, 1) := by decide +kernel
theorem dX10_subsetOf_34 : decode cX10_subsetOf 34 = .ok (.ishr, 1) := by decide +kernel
theorem dX10_subsetOf_35 : decode cX10_subsetOf 35 = .ok (.istore_n 3, 1) := by decide +kernel
theorem dX10_subsetOf_36 : decode cX10_subsetOf 36 = .ok (.iinc 4 1, 3) := by decide +kernel
theorem dX10_subsetOf_39 : decode cX10_subsetOf 39 = .ok (.goto (-32), 3) := by decide +kernel
theorem dX10_subsetOf_42 : decode cX10_subsetOf 42 = .ok (.iload_n 2, 1) := by decide +kernel
theorem dX10_subsetOf_43 : decode cX10_subsetOf 43 = .ok (.ireturn, 1) := by decide +kernel
theorem dX10_backs_0 : decode cX10_backs 0 = .ok (.aload_n 0, 1) := by decide +kernel
theorem dX10_backs_1 : decode cX10_backs 1 = .ok (.invokevirtual 262, 3) := by decide +kernel
theorem dX10_backs_4 : decode cX10_backs 4 = .ok (.istore_n 2, 1) := by decide +kernel
theorem dX10_backs_5 : decode cX10_backs 5 = .ok (.iconst 1, 1) := by decide +kernel
theorem dX10_backs_6 : decode cX10_backs 6 = .ok (.iload_n 2, 1) := by decide +kernel
theorem dX10_backs_7 : decode cX10_backs 7 = .ok (.invokestatic 231, 3) := by decide +kernel
theorem dX10_backs_10 : decode cX10_backs 10 = .ok (.ishl, 1) := by decide +kernel
theorem dX10_backs_11 : decode cX10_backs 11 = .ok (.istore_n 3, 1) := by decide +kernel
theorem dX10_backs_12 : decode cX10_backs 12 = .ok (.iload_n 1, 1) := by decide +kernel
theorem dX10_backs_13 : decode cX10_backs 13 = .ok (.iconst (-1), 1) := by decide +kernel
theorem dX10_backs_14 : decode cX10_backs 14 = .ok (.if_icmp .ne 5, 3) := by decide +kernel
theorem dX10_backs_17 : decode cX10_backs 17 = .ok (.iload_n 3, 1) := by decide +kernel
theorem dX10_backs_18 : decode cX10_backs 18 = .ok (.ireturn, 1) := by decide +kernel
theorem dX10_backs_19 : decode cX10_backs 19 = .ok (.iload_n 1, 1) := by decide +kernel
theorem dX10_backs_20 : decode cX10_backs 20 = .ok (.ifCond .lt 8, 3) := by decide +kernel
theorem dX10_backs_23 : decode cX10_backs 23 = .ok (.iload_n 1, 1) := by decide +kernel
theorem dX10_backs_24 : decode cX10_backs 24 = .ok (.iload_n 3, 1) := by decide +kernel
theorem dX10_backs_25 : decode cX10_backs 25 = .ok (.if_icmp .lt 7, 3) := by decide +kernel
theorem dX10_backs_28 : decode cX10_backs 28 = .ok (.iconst (-1), 1) := by decide +kernel
theorem dX10_backs_29 : decode cX10_backs 29 = .ok (.goto 8, 3) := by decide +kernel
theorem dX10_backs_32 : decode cX10_backs 32 = .ok (.iload_n 2, 1) := by decide +kernel
theorem dX10_backs_33 : decode cX10_backs 33 = .ok (.iload_n 1, 1) := by decide +kernel
theorem dX10_backs_34 : decode cX10_backs 34 = .ok (.invokestatic 265, 3) := by decide +kernel
theorem dX10_backs_37 : decode cX10_backs 37 = .ok (.ireturn, 1) := by decide +kernel
theorem dX10_shareOut_0 : decode cX10_shareOut 0 = .ok (.iload_n 1, 1) := by decide +kernel
theorem dX10_shareOut_1 : decode cX10_shareOut 1 = .ok (.ifCond .lt 9, 3) := by decide +kernel
theorem dX10_shareOut_4 : decode cX10_shareOut 4 = .ok (.iload_n 1, 1) := by decide +kernel
theorem dX10_shareOut_5 : decode cX10_shareOut 5 = .ok (.bipush 6, 2) := by decide +kernel
theorem dX10_shareOut_7 : decode cX10_shareOut 7 = .ok (.if_icmp .lt 14, 3) := by decide +kernel
theorem dX10_shareOut_10 : decode cX10_shareOut 10 = .ok (.iload_n 2, 1) := by decide +kernel
theorem dX10_shareOut_11 : decode cX10_shareOut 11 = .ok (.iload_n 3, 1) := by decide +kernel
theorem dX10_shareOut_12 : decode cX10_shareOut 12 = .ok (.iload 4, 2) := by decide +kernel
theorem dX10_shareOut_14 : decode cX10_shareOut 14 = .ok (.invokestatic 364, 3) := by decide +kernel
theorem dX10_shareOut_17 : decode cX10_shareOut 17 = .ok (.invokestatic 364, 3) := by decide +kernel
theorem dX10_shareOut_20 : decode cX10_shareOut 20 = .ok (.ireturn, 1) := by decide +kernel
theorem dX10_shareOut_21 : decode cX10_shareOut 21 = .ok (.aload_n 0, 1) := by decide +kernel
theorem dX10_shareOut_22 : decode cX10_shareOut 22 = .ok (.getfield 54, 3) := by decide +kernel
theorem dX10_shareOut_25 : decode cX10_shareOut 25 = .ok (.iload_n 1, 1) := by decide +kernel
theorem dX10_shareOut_26 : decode cX10_shareOut 26 = .ok (.iaload, 1) := by decide +kernel
theorem dX10_shareOut_27 : decode cX10_shareOut 27 = .ok (.istore 5, 2) := by decide +kernel
theorem dX10_shareOut_29 : decode cX10_shareOut 29 = .ok (.aload_n 0, 1) := by decide +kernel
theorem dX10_shareOut_30 : decode cX10_shareOut 30 = .ok (.iload_n 1, 1) := by decide +kernel
theorem dX10_shareOut_31 : decode cX10_shareOut 31 = .ok (.iconst 1, 1) := by decide +kernel
theorem dX10_shareOut_32 : decode cX10_shareOut 32 = .ok (.isub, 1) := by decide +kernel
theorem dX10_shareOut_33 : decode cX10_shareOut 33 = .ok (.iload_n 2, 1) := by decide +kernel
theorem dX10_shareOut_34 : decode cX10_shareOut 34 = .ok (.iload 5, 2) := by decide +kernel
theorem dX10_shareOut_36 : decode cX10_shareOut 36 = .ok (.iadd, 1) := by decide +kernel
theorem dX10_shareOut_37 : decode cX10_shareOut 37 = .ok (.iload_n 3, 1) := by decide +kernel
theorem dX10_shareOut_38 : decode cX10_shareOut 38 = .ok (.iload 4, 2) := by decide +kernel
theorem dX10_shareOut_40 : decode cX10_shareOut 40 = .ok (.invokevirtual 268, 3) := by decide +kernel
theorem dX10_shareOut_43 : decode cX10_shareOut 43 = .ok (.istore 6, 2) := by decide +kernel
theorem dX10_shareOut_45 : decode cX10_shareOut 45 = .ok (.aload_n 0, 1) := by decide +kernel
theorem dX10_shareOut_46 : decode cX10_shareOut 46 = .ok (.getfield 60, 3) := by decide +kernel
theorem dX10_shareOut_49 : decode cX10_shareOut 49 = .ok (.getfield 369, 3) := by decide +kernel
theorem dX10_shareOut_52 : decode cX10_shareOut 52 = .ok (.iconst 1, 1) := by decide +kernel
theorem dX10_shareOut_53 : decode cX10_shareOut 53 = .ok (.if_icmp .le 24, 3) := by decide +kernel
theorem dX10_shareOut_56 : decode cX10_shareOut 56 = .ok (.iload 6, 2) := by decide +kernel
theorem dX10_shareOut_58 : decode cX10_shareOut 58 = .ok (.aload_n 0, 1) := by decide +kernel
theorem dX10_shareOut_59 : decode cX10_shareOut 59 = .ok (.iload_n 1, 1) := by decide +kernel
theorem dX10_shareOut_60 : decode cX10_shareOut 60 = .ok (.iconst 1, 1) := by decide +kernel
theorem dX10_shareOut_61 : decode cX10_shareOut 61 = .ok (.isub, 1) := by decide +kernel
theorem dX10_shareOut_62 : decode cX10_shareOut 62 = .ok (.iload_n 2, 1) := by decide +kernel
theorem dX10_shareOut_63 : decode cX10_shareOut 63 = .ok (.iload_n 3, 1) := by decide +kernel
theorem dX10_shareOut_64 : decode cX10_shareOut 64 = .ok (.iload 5, 2) := by decide +kernel
theorem dX10_shareOut_66 : decode cX10_shareOut 66 = .ok (.iadd, 1) := by decide +kernel
theorem dX10_shareOut_67 : decode cX10_shareOut 67 = .ok (.iload 4, 2) := by decide +kernel
theorem dX10_shareOut_69 : decode cX10_shareOut 69 = .ok (.invokevirtual 268, 3) := by decide +kernel
theorem dX10_shareOut_72 : decode cX10_shareOut 72 = .ok (.invokestatic 372, 3) := by decide +kernel
theorem dX10_shareOut_75 : decode cX10_shareOut 75 = .ok (.istore 6, 2) := by decide +kernel
theorem dX10_shareOut_77 : decode cX10_shareOut 77 = .ok (.aload_n 0, 1) := by decide +kernel
theorem dX10_shareOut_78 : decode cX10_shareOut 78 = .ok (.getfield 60, 3) := by decide +kernel
theorem dX10_shareOut_81 : decode cX10_shareOut 81 = .ok (.getfield 369, 3) := by decide +kernel
theorem dX10_shareOut_84 : decode cX10_shareOut 84 = .ok (.iconst 2, 1) := by decide +kernel
theorem dX10_shareOut_85 : decode cX10_shareOut 85 = .ok (.if_icmp .le 24, 3) := by decide +kernel
theorem dX10_shareOut_88 : decode cX10_shareOut 88 = .ok (.iload 6, 2) := by decide +kernel
theorem dX10_shareOut_90 : decode cX10_shareOut 90 = .ok (.aload_n 0, 1) := by decide +kernel
theorem dX10_shareOut_91 : decode cX10_shareOut 91 = .ok (.iload_n 1, 1) := by decide +kernel
theorem dX10_shareOut_92 : decode cX10_shareOut 92 = .ok (.iconst 1, 1) := by decide +kernel
theorem dX10_shareOut_93 : decode cX10_shareOut 93 = .ok (.isub, 1) := by decide +kernel
theorem dX10_shareOut_94 : decode cX10_shareOut 94 = .ok (.iload_n 2, 1) := by decide +kernel
theorem dX10_shareOut_95 : decode cX10_shareOut 95 = .ok (.iload_n 3, 1) := by decide +kernel
theorem dX10_shareOut_96 : decode cX10_shareOut 96 = .ok (.iload 4, 2) := by decide +kernel
theorem dX10_shareOut_98 : decode cX10_shareOut 98 = .ok (.iload 5, 2) := by decide +kernel
theorem dX10_shareOut_100 : decode cX10_shareOut 100 = .ok (.iadd, 1) := by decide +kernel
theorem dX10_shareOut_101 : decode cX10_shareOut 101 = .ok (.invokevirtual 268, 3) := by decide +kernel
theorem dX10_shareOut_104 : decode cX10_shareOut 104 = .ok (.invokestatic 372, 3) := by decide +kernel
theorem dX10_shareOut_107 : decode cX10_shareOut 107 = .ok (.istore 6, 2) := by decide +kernel
theorem dX10_shareOut_109 : decode cX10_shareOut 109 = .ok (.iload 6, 2) := by decide +kernel
theorem dX10_shareOut_111 : decode cX10_shareOut 111 = .ok (.ireturn, 1) := by decide +kernel
theorem dX10_soonest_0 : decode cX10_soonest 0 = .ok (.aload_n 0, 1) := by decide +kernel
theorem dX10_soonest_1 : decode cX10_soonest 1 = .ok (.invokevirtual 151, 3) := by decide +kernel
theorem dX10_soonest_4 : decode cX10_soonest 4 = .ok (.iconst 0, 1) := by decide +kernel
theorem dX10_soonest_5 : decode cX10_soonest 5 = .ok (.istore_n 1, 1) := by decide +kernel
theorem dX10_soonest_6 : decode cX10_soonest 6 = .ok (.iconst 0, 1) := by decide +kernel
theorem dX10_soonest_7 : decode cX10_soonest 7 = .ok (.istore_n 2, 1) := by decide +kernel
theorem dX10_soonest_8 : decode cX10_soonest 8 = .ok (.iload_n 2, 1) := by decide +kernel
theorem dX10_soonest_9 : decode cX10_soonest 9 = .ok (.aload_n 0, 1) := by decide +kernel
theorem dX10_soonest_10 : decode cX10_soonest 10 = .ok (.getfield 60, 3) := by decide +kernel
theorem dX10_soonest_13 : decode cX10_soonest 13 = .ok (.getfield 236, 3) := by decide +kernel
theorem dX10_soonest_16 : decode cX10_soonest 16 = .ok (.if_icmp .ge 55, 3) := by decide +kernel
theorem dX10_soonest_19 : decode cX10_soonest 19 = .ok (.aload_n 0, 1) := by decide +kernel
theorem dX10_soonest_20 : decode cX10_soonest 20 = .ok (.getfield 32, 3) := by decide +kernel
theorem dX10_soonest_23 : decode cX10_soonest 23 = .ok (.iload_n 2, 1) := by decide +kernel
theorem dX10_soonest_24 : decode cX10_soonest 24 = .ok (.invokevirtual 130, 3) := by decide +kernel
theorem dX10_soonest_27 : decode cX10_soonest 27 = .ok (.aload_n 0, 1) := by decide +kernel
theorem dX10_soonest_28 : decode cX10_soonest 28 = .ok (.getfield 60, 3) := by decide +kernel
theorem dX10_soonest_31 : decode cX10_soonest 31 = .ok (.getfield 127, 3) := by decide +kernel
theorem dX10_soonest_34 : decode cX10_soonest 34 = .ok (.iload_n 2, 1) := by decide +kernel
theorem dX10_soonest_35 : decode cX10_soonest 35 = .ok (.iaload, 1) := by decide +kernel
theorem dX10_soonest_36 : decode cX10_soonest 36 = .ok (.if_icmp .eq 29, 3) := by decide +kernel
theorem dX10_soonest_39 : decode cX10_soonest 39 = .ok (.aload_n 0, 1) := by decide +kernel
theorem dX10_soonest_40 : decode cX10_soonest 40 = .ok (.getfield 54, 3) := by decide +kernel
theorem dX10_soonest_43 : decode cX10_soonest 43 = .ok (.iload_n 1, 1) := by decide +kernel
theorem dX10_soonest_44 : decode cX10_soonest 44 = .ok (.aload_n 0, 1) := by decide +kernel
theorem dX10_soonest_45 : decode cX10_soonest 45 = .ok (.getfield 76, 3) := by decide +kernel
theorem dX10_soonest_48 : decode cX10_soonest 48 = .ok (.iload_n 2, 1) := by decide +kernel
theorem dX10_soonest_49 : decode cX10_soonest 49 = .ok (.aload_n 0, 1) := by decide +kernel
theorem dX10_soonest_50 : decode cX10_soonest 50 = .ok (.getfield 60, 3) := by decide +kernel
theorem dX10_soonest_53 : decode cX10_soonest 53 = .ok (.getfield 127, 3) := by decide +kernel
theorem dX10_soonest_56 : decode cX10_soonest 56 = .ok (.iload_n 2, 1) := by decide +kernel
theorem dX10_soonest_57 : decode cX10_soonest 57 = .ok (.iaload, 1) := by decide +kernel
theorem dX10_soonest_58 : decode cX10_soonest 58 = .ok (.invokevirtual 169, 3) := by decide +kernel
theorem dX10_soonest_61 : decode cX10_soonest 61 = .ok (.iastore, 1) := by decide +kernel
theorem dX10_soonest_62 : decode cX10_soonest 62 = .ok (.iinc 1 1, 3) := by decide +kernel
theorem dX10_soonest_65 : decode cX10_soonest 65 = .ok (.iinc 2 1, 3) := by decide +kernel
theorem dX10_soonest_68 : decode cX10_soonest 68 = .ok (.goto (-60), 3) := by decide +kernel
theorem dX10_soonest_71 : decode cX10_soonest 71 = .ok (.aload_n 0, 1) := by decide +kernel
theorem dX10_soonest_72 : decode cX10_soonest 72 = .ok (.iload_n 1, 1) := by decide +kernel
theorem dX10_soonest_73 : decode cX10_soonest 73 = .ok (.iconst 1, 1) := by decide +kernel
theorem dX10_soonest_74 : decode cX10_soonest 74 = .ok (.isub, 1) := by decide +kernel
theorem dX10_soonest_75 : decode cX10_soonest 75 = .ok (.iconst 0, 1) := by decide +kernel
theorem dX10_soonest_76 : decode cX10_soonest 76 = .ok (.iconst 0, 1) := by decide +kernel
theorem dX10_soonest_77 : decode cX10_soonest 77 = .ok (.iconst 0, 1) := by decide +kernel
theorem dX10_soonest_78 : decode cX10_soonest 78 = .ok (.invokevirtual 268, 3) := by decide +kernel
theorem dX10_soonest_81 : decode cX10_soonest 81 = .ok (.ireturn, 1) := by decide +kernel
theorem dX10_then_0 : decode cX10_then 0 = .ok (.aload_n 0, 1) := by decide +kernel
theorem dX10_then_1 : decode cX10_then 1 = .ok (.iload_n 1, 1) := by decide +kernel
theorem dX10_then_2 : decode cX10_then 2 = .ok (.invokevirtual 121, 3) := by decide +kernel
theorem dX10_then_5 : decode cX10_then 5 = .ok (.ifCond .eq 14, 3) := by decide +kernel
theorem dX10_then_8 : decode cX10_then 8 = .ok (.iload_n 2, 1) := by decide +kernel
theorem dX10_then_9 : decode cX10_then 9 = .ok (.ifCond .lt 10, 3) := by decide +kernel
theorem dX10_then_12 : decode cX10_then 12 = .ok (.iload_n 2, 1) := by decide +kernel
theorem dX10_then_13 : decode cX10_then 13 = .ok (.sipush 200, 3) := by decide +kernel
theorem dX10_then_16 : decode cX10_then 16 = .ok (.if_icmp .le 5, 3) := by decide +kernel
theorem dX10_then_19 : decode cX10_then 19 = .ok (.iconst (-1), 1) := by decide +kernel
theorem dX10_then_20 : decode cX10_then 20 = .ok (.ireturn, 1) := by decide +kernel
theorem dX10_then_21 : decode cX10_then 21 = .ok (.aload_n 0, 1) := by decide +kernel
theorem dX10_then_22 : decode cX10_then 22 = .ok (.getfield 32, 3) := by decide +kernel
theorem dX10_then_25 : decode cX10_then 25 = .ok (.iload_n 1, 1) := by decide +kernel
theorem dX10_then_26 : decode cX10_then 26 = .ok (.invokevirtual 139, 3) := by decide +kernel
theorem dX10_then_29 : decode cX10_then 29 = .ok (.aload_n 0, 1) := by decide +kernel
theorem dX10_then_30 : decode cX10_then 30 = .ok (.getfield 32, 3) := by decide +kernel
theorem dX10_then_33 : decode cX10_then 33 = .ok (.invokevirtual 189, 3) := by decide +kernel
theorem dX10_then_36 : decode cX10_then 36 = .ok (.iload_n 2, 1) := by decide +kernel
theorem dX10_then_37 : decode cX10_then 37 = .ok (.iadd, 1) := by decide +kernel
theorem dX10_then_38 : decode cX10_then 38 = .ok (.if_icmp .gt 14, 3) := by decide +kernel
theorem dX10_then_41 : decode cX10_then 41 = .ok (.aload_n 0, 1) := by decide +kernel
theorem dX10_then_42 : decode cX10_then 42 = .ok (.getfield 32, 3) := by decide +kernel
theorem dX10_then_45 : decode cX10_then 45 = .ok (.iload_n 1, 1) := by decide +kernel
theorem dX10_then_46 : decode cX10_then 46 = .ok (.invokevirtual 130, 3) := by decide +kernel
theorem dX10_then_49 : decode cX10_then 49 = .ok (.goto 5, 3) := by decide +kernel
theorem dX10_then_52 : decode cX10_then 52 = .ok (.bipush (-2), 2) := by decide +kernel
theorem dX10_then_54 : decode cX10_then 54 = .ok (.ireturn, 1) := by decide +kernel
theorem dX10_times_0 : decode cX10_times 0 = .ok (.aload_n 0, 1) := by decide +kernel
theorem dX10_times_1 : decode cX10_times 1 = .ok (.iload_n 1, 1) := by decide +kernel
theorem dX10_times_2 : decode cX10_times 2 = .ok (.invokevirtual 121, 3) := by decide +kernel
theorem dX10_times_5 : decode cX10_times 5 = .ok (.ifCond .eq 35, 3) := by decide +kernel
theorem dX10_times_8 : decode cX10_times 8 = .ok (.aload_n 0, 1) := by decide +kernel
theorem dX10_times_9 : decode cX10_times 9 = .ok (.iload_n 2, 1) := by decide +kernel
theorem dX10_times_10 : decode cX10_times 10 = .ok (.invokevirtual 101, 3) := by decide +kernel
theorem dX10_times_13 : decode cX10_times 13 = .ok (.ifCond .eq 27, 3) := by decide +kernel
theorem dX10_times_16 : decode cX10_times 16 = .ok (.iload_n 3, 1) := by decide +kernel
theorem dX10_times_17 : decode cX10_times 17 = .ok (.ifCond .lt 23, 3) := by decide +kernel
theorem dX10_times_20 : decode cX10_times 20 = .ok (.iload_n 3, 1) := by decide +kernel
theorem dX10_times_21 : decode cX10_times 21 = .ok (.sipush 200, 3) := by decide +kernel
theorem dX10_times_24 : decode cX10_times 24 = .ok (.if_icmp .gt 16, 3) := by decide +kernel
theorem dX10_times_27 : decode cX10_times 27 = .ok (.iload 4, 2) := by decide +kernel
theorem dX10_times_29 : decode cX10_times 29 = .ok (.iconst 1, 1) := by decide +kernel
theorem dX10_times_30 : decode cX10_times 30 = .ok (.if_icmp .lt 10, 3) := by decide +kernel
theorem dX10_times_33 : decode cX10_times 33 = .ok (.iload 4, 2) := by decide +kernel
theorem dX10_times_35 : decode cX10_times 35 = .ok (.bipush 20, 2) := by decide +kernel
theorem dX10_times_37 : decode cX10_times 37 = .ok (.if_icmp .le 5, 3) := by decide +kernel
theorem dX10_times_40 : decode cX10_times 40 = .ok (.iconst (-1), 1) := by decide +kernel
theorem dX10_times_41 : decode cX10_times 41 = .ok (.ireturn, 1) := by decide +kernel
theorem dX10_times_42 : decode cX10_times 42 = .ok (.aload_n 0, 1) := by decide +kernel
theorem dX10_times_43 : decode cX10_times 43 = .ok (.iload_n 1, 1) := by decide +kernel
theorem dX10_times_44 : decode cX10_times 44 = .ok (.iload_n 2, 1) := by decide +kernel
theorem dX10_times_45 : decode cX10_times 45 = .ok (.invokevirtual 173, 3) := by decide +kernel
theorem dX10_times_48 : decode cX10_times 48 = .ok (.ifCond .ne 6, 3) := by decide +kernel
theorem dX10_times_51 : decode cX10_times 51 = .ok (.bipush (-2), 2) := by decide +kernel
theorem dX10_times_53 : decode cX10_times 53 = .ok (.ireturn, 1) := by decide +kernel
theorem dX10_times_54 : decode cX10_times 54 = .ok (.aload_n 0, 1) := by decide +kernel
theorem dX10_times_55 : decode cX10_times 55 = .ok (.invokevirtual 151, 3) := by decide +kernel
theorem dX10_times_58 : decode cX10_times 58 = .ok (.aload_n 0, 1) := by decide +kernel
theorem dX10_times_59 : decode cX10_times 59 = .ok (.getfield 76, 3) := by decide +kernel
theorem dX10_times_62 : decode cX10_times 62 = .ok (.iload_n 1, 1) := by decide +kernel
theorem dX10_times_63 : decode cX10_times 63 = .ok (.iload_n 2, 1) := by decide +kernel
theorem dX10_times_64 : decode cX10_times 64 = .ok (.invokevirtual 169, 3) := by decide +kernel
theorem dX10_times_67 : decode cX10_times 67 = .ok (.istore 5, 2) := by decide +kernel
theorem dX10_times_69 : decode cX10_times 69 = .ok (.iconst 0, 1) := by decide +kernel
theorem dX10_times_70 : decode cX10_times 70 = .ok (.istore 6, 2) := by decide +kernel
theorem dX10_times_72 : decode cX10_times 72 = .ok (.iconst 0, 1) := by decide +kernel
theorem dX10_times_73 : decode cX10_times 73 = .ok (.istore 7, 2) := by decide +kernel
theorem dX10_times_75 : decode cX10_times 75 = .ok (.iload 7, 2) := by decide +kernel
theorem dX10_times_77 : decode cX10_times 77 = .ok (.iload 4, 2) := by decide +kernel
theorem dX10_times_79 : decode cX10_times 79 = .ok (.if_icmp .ge 46, 3) := by decide +kernel
theorem dX10_times_82 : decode cX10_times 82 = .ok (.aload_n 0, 1) := by decide +kernel
theorem dX10_times_83 : decode cX10_times 83 = .ok (.aload_n 0, 1) := by decide +kernel
theorem dX10_times_84 : decode cX10_times 84 = .ok (.getfield 60, 3) := by decide +kernel
theorem dX10_times_87 : decode cX10_times 87 = .ok (.getfield 176, 3) := by decide +kernel
theorem dX10_times_90 : decode cX10_times 90 = .ok (.iload 7, 2) := by decide +kernel
theorem dX10_times_92 : decode cX10_times 92 = .ok (.iadd, 1) := by decide +kernel
theorem dX10_times_93 : decode cX10_times 93 = .ok (.invokevirtual 179, 3) := by decide +kernel
theorem dX10_times_96 : decode cX10_times 96 = .ok (.ifCond .eq 10, 3) := by decide +kernel
theorem dX10_times_99 : decode cX10_times 99 = .ok (.iload 5, 2) := by decide +kernel
theorem dX10_times_101 : decode cX10_times 101 = .ok (.iconst 5, 1) := by decide +kernel
theorem dX10_times_102 : decode cX10_times 102 = .ok (.iadd, 1) := by decide +kernel
theorem dX10_times_103 : decode cX10_times 103 = .ok (.goto 5, 3) := by decide +kernel
theorem dX10_times_106 : decode cX10_times 106 = .ok (.iload 5, 2) := by decide +kernel
theorem dX10_times_108 : decode cX10_times 108 = .ok (.istore 8, 2) := by decide +kernel
theorem dX10_times_110 : decode cX10_times 110 = .ok (.iload 8, 2) := by decide +kernel
theorem dX10_times_112 : decode cX10_times 112 = .ok (.iload_n 3, 1) := by decide +kernel
theorem dX10_times_113 : decode cX10_times 113 = .ok (.if_icmp .gt 6, 3) := by decide +kernel
theorem dX10_times_116 : decode cX10_times 116 = .ok (.iinc 6 1, 3) := by decide +kernel
theorem dX10_times_119 : decode cX10_times 119 = .ok (.iinc 7 1, 3) := by decide +kernel
theorem dX10_times_122 : decode cX10_times 122 = .ok (.goto (-47), 3) := by decide +kernel
theorem dX10_times_125 : decode cX10_times 125 = .ok (.iload 6, 2) := by decide +kernel
theorem dX10_times_127 : decode cX10_times 127 = .ok (.ireturn, 1) := by decide +kernel
theorem dX10_owes_0 : decode cX10_owes 0 = .ok (.aload_n 0, 1) := by decide +kernel
theorem dX10_owes_1 : decode cX10_owes 1 = .ok (.iload_n 1, 1) := by decide +kernel
theorem dX10_owes_2 : decode cX10_owes 2 = .ok (.invokevirtual 101, 3) := by decide +kernel
theorem dX10_owes_5 : decode cX10_owes 5 = .ok (.ifCond .eq 16, 3) := by decide +kernel
theorem dX10_owes_8 : decode cX10_owes 8 = .ok (.aload_n 0, 1) := by decide +kernel
theorem dX10_owes_9 : decode cX10_owes 9 = .ok (.iload_n 2, 1) := by decide +kernel
theorem dX10_owes_10 : decode cX10_owes 10 = .ok (.invokevirtual 101, 3) := by decide +kernel
theorem dX10_owes_13 : decode cX10_owes 13 = .ok (.ifCond .eq 8, 3) := by decide +kernel
theorem dX10_owes_16 : decode cX10_owes 16 = .ok (.iload_n 1, 1) := by decide +kernel
theorem dX10_owes_17 : decode cX10_owes 17 = .ok (.iload_n 2, 1) := by decide +kernel
theorem dX10_owes_18 : decode cX10_owes 18 = .ok (.if_icmp .ne 5, 3) := by decide +kernel
theorem dX10_owes_21 : decode cX10_owes 21 = .ok (.iconst (-1), 1) := by decide +kernel
theorem dX10_owes_22 : decode cX10_owes 22 = .ok (.ireturn, 1) := by decide +kernel
theorem dX10_owes_23 : decode cX10_owes 23 = .ok (.iconst 0, 1) := by decide +kernel
theorem dX10_owes_24 : decode cX10_owes 24 = .ok (.istore_n 3, 1) := by decide +kernel
theorem dX10_owes_25 : decode cX10_owes 25 = .ok (.iconst 0, 1) := by decide +kernel
theorem dX10_owes_26 : decode cX10_owes 26 = .ok (.istore 4, 2) := by decide +kernel
theorem dX10_owes_28 : decode cX10_owes 28 = .ok (.iload 4, 2) := by decide +kernel
theorem dX10_owes_30 : decode cX10_owes 30 = .ok (.aload_n 0, 1) := by decide +kernel
theorem dX10_owes_31 : decode cX10_owes 31 = .ok (.getfield 60, 3) := by decide +kernel
theorem dX10_owes_34 : decode cX10_owes 34 = .ok (.getfield 236, 3) := by decide +kernel
theorem dX10_owes_37 : decode cX10_owes 37 = .ok (.if_icmp .ge 43, 3) := by decide +kernel
theorem dX10_owes_40 : decode cX10_owes 40 = .ok (.aload_n 0, 1) := by decide +kernel
theorem dX10_owes_41 : decode cX10_owes 41 = .ok (.getfield 60, 3) := by decide +kernel
theorem dX10_owes_44 : decode cX10_owes 44 = .ok (.getfield 127, 3) := by decide +kernel
theorem dX10_owes_47 : decode cX10_owes 47 = .ok (.iload 4, 2) := by decide +kernel
theorem dX10_owes_49 : decode cX10_owes 49 = .ok (.iaload, 1) := by decide +kernel
theorem dX10_owes_50 : decode cX10_owes 50 = .ok (.iload_n 2, 1) := by decide +kernel
theorem dX10_owes_51 : decode cX10_owes 51 = .ok (.if_icmp .ne 23, 3) := by decide +kernel
theorem dX10_owes_54 : decode cX10_owes 54 = .ok (.aload_n 0, 1) := by decide +kernel
theorem dX10_owes_55 : decode cX10_owes 55 = .ok (.getfield 32, 3) := by decide +kernel
theorem dX10_owes_58 : decode cX10_owes 58 = .ok (.iload 4, 2) := by decide +kernel
theorem dX10_owes_60 : decode cX10_owes 60 = .ok (.invokevirtual 130, 3) := by decide +kernel
theorem dX10_owes_63 : decode cX10_owes 63 = .ok (.iload_n 1, 1) := by decide +kernel
theorem dX10_owes_64 : decode cX10_owes 64 = .ok (.if_icmp .ne 10, 3) := by decide +kernel
theorem dX10_owes_67 : decode cX10_owes 67 = .ok (.iload_n 3, 1) := by decide +kernel
theorem dX10_owes_68 : decode cX10_owes 68 = .ok (.iconst 1, 1) := by decide +kernel
theorem dX10_owes_69 : decode cX10_owes 69 = .ok (.iload 4, 2) := by decide +kernel
theorem dX10_owes_71 : decode cX10_owes 71 = .ok (.ishl, 1) := by decide +kernel
theorem dX10_owes_72 : decode cX10_owes 72 = .ok (.ior, 1) := by decide +kernel
theorem dX10_owes_73 : decode cX10_owes 73 = .ok (.istore_n 3, 1) := by decide +kernel
theorem dX10_owes_74 : decode cX10_owes 74 = .ok (.iinc 4 1, 3) := by decide +kernel
theorem dX10_owes_77 : decode cX10_owes 77 = .ok (.goto (-49), 3) := by decide +kernel
theorem dX10_owes_80 : decode cX10_owes 80 = .ok (.iload_n 3, 1) := by decide +kernel
theorem dX10_owes_81 : decode cX10_owes 81 = .ok (.ireturn, 1) := by decide +kernel
theorem dX10_valueIn_0 : decode cX10_valueIn 0 = .ok (.iconst 0, 1) := by decide +kernel
theorem dX10_valueIn_1 : decode cX10_valueIn 1 = .ok (.istore_n 2, 1) := by decide +kernel
theorem dX10_valueIn_2 : decode cX10_valueIn 2 = .ok (.iconst 0, 1) := by decide +kernel
theorem dX10_valueIn_3 : decode cX10_valueIn 3 = .ok (.istore_n 3, 1) := by decide +kernel
theorem dX10_valueIn_4 : decode cX10_valueIn 4 = .ok (.iload_n 3, 1) := by decide +kernel
theorem dX10_valueIn_5 : decode cX10_valueIn 5 = .ok (.aload_n 0, 1) := by decide +kernel
theorem dX10_valueIn_6 : decode cX10_valueIn 6 = .ok (.getfield 60, 3) := by decide +kernel
theorem dX10_valueIn_9 : decode cX10_valueIn 9 = .ok (.getfield 236, 3) := by decide +kernel
theorem dX10_valueIn_12 : decode cX10_valueIn 12 = .ok (.if_icmp .ge 33, 3) := by decide +kernel
theorem dX10_valueIn_15 : decode cX10_valueIn 15 = .ok (.aload_n 0, 1) := by decide +kernel
theorem dX10_valueIn_16 : decode cX10_valueIn 16 = .ok (.getfield 32, 3) := by decide +kernel
theorem dX10_valueIn_19 : decode cX10_valueIn 19 = .ok (.iload_n 3, 1) := by decide +kernel
theorem dX10_valueIn_20 : decode cX10_valueIn 20 = .ok (.iload_n 1, 1) := by decide +kernel
theorem dX10_valueIn_21 : decode cX10_valueIn 21 = .ok (.invokevirtual 352, 3) := by decide +kernel
theorem dX10_valueIn_24 : decode cX10_valueIn 24 = .ok (.ifCond .eq 15, 3) := by decide +kernel
theorem dX10_valueIn_27 : decode cX10_valueIn 27 = .ok (.iload_n 2, 1) := by decide +kernel
theorem dX10_valueIn_28 : decode cX10_valueIn 28 = .ok (.aload_n 0, 1) := by decide +kernel
theorem dX10_valueIn_29 : decode cX10_valueIn 29 = .ok (.getfield 60, 3) := by decide +kernel
theorem dX10_valueIn_32 : decode cX10_valueIn 32 = .ok (.getfield 136, 3) := by decide +kernel
theorem dX10_valueIn_35 : decode cX10_valueIn 35 = .ok (.iload_n 3, 1) := by decide +kernel
theorem dX10_valueIn_36 : decode cX10_valueIn 36 = .ok (.iaload, 1) := by decide +kernel
theorem dX10_valueIn_37 : decode cX10_valueIn 37 = .ok (.iadd, 1) := by decide +kernel
theorem dX10_valueIn_38 : decode cX10_valueIn 38 = .ok (.istore_n 2, 1) := by decide +kernel
theorem dX10_valueIn_39 : decode cX10_valueIn 39 = .ok (.iinc 3 1, 3) := by decide +kernel
theorem dX10_valueIn_42 : decode cX10_valueIn 42 = .ok (.goto (-38), 3) := by decide +kernel
theorem dX10_valueIn_45 : decode cX10_valueIn 45 = .ok (.iload_n 2, 1) := by decide +kernel
theorem dX10_valueIn_46 : decode cX10_valueIn 46 = .ok (.ireturn, 1) := by decide +kernel
