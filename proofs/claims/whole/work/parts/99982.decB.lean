theorem dX11_init_0 : decode cX11_init 0 = .ok (.aload_n 0, 1) := by decide +kernel
theorem dX11_init_1 : decode cX11_init 1 = .ok (.invokespecial 1, 3) := by decide +kernel
theorem dX11_init_4 : decode cX11_init 4 = .ok (.aload_n 0, 1) := by decide +kernel
theorem dX11_init_5 : decode cX11_init 5 = .ok (.sipush 20204, 3) := by decide +kernel
theorem dX11_init_8 : decode cX11_init 8 = .ok (.newarray .int, 2) := by decide +kernel
theorem dX11_init_10 : decode cX11_init 10 = .ok (.putfield 7, 3) := by decide +kernel
theorem dX11_init_13 : decode cX11_init 13 = .ok (.aload_n 0, 1) := by decide +kernel
theorem dX11_init_14 : decode cX11_init 14 = .ok (.sipush 800, 3) := by decide +kernel
theorem dX11_init_17 : decode cX11_init 17 = .ok (.newarray .int, 2) := by decide +kernel
theorem dX11_init_19 : decode cX11_init 19 = .ok (.putfield 13, 3) := by decide +kernel
theorem dX11_init_22 : decode cX11_init 22 = .ok (.aload_n 0, 1) := by decide +kernel
theorem dX11_init_23 : decode cX11_init 23 = .ok (.sipush 400, 3) := by decide +kernel
theorem dX11_init_26 : decode cX11_init 26 = .ok (.newarray .int, 2) := by decide +kernel
theorem dX11_init_28 : decode cX11_init 28 = .ok (.putfield 16, 3) := by decide +kernel
theorem dX11_init_31 : decode cX11_init 31 = .ok (.aload_n 0, 1) := by decide +kernel
theorem dX11_init_32 : decode cX11_init 32 = .ok (.iconst 3, 1) := by decide +kernel
theorem dX11_init_33 : decode cX11_init 33 = .ok (.newarray .boolean, 2) := by decide +kernel
theorem dX11_init_35 : decode cX11_init 35 = .ok (.putfield 19, 3) := by decide +kernel
theorem dX11_init_38 : decode cX11_init 38 = .ok (.aload_n 0, 1) := by decide +kernel
theorem dX11_init_39 : decode cX11_init 39 = .ok (.iconst (-1), 1) := by decide +kernel
theorem dX11_init_40 : decode cX11_init 40 = .ok (.putfield 23, 3) := by decide +kernel
theorem dX11_init_43 : decode cX11_init 43 = .ok (.aload_n 0, 1) := by decide +kernel
theorem dX11_init_44 : decode cX11_init 44 = .ok (.bipush 64, 2) := by decide +kernel
theorem dX11_init_46 : decode cX11_init 46 = .ok (.newarray .int, 2) := by decide +kernel
theorem dX11_init_48 : decode cX11_init 48 = .ok (.putfield 27, 3) := by decide +kernel
theorem dX11_init_51 : decode cX11_init 51 = .ok (.aload_n 0, 1) := by decide +kernel
theorem dX11_init_52 : decode cX11_init 52 = .ok (.bipush 8, 2) := by decide +kernel
theorem dX11_init_54 : decode cX11_init 54 = .ok (.newarray .int, 2) := by decide +kernel
theorem dX11_init_56 : decode cX11_init 56 = .ok (.putfield 30, 3) := by decide +kernel
theorem dX11_init_59 : decode cX11_init 59 = .ok (.aload_n 0, 1) := by decide +kernel
theorem dX11_init_60 : decode cX11_init 60 = .ok (.iconst 0, 1) := by decide +kernel
theorem dX11_init_61 : decode cX11_init 61 = .ok (.invokevirtual 33, 3) := by decide +kernel
theorem dX11_init_64 : decode cX11_init 64 = .ok (.return_, 1) := by decide +kernel
theorem dX11_empties_0 : decode cX11_empties 0 = .ok (.iconst 0, 1) := by decide +kernel
theorem dX11_empties_1 : decode cX11_empties 1 = .ok (.istore_n 2, 1) := by decide +kernel
theorem dX11_empties_2 : decode cX11_empties 2 = .ok (.iload_n 2, 1) := by decide +kernel
theorem dX11_empties_3 : decode cX11_empties 3 = .ok (.sipush 976, 3) := by decide +kernel
theorem dX11_empties_6 : decode cX11_empties 6 = .ok (.if_icmp .ge 18, 3) := by decide +kernel
theorem dX11_empties_9 : decode cX11_empties 9 = .ok (.aload_n 0, 1) := by decide +kernel
theorem dX11_empties_10 : decode cX11_empties 10 = .ok (.getfield 7, 3) := by decide +kernel
theorem dX11_empties_13 : decode cX11_empties 13 = .ok (.iload_n 1, 1) := by decide +kernel
theorem dX11_empties_14 : decode cX11_empties 14 = .ok (.iload_n 2, 1) := by decide +kernel
theorem dX11_empties_15 : decode cX11_empties 15 = .ok (.iadd, 1) := by decide +kernel
theorem dX11_empties_16 : decode cX11_empties 16 = .ok (.iconst 0, 1) := by decide +kernel
theorem dX11_empties_17 : decode cX11_empties 17 = .ok (.iastore, 1) := by decide +kernel
theorem dX11_empties_18 : decode cX11_empties 18 = .ok (.iinc 2 1, 3) := by decide +kernel
theorem dX11_empties_21 : decode cX11_empties 21 = .ok (.goto (-19), 3) := by decide +kernel
theorem dX11_empties_24 : decode cX11_empties 24 = .ok (.iconst 0, 1) := by decide +kernel
theorem dX11_empties_25 : decode cX11_empties 25 = .ok (.istore_n 2, 1) := by decide +kernel
theorem dX11_empties_26 : decode cX11_empties 26 = .ok (.iload_n 2, 1) := by decide +kernel
theorem dX11_empties_27 : decode cX11_empties 27 = .ok (.bipush 8, 2) := by decide +kernel
theorem dX11_empties_29 : decode cX11_empties 29 = .ok (.if_icmp .ge 23, 3) := by decide +kernel
theorem dX11_empties_32 : decode cX11_empties 32 = .ok (.aload_n 0, 1) := by decide +kernel
theorem dX11_empties_33 : decode cX11_empties 33 = .ok (.getfield 7, 3) := by decide +kernel
theorem dX11_empties_36 : decode cX11_empties 36 = .ok (.iload_n 1, 1) := by decide +kernel
theorem dX11_empties_37 : decode cX11_empties 37 = .ok (.bipush 122, 2) := by decide +kernel
theorem dX11_empties_39 : decode cX11_empties 39 = .ok (.iload_n 2, 1) := by decide +kernel
theorem dX11_empties_40 : decode cX11_empties 40 = .ok (.imul, 1) := by decide +kernel
theorem dX11_empties_41 : decode cX11_empties 41 = .ok (.iadd, 1) := by decide +kernel
theorem dX11_empties_42 : decode cX11_empties 42 = .ok (.iconst 1, 1) := by decide +kernel
theorem dX11_empties_43 : decode cX11_empties 43 = .ok (.iadd, 1) := by decide +kernel
theorem dX11_empties_44 : decode cX11_empties 44 = .ok (.iconst (-1), 1) := by decide +kernel
theorem dX11_empties_45 : decode cX11_empties 45 = .ok (.iastore, 1) := by decide +kernel
theorem dX11_empties_46 : decode cX11_empties 46 = .ok (.iinc 2 1, 3) := by decide +kernel
theorem dX11_empties_49 : decode cX11_empties 49 = .ok (.goto (-23), 3) := by decide +kernel
theorem dX11_empties_52 : decode cX11_empties 52 = .ok (.return_, 1) := by decide +kernel
theorem dX11_isIn_0 : decode cX11_isIn 0 = .ok (.iload_n 0, 1) := by decide +kernel
theorem dX11_isIn_1 : decode cX11_isIn 1 = .ok (.iload_n 1, 1) := by decide +kernel
theorem dX11_isIn_2 : decode cX11_isIn 2 = .ok (.if_icmp .lt 12, 3) := by decide +kernel
theorem dX11_isIn_5 : decode cX11_isIn 5 = .ok (.iload_n 0, 1) := by decide +kernel
theorem dX11_isIn_6 : decode cX11_isIn 6 = .ok (.iload_n 2, 1) := by decide +kernel
theorem dX11_isIn_7 : decode cX11_isIn 7 = .ok (.if_icmp .gt 7, 3) := by decide +kernel
theorem dX11_isIn_10 : decode cX11_isIn 10 = .ok (.iconst 1, 1) := by decide +kernel
theorem dX11_isIn_11 : decode cX11_isIn 11 = .ok (.goto 4, 3) := by decide +kernel
theorem dX11_isIn_14 : decode cX11_isIn 14 = .ok (.iconst 0, 1) := by decide +kernel
theorem dX11_isIn_15 : decode cX11_isIn 15 = .ok (.ireturn, 1) := by decide +kernel
theorem dX11_copies_0 : decode cX11_copies 0 = .ok (.iconst 0, 1) := by decide +kernel
theorem dX11_copies_1 : decode cX11_copies 1 = .ok (.istore 4, 2) := by decide +kernel
theorem dX11_copies_3 : decode cX11_copies 3 = .ok (.iload 4, 2) := by decide +kernel
theorem dX11_copies_5 : decode cX11_copies 5 = .ok (.iload_n 3, 1) := by decide +kernel
theorem dX11_copies_6 : decode cX11_copies 6 = .ok (.if_icmp .ge 27, 3) := by decide +kernel
theorem dX11_copies_9 : decode cX11_copies 9 = .ok (.aload_n 0, 1) := by decide +kernel
theorem dX11_copies_10 : decode cX11_copies 10 = .ok (.getfield 7, 3) := by decide +kernel
theorem dX11_copies_13 : decode cX11_copies 13 = .ok (.iload_n 2, 1) := by decide +kernel
theorem dX11_copies_14 : decode cX11_copies 14 = .ok (.iload 4, 2) := by decide +kernel
theorem dX11_copies_16 : decode cX11_copies 16 = .ok (.iadd, 1) := by decide +kernel
theorem dX11_copies_17 : decode cX11_copies 17 = .ok (.aload_n 0, 1) := by decide +kernel
theorem dX11_copies_18 : decode cX11_copies 18 = .ok (.getfield 7, 3) := by decide +kernel
theorem dX11_copies_21 : decode cX11_copies 21 = .ok (.iload_n 1, 1) := by decide +kernel
theorem dX11_copies_22 : decode cX11_copies 22 = .ok (.iload 4, 2) := by decide +kernel
theorem dX11_copies_24 : decode cX11_copies 24 = .ok (.iadd, 1) := by decide +kernel
theorem dX11_copies_25 : decode cX11_copies 25 = .ok (.iaload, 1) := by decide +kernel
theorem dX11_copies_26 : decode cX11_copies 26 = .ok (.iastore, 1) := by decide +kernel
theorem dX11_copies_27 : decode cX11_copies 27 = .ok (.iinc 4 1, 3) := by decide +kernel
theorem dX11_copies_30 : decode cX11_copies 30 = .ok (.goto (-27), 3) := by decide +kernel
theorem dX11_copies_33 : decode cX11_copies 33 = .ok (.return_, 1) := by decide +kernel
theorem dX11_isSet_0 : decode cX11_isSet 0 = .ok (.iload_n 0, 1) := by decide +kernel
theorem dX11_isSet_1 : decode cX11_isSet 1 = .ok (.iconst 0, 1) := by decide +kernel
theorem dX11_isSet_2 : decode cX11_isSet 2 = .ok (.bipush 7, 2) := by decide +kernel
theorem dX11_isSet_4 : decode cX11_isSet 4 = .ok (.invokestatic 37, 3) := by decide +kernel
theorem dX11_isSet_7 : decode cX11_isSet 7 = .ok (.ireturn, 1) := by decide +kernel
theorem dX11_isKey_0 : decode cX11_isKey 0 = .ok (.iload_n 0, 1) := by decide +kernel
theorem dX11_isKey_1 : decode cX11_isKey 1 = .ok (.iconst 0, 1) := by decide +kernel
theorem dX11_isKey_2 : decode cX11_isKey 2 = .ok (.sipush 9999, 3) := by decide +kernel
theorem dX11_isKey_5 : decode cX11_isKey 5 = .ok (.invokestatic 37, 3) := by decide +kernel
theorem dX11_isKey_8 : decode cX11_isKey 8 = .ok (.ireturn, 1) := by decide +kernel
theorem dX11_many_0 : decode cX11_many 0 = .ok (.aload_n 0, 1) := by decide +kernel
theorem dX11_many_1 : decode cX11_many 1 = .ok (.getfield 7, 3) := by decide +kernel
theorem dX11_many_4 : decode cX11_many 4 = .ok (.aload_n 0, 1) := by decide +kernel
theorem dX11_many_5 : decode cX11_many 5 = .ok (.getfield 41, 3) := by decide +kernel
theorem dX11_many_8 : decode cX11_many 8 = .ok (.bipush 122, 2) := by decide +kernel
theorem dX11_many_10 : decode cX11_many 10 = .ok (.iload_n 1, 1) := by decide +kernel
theorem dX11_many_11 : decode cX11_many 11 = .ok (.imul, 1) := by decide +kernel
theorem dX11_many_12 : decode cX11_many 12 = .ok (.iadd, 1) := by decide +kernel
theorem dX11_many_13 : decode cX11_many 13 = .ok (.iaload, 1) := by decide +kernel
theorem dX11_many_14 : decode cX11_many 14 = .ok (.ireturn, 1) := by decide +kernel
theorem dX11_keyAt_0 : decode cX11_keyAt 0 = .ok (.aload_n 0, 1) := by decide +kernel
theorem dX11_keyAt_1 : decode cX11_keyAt 1 = .ok (.getfield 7, 3) := by decide +kernel
theorem dX11_keyAt_4 : decode cX11_keyAt 4 = .ok (.aload_n 0, 1) := by decide +kernel
theorem dX11_keyAt_5 : decode cX11_keyAt 5 = .ok (.getfield 41, 3) := by decide +kernel
theorem dX11_keyAt_8 : decode cX11_keyAt 8 = .ok (.bipush 122, 2) := by decide +kernel
theorem dX11_keyAt_10 : decode cX11_keyAt 10 = .ok (.iload_n 1, 1) := by decide +kernel
theorem dX11_keyAt_11 : decode cX11_keyAt 11 = .ok (.imul, 1) := by decide +kernel
theorem dX11_keyAt_12 : decode cX11_keyAt 12 = .ok (.iadd, 1) := by decide +kernel
theorem dX11_keyAt_13 : decode cX11_keyAt 13 = .ok (.iconst 2, 1) := by decide +kernel
theorem dX11_keyAt_14 : decode cX11_keyAt 14 = .ok (.iadd, 1) := by decide +kernel
theorem dX11_keyAt_15 : decode cX11_keyAt 15 = .ok (.iload_n 2, 1) := by decide +kernel
theorem dX11_keyAt_16 : decode cX11_keyAt 16 = .ok (.iadd, 1) := by decide +kernel
theorem dX11_keyAt_17 : decode cX11_keyAt 17 = .ok (.iaload, 1) := by decide +kernel
theorem dX11_keyAt_18 : decode cX11_keyAt 18 = .ok (.ireturn, 1) := by decide +kernel
theorem dX11_markAt_0 : decode cX11_markAt 0 = .ok (.aload_n 0, 1) := by decide +kernel
theorem dX11_markAt_1 : decode cX11_markAt 1 = .ok (.getfield 7, 3) := by decide +kernel
theorem dX11_markAt_4 : decode cX11_markAt 4 = .ok (.aload_n 0, 1) := by decide +kernel
theorem dX11_markAt_5 : decode cX11_markAt 5 = .ok (.getfield 41, 3) := by decide +kernel
theorem dX11_markAt_8 : decode cX11_markAt 8 = .ok (.bipush 122, 2) := by decide +kernel
theorem dX11_markAt_10 : decode cX11_markAt 10 = .ok (.iload_n 1, 1) := by decide +kernel
theorem dX11_markAt_11 : decode cX11_markAt 11 = .ok (.imul, 1) := by decide +kernel
theorem dX11_markAt_12 : decode cX11_markAt 12 = .ok (.iadd, 1) := by decide +kernel
theorem dX11_markAt_13 : decode cX11_markAt 13 = .ok (.bipush 62, 2) := by decide +kernel
theorem dX11_markAt_15 : decode cX11_markAt 15 = .ok (.iadd, 1) := by decide +kernel
theorem dX11_markAt_16 : decode cX11_markAt 16 = .ok (.iload_n 2, 1) := by decide +kernel
theorem dX11_markAt_17 : decode cX11_markAt 17 = .ok (.iadd, 1) := by decide +kernel
theorem dX11_markAt_18 : decode cX11_markAt 18 = .ok (.iaload, 1) := by decide +kernel
theorem dX11_markAt_19 : decode cX11_markAt 19 = .ok (.ireturn, 1) := by decide +kernel
theorem dX11_finger_0 : decode cX11_finger 0 = .ok (.aload_n 0, 1) := by decide +kernel
theorem dX11_finger_1 : decode cX11_finger 1 = .ok (.getfield 7, 3) := by decide +kernel
theorem dX11_finger_4 : decode cX11_finger 4 = .ok (.aload_n 0, 1) := by decide +kernel
theorem dX11_finger_5 : decode cX11_finger 5 = .ok (.getfield 41, 3) := by decide +kernel
theorem dX11_finger_8 : decode cX11_finger 8 = .ok (.bipush 122, 2) := by decide +kernel
theorem dX11_finger_10 : decode cX11_finger 10 = .ok (.iload_n 1, 1) := by decide +kernel
theorem dX11_finger_11 : decode cX11_finger 11 = .ok (.imul, 1) := by decide +kernel
theorem dX11_finger_12 : decode cX11_finger 12 = .ok (.iadd, 1) := by decide +kernel
theorem dX11_finger_13 : decode cX11_finger 13 = .ok (.iconst 1, 1) := by decide +kernel
theorem dX11_finger_14 : decode cX11_finger 14 = .ok (.iadd, 1) := by decide +kernel
theorem dX11_finger_15 : decode cX11_finger 15 = .ok (.iaload, 1) := by decide +kernel
theorem dX11_finger_16 : decode cX11_finger 16 = .ok (.ireturn, 1) := by decide +kernel
theorem dX11_points_0 : decode cX11_points 0 = .ok (.aload_n 0, 1) := by decide +kernel
theorem dX11_points_1 : decode cX11_points 1 = .ok (.getfield 7, 3) := by decide +kernel
theorem dX11_points_4 : decode cX11_points 4 = .ok (.aload_n 0, 1) := by decide +kernel
theorem dX11_points_5 : decode cX11_points 5 = .ok (.getfield 41, 3) := by decide +kernel
theorem dX11_points_8 : decode cX11_points 8 = .ok (.bipush 122, 2) := by decide +kernel
theorem dX11_points_10 : decode cX11_points 10 = .ok (.iload_n 1, 1) := by decide +kernel
theorem dX11_points_11 : decode cX11_points 11 = .ok (.imul, 1) := by decide +kernel
theorem dX11_points_12 : decode cX11_points 12 = .ok (.iadd, 1) := by decide +kernel
theorem dX11_points_13 : decode cX11_points 13 = .ok (.iconst 1, 1) := by decide +kernel
theorem dX11_points_14 : decode cX11_points 14 = .ok (.iadd, 1) := by decide +kernel
theorem dX11_points_15 : decode cX11_points 15 = .ok (.iload_n 2, 1) := by decide +kernel
theorem dX11_points_16 : decode cX11_points 16 = .ok (.iastore, 1) := by decide +kernel
theorem dX11_points_17 : decode cX11_points 17 = .ok (.return_, 1) := by decide +kernel
theorem dX11_below_0 : decode cX11_below 0 = .ok (.iconst 0, 1) := by decide +kernel
theorem dX11_below_1 : decode cX11_below 1 = .ok (.istore_n 3, 1) := by decide +kernel
theorem dX11_below_2 : decode cX11_below 2 = .ok (.iload_n 3, 1) := by decide +kernel
theorem dX11_below_3 : decode cX11_below 3 = .ok (.aload_n 0, 1) := by decide +kernel
theorem dX11_below_4 : decode cX11_below 4 = .ok (.iload_n 1, 1) := by decide +kernel
theorem dX11_below_5 : decode cX11_below 5 = .ok (.invokevirtual 44, 3) := by decide +kernel
theorem dX11_below_8 : decode cX11_below 8 = .ok (.if_icmp .ge 19, 3) := by decide +kernel
theorem dX11_below_11 : decode cX11_below 11 = .ok (.aload_n 0, 1) := by decide +kernel
theorem dX11_below_12 : decode cX11_below 12 = .ok (.iload_n 1, 1) := by decide +kernel
theorem dX11_below_13 : decode cX11_below 13 = .ok (.iload_n 3, 1) := by decide +kernel
theorem dX11_below_14 : decode cX11_below 14 = .ok (.invokevirtual 48, 3) := by decide +kernel
theorem dX11_below_17 : decode cX11_below 17 = .ok (.iload_n 2, 1) := by decide +kernel
theorem dX11_below_18 : decode cX11_below 18 = .ok (.if_icmp .ge 9, 3) := by decide +kernel
theorem dX11_below_21 : decode cX11_below 21 = .ok (.iinc 3 1, 3) := by decide +kernel
theorem dX11_below_24 : decode cX11_below 24 = .ok (.goto (-22), 3) := by decide +kernel
theorem dX11_below_27 : decode cX11_below 27 = .ok (.iload_n 3, 1) := by decide +kernel
theorem dX11_below_28 : decode cX11_below 28 = .ok (.ireturn, 1) := by decide +kernel
theorem dX11_placeOf_0 : decode cX11_placeOf 0 = .ok (.aload_n 0, 1) := by decide +kernel
theorem dX11_placeOf_1 : decode cX11_placeOf 1 = .ok (.iload_n 1, 1) := by decide +kernel
theorem dX11_placeOf_2 : decode cX11_placeOf 2 = .ok (.iload_n 2, 1) := by decide +kernel
theorem dX11_placeOf_3 : decode cX11_placeOf 3 = .ok (.invokevirtual 52, 3) := by decide +kernel
theorem dX11_placeOf_6 : decode cX11_placeOf 6 = .ok (.istore_n 3, 1) := by decide +kernel
theorem dX11_placeOf_7 : decode cX11_placeOf 7 = .ok (.iload_n 3, 1) := by decide +kernel
theorem dX11_placeOf_8 : decode cX11_placeOf 8 = .ok (.aload_n 0, 1) := by decide +kernel
theorem dX11_placeOf_9 : decode cX11_placeOf 9 = .ok (.iload_n 1, 1) := by decide +kernel
theorem dX11_placeOf_10 : decode cX11_placeOf 10 = .ok (.invokevirtual 44, 3) := by decide +kernel
theorem dX11_placeOf_13 : decode cX11_placeOf 13 = .ok (.if_icmp .ge 17, 3) := by decide +kernel
theorem dX11_placeOf_16 : decode cX11_placeOf 16 = .ok (.aload_n 0, 1) := by decide +kernel
theorem dX11_placeOf_17 : decode cX11_placeOf 17 = .ok (.iload_n 1, 1) := by decide +kernel
theorem dX11_placeOf_18 : decode cX11_placeOf 18 = .ok (.iload_n 3, 1) := by decide +kernel
theorem dX11_placeOf_19 : decode cX11_placeOf 19 = .ok (.invokevirtual 48, 3) := by decide +kernel
theorem dX11_placeOf_22 : decode cX11_placeOf 22 = .ok (.iload_n 2, 1) := by decide +kernel
theorem dX11_placeOf_23 : decode cX11_placeOf 23 = .ok (.if_icmp .ne 7, 3) := by decide +kernel
theorem dX11_placeOf_26 : decode cX11_placeOf 26 = .ok (.iload_n 3, 1) := by decide +kernel
theorem dX11_placeOf_27 : decode cX11_placeOf 27 = .ok (.goto 4, 3) := by decide +kernel
theorem dX11_placeOf_30 : decode cX11_placeOf 30 = .ok (.iconst (-1), 1) := by decide +kernel
theorem dX11_placeOf_31 : decode cX11_placeOf 31 = .ok (.ireturn, 1) := by decide +kernel
theorem dX11_puts_0 : decode cX11_puts 0 = .ok (.aload_n 0, 1) := by decide +kernel
theorem dX11_puts_1 : decode cX11_puts 1 = .ok (.iload_n 1, 1) := by decide +kernel
theorem dX11_puts_2 : decode cX11_puts 2 = .ok (.iload_n 2, 1) := by decide +kernel
theorem dX11_puts_3 : decode cX11_puts 3 = .ok (.invokevirtual 52, 3) := by decide +kernel
theorem dX11_puts_6 : decode cX11_puts 6 = .ok (.istore 4, 2) := by decide +kernel
theorem dX11_puts_8 : decode cX11_puts 8 = .ok (.aload_n 0, 1) := by decide +kernel
theorem dX11_puts_9 : decode cX11_puts 9 = .ok (.getfield 41, 3) := by decide +kernel
theorem dX11_puts_12 : decode cX11_puts 12 = .ok (.bipush 122, 2) := by decide +kernel
theorem dX11_puts_14 : decode cX11_puts 14 = .ok (.iload_n 1, 1) := by decide +kernel
theorem dX11_puts_15 : decode cX11_puts 15 = .ok (.imul, 1) := by decide +kernel
theorem dX11_puts_16 : decode cX11_puts 16 = .ok (.iadd, 1) := by decide +kernel
theorem dX11_puts_17 : decode cX11_puts 17 = .ok (.istore 5, 2) := by decide +kernel
theorem dX11_puts_19 : decode cX11_puts 19 = .ok (.aload_n 0, 1) := by decide +kernel
theorem dX11_puts_20 : decode cX11_puts 20 = .ok (.iload_n 1, 1) := by decide +kernel
theorem dX11_puts_21 : decode cX11_puts 21 = .ok (.invokevirtual 44, 3) := by decide +kernel
theorem dX11_puts_24 : decode cX11_puts 24 = .ok (.istore 6, 2) := by decide +kernel
theorem dX11_puts_26 : decode cX11_puts 26 = .ok (.iload 6, 2) := by decide +kernel
theorem dX11_puts_28 : decode cX11_puts 28 = .ok (.iload 4, 2) := by decide +kernel
theorem dX11_puts_30 : decode cX11_puts 30 = .ok (.if_icmp .le 63, 3) := by decide +kernel
theorem dX11_puts_33 : decode cX11_puts 33 = .ok (.aload_n 0, 1) := by decide +kernel
theorem dX11_puts_34 : decode cX11_puts 34 = .ok (.getfield 7, 3) := by decide +kernel
theorem dX11_puts_37 : decode cX11_puts 37 = .ok (.iload 5, 2) := by decide +kernel
theorem dX11_puts_39 : decode cX11_puts 39 = .ok (.iconst 2, 1) := by decide +kernel
theorem dX11_puts_40 : decode cX11_puts 40 = .ok (.iadd, 1) := by decide +kernel
theorem dX11_puts_41 : decode cX11_puts 41 = .ok (.iload 6, 2) := by decide +kernel
theorem dX11_puts_43 : decode cX11_puts 43 = .ok (.iadd, 1) := by decide +kernel
theorem dX11_puts_44 : decode cX11_puts 44 = .ok (.aload_n 0, 1) := by decide +kernel
theorem dX11_puts_45 : decode cX11_puts 45 = .ok (.getfield 7, 3) := by decide +kernel
theorem dX11_puts_48 : decode cX11_puts 48 = .ok (.iload 5, 2) := by decide +kernel
theorem dX11_puts_50 : decode cX11_puts 50 = .ok (.iconst 2, 1) := by decide +kernel
theorem dX11_puts_51 : decode cX11_puts 51 = .ok (.iadd, 1) := by decide +kernel
theorem dX11_puts_52 : decode cX11_puts 52 = .ok (.iload 6, 2) := by decide +kernel
theorem dX11_puts_54 : decode cX11_puts 54 = .ok (.iadd, 1) := by decide +kernel
theorem dX11_puts_55 : decode cX11_puts 55 = .ok (.iconst 1, 1) := by decide +kernel
theorem dX11_puts_56 : decode cX11_puts 56 = .ok (.isub, 1) := by decide +kernel
theorem dX11_puts_57 : decode cX11_puts 57 = .ok (.iaload, 1) := by decide +kernel
theorem dX11_puts_58 : decode cX11_puts 58 = .ok (.iastore, 1) := by decide +kernel
theorem dX11_puts_59 : decode cX11_puts 59 = .ok (.aload_n 0, 1) := by decide +kernel
theorem dX11_puts_60 : decode cX11_puts 60 = .ok (.getfield 7, 3) := by decide +kernel
theorem dX11_puts_63 : decode cX11_puts 63 = .ok (.iload 5, 2) := by decide +kernel
theorem dX11_puts_65 : decode cX11_puts 65 = .ok (.bipush 62, 2) := by decide +kernel
theorem dX11_puts_67 : decode cX11_puts 67 = .ok (.iadd, 1) := by decide +kernel
theorem dX11_puts_68 : decode cX11_puts 68 = .ok (.iload 6, 2) := by decide +kernel
theorem dX11_puts_70 : decode cX11_puts 70 = .ok (.iadd, 1) := by decide +kernel
theorem dX11_puts_71 : decode cX11_puts 71 = .ok (.aload_n 0, 1) := by decide +kernel
theorem dX11_puts_72 : decode cX11_puts 72 = .ok (.getfield 7, 3) := by decide +kernel
theorem dX11_puts_75 : decode cX11_puts 75 = .ok (.iload 5, 2) := by decide +kernel
theorem dX11_puts_77 : decode cX11_puts 77 = .ok (.bipush 62, 2) := by decide +kernel
theorem dX11_puts_79 : decode cX11_puts 79 = .ok (.iadd, 1) := by decide +kernel
theorem dX11_puts_80 : decode cX11_puts 80 = .ok (.iload 6, 2) := by decide +kernel
theorem dX11_puts_82 : decode cX11_puts 82 = .ok (.iadd, 1) := by decide +kernel
theorem dX11_puts_83 : decode cX11_puts 83 = .ok (.iconst 1, 1) := by decide +kernel
theorem dX11_puts_84 : decode cX11_puts 84 = .ok (.isub, 1) := by decide +kernel
theorem dX11_puts_85 : decode cX11_puts 85 = .ok (.iaload, 1) := by decide +kernel
theorem dX11_puts_86 : decode cX11_puts 86 = .ok (.iastore, 1) := by decide +kernel
theorem dX11_puts_87 : decode cX11_puts 87 = .ok (.iinc 6 (-1), 3) := by decide +kernel
theorem dX11_puts_90 : decode cX11_puts 90 = .ok (.goto (-64), 3) := by decide +kernel
theorem dX11_puts_93 : decode cX11_puts 93 = .ok (.aload_n 0, 1) := by decide +kernel
theorem dX11_puts_94 : decode cX11_puts 94 = .ok (.getfield 7, 3) := by decide +kernel
theorem dX11_puts_97 : decode cX11_puts 97 = .ok (.iload 5, 2) := by decide +kernel
theorem dX11_puts_99 : decode cX11_puts 99 = .ok (.iconst 2, 1) := by decide +kernel
theorem dX11_puts_100 : decode cX11_puts 100 = .ok (.iadd, 1) := by decide +kernel
theorem dX11_puts_101 : decode cX11_puts 101 = .ok (.iload 4, 2) := by decide +kernel
theorem dX11_puts_103 : decode cX11_puts 103 = .ok (.iadd, 1) := by decide +kernel
theorem dX11_puts_104 : decode cX11_puts 104 = .ok (.iload_n 2, 1) := by decide +kernel
theorem dX11_puts_105 : decode cX11_puts 105 = .ok (.iastore, 1) := by decide +kernel
theorem dX11_puts_106 : decode cX11_puts 106 = .ok (.aload_n 0, 1) := by decide +kernel
theorem dX11_puts_107 : decode cX11_puts 107 = .ok (.getfield 7, 3) := by decide +kernel
theorem dX11_puts_110 : decode cX11_puts 110 = .ok (.iload 5, 2) := by decide +kernel
theorem dX11_puts_112 : decode cX11_puts 112 = .ok (.bipush 62, 2) := by decide +kernel
theorem dX11_puts_114 : decode cX11_puts 114 = .ok (.iadd, 1) := by decide +kernel
theorem dX11_puts_115 : decode cX11_puts 115 = .ok (.iload 4, 2) := by decide +kernel
theorem dX11_puts_117 : decode cX11_puts 117 = .ok (.iadd, 1) := by decide +kernel
theorem dX11_puts_118 : decode cX11_puts 118 = .ok (.iload_n 3, 1) := by decide +kernel
theorem dX11_puts_119 : decode cX11_puts 119 = .ok (.iastore, 1) := by decide +kernel
theorem dX11_puts_120 : decode cX11_puts 120 = .ok (.aload_n 0, 1) := by decide +kernel
theorem dX11_puts_121 : decode cX11_puts 121 = .ok (.getfield 7, 3) := by decide +kernel
theorem dX11_puts_124 : decode cX11_puts 124 = .ok (.iload 5, 2) := by decide +kernel
theorem dX11_puts_126 : decode cX11_puts 126 = .ok (.dup2, 1) := by decide +kernel
theorem dX11_puts_127 : decode cX11_puts 127 = .ok (.iaload, 1) := by decide +kernel
theorem dX11_puts_128 : decode cX11_puts 128 = .ok (.iconst 1, 1) := by decide +kernel
theorem dX11_puts_129 : decode cX11_puts 129 = .ok (.iadd, 1) := by decide +kernel
theorem dX11_puts_130 : decode cX11_puts 130 = .ok (.iastore, 1) := by decide +kernel
theorem dX11_puts_131 : decode cX11_puts 131 = .ok (.aload_n 0, 1) := by decide +kernel
theorem dX11_puts_132 : decode cX11_puts 132 = .ok (.iload_n 1, 1) := by decide +kernel
theorem dX11_puts_133 : decode cX11_puts 133 = .ok (.iconst (-1), 1) := by decide +kernel
theorem dX11_puts_134 : decode cX11_puts 134 = .ok (.invokevirtual 55, 3) := by decide +kernel
theorem dX11_puts_137 : decode cX11_puts 137 = .ok (.return_, 1) := by decide +kernel
theorem dX11_drops_0 : decode cX11_drops 0 = .ok (.aload_n 0, 1) := by decide +kernel
theorem dX11_drops_1 : decode cX11_drops 1 = .ok (.getfield 41, 3) := by decide +kernel
theorem dX11_drops_4 : decode cX11_drops 4 = .ok (.bipush 122, 2) := by decide +kernel
theorem dX11_drops_6 : decode cX11_drops 6 = .ok (.iload_n 1, 1) := by decide +kernel
theorem dX11_drops_7 : decode cX11_drops 7 = .ok (.imul, 1) := by decide +kernel
theorem dX11_drops_8 : decode cX11_drops 8 = .ok (.iadd, 1) := by decide +kernel
theorem dX11_drops_9 : decode cX11_drops 9 = .ok (.istore_n 3, 1) := by decide +kernel
theorem dX11_drops_10 : decode cX11_drops 10 = .ok (.iload_n 2, 1) := by decide +kernel
theorem dX11_drops_11 : decode cX11_drops 11 = .ok (.istore 4, 2) := by decide +kernel
theorem dX11_drops_13 : decode cX11_drops 13 = .ok (.iload 4, 2) := by decide +kernel
theorem dX11_drops_15 : decode cX11_drops 15 = .ok (.iconst 1, 1) := by decide +kernel
theorem dX11_drops_16 : decode cX11_drops 16 = .ok (.iadd, 1) := by decide +kernel
theorem dX11_drops_17 : decode cX11_drops 17 = .ok (.aload_n 0, 1) := by decide +kernel
theorem dX11_drops_18 : decode cX11_drops 18 = .ok (.iload_n 1, 1) := by decide +kernel
theorem dX11_drops_19 : decode cX11_drops 19 = .ok (.invokevirtual 44, 3) := by decide +kernel
theorem dX11_drops_22 : decode cX11_drops 22 = .ok (.if_icmp .ge 59, 3) := by decide +kernel
theorem dX11_drops_25 : decode cX11_drops 25 = .ok (.aload_n 0, 1) := by decide +kernel
theorem dX11_drops_26 : decode cX11_drops 26 = .ok (.getfield 7, 3) := by decide +kernel
theorem dX11_drops_29 : decode cX11_drops 29 = .ok (.iload_n 3, 1) := by decide +kernel
theorem dX11_drops_30 : decode cX11_drops 30 = .ok (.iconst 2, 1) := by decide +kernel
theorem dX11_drops_31 : decode cX11_drops 31 = .ok (.iadd, 1) := by decide +kernel
theorem dX11_drops_32 : decode cX11_drops 32 = .ok (.iload 4, 2) := by decide +kernel
theorem dX11_drops_34 : decode cX11_drops 34 = .ok (.iadd, 1) := by decide +kernel
theorem dX11_drops_35 : decode cX11_drops 35 = .ok (.aload_n 0, 1) := by decide +kernel
theorem dX11_drops_36 : decode cX11_drops 36 = .ok (.getfield 7, 3) := by decide +kernel
theorem dX11_drops_39 : decode cX11_drops 39 = .ok (.iload_n 3, 1) := by decide +kernel
theorem dX11_drops_40 : decode cX11_drops 40 = .ok (.iconst 2, 1) := by decide +kernel
theorem dX11_drops_41 : decode cX11_drops 41 = .ok (.iadd, 1) := by decide +kernel
theorem dX11_drops_42 : decode cX11_drops 42 = .ok (.iload 4, 2) := by decide +kernel
theorem dX11_drops_44 : decode cX11_drops 44 = .ok (.iadd, 1) := by decide +kernel
theorem dX11_drops_45 : decode cX11_drops 45 = .ok (.iconst 1, 1) := by decide +kernel
theorem dX11_drops_46 : decode cX11_drops 46 = .ok (.iadd, 1) := by decide +kernel
theorem dX11_drops_47 : decode cX11_drops 47 = .ok (.iaload, 1) := by decide +kernel
theorem dX11_drops_48 : decode cX11_drops 48 = .ok (.iastore, 1) := by decide +kernel
theorem dX11_drops_49 : decode cX11_drops 49 = .ok (.aload_n 0, 1) := by decide +kernel
theorem dX11_drops_50 : decode cX11_drops 50 = .ok (.getfield 7, 3) := by decide +kernel
theorem dX11_drops_53 : decode cX11_drops 53 = .ok (.iload_n 3, 1) := by decide +kernel
theorem dX11_drops_54 : decode cX11_drops 54 = .ok (.bipush 62, 2) := by decide +kernel
theorem dX11_drops_56 : decode cX11_drops 56 = .ok (.iadd, 1) := by decide +kernel
theorem dX11_drops_57 : decode cX11_drops 57 = .ok (.iload 4, 2) := by decide +kernel
theorem dX11_drops_59 : decode cX11_drops 59 = .ok (.iadd, 1) := by decide +kernel
theorem dX11_drops_60 : decode cX11_drops 60 = .ok (.aload_n 0, 1) := by decide +kernel
theorem dX11_drops_61 : decode cX11_drops 61 = .ok (.getfield 7, 3) := by decide +kernel
theorem dX11_drops_64 : decode cX11_drops 64 = .ok (.iload_n 3, 1) := by decide +kernel
theorem dX11_drops_65 : decode cX11_drops 65 = .ok (.bipush 62, 2) := by decide +kernel
theorem dX11_drops_67 : decode cX11_drops 67 = .ok (.iadd, 1) := by decide +kernel
theorem dX11_drops_68 : decode cX11_drops 68 = .ok (.iload 4, 2) := by decide +kernel
theorem dX11_drops_70 : decode cX11_drops 70 = .ok (.iadd, 1) := by decide +kernel
theorem dX11_drops_71 : decode cX11_drops 71 = .ok (.iconst 1, 1) := by decide +kernel
theorem dX11_drops_72 : decode cX11_drops 72 = .ok (.iadd, 1) := by decide +kernel
theorem dX11_drops_73 : decode cX11_drops 73 = .ok (.iaload, 1) := by decide +kernel
theorem dX11_drops_74 : decode cX11_drops 74 = .ok (.iastore, 1) := by decide +kernel
theorem dX11_drops_75 : decode cX11_drops 75 = .ok (.iinc 4 1, 3) := by decide +kernel
theorem dX11_drops_78 : decode cX11_drops 78 = .ok (.goto (-65), 3) := by decide +kernel
theorem dX11_drops_81 : decode cX11_drops 81 = .ok (.aload_n 0, 1) := by decide +kernel
theorem dX11_drops_82 : decode cX11_drops 82 = .ok (.getfield 7, 3) := by decide +kernel
theorem dX11_drops_85 : decode cX11_drops 85 = .ok (.iload_n 3, 1) := by decide +kernel
theorem dX11_drops_86 : decode cX11_drops 86 = .ok (.dup2, 1) := by decide +kernel
theorem dX11_drops_87 : decode cX11_drops 87 = .ok (.iaload, 1) := by decide +kernel
theorem dX11_drops_88 : decode cX11_drops 88 = .ok (.iconst 1, 1) := by decide +kernel
theorem dX11_drops_89 : decode cX11_drops 89 = .ok (.isub, 1) := by decide +kernel
theorem dX11_drops_90 : decode cX11_drops 90 = .ok (.iastore, 1) := by decide +kernel
theorem dX11_drops_91 : decode cX11_drops 91 = .ok (.aload_n 0, 1) := by decide +kernel
theorem dX11_drops_92 : decode cX11_drops 92 = .ok (.iload_n 1, 1) := by decide +kernel
theorem dX11_drops_93 : decode cX11_drops 93 = .ok (.iconst (-1), 1) := by decide +kernel
theorem dX11_drops_94 : decode cX11_drops 94 = .ok (.invokevirtual 55, 3) := by decide +kernel
theorem dX11_drops_97 : decode cX11_drops 97 = .ok (.return_, 1) := by decide +kernel
theorem dX11_total_0 : decode cX11_total 0 = .ok (.iconst 0, 1) := by decide +kernel
theorem dX11_total_1 : decode cX11_total 1 = .ok (.istore_n 1, 1) := by decide +kernel
theorem dX11_total_2 : decode cX11_total 2 = .ok (.iconst 0, 1) := by decide +kernel
theorem dX11_total_3 : decode cX11_total 3 = .ok (.istore_n 2, 1) := by decide +kernel
theorem dX11_total_4 : decode cX11_total 4 = .ok (.iload_n 2, 1) := by decide +kernel
theorem dX11_total_5 : decode cX11_total 5 = .ok (.bipush 8, 2) := by decide +kernel
theorem dX11_total_7 : decode cX11_total 7 = .ok (.if_icmp .ge 17, 3) := by decide +kernel
theorem dX11_total_10 : decode cX11_total 10 = .ok (.iload_n 1, 1) := by decide +kernel
theorem dX11_total_11 : decode cX11_total 11 = .ok (.aload_n 0, 1) := by decide +kernel
theorem dX11_total_12 : decode cX11_total 12 = .ok (.iload_n 2, 1) := by decide +kernel
theorem dX11_total_13 : decode cX11_total 13 = .ok (.invokevirtual 44, 3) := by decide +kernel
theorem dX11_total_16 : decode cX11_total 16 = .ok (.iadd, 1) := by decide +kernel
theorem dX11_total_17 : decode cX11_total 17 = .ok (.istore_n 1, 1) := by decide +kernel
theorem dX11_total_18 : decode cX11_total 18 = .ok (.iinc 2 1, 3) := by decide +kernel
theorem dX11_total_21 : decode cX11_total 21 = .ok (.goto (-17), 3) := by decide +kernel
theorem dX11_total_24 : decode cX11_total 24 = .ok (.iload_n 1, 1) := by decide +kernel
theorem dX11_total_25 : decode cX11_total 25 = .ok (.ireturn, 1) := by decide +kernel
theorem dX11_twins_0 : decode cX11_twins 0 = .ok (.iconst 0, 1) := by decide +kernel
theorem dX11_twins_1 : decode cX11_twins 1 = .ok (.istore_n 3, 1) := by decide +kernel
theorem dX11_twins_2 : decode cX11_twins 2 = .ok (.iconst 0, 1) := by decide +kernel
theorem dX11_twins_3 : decode cX11_twins 3 = .ok (.istore 4, 2) := by decide +kernel
theorem dX11_twins_5 : decode cX11_twins 5 = .ok (.iload 4, 2) := by decide +kernel
theorem dX11_twins_7 : decode cX11_twins 7 = .ok (.aload_n 0, 1) := by decide +kernel
theorem dX11_twins_8 : decode cX11_twins 8 = .ok (.iload_n 2, 1) := by decide +kernel
theorem dX11_twins_9 : decode cX11_twins 9 = .ok (.invokevirtual 44, 3) := by decide +kernel
theorem dX11_twins_12 : decode cX11_twins 12 = .ok (.if_icmp .ge 33, 3) := by decide +kernel
theorem dX11_twins_15 : decode cX11_twins 15 = .ok (.iload_n 3, 1) := by decide +kernel
theorem dX11_twins_16 : decode cX11_twins 16 = .ok (.aload_n 0, 1) := by decide +kernel
theorem dX11_twins_17 : decode cX11_twins 17 = .ok (.iload_n 1, 1) := by decide +kernel
theorem dX11_twins_18 : decode cX11_twins 18 = .ok (.aload_n 0, 1) := by decide +kernel
theorem dX11_twins_19 : decode cX11_twins 19 = .ok (.iload_n 2, 1) := by decide +kernel
theorem dX11_twins_20 : decode cX11_twins 20 = .ok (.iload 4, 2) := by decide +kernel
theorem dX11_twins_22 : decode cX11_twins 22 = .ok (.invokevirtual 48, 3) := by decide +kernel
theorem dX11_twins_25 : decode cX11_twins 25 = .ok (.invokevirtual 59, 3) := by decide +kernel
theorem dX11_twins_28 : decode cX11_twins 28 = .ok (.iconst (-1), 1) := by decide +kernel
theorem dX11_twins_29 : decode cX11_twins 29 = .ok (.if_icmp .eq 7, 3) := by decide +kernel
theorem dX11_twins_32 : decode cX11_twins 32 = .ok (.iconst 1, 1) := by decide +kernel
theorem dX11_twins_33 : decode cX11_twins 33 = .ok (.goto 4, 3) := by decide +kernel
theorem dX11_twins_36 : decode cX11_twins 36 = .ok (.iconst 0, 1) := by decide +kernel
theorem dX11_twins_37 : decode cX11_twins 37 = .ok (.iadd, 1) := by decide +kernel
theorem dX11_twins_38 : decode cX11_twins 38 = .ok (.istore_n 3, 1) := by decide +kernel
theorem dX11_twins_39 : decode cX11_twins 39 = .ok (.iinc 4 1, 3) := by decide +kernel
theorem dX11_twins_42 : decode cX11_twins 42 = .ok (.goto (-37), 3) := by decide +kernel
theorem dX11_twins_45 : decode cX11_twins 45 = .ok (.iload_n 3, 1) := by decide +kernel
theorem dX11_twins_46 : decode cX11_twins 46 = .ok (.ireturn, 1) := by decide +kernel
theorem dX11_counted_0 : decode cX11_counted 0 = .ok (.iconst 0, 1) := by decide +kernel
theorem dX11_counted_1 : decode cX11_counted 1 = .ok (.istore 4, 2) := by decide +kernel
theorem dX11_counted_3 : decode cX11_counted 3 = .ok (.iconst 0, 1) := by decide +kernel
theorem dX11_counted_4 : decode cX11_counted 4 = .ok (.istore 5, 2) := by decide +kernel
theorem dX11_counted_6 : decode cX11_counted 6 = .ok (.iload 5, 2) := by decide +kernel
theorem dX11_counted_8 : decode cX11_counted 8 = .ok (.aload_n 0, 1) := by decide +kernel
theorem dX11_counted_9 : decode cX11_counted 9 = .ok (.iload_n 1, 1) := by decide +kernel
theorem dX11_counted_10 : decode cX11_counted 10 = .ok (.invokevirtual 44, 3) := by decide +kernel
theorem dX11_counted_13 : decode cX11_counted 13 = .ok (.if_icmp .ge 34, 3) := by decide +kernel
theorem dX11_counted_16 : decode cX11_counted 16 = .ok (.iload 4, 2) := by decide +kernel
theorem dX11_counted_18 : decode cX11_counted 18 = .ok (.aload_n 0, 1) := by decide +kernel
theorem dX11_counted_19 : decode cX11_counted 19 = .ok (.iload_n 1, 1) := by decide +kernel
theorem dX11_counted_20 : decode cX11_counted 20 = .ok (.iload 5, 2) := by decide +kernel
theorem dX11_counted_22 : decode cX11_counted 22 = .ok (.invokevirtual 48, 3) := by decide +kernel
theorem dX11_counted_25 : decode cX11_counted 25 = .ok (.iload_n 2, 1) := by decide +kernel
theorem dX11_counted_26 : decode cX11_counted 26 = .ok (.iload_n 3, 1) := by decide +kernel
theorem dX11_counted_27 : decode cX11_counted 27 = .ok (.invokestatic 37, 3) := by decide +kernel
theorem dX11_counted_30 : decode cX11_counted 30 = .ok (.ifCond .eq 7, 3) := by decide +kernel
theorem dX11_counted_33 : decode cX11_counted 33 = .ok (.iconst 1, 1) := by decide +kernel
theorem dX11_counted_34 : decode cX11_counted 34 = .ok (.goto 4, 3) := by decide +kernel
theorem dX11_counted_37 : decode cX11_counted 37 = .ok (.iconst 0, 1) := by decide +kernel
theorem dX11_counted_38 : decode cX11_counted 38 = .ok (.iadd, 1) := by decide +kernel
theorem dX11_counted_39 : decode cX11_counted 39 = .ok (.istore 4, 2) := by decide +kernel
theorem dX11_counted_41 : decode cX11_counted 41 = .ok (.iinc 5 1, 3) := by decide +kernel
theorem dX11_counted_44 : decode cX11_counted 44 = .ok (.goto (-38), 3) := by decide +kernel
theorem dX11_counted_47 : decode cX11_counted 47 = .ok (.iload 4, 2) := by decide +kernel
theorem dX11_counted_49 : decode cX11_counted 49 = .ok (.ireturn, 1) := by decide +kernel
theorem dX11_laysRow_0 : decode cX11_laysRow 0 = .ok (.aload_n 0, 1) := by decide +kernel
theorem dX11_laysRow_1 : decode cX11_laysRow 1 = .ok (.aload_n 0, 1) := by decide +kernel
theorem dX11_laysRow_2 : decode cX11_laysRow 2 = .ok (.iload_n 1, 1) := by decide +kernel
theorem dX11_laysRow_3 : decode cX11_laysRow 3 = .ok (.invokevirtual 44, 3) := by decide +kernel
theorem dX11_laysRow_6 : decode cX11_laysRow 6 = .ok (.putfield 62, 3) := by decide +kernel
theorem dX11_laysRow_9 : decode cX11_laysRow 9 = .ok (.iconst 0, 1) := by decide +kernel
theorem dX11_laysRow_10 : decode cX11_laysRow 10 = .ok (.istore_n 2, 1) := by decide +kernel
theorem dX11_laysRow_11 : decode cX11_laysRow 11 = .ok (.iload_n 2, 1) := by decide +kernel
theorem dX11_laysRow_12 : decode cX11_laysRow 12 = .ok (.aload_n 0, 1) := by decide +kernel
theorem dX11_laysRow_13 : decode cX11_laysRow 13 = .ok (.getfield 62, 3) := by decide +kernel
theorem dX11_laysRow_16 : decode cX11_laysRow 16 = .ok (.if_icmp .ge 21, 3) := by decide +kernel
theorem dX11_laysRow_19 : decode cX11_laysRow 19 = .ok (.aload_n 0, 1) := by decide +kernel
theorem dX11_laysRow_20 : decode cX11_laysRow 20 = .ok (.getfield 27, 3) := by decide +kernel
theorem dX11_laysRow_23 : decode cX11_laysRow 23 = .ok (.iload_n 2, 1) := by decide +kernel
theorem dX11_laysRow_24 : decode cX11_laysRow 24 = .ok (.aload_n 0, 1) := by decide +kernel
theorem dX11_laysRow_25 : decode cX11_laysRow 25 = .ok (.iload_n 1, 1) := by decide +kernel
theorem dX11_laysRow_26 : decode cX11_laysRow 26 = .ok (.iload_n 2, 1) := by decide +kernel
theorem dX11_laysRow_27 : decode cX11_laysRow 27 = .ok (.invokevirtual 48, 3) := by decide +kernel
theorem dX11_laysRow_30 : decode cX11_laysRow 30 = .ok (.iastore, 1) := by decide +kernel
theorem dX11_laysRow_31 : decode cX11_laysRow 31 = .ok (.iinc 2 1, 3) := by decide +kernel
theorem dX11_laysRow_34 : decode cX11_laysRow 34 = .ok (.goto (-23), 3) := by decide +kernel
theorem dX11_laysRow_37 : decode cX11_laysRow 37 = .ok (.return_, 1) := by decide +kernel
theorem dX11_priority_0 : decode cX11_priority 0 = .ok (.iload_n 0, 1) := by decide +kernel
theorem dX11_priority_1 : decode cX11_priority 1 = .ok (.ldc 65, 2) := by decide +kernel
theorem dX11_priority_3 : decode cX11_priority 3 = .ok (.imul, 1) := by decide +kernel
theorem dX11_priority_4 : decode cX11_priority 4 = .ok (.sipush 9973, 3) := by decide +kernel
theorem dX11_priority_7 : decode cX11_priority 7 = .ok (.iadd, 1) := by decide +kernel
theorem dX11_priority_8 : decode cX11_priority 8 = .ok (.ldc 66, 2) := by decide +kernel
theorem dX11_priority_10 : decode cX11_priority 10 = .ok (.irem, 1) := by decide +kernel
theorem dX11_priority_11 : decode cX11_priority 11 = .ok (.ireturn, 1) := by decide +kernel
theorem dX11_ahead_0 : decode cX11_ahead 0 = .ok (.iload_n 1, 1) := by decide +kernel
theorem dX11_ahead_1 : decode cX11_ahead 1 = .ok (.iload_n 2, 1) := by decide +kernel
theorem dX11_ahead_2 : decode cX11_ahead 2 = .ok (.if_icmp .le 7, 3) := by decide +kernel
theorem dX11_ahead_5 : decode cX11_ahead 5 = .ok (.iconst (-1), 1) := by decide +kernel
theorem dX11_ahead_6 : decode cX11_ahead 6 = .ok (.goto 4, 3) := by decide +kernel
theorem dX11_ahead_9 : decode cX11_ahead 9 = .ok (.iload_n 1, 1) := by decide +kernel
theorem dX11_ahead_10 : decode cX11_ahead 10 = .ok (.istore_n 3, 1) := by decide +kernel
theorem dX11_ahead_11 : decode cX11_ahead 11 = .ok (.iload_n 1, 1) := by decide +kernel
theorem dX11_ahead_12 : decode cX11_ahead 12 = .ok (.iconst 1, 1) := by decide +kernel
theorem dX11_ahead_13 : decode cX11_ahead 13 = .ok (.iadd, 1) := by decide +kernel
theorem dX11_ahead_14 : decode cX11_ahead 14 = .ok (.istore 4, 2) := by decide +kernel
theorem dX11_ahead_16 : decode cX11_ahead 16 = .ok (.iload 4, 2) := by decide +kernel
theorem dX11_ahead_18 : decode cX11_ahead 18 = .ok (.iload_n 2, 1) := by decide +kernel
theorem dX11_ahead_19 : decode cX11_ahead 19 = .ok (.if_icmp .gt 38, 3) := by decide +kernel
theorem dX11_ahead_22 : decode cX11_ahead 22 = .ok (.aload_n 0, 1) := by decide +kernel
theorem dX11_ahead_23 : decode cX11_ahead 23 = .ok (.getfield 27, 3) := by decide +kernel
theorem dX11_ahead_26 : decode cX11_ahead 26 = .ok (.iload 4, 2) := by decide +kernel
theorem dX11_ahead_28 : decode cX11_ahead 28 = .ok (.iaload, 1) := by decide +kernel
theorem dX11_ahead_29 : decode cX11_ahead 29 = .ok (.invokestatic 67, 3) := by decide +kernel
theorem dX11_ahead_32 : decode cX11_ahead 32 = .ok (.aload_n 0, 1) := by decide +kernel
theorem dX11_ahead_33 : decode cX11_ahead 33 = .ok (.getfield 27, 3) := by decide +kernel
theorem dX11_ahead_36 : decode cX11_ahead 36 = .ok (.iload_n 3, 1) := by decide +kernel
theorem dX11_ahead_37 : decode cX11_ahead 37 = .ok (.iaload, 1) := by decide +kernel
theorem dX11_ahead_38 : decode cX11_ahead 38 = .ok (.invokestatic 67, 3) := by decide +kernel
theorem dX11_ahead_41 : decode cX11_ahead 41 = .ok (.if_icmp .le 8, 3) := by decide +kernel
theorem dX11_ahead_44 : decode cX11_ahead 44 = .ok (.iload 4, 2) := by decide +kernel
theorem dX11_ahead_46 : decode cX11_ahead 46 = .ok (.goto 4, 3) := by decide +kernel
theorem dX11_ahead_49 : decode cX11_ahead 49 = .ok (.iload_n 3, 1) := by decide +kernel
theorem dX11_ahead_50 : decode cX11_ahead 50 = .ok (.istore_n 3, 1) := by decide +kernel
theorem dX11_ahead_51 : decode cX11_ahead 51 = .ok (.iinc 4 1, 3) := by decide +kernel
theorem dX11_ahead_54 : decode cX11_ahead 54 = .ok (.goto (-38), 3) := by decide +kernel
theorem dX11_ahead_57 : decode cX11_ahead 57 = .ok (.iload_n 3, 1) := by decide +kernel
theorem dX11_ahead_58 : decode cX11_ahead 58 = .ok (.ireturn, 1) := by decide +kernel
theorem dX11_goesTo_0 : decode cX11_goesTo 0 = .ok (.aload_n 0, 1) := by decide +kernel
theorem dX11_goesTo_1 : decode cX11_goesTo 1 = .ok (.iconst 0, 1) := by decide +kernel
theorem dX11_goesTo_2 : decode cX11_goesTo 2 = .ok (.putfield 70, 3) := by decide +kernel
theorem dX11_goesTo_5 : decode cX11_goesTo 5 = .ok (.aload_n 0, 1) := by decide +kernel
theorem dX11_goesTo_6 : decode cX11_goesTo 6 = .ok (.aload_n 0, 1) := by decide +kernel
theorem dX11_goesTo_7 : decode cX11_goesTo 7 = .ok (.getfield 62, 3) := by decide +kernel
theorem dX11_goesTo_10 : decode cX11_goesTo 10 = .ok (.iconst 1, 1) := by decide +kernel
theorem dX11_goesTo_11 : decode cX11_goesTo 11 = .ok (.isub, 1) := by decide +kernel
theorem dX11_goesTo_12 : decode cX11_goesTo 12 = .ok (.putfield 73, 3) := by decide +kernel
theorem dX11_goesTo_15 : decode cX11_goesTo 15 = .ok (.aload_n 0, 1) := by decide +kernel
theorem dX11_goesTo_16 : decode cX11_goesTo 16 = .ok (.iconst (-1), 1) := by decide +kernel
theorem dX11_goesTo_17 : decode cX11_goesTo 17 = .ok (.putfield 76, 3) := by decide +kernel
theorem dX11_goesTo_20 : decode cX11_goesTo 20 = .ok (.aload_n 0, 1) := by decide +kernel
theorem dX11_goesTo_21 : decode cX11_goesTo 21 = .ok (.iconst 0, 1) := by decide +kernel
theorem dX11_goesTo_22 : decode cX11_goesTo 22 = .ok (.putfield 79, 3) := by decide +kernel
theorem dX11_goesTo_25 : decode cX11_goesTo 25 = .ok (.aload_n 0, 1) := by decide +kernel
theorem dX11_goesTo_26 : decode cX11_goesTo 26 = .ok (.aload_n 0, 1) := by decide +kernel
theorem dX11_goesTo_27 : decode cX11_goesTo 27 = .ok (.getfield 70, 3) := by decide +kernel
theorem dX11_goesTo_30 : decode cX11_goesTo 30 = .ok (.aload_n 0, 1) := by decide +kernel
theorem dX11_goesTo_31 : decode cX11_goesTo 31 = .ok (.getfield 73, 3) := by decide +kernel
theorem dX11_goesTo_34 : decode cX11_goesTo 34 = .ok (.invokevirtual 82, 3) := by decide +kernel
theorem dX11_goesTo_37 : decode cX11_goesTo 37 = .ok (.istore_n 2, 1) := by decide +kernel
theorem dX11_goesTo_38 : decode cX11_goesTo 38 = .ok (.iload_n 2, 1) := by decide +kernel
theorem dX11_goesTo_39 : decode cX11_goesTo 39 = .ok (.iload_n 1, 1) := by decide +kernel
theorem dX11_goesTo_40 : decode cX11_goesTo 40 = .ok (.if_icmp .eq 56, 3) := by decide +kernel
theorem dX11_goesTo_43 : decode cX11_goesTo 43 = .ok (.aload_n 0, 1) := by decide +kernel
theorem dX11_goesTo_44 : decode cX11_goesTo 44 = .ok (.iload_n 2, 1) := by decide +kernel
theorem dX11_goesTo_45 : decode cX11_goesTo 45 = .ok (.putfield 76, 3) := by decide +kernel
theorem dX11_goesTo_48 : decode cX11_goesTo 48 = .ok (.aload_n 0, 1) := by decide +kernel
theorem dX11_goesTo_49 : decode cX11_goesTo 49 = .ok (.dup, 1) := by decide +kernel
theorem dX11_goesTo_50 : decode cX11_goesTo 50 = .ok (.getfield 79, 3) := by decide +kernel
theorem dX11_goesTo_53 : decode cX11_goesTo 53 = .ok (.iconst 1, 1) := by decide +kernel
theorem dX11_goesTo_54 : decode cX11_goesTo 54 = .ok (.iadd, 1) := by decide +kernel
theorem dX11_goesTo_55 : decode cX11_goesTo 55 = .ok (.putfield 79, 3) := by decide +kernel
theorem dX11_goesTo_58 : decode cX11_goesTo 58 = .ok (.iload_n 1, 1) := by decide +kernel
theorem dX11_goesTo_59 : decode cX11_goesTo 59 = .ok (.iload_n 2, 1) := by decide +kernel
theorem dX11_goesTo_60 : decode cX11_goesTo 60 = .ok (.if_icmp .ge 13, 3) := by decide +kernel
theorem dX11_goesTo_63 : decode cX11_goesTo 63 = .ok (.aload_n 0, 1) := by decide +kernel
theorem dX11_goesTo_64 : decode cX11_goesTo 64 = .ok (.iload_n 2, 1) := by decide +kernel
theorem dX11_goesTo_65 : decode cX11_goesTo 65 = .ok (.iconst 1, 1) := by decide +kernel
theorem dX11_goesTo_66 : decode cX11_goesTo 66 = .ok (.isub, 1) := by decide +kernel
theorem dX11_goesTo_67 : decode cX11_goesTo 67 = .ok (.putfield 73, 3) := by decide +kernel
theorem dX11_goesTo_70 : decode cX11_goesTo 70 = .ok (.goto 10, 3) := by decide +kernel
theorem dX11_goesTo_73 : decode cX11_goesTo 73 = .ok (.aload_n 0, 1) := by decide +kernel
theorem dX11_goesTo_74 : decode cX11_goesTo 74 = .ok (.iload_n 2, 1) := by decide +kernel
theorem dX11_goesTo_75 : decode cX11_goesTo 75 = .ok (.iconst 1, 1) := by decide +kernel
theorem dX11_goesTo_76 : decode cX11_goesTo 76 = .ok (.iadd, 1) := by decide +kernel
theorem dX11_goesTo_77 : decode cX11_goesTo 77 = .ok (.putfield 70, 3) := by decide +kernel
theorem dX11_goesTo_80 : decode cX11_goesTo 80 = .ok (.aload_n 0, 1) := by decide +kernel
theorem dX11_goesTo_81 : decode cX11_goesTo 81 = .ok (.aload_n 0, 1) := by decide +kernel
theorem dX11_goesTo_82 : decode cX11_goesTo 82 = .ok (.getfield 70, 3) := by decide +kernel
theorem dX11_goesTo_85 : decode cX11_goesTo 85 = .ok (.aload_n 0, 1) := by decide +kernel
theorem dX11_goesTo_86 : decode cX11_goesTo 86 = .ok (.getfield 73, 3) := by decide +kernel
theorem dX11_goesTo_89 : decode cX11_goesTo 89 = .ok (.invokevirtual 82, 3) := by decide +kernel
theorem dX11_goesTo_92 : decode cX11_goesTo 92 = .ok (.istore_n 2, 1) := by decide +kernel
theorem dX11_goesTo_93 : decode cX11_goesTo 93 = .ok (.goto (-55), 3) := by decide +kernel
theorem dX11_goesTo_96 : decode cX11_goesTo 96 = .ok (.return_, 1) := by decide +kernel
theorem dX11_depth_0 : decode cX11_depth 0 = .ok (.aload_n 0, 1) := by decide +kernel
theorem dX11_depth_1 : decode cX11_depth 1 = .ok (.iload_n 1, 1) := by decide +kernel
theorem dX11_depth_2 : decode cX11_depth 2 = .ok (.invokevirtual 85, 3) := by decide +kernel
theorem dX11_depth_5 : decode cX11_depth 5 = .ok (.aload_n 0, 1) := by decide +kernel
theorem dX11_depth_6 : decode cX11_depth 6 = .ok (.getfield 79, 3) := by decide +kernel
theorem dX11_depth_9 : decode cX11_depth 9 = .ok (.ireturn, 1) := by decide +kernel
theorem dX11_high_0 : decode cX11_high 0 = .ok (.iconst 0, 1) := by decide +kernel
theorem dX11_high_1 : decode cX11_high 1 = .ok (.istore_n 1, 1) := by decide +kernel
theorem dX11_high_2 : decode cX11_high 2 = .ok (.iconst 0, 1) := by decide +kernel
theorem dX11_high_3 : decode cX11_high 3 = .ok (.istore_n 2, 1) := by decide +kernel
theorem dX11_high_4 : decode cX11_high 4 = .ok (.iload_n 2, 1) := by decide +kernel
theorem dX11_high_5 : decode cX11_high 5 = .ok (.aload_n 0, 1) := by decide +kernel
theorem dX11_high_6 : decode cX11_high 6 = .ok (.getfield 62, 3) := by decide +kernel
theorem dX11_high_9 : decode cX11_high 9 = .ok (.if_icmp .ge 32, 3) := by decide +kernel
theorem dX11_high_12 : decode cX11_high 12 = .ok (.aload_n 0, 1) := by decide +kernel
theorem dX11_high_13 : decode cX11_high 13 = .ok (.iload_n 2, 1) := by decide +kernel
theorem dX11_high_14 : decode cX11_high 14 = .ok (.invokevirtual 88, 3) := by decide +kernel
theorem dX11_high_17 : decode cX11_high 17 = .ok (.iconst 1, 1) := by decide +kernel
theorem dX11_high_18 : decode cX11_high 18 = .ok (.iadd, 1) := by decide +kernel
theorem dX11_high_19 : decode cX11_high 19 = .ok (.iload_n 1, 1) := by decide +kernel
theorem dX11_high_20 : decode cX11_high 20 = .ok (.if_icmp .le 13, 3) := by decide +kernel
theorem dX11_high_23 : decode cX11_high 23 = .ok (.aload_n 0, 1) := by decide +kernel
theorem dX11_high_24 : decode cX11_high 24 = .ok (.iload_n 2, 1) := by decide +kernel
theorem dX11_high_25 : decode cX11_high 25 = .ok (.invokevirtual 88, 3) := by decide +kernel
theorem dX11_high_28 : decode cX11_high 28 = .ok (.iconst 1, 1) := by decide +kernel
theorem dX11_high_29 : decode cX11_high 29 = .ok (.iadd, 1) := by decide +kernel
theorem dX11_high_30 : decode cX11_high 30 = .ok (.goto 4, 3) := by decide +kernel
theorem dX11_high_33 : decode cX11_high 33 = .ok (.iload_n 1, 1) := by decide +kernel
theorem dX11_high_34 : decode cX11_high 34 = .ok (.istore_n 1, 1) := by decide +kernel
theorem dX11_high_35 : decode cX11_high 35 = .ok (.iinc 2 1, 3) := by decide +kernel
theorem dX11_high_38 : decode cX11_high 38 = .ok (.goto (-34), 3) := by decide +kernel
theorem dX11_high_41 : decode cX11_high 41 = .ok (.iload_n 1, 1) := by decide +kernel
theorem dX11_high_42 : decode cX11_high 42 = .ok (.ireturn, 1) := by decide +kernel
theorem dX11_farOf_0 : decode cX11_farOf 0 = .ok (.iload_n 1, 1) := by decide +kernel
theorem dX11_farOf_1 : decode cX11_farOf 1 = .ok (.iload_n 2, 1) := by decide +kernel
theorem dX11_farOf_2 : decode cX11_farOf 2 = .ok (.if_icmp .ge 7, 3) := by decide +kernel
theorem dX11_farOf_5 : decode cX11_farOf 5 = .ok (.iload_n 1, 1) := by decide +kernel
theorem dX11_farOf_6 : decode cX11_farOf 6 = .ok (.goto 4, 3) := by decide +kernel
theorem dX11_farOf_9 : decode cX11_farOf 9 = .ok (.iload_n 2, 1) := by decide +kernel
theorem dX11_farOf_10 : decode cX11_farOf 10 = .ok (.istore_n 3, 1) := by decide +kernel
theorem dX11_farOf_11 : decode cX11_farOf 11 = .ok (.iload_n 1, 1) := by decide +kernel
theorem dX11_farOf_12 : decode cX11_farOf 12 = .ok (.iload_n 2, 1) := by decide +kernel
theorem dX11_farOf_13 : decode cX11_farOf 13 = .ok (.if_icmp .ge 7, 3) := by decide +kernel
theorem dX11_farOf_16 : decode cX11_farOf 16 = .ok (.iload_n 2, 1) := by decide +kernel
theorem dX11_farOf_17 : decode cX11_farOf 17 = .ok (.goto 4, 3) := by decide +kernel
theorem dX11_farOf_20 : decode cX11_farOf 20 = .ok (.iload_n 1, 1) := by decide +kernel
theorem dX11_farOf_21 : decode cX11_farOf 21 = .ok (.istore 4, 2) := by decide +kernel
theorem dX11_farOf_23 : decode cX11_farOf 23 = .ok (.aload_n 0, 1) := by decide +kernel
theorem dX11_farOf_24 : decode cX11_farOf 24 = .ok (.iload_n 1, 1) := by decide +kernel
theorem dX11_farOf_25 : decode cX11_farOf 25 = .ok (.invokevirtual 88, 3) := by decide +kernel
theorem dX11_farOf_28 : decode cX11_farOf 28 = .ok (.aload_n 0, 1) := by decide +kernel
theorem dX11_farOf_29 : decode cX11_farOf 29 = .ok (.iload_n 2, 1) := by decide +kernel
theorem dX11_farOf_30 : decode cX11_farOf 30 = .ok (.invokevirtual 88, 3) := by decide +kernel
theorem dX11_farOf_33 : decode cX11_farOf 33 = .ok (.iadd, 1) := by decide +kernel
theorem dX11_farOf_34 : decode cX11_farOf 34 = .ok (.iconst 2, 1) := by decide +kernel
theorem dX11_farOf_35 : decode cX11_farOf 35 = .ok (.aload_n 0, 1) := by decide +kernel
theorem dX11_farOf_36 : decode cX11_farOf 36 = .ok (.aload_n 0, 1) := by decide +kernel
theorem dX11_farOf_37 : decode cX11_farOf 37 = .ok (.iload_n 3, 1) := by decide +kernel
theorem dX11_farOf_38 : decode cX11_farOf 38 = .ok (.iload 4, 2) := by decide +kernel
theorem dX11_farOf_40 : decode cX11_farOf 40 = .ok (.invokevirtual 82, 3) := by decide +kernel
theorem dX11_farOf_43 : decode cX11_farOf 43 = .ok (.invokevirtual 88, 3) := by decide +kernel
theorem dX11_farOf_46 : decode cX11_farOf 46 = .ok (.imul, 1) := by decide +kernel
theorem dX11_farOf_47 : decode cX11_farOf 47 = .ok (.isub, 1) := by decide +kernel
theorem dX11_farOf_48 : decode cX11_farOf 48 = .ok (.ireturn, 1) := by decide +kernel
theorem dX11_endsRun_0 : decode cX11_endsRun 0 = .ok (.aload_n 0, 1) := by decide +kernel
theorem dX11_endsRun_1 : decode cX11_endsRun 1 = .ok (.getfield 91, 3) := by decide +kernel
theorem dX11_endsRun_4 : decode cX11_endsRun 4 = .ok (.ifCond .ne 4, 3) := by decide +kernel
theorem dX11_endsRun_7 : decode cX11_endsRun 7 = .ok (.return_, 1) := by decide +kernel
theorem dX11_endsRun_8 : decode cX11_endsRun 8 = .ok (.aload_n 0, 1) := by decide +kernel
theorem dX11_endsRun_9 : decode cX11_endsRun 9 = .ok (.dup, 1) := by decide +kernel
theorem dX11_endsRun_10 : decode cX11_endsRun 10 = .ok (.getfield 94, 3) := by decide +kernel
theorem dX11_endsRun_13 : decode cX11_endsRun 13 = .ok (.iconst 1, 1) := by decide +kernel
theorem dX11_endsRun_14 : decode cX11_endsRun 14 = .ok (.iadd, 1) := by decide +kernel
theorem dX11_endsRun_15 : decode cX11_endsRun 15 = .ok (.putfield 94, 3) := by decide +kernel
theorem dX11_endsRun_18 : decode cX11_endsRun 18 = .ok (.aload_n 0, 1) := by decide +kernel
theorem dX11_endsRun_19 : decode cX11_endsRun 19 = .ok (.aload_n 0, 1) := by decide +kernel
theorem dX11_endsRun_20 : decode cX11_endsRun 20 = .ok (.getfield 91, 3) := by decide +kernel
theorem dX11_endsRun_23 : decode cX11_endsRun 23 = .ok (.aload_n 0, 1) := by decide +kernel
theorem dX11_endsRun_24 : decode cX11_endsRun 24 = .ok (.getfield 97, 3) := by decide +kernel
theorem dX11_endsRun_27 : decode cX11_endsRun 27 = .ok (.if_icmp .le 10, 3) := by decide +kernel
theorem dX11_endsRun_30 : decode cX11_endsRun 30 = .ok (.aload_n 0, 1) := by decide +kernel
theorem dX11_endsRun_31 : decode cX11_endsRun 31 = .ok (.getfield 91, 3) := by decide +kernel
theorem dX11_endsRun_34 : decode cX11_endsRun 34 = .ok (.goto 7, 3) := by decide +kernel
theorem dX11_endsRun_37 : decode cX11_endsRun 37 = .ok (.aload_n 0, 1) := by decide +kernel
theorem dX11_endsRun_38 : decode cX11_endsRun 38 = .ok (.getfield 97, 3) := by decide +kernel
theorem dX11_endsRun_41 : decode cX11_endsRun 41 = .ok (.putfield 97, 3) := by decide +kernel
theorem dX11_endsRun_44 : decode cX11_endsRun 44 = .ok (.aload_n 0, 1) := by decide +kernel
theorem dX11_endsRun_45 : decode cX11_endsRun 45 = .ok (.dup, 1) := by decide +kernel
theorem dX11_endsRun_46 : decode cX11_endsRun 46 = .ok (.getfield 100, 3) := by decide +kernel
theorem dX11_endsRun_49 : decode cX11_endsRun 49 = .ok (.iconst 1, 1) := by decide +kernel
theorem dX11_endsRun_50 : decode cX11_endsRun 50 = .ok (.iadd, 1) := by decide +kernel
theorem dX11_endsRun_51 : decode cX11_endsRun 51 = .ok (.putfield 100, 3) := by decide +kernel
theorem dX11_endsRun_54 : decode cX11_endsRun 54 = .ok (.aload_n 0, 1) := by decide +kernel
theorem dX11_endsRun_55 : decode cX11_endsRun 55 = .ok (.getfield 91, 3) := by decide +kernel
theorem dX11_endsRun_58 : decode cX11_endsRun 58 = .ok (.istore_n 1, 1) := by decide +kernel
theorem dX11_endsRun_59 : decode cX11_endsRun 59 = .ok (.iload_n 1, 1) := by decide +kernel
theorem dX11_endsRun_60 : decode cX11_endsRun 60 = .ok (.iconst 1, 1) := by decide +kernel
theorem dX11_endsRun_61 : decode cX11_endsRun 61 = .ok (.if_icmp .le 20, 3) := by decide +kernel
theorem dX11_endsRun_64 : decode cX11_endsRun 64 = .ok (.aload_n 0, 1) := by decide +kernel
theorem dX11_endsRun_65 : decode cX11_endsRun 65 = .ok (.dup, 1) := by decide +kernel
theorem dX11_endsRun_66 : decode cX11_endsRun 66 = .ok (.getfield 100, 3) := by decide +kernel
theorem dX11_endsRun_69 : decode cX11_endsRun 69 = .ok (.iconst 1, 1) := by decide +kernel
theorem dX11_endsRun_70 : decode cX11_endsRun 70 = .ok (.iadd, 1) := by decide +kernel
theorem dX11_endsRun_71 : decode cX11_endsRun 71 = .ok (.putfield 100, 3) := by decide +kernel
theorem dX11_endsRun_74 : decode cX11_endsRun 74 = .ok (.iload_n 1, 1) := by decide +kernel
theorem dX11_endsRun_75 : decode cX11_endsRun 75 = .ok (.iconst 2, 1) := by decide +kernel
theorem dX11_endsRun_76 : decode cX11_endsRun 76 = .ok (.idiv, 1) := by decide +kernel
theorem dX11_endsRun_77 : decode cX11_endsRun 77 = .ok (.istore_n 1, 1) := by decide +kernel
theorem dX11_endsRun_78 : decode cX11_endsRun 78 = .ok (.goto (-19), 3) := by decide +kernel
theorem dX11_endsRun_81 : decode cX11_endsRun 81 = .ok (.return_, 1) := by decide +kernel
theorem dX11_goes_0 : decode cX11_goes 0 = .ok (.iload_n 1, 1) := by decide +kernel
theorem dX11_goes_1 : decode cX11_goes 1 = .ok (.aload_n 0, 1) := by decide +kernel
theorem dX11_goes_2 : decode cX11_goes 2 = .ok (.getfield 103, 3) := by decide +kernel
theorem dX11_goes_5 : decode cX11_goes 5 = .ok (.if_icmp .eq 17, 3) := by decide +kernel
theorem dX11_goes_8 : decode cX11_goes 8 = .ok (.aload_n 0, 1) := by decide +kernel
theorem dX11_goes_9 : decode cX11_goes 9 = .ok (.invokevirtual 106, 3) := by decide +kernel
theorem dX11_goes_12 : decode cX11_goes 12 = .ok (.aload_n 0, 1) := by decide +kernel
theorem dX11_goes_13 : decode cX11_goes 13 = .ok (.iconst 0, 1) := by decide +kernel
theorem dX11_goes_14 : decode cX11_goes 14 = .ok (.putfield 91, 3) := by decide +kernel
theorem dX11_goes_17 : decode cX11_goes 17 = .ok (.aload_n 0, 1) := by decide +kernel
theorem dX11_goes_18 : decode cX11_goes 18 = .ok (.iload_n 1, 1) := by decide +kernel
theorem dX11_goes_19 : decode cX11_goes 19 = .ok (.putfield 103, 3) := by decide +kernel
theorem dX11_goes_22 : decode cX11_goes 22 = .ok (.aload_n 0, 1) := by decide +kernel
theorem dX11_goes_23 : decode cX11_goes 23 = .ok (.dup, 1) := by decide +kernel
theorem dX11_goes_24 : decode cX11_goes 24 = .ok (.getfield 91, 3) := by decide +kernel
theorem dX11_goes_27 : decode cX11_goes 27 = .ok (.iconst 1, 1) := by decide +kernel
theorem dX11_goes_28 : decode cX11_goes 28 = .ok (.iadd, 1) := by decide +kernel
theorem dX11_goes_29 : decode cX11_goes 29 = .ok (.putfield 91, 3) := by decide +kernel
theorem dX11_goes_32 : decode cX11_goes 32 = .ok (.return_, 1) := by decide +kernel
theorem dX11_laysRuns_0 : decode cX11_laysRuns 0 = .ok (.aload_n 0, 1) := by decide +kernel
theorem dX11_laysRuns_1 : decode cX11_laysRuns 1 = .ok (.iconst 0, 1) := by decide +kernel
theorem dX11_laysRuns_2 : decode cX11_laysRuns 2 = .ok (.putfield 94, 3) := by decide +kernel
theorem dX11_laysRuns_5 : decode cX11_laysRuns 5 = .ok (.aload_n 0, 1) := by decide +kernel
theorem dX11_laysRuns_6 : decode cX11_laysRuns 6 = .ok (.iconst 0, 1) := by decide +kernel
theorem dX11_laysRuns_7 : decode cX11_laysRuns 7 = .ok (.putfield 100, 3) := by decide +kernel
theorem dX11_laysRuns_10 : decode cX11_laysRuns 10 = .ok (.aload_n 0, 1) := by decide +kernel
theorem dX11_laysRuns_11 : decode cX11_laysRuns 11 = .ok (.iconst 0, 1) := by decide +kernel
theorem dX11_laysRuns_12 : decode cX11_laysRuns 12 = .ok (.putfield 97, 3) := by decide +kernel
theorem dX11_laysRuns_15 : decode cX11_laysRuns 15 = .ok (.aload_n 0, 1) := by decide +kernel
theorem dX11_laysRuns_16 : decode cX11_laysRuns 16 = .ok (.iconst 0, 1) := by decide +kernel
theorem dX11_laysRuns_17 : decode cX11_laysRuns 17 = .ok (.putfield 91, 3) := by decide +kernel
theorem dX11_laysRuns_20 : decode cX11_laysRuns 20 = .ok (.aload_n 0, 1) := by decide +kernel
theorem dX11_laysRuns_21 : decode cX11_laysRuns 21 = .ok (.iconst (-1), 1) := by decide +kernel
theorem dX11_laysRuns_22 : decode cX11_laysRuns 22 = .ok (.putfield 103, 3) := by decide +kernel
theorem dX11_laysRuns_25 : decode cX11_laysRuns 25 = .ok (.iconst 0, 1) := by decide +kernel
theorem dX11_laysRuns_26 : decode cX11_laysRuns 26 = .ok (.istore_n 3, 1) := by decide +kernel
theorem dX11_laysRuns_27 : decode cX11_laysRuns 27 = .ok (.iconst 0, 1) := by decide +kernel
theorem dX11_laysRuns_28 : decode cX11_laysRuns 28 = .ok (.istore 4, 2) := by decide +kernel
theorem dX11_laysRuns_30 : decode cX11_laysRuns 30 = .ok (.iload_n 3, 1) := by decide +kernel
theorem dX11_laysRuns_31 : decode cX11_laysRuns 31 = .ok (.aload_n 0, 1) := by decide +kernel
theorem dX11_laysRuns_32 : decode cX11_laysRuns 32 = .ok (.iload_n 1, 1) := by decide +kernel
theorem dX11_laysRuns_33 : decode cX11_laysRuns 33 = .ok (.invokevirtual 44, 3) := by decide +kernel
theorem dX11_laysRuns_36 : decode cX11_laysRuns 36 = .ok (.if_icmp .lt 13, 3) := by decide +kernel
theorem dX11_laysRuns_39 : decode cX11_laysRuns 39 = .ok (.iload 4, 2) := by decide +kernel
theorem dX11_laysRuns_41 : decode cX11_laysRuns 41 = .ok (.aload_n 0, 1) := by decide +kernel
theorem dX11_laysRuns_42 : decode cX11_laysRuns 42 = .ok (.iload_n 2, 1) := by decide +kernel
theorem dX11_laysRuns_43 : decode cX11_laysRuns 43 = .ok (.invokevirtual 44, 3) := by decide +kernel
theorem dX11_laysRuns_46 : decode cX11_laysRuns 46 = .ok (.if_icmp .ge 106, 3) := by decide +kernel
theorem dX11_laysRuns_49 : decode cX11_laysRuns 49 = .ok (.iload_n 3, 1) := by decide +kernel
theorem dX11_laysRuns_50 : decode cX11_laysRuns 50 = .ok (.aload_n 0, 1) := by decide +kernel
theorem dX11_laysRuns_51 : decode cX11_laysRuns 51 = .ok (.iload_n 1, 1) := by decide +kernel
theorem dX11_laysRuns_52 : decode cX11_laysRuns 52 = .ok (.invokevirtual 44, 3) := by decide +kernel
theorem dX11_laysRuns_55 : decode cX11_laysRuns 55 = .ok (.if_icmp .ge 12, 3) := by decide +kernel
theorem dX11_laysRuns_58 : decode cX11_laysRuns 58 = .ok (.aload_n 0, 1) := by decide +kernel
theorem dX11_laysRuns_59 : decode cX11_laysRuns 59 = .ok (.iload_n 1, 1) := by decide +kernel
theorem dX11_laysRuns_60 : decode cX11_laysRuns 60 = .ok (.iload_n 3, 1) := by decide +kernel
theorem dX11_laysRuns_61 : decode cX11_laysRuns 61 = .ok (.invokevirtual 48, 3) := by decide +kernel
theorem dX11_laysRuns_64 : decode cX11_laysRuns 64 = .ok (.goto 6, 3) := by decide +kernel
theorem dX11_laysRuns_67 : decode cX11_laysRuns 67 = .ok (.sipush 10000, 3) := by decide +kernel
theorem dX11_laysRuns_70 : decode cX11_laysRuns 70 = .ok (.istore 5, 2) := by decide +kernel
theorem dX11_laysRuns_72 : decode cX11_laysRuns 72 = .ok (.iload 4, 2) := by decide +kernel
theorem dX11_laysRuns_74 : decode cX11_laysRuns 74 = .ok (.aload_n 0, 1) := by decide +kernel
theorem dX11_laysRuns_75 : decode cX11_laysRuns 75 = .ok (.iload_n 2, 1) := by decide +kernel
theorem dX11_laysRuns_76 : decode cX11_laysRuns 76 = .ok (.invokevirtual 44, 3) := by decide +kernel
theorem dX11_laysRuns_79 : decode cX11_laysRuns 79 = .ok (.if_icmp .ge 13, 3) := by decide +kernel
theorem dX11_laysRuns_82 : decode cX11_laysRuns 82 = .ok (.aload_n 0, 1) := by decide +kernel
theorem dX11_laysRuns_83 : decode cX11_laysRuns 83 = .ok (.iload_n 2, 1) := by decide +kernel
theorem dX11_laysRuns_84 : decode cX11_laysRuns 84 = .ok (.iload 4, 2) := by decide +kernel
theorem dX11_laysRuns_86 : decode cX11_laysRuns 86 = .ok (.invokevirtual 48, 3) := by decide +kernel
theorem dX11_laysRuns_89 : decode cX11_laysRuns 89 = .ok (.goto 6, 3) := by decide +kernel
theorem dX11_laysRuns_92 : decode cX11_laysRuns 92 = .ok (.sipush 10000, 3) := by decide +kernel
theorem dX11_laysRuns_95 : decode cX11_laysRuns 95 = .ok (.istore 6, 2) := by decide +kernel
theorem dX11_laysRuns_97 : decode cX11_laysRuns 97 = .ok (.iload 5, 2) := by decide +kernel
theorem dX11_laysRuns_99 : decode cX11_laysRuns 99 = .ok (.iload 6, 2) := by decide +kernel
theorem dX11_laysRuns_101 : decode cX11_laysRuns 101 = .ok (.if_icmp .gt 11, 3) := by decide +kernel
theorem dX11_laysRuns_104 : decode cX11_laysRuns 104 = .ok (.aload_n 0, 1) := by decide +kernel
theorem dX11_laysRuns_105 : decode cX11_laysRuns 105 = .ok (.iconst 0, 1) := by decide +kernel
theorem dX11_laysRuns_106 : decode cX11_laysRuns 106 = .ok (.invokevirtual 109, 3) := by decide +kernel
theorem dX11_laysRuns_109 : decode cX11_laysRuns 109 = .ok (.goto 8, 3) := by decide +kernel
theorem dX11_laysRuns_112 : decode cX11_laysRuns 112 = .ok (.aload_n 0, 1) := by decide +kernel
theorem dX11_laysRuns_113 : decode cX11_laysRuns 113 = .ok (.iconst 1, 1) := by decide +kernel
theorem dX11_laysRuns_114 : decode cX11_laysRuns 114 = .ok (.invokevirtual 109, 3) := by decide +kernel
theorem dX11_laysRuns_117 : decode cX11_laysRuns 117 = .ok (.iload_n 3, 1) := by decide +kernel
theorem dX11_laysRuns_118 : decode cX11_laysRuns 118 = .ok (.iload 5, 2) := by decide +kernel
theorem dX11_laysRuns_120 : decode cX11_laysRuns 120 = .ok (.iload 6, 2) := by decide +kernel
theorem dX11_laysRuns_122 : decode cX11_laysRuns 122 = .ok (.if_icmp .gt 7, 3) := by decide +kernel
theorem dX11_laysRuns_125 : decode cX11_laysRuns 125 = .ok (.iconst 1, 1) := by decide +kernel
theorem dX11_laysRuns_126 : decode cX11_laysRuns 126 = .ok (.goto 4, 3) := by decide +kernel
theorem dX11_laysRuns_129 : decode cX11_laysRuns 129 = .ok (.iconst 0, 1) := by decide +kernel
theorem dX11_laysRuns_130 : decode cX11_laysRuns 130 = .ok (.iadd, 1) := by decide +kernel
theorem dX11_laysRuns_131 : decode cX11_laysRuns 131 = .ok (.istore_n 3, 1) := by decide +kernel
theorem dX11_laysRuns_132 : decode cX11_laysRuns 132 = .ok (.iload 4, 2) := by decide +kernel
theorem dX11_laysRuns_134 : decode cX11_laysRuns 134 = .ok (.iload 6, 2) := by decide +kernel
theorem dX11_laysRuns_136 : decode cX11_laysRuns 136 = .ok (.iload 5, 2) := by decide +kernel
theorem dX11_laysRuns_138 : decode cX11_laysRuns 138 = .ok (.if_icmp .gt 7, 3) := by decide +kernel
theorem dX11_laysRuns_141 : decode cX11_laysRuns 141 = .ok (.iconst 1, 1) := by decide +kernel
theorem dX11_laysRuns_142 : decode cX11_laysRuns 142 = .ok (.goto 4, 3) := by decide +kernel
theorem dX11_laysRuns_145 : decode cX11_laysRuns 145 = .ok (.iconst 0, 1) := by decide +kernel
theorem dX11_laysRuns_146 : decode cX11_laysRuns 146 = .ok (.iadd, 1) := by decide +kernel
theorem dX11_laysRuns_147 : decode cX11_laysRuns 147 = .ok (.istore 4, 2) := by decide +kernel
theorem dX11_laysRuns_149 : decode cX11_laysRuns 149 = .ok (.goto (-119), 3) := by decide +kernel
theorem dX11_laysRuns_152 : decode cX11_laysRuns 152 = .ok (.aload_n 0, 1) := by decide +kernel
theorem dX11_laysRuns_153 : decode cX11_laysRuns 153 = .ok (.invokevirtual 106, 3) := by decide +kernel
theorem dX11_laysRuns_156 : decode cX11_laysRuns 156 = .ok (.return_, 1) := by decide +kernel
theorem dX11_areTwo_0 : decode cX11_areTwo 0 = .ok (.iload_n 1, 1) := by decide +kernel
theorem dX11_areTwo_1 : decode cX11_areTwo 1 = .ok (.invokestatic 112, 3) := by decide +kernel
theorem dX11_areTwo_4 : decode cX11_areTwo 4 = .ok (.ifCond .eq 19, 3) := by decide +kernel
theorem dX11_areTwo_7 : decode cX11_areTwo 7 = .ok (.iload_n 2, 1) := by decide +kernel
theorem dX11_areTwo_8 : decode cX11_areTwo 8 = .ok (.invokestatic 112, 3) := by decide +kernel
theorem dX11_areTwo_11 : decode cX11_areTwo 11 = .ok (.ifCond .eq 12, 3) := by decide +kernel
theorem dX11_areTwo_14 : decode cX11_areTwo 14 = .ok (.iload_n 1, 1) := by decide +kernel
theorem dX11_areTwo_15 : decode cX11_areTwo 15 = .ok (.iload_n 2, 1) := by decide +kernel
theorem dX11_areTwo_16 : decode cX11_areTwo 16 = .ok (.if_icmp .eq 7, 3) := by decide +kernel
theorem dX11_areTwo_19 : decode cX11_areTwo 19 = .ok (.iconst 1, 1) := by decide +kernel
theorem dX11_areTwo_20 : decode cX11_areTwo 20 = .ok (.goto 4, 3) := by decide +kernel
theorem dX11_areTwo_23 : decode cX11_areTwo 23 = .ok (.iconst 0, 1) := by decide +kernel
theorem dX11_areTwo_24 : decode cX11_areTwo 24 = .ok (.ireturn, 1) := by decide +kernel
theorem dX11_refusesPut_0 : decode cX11_refusesPut 0 = .ok (.iload_n 1, 1) := by decide +kernel
theorem dX11_refusesPut_1 : decode cX11_refusesPut 1 = .ok (.invokestatic 112, 3) := by decide +kernel
theorem dX11_refusesPut_4 : decode cX11_refusesPut 4 = .ok (.ifCond .eq 10, 3) := by decide +kernel
theorem dX11_refusesPut_7 : decode cX11_refusesPut 7 = .ok (.iload_n 2, 1) := by decide +kernel
theorem dX11_refusesPut_8 : decode cX11_refusesPut 8 = .ok (.invokestatic 116, 3) := by decide +kernel
theorem dX11_refusesPut_11 : decode cX11_refusesPut 11 = .ok (.ifCond .ne 5, 3) := by decide +kernel
theorem dX11_refusesPut_14 : decode cX11_refusesPut 14 = .ok (.iconst 1, 1) := by decide +kernel
theorem dX11_refusesPut_15 : decode cX11_refusesPut 15 = .ok (.ireturn, 1) := by decide +kernel
theorem dX11_refusesPut_16 : decode cX11_refusesPut 16 = .ok (.aload_n 0, 1) := by decide +kernel
theorem dX11_refusesPut_17 : decode cX11_refusesPut 17 = .ok (.iload_n 1, 1) := by decide +kernel
theorem dX11_refusesPut_18 : decode cX11_refusesPut 18 = .ok (.iload_n 2, 1) := by decide +kernel
theorem dX11_refusesPut_19 : decode cX11_refusesPut 19 = .ok (.invokevirtual 59, 3) := by decide +kernel
theorem dX11_refusesPut_22 : decode cX11_refusesPut 22 = .ok (.iconst (-1), 1) := by decide +kernel
theorem dX11_refusesPut_23 : decode cX11_refusesPut 23 = .ok (.if_icmp .eq 5, 3) := by decide +kernel
theorem dX11_refusesPut_26 : decode cX11_refusesPut 26 = .ok (.iconst 2, 1) := by decide +kernel
theorem dX11_refusesPut_27 : decode cX11_refusesPut 27 = .ok (.ireturn, 1) := by decide +kernel
theorem dX11_refusesPut_28 : decode cX11_refusesPut 28 = .ok (.aload_n 0, 1) := by decide +kernel
theorem dX11_refusesPut_29 : decode cX11_refusesPut 29 = .ok (.iload_n 1, 1) := by decide +kernel
theorem dX11_refusesPut_30 : decode cX11_refusesPut 30 = .ok (.invokevirtual 44, 3) := by decide +kernel
theorem dX11_refusesPut_33 : decode cX11_refusesPut 33 = .ok (.bipush 60, 2) := by decide +kernel
theorem dX11_refusesPut_35 : decode cX11_refusesPut 35 = .ok (.if_icmp .eq 13, 3) := by decide +kernel
theorem dX11_refusesPut_38 : decode cX11_refusesPut 38 = .ok (.aload_n 0, 1) := by decide +kernel
theorem dX11_refusesPut_39 : decode cX11_refusesPut 39 = .ok (.invokevirtual 119, 3) := by decide +kernel
theorem dX11_refusesPut_42 : decode cX11_refusesPut 42 = .ok (.sipush 240, 3) := by decide +kernel
theorem dX11_refusesPut_45 : decode cX11_refusesPut 45 = .ok (.if_icmp .ne 7, 3) := by decide +kernel
theorem dX11_refusesPut_48 : decode cX11_refusesPut 48 = .ok (.iconst 4, 1) := by decide +kernel
theorem dX11_refusesPut_49 : decode cX11_refusesPut 49 = .ok (.goto 4, 3) := by decide +kernel
theorem dX11_refusesPut_52 : decode cX11_refusesPut 52 = .ok (.iconst 0, 1) := by decide +kernel
theorem dX11_refusesPut_53 : decode cX11_refusesPut 53 = .ok (.ireturn, 1) := by decide +kernel
theorem dX11_refusesCut_0 : decode cX11_refusesCut 0 = .ok (.aload_n 0, 1) := by decide +kernel
theorem dX11_refusesCut_1 : decode cX11_refusesCut 1 = .ok (.iload_n 1, 1) := by decide +kernel
theorem dX11_refusesCut_2 : decode cX11_refusesCut 2 = .ok (.iload_n 3, 1) := by decide +kernel
theorem dX11_refusesCut_3 : decode cX11_refusesCut 3 = .ok (.invokevirtual 123, 3) := by decide +kernel
theorem dX11_refusesCut_6 : decode cX11_refusesCut 6 = .ok (.ifCond .eq 10, 3) := by decide +kernel
theorem dX11_refusesCut_9 : decode cX11_refusesCut 9 = .ok (.iload_n 2, 1) := by decide +kernel
theorem dX11_refusesCut_10 : decode cX11_refusesCut 10 = .ok (.invokestatic 116, 3) := by decide +kernel
theorem dX11_refusesCut_13 : decode cX11_refusesCut 13 = .ok (.ifCond .ne 5, 3) := by decide +kernel
theorem dX11_refusesCut_16 : decode cX11_refusesCut 16 = .ok (.iconst 1, 1) := by decide +kernel
theorem dX11_refusesCut_17 : decode cX11_refusesCut 17 = .ok (.ireturn, 1) := by decide +kernel
theorem dX11_refusesCut_18 : decode cX11_refusesCut 18 = .ok (.aload_n 0, 1) := by decide +kernel
theorem dX11_refusesCut_19 : decode cX11_refusesCut 19 = .ok (.iload_n 1, 1) := by decide +kernel
theorem dX11_refusesCut_20 : decode cX11_refusesCut 20 = .ok (.iload_n 2, 1) := by decide +kernel
theorem dX11_refusesCut_21 : decode cX11_refusesCut 21 = .ok (.iconst 1, 1) := by decide +kernel
theorem dX11_refusesCut_22 : decode cX11_refusesCut 22 = .ok (.iadd, 1) := by decide +kernel
theorem dX11_refusesCut_23 : decode cX11_refusesCut 23 = .ok (.sipush 9999, 3) := by decide +kernel
theorem dX11_refusesCut_26 : decode cX11_refusesCut 26 = .ok (.invokevirtual 127, 3) := by decide +kernel
theorem dX11_refusesCut_29 : decode cX11_refusesCut 29 = .ok (.ifCond .ne 5, 3) := by decide +kernel
theorem dX11_refusesCut_32 : decode cX11_refusesCut 32 = .ok (.iconst 2, 1) := by decide +kernel
theorem dX11_refusesCut_33 : decode cX11_refusesCut 33 = .ok (.ireturn, 1) := by decide +kernel
theorem dX11_refusesCut_34 : decode cX11_refusesCut 34 = .ok (.aload_n 0, 1) := by decide +kernel
theorem dX11_refusesCut_35 : decode cX11_refusesCut 35 = .ok (.iload_n 3, 1) := by decide +kernel
theorem dX11_refusesCut_36 : decode cX11_refusesCut 36 = .ok (.invokevirtual 44, 3) := by decide +kernel
theorem dX11_refusesCut_39 : decode cX11_refusesCut 39 = .ok (.ifCond .le 7, 3) := by decide +kernel
theorem dX11_refusesCut_42 : decode cX11_refusesCut 42 = .ok (.iconst 3, 1) := by decide +kernel
theorem dX11_refusesCut_43 : decode cX11_refusesCut 43 = .ok (.goto 4, 3) := by decide +kernel
theorem dX11_refusesCut_46 : decode cX11_refusesCut 46 = .ok (.iconst 0, 1) := by decide +kernel
theorem dX11_refusesCut_47 : decode cX11_refusesCut 47 = .ok (.ireturn, 1) := by decide +kernel
theorem dX11_refusesJoin_0 : decode cX11_refusesJoin 0 = .ok (.aload_n 0, 1) := by decide +kernel
theorem dX11_refusesJoin_1 : decode cX11_refusesJoin 1 = .ok (.iload_n 1, 1) := by decide +kernel
theorem dX11_refusesJoin_2 : decode cX11_refusesJoin 2 = .ok (.iload_n 2, 1) := by decide +kernel
theorem dX11_refusesJoin_3 : decode cX11_refusesJoin 3 = .ok (.invokevirtual 123, 3) := by decide +kernel
theorem dX11_refusesJoin_6 : decode cX11_refusesJoin 6 = .ok (.ifCond .ne 5, 3) := by decide +kernel
theorem dX11_refusesJoin_9 : decode cX11_refusesJoin 9 = .ok (.iconst 1, 1) := by decide +kernel
theorem dX11_refusesJoin_10 : decode cX11_refusesJoin 10 = .ok (.ireturn, 1) := by decide +kernel
theorem dX11_refusesJoin_11 : decode cX11_refusesJoin 11 = .ok (.aload_n 0, 1) := by decide +kernel
theorem dX11_refusesJoin_12 : decode cX11_refusesJoin 12 = .ok (.iload_n 2, 1) := by decide +kernel
theorem dX11_refusesJoin_13 : decode cX11_refusesJoin 13 = .ok (.invokevirtual 44, 3) := by decide +kernel
theorem dX11_refusesJoin_16 : decode cX11_refusesJoin 16 = .ok (.ifCond .ne 5, 3) := by decide +kernel
theorem dX11_refusesJoin_19 : decode cX11_refusesJoin 19 = .ok (.iconst 2, 1) := by decide +kernel
theorem dX11_refusesJoin_20 : decode cX11_refusesJoin 20 = .ok (.ireturn, 1) := by decide +kernel
theorem dX11_refusesJoin_21 : decode cX11_refusesJoin 21 = .ok (.aload_n 0, 1) := by decide +kernel
theorem dX11_refusesJoin_22 : decode cX11_refusesJoin 22 = .ok (.iload_n 1, 1) := by decide +kernel
theorem dX11_refusesJoin_23 : decode cX11_refusesJoin 23 = .ok (.invokevirtual 44, 3) := by decide +kernel
theorem dX11_refusesJoin_26 : decode cX11_refusesJoin 26 = .ok (.ifCond .le 26, 3) := by decide +kernel
theorem dX11_refusesJoin_29 : decode cX11_refusesJoin 29 = .ok (.aload_n 0, 1) := by decide +kernel
theorem dX11_refusesJoin_30 : decode cX11_refusesJoin 30 = .ok (.iload_n 1, 1) := by decide +kernel
theorem dX11_refusesJoin_31 : decode cX11_refusesJoin 31 = .ok (.aload_n 0, 1) := by decide +kernel
theorem dX11_refusesJoin_32 : decode cX11_refusesJoin 32 = .ok (.iload_n 1, 1) := by decide +kernel
theorem dX11_refusesJoin_33 : decode cX11_refusesJoin 33 = .ok (.invokevirtual 44, 3) := by decide +kernel
theorem dX11_refusesJoin_36 : decode cX11_refusesJoin 36 = .ok (.iconst 1, 1) := by decide +kernel
theorem dX11_refusesJoin_37 : decode cX11_refusesJoin 37 = .ok (.isub, 1) := by decide +kernel
theorem dX11_refusesJoin_38 : decode cX11_refusesJoin 38 = .ok (.invokevirtual 48, 3) := by decide +kernel
theorem dX11_refusesJoin_41 : decode cX11_refusesJoin 41 = .ok (.aload_n 0, 1) := by decide +kernel
theorem dX11_refusesJoin_42 : decode cX11_refusesJoin 42 = .ok (.iload_n 2, 1) := by decide +kernel
theorem dX11_refusesJoin_43 : decode cX11_refusesJoin 43 = .ok (.iconst 0, 1) := by decide +kernel
theorem dX11_refusesJoin_44 : decode cX11_refusesJoin 44 = .ok (.invokevirtual 48, 3) := by decide +kernel
theorem dX11_refusesJoin_47 : decode cX11_refusesJoin 47 = .ok (.if_icmp .lt 5, 3) := by decide +kernel
theorem dX11_refusesJoin_50 : decode cX11_refusesJoin 50 = .ok (.iconst 3, 1) := by decide +kernel
theorem dX11_refusesJoin_51 : decode cX11_refusesJoin 51 = .ok (.ireturn, 1) := by decide +kernel
theorem dX11_refusesJoin_52 : decode cX11_refusesJoin 52 = .ok (.aload_n 0, 1) := by decide +kernel
theorem dX11_refusesJoin_53 : decode cX11_refusesJoin 53 = .ok (.iload_n 1, 1) := by decide +kernel
theorem dX11_refusesJoin_54 : decode cX11_refusesJoin 54 = .ok (.invokevirtual 44, 3) := by decide +kernel
theorem dX11_refusesJoin_57 : decode cX11_refusesJoin 57 = .ok (.aload_n 0, 1) := by decide +kernel
theorem dX11_refusesJoin_58 : decode cX11_refusesJoin 58 = .ok (.iload_n 2, 1) := by decide +kernel
theorem dX11_refusesJoin_59 : decode cX11_refusesJoin 59 = .ok (.invokevirtual 44, 3) := by decide +kernel
theorem dX11_refusesJoin_62 : decode cX11_refusesJoin 62 = .ok (.iadd, 1) := by decide +kernel
theorem dX11_refusesJoin_63 : decode cX11_refusesJoin 63 = .ok (.bipush 60, 2) := by decide +kernel
theorem dX11_refusesJoin_65 : decode cX11_refusesJoin 65 = .ok (.if_icmp .le 7, 3) := by decide +kernel
theorem dX11_refusesJoin_68 : decode cX11_refusesJoin 68 = .ok (.iconst 4, 1) := by decide +kernel
theorem dX11_refusesJoin_69 : decode cX11_refusesJoin 69 = .ok (.goto 4, 3) := by decide +kernel
theorem dX11_refusesJoin_72 : decode cX11_refusesJoin 72 = .ok (.iconst 0, 1) := by decide +kernel
theorem dX11_refusesJoin_73 : decode cX11_refusesJoin 73 = .ok (.ireturn, 1) := by decide +kernel
theorem dX11_refusesMelt_0 : decode cX11_refusesMelt 0 = .ok (.aload_n 0, 1) := by decide +kernel
theorem dX11_refusesMelt_1 : decode cX11_refusesMelt 1 = .ok (.iload_n 1, 1) := by decide +kernel
theorem dX11_refusesMelt_2 : decode cX11_refusesMelt 2 = .ok (.iload_n 2, 1) := by decide +kernel
theorem dX11_refusesMelt_3 : decode cX11_refusesMelt 3 = .ok (.invokevirtual 123, 3) := by decide +kernel
theorem dX11_refusesMelt_6 : decode cX11_refusesMelt 6 = .ok (.ifCond .ne 5, 3) := by decide +kernel
theorem dX11_refusesMelt_9 : decode cX11_refusesMelt 9 = .ok (.iconst 1, 1) := by decide +kernel
theorem dX11_refusesMelt_10 : decode cX11_refusesMelt 10 = .ok (.ireturn, 1) := by decide +kernel
theorem dX11_refusesMelt_11 : decode cX11_refusesMelt 11 = .ok (.aload_n 0, 1) := by decide +kernel
theorem dX11_refusesMelt_12 : decode cX11_refusesMelt 12 = .ok (.iload_n 2, 1) := by decide +kernel
theorem dX11_refusesMelt_13 : decode cX11_refusesMelt 13 = .ok (.invokevirtual 44, 3) := by decide +kernel
theorem dX11_refusesMelt_16 : decode cX11_refusesMelt 16 = .ok (.ifCond .ne 5, 3) := by decide +kernel
theorem dX11_refusesMelt_19 : decode cX11_refusesMelt 19 = .ok (.iconst 2, 1) := by decide +kernel
theorem dX11_refusesMelt_20 : decode cX11_refusesMelt 20 = .ok (.ireturn, 1) := by decide +kernel
theorem dX11_refusesMelt_21 : decode cX11_refusesMelt 21 = .ok (.aload_n 0, 1) := by decide +kernel
theorem dX11_refusesMelt_22 : decode cX11_refusesMelt 22 = .ok (.iload_n 1, 1) := by decide +kernel
theorem dX11_refusesMelt_23 : decode cX11_refusesMelt 23 = .ok (.invokevirtual 44, 3) := by decide +kernel
theorem dX11_refusesMelt_26 : decode cX11_refusesMelt 26 = .ok (.aload_n 0, 1) := by decide +kernel
theorem dX11_refusesMelt_27 : decode cX11_refusesMelt 27 = .ok (.iload_n 2, 1) := by decide +kernel
theorem dX11_refusesMelt_28 : decode cX11_refusesMelt 28 = .ok (.invokevirtual 44, 3) := by decide +kernel
theorem dX11_refusesMelt_31 : decode cX11_refusesMelt 31 = .ok (.iadd, 1) := by decide +kernel
theorem dX11_refusesMelt_32 : decode cX11_refusesMelt 32 = .ok (.aload_n 0, 1) := by decide +kernel
theorem dX11_refusesMelt_33 : decode cX11_refusesMelt 33 = .ok (.iload_n 1, 1) := by decide +kernel
theorem dX11_refusesMelt_34 : decode cX11_refusesMelt 34 = .ok (.iload_n 2, 1) := by decide +kernel
theorem dX11_refusesMelt_35 : decode cX11_refusesMelt 35 = .ok (.invokevirtual 131, 3) := by decide +kernel
theorem dX11_refusesMelt_38 : decode cX11_refusesMelt 38 = .ok (.isub, 1) := by decide +kernel
theorem dX11_refusesMelt_39 : decode cX11_refusesMelt 39 = .ok (.bipush 60, 2) := by decide +kernel
theorem dX11_refusesMelt_41 : decode cX11_refusesMelt 41 = .ok (.if_icmp .le 7, 3) := by decide +kernel
theorem dX11_refusesMelt_44 : decode cX11_refusesMelt 44 = .ok (.iconst 4, 1) := by decide +kernel
theorem dX11_refusesMelt_45 : decode cX11_refusesMelt 45 = .ok (.goto 4, 3) := by decide +kernel
theorem dX11_refusesMelt_48 : decode cX11_refusesMelt 48 = .ok (.iconst 0, 1) := by decide +kernel
theorem dX11_refusesMelt_49 : decode cX11_refusesMelt 49 = .ok (.ireturn, 1) := by decide +kernel
theorem dX11_refusesShift_0 : decode cX11_refusesShift 0 = .ok (.iload_n 1, 1) := by decide +kernel
theorem dX11_refusesShift_1 : decode cX11_refusesShift 1 = .ok (.invokestatic 112, 3) := by decide +kernel
theorem dX11_refusesShift_4 : decode cX11_refusesShift 4 = .ok (.ifCond .eq 16, 3) := by decide +kernel
theorem dX11_refusesShift_7 : decode cX11_refusesShift 7 = .ok (.iload_n 2, 1) := by decide +kernel
theorem dX11_refusesShift_8 : decode cX11_refusesShift 8 = .ok (.sipush (-9999), 3) := by decide +kernel
theorem dX11_refusesShift_11 : decode cX11_refusesShift 11 = .ok (.sipush 9999, 3) := by decide +kernel
theorem dX11_refusesShift_14 : decode cX11_refusesShift 14 = .ok (.invokestatic 37, 3) := by decide +kernel
theorem dX11_refusesShift_17 : decode cX11_refusesShift 17 = .ok (.ifCond .ne 5, 3) := by decide +kernel
theorem dX11_refusesShift_20 : decode cX11_refusesShift 20 = .ok (.iconst 1, 1) := by decide +kernel
theorem dX11_refusesShift_21 : decode cX11_refusesShift 21 = .ok (.ireturn, 1) := by decide +kernel
theorem dX11_refusesShift_22 : decode cX11_refusesShift 22 = .ok (.iload_n 2, 1) := by decide +kernel
theorem dX11_refusesShift_23 : decode cX11_refusesShift 23 = .ok (.ifCond .eq 11, 3) := by decide +kernel
theorem dX11_refusesShift_26 : decode cX11_refusesShift 26 = .ok (.aload_n 0, 1) := by decide +kernel
theorem dX11_refusesShift_27 : decode cX11_refusesShift 27 = .ok (.iload_n 1, 1) := by decide +kernel
theorem dX11_refusesShift_28 : decode cX11_refusesShift 28 = .ok (.invokevirtual 44, 3) := by decide +kernel
theorem dX11_refusesShift_31 : decode cX11_refusesShift 31 = .ok (.ifCond .ne 5, 3) := by decide +kernel
theorem dX11_refusesShift_34 : decode cX11_refusesShift 34 = .ok (.iconst 2, 1) := by decide +kernel
theorem dX11_refusesShift_35 : decode cX11_refusesShift 35 = .ok (.ireturn, 1) := by decide +kernel
theorem dX11_refusesShift_36 : decode cX11_refusesShift 36 = .ok (.aload_n 0, 1) := by decide +kernel
theorem dX11_refusesShift_37 : decode cX11_refusesShift 37 = .ok (.iload_n 1, 1) := by decide +kernel
theorem dX11_refusesShift_38 : decode cX11_refusesShift 38 = .ok (.iconst 0, 1) := by decide +kernel
theorem dX11_refusesShift_39 : decode cX11_refusesShift 39 = .ok (.invokevirtual 48, 3) := by decide +kernel
theorem dX11_refusesShift_42 : decode cX11_refusesShift 42 = .ok (.iload_n 2, 1) := by decide +kernel
theorem dX11_refusesShift_43 : decode cX11_refusesShift 43 = .ok (.iadd, 1) := by decide +kernel
theorem dX11_refusesShift_44 : decode cX11_refusesShift 44 = .ok (.invokestatic 116, 3) := by decide +kernel
theorem dX11_refusesShift_47 : decode cX11_refusesShift 47 = .ok (.ifCond .eq 27, 3) := by decide +kernel
theorem dX11_refusesShift_50 : decode cX11_refusesShift 50 = .ok (.aload_n 0, 1) := by decide +kernel
theorem dX11_refusesShift_51 : decode cX11_refusesShift 51 = .ok (.iload_n 1, 1) := by decide +kernel
theorem dX11_refusesShift_52 : decode cX11_refusesShift 52 = .ok (.aload_n 0, 1) := by decide +kernel
theorem dX11_refusesShift_53 : decode cX11_refusesShift 53 = .ok (.iload_n 1, 1) := by decide +kernel
theorem dX11_refusesShift_54 : decode cX11_refusesShift 54 = .ok (.invokevirtual 44, 3) := by decide +kernel
theorem dX11_refusesShift_57 : decode cX11_refusesShift 57 = .ok (.iconst 1, 1) := by decide +kernel
theorem dX11_refusesShift_58 : decode cX11_refusesShift 58 = .ok (.isub, 1) := by decide +kernel
theorem dX11_refusesShift_59 : decode cX11_refusesShift 59 = .ok (.invokevirtual 48, 3) := by decide +kernel
theorem dX11_refusesShift_62 : decode cX11_refusesShift 62 = .ok (.iload_n 2, 1) := by decide +kernel
theorem dX11_refusesShift_63 : decode cX11_refusesShift 63 = .ok (.iadd, 1) := by decide +kernel
theorem dX11_refusesShift_64 : decode cX11_refusesShift 64 = .ok (.invokestatic 116, 3) := by decide +kernel
theorem dX11_refusesShift_67 : decode cX11_refusesShift 67 = .ok (.ifCond .eq 7, 3) := by decide +kernel
theorem dX11_refusesShift_70 : decode cX11_refusesShift 70 = .ok (.iconst 0, 1) := by decide +kernel
theorem dX11_refusesShift_71 : decode cX11_refusesShift 71 = .ok (.goto 4, 3) := by decide +kernel
theorem dX11_refusesShift_74 : decode cX11_refusesShift 74 = .ok (.iconst 3, 1) := by decide +kernel
theorem dX11_refusesShift_75 : decode cX11_refusesShift 75 = .ok (.ireturn, 1) := by decide +kernel
theorem dX11_refusesMove_0 : decode cX11_refusesMove 0 = .ok (.aload_n 0, 1) := by decide +kernel
theorem dX11_refusesMove_1 : decode cX11_refusesMove 1 = .ok (.iload_n 1, 1) := by decide +kernel
theorem dX11_refusesMove_2 : decode cX11_refusesMove 2 = .ok (.iload 4, 2) := by decide +kernel
theorem dX11_refusesMove_4 : decode cX11_refusesMove 4 = .ok (.invokevirtual 123, 3) := by decide +kernel
theorem dX11_refusesMove_7 : decode cX11_refusesMove 7 = .ok (.ifCond .eq 17, 3) := by decide +kernel
theorem dX11_refusesMove_10 : decode cX11_refusesMove 10 = .ok (.iload_n 2, 1) := by decide +kernel
theorem dX11_refusesMove_11 : decode cX11_refusesMove 11 = .ok (.invokestatic 116, 3) := by decide +kernel
theorem dX11_refusesMove_14 : decode cX11_refusesMove 14 = .ok (.ifCond .eq 10, 3) := by decide +kernel
theorem dX11_refusesMove_17 : decode cX11_refusesMove 17 = .ok (.iload_n 3, 1) := by decide +kernel
theorem dX11_refusesMove_18 : decode cX11_refusesMove 18 = .ok (.invokestatic 116, 3) := by decide +kernel
theorem dX11_refusesMove_21 : decode cX11_refusesMove 21 = .ok (.ifCond .ne 5, 3) := by decide +kernel
theorem dX11_refusesMove_24 : decode cX11_refusesMove 24 = .ok (.iconst 1, 1) := by decide +kernel
theorem dX11_refusesMove_25 : decode cX11_refusesMove 25 = .ok (.ireturn, 1) := by decide +kernel
theorem dX11_refusesMove_26 : decode cX11_refusesMove 26 = .ok (.aload_n 0, 1) := by decide +kernel
theorem dX11_refusesMove_27 : decode cX11_refusesMove 27 = .ok (.iload_n 1, 1) := by decide +kernel
theorem dX11_refusesMove_28 : decode cX11_refusesMove 28 = .ok (.iload_n 2, 1) := by decide +kernel
theorem dX11_refusesMove_29 : decode cX11_refusesMove 29 = .ok (.iload_n 3, 1) := by decide +kernel
theorem dX11_refusesMove_30 : decode cX11_refusesMove 30 = .ok (.invokevirtual 127, 3) := by decide +kernel
theorem dX11_refusesMove_33 : decode cX11_refusesMove 33 = .ok (.istore 5, 2) := by decide +kernel
theorem dX11_refusesMove_35 : decode cX11_refusesMove 35 = .ok (.iload 5, 2) := by decide +kernel
theorem dX11_refusesMove_37 : decode cX11_refusesMove 37 = .ok (.ifCond .ne 5, 3) := by decide +kernel
theorem dX11_refusesMove_40 : decode cX11_refusesMove 40 = .ok (.iconst 2, 1) := by decide +kernel
theorem dX11_refusesMove_41 : decode cX11_refusesMove 41 = .ok (.ireturn, 1) := by decide +kernel
theorem dX11_refusesMove_42 : decode cX11_refusesMove 42 = .ok (.aload_n 0, 1) := by decide +kernel
theorem dX11_refusesMove_43 : decode cX11_refusesMove 43 = .ok (.iload_n 1, 1) := by decide +kernel
theorem dX11_refusesMove_44 : decode cX11_refusesMove 44 = .ok (.iload_n 2, 1) := by decide +kernel
theorem dX11_refusesMove_45 : decode cX11_refusesMove 45 = .ok (.invokevirtual 52, 3) := by decide +kernel
theorem dX11_refusesMove_48 : decode cX11_refusesMove 48 = .ok (.istore 6, 2) := by decide +kernel
theorem dX11_refusesMove_50 : decode cX11_refusesMove 50 = .ok (.aload_n 0, 1) := by decide +kernel
theorem dX11_refusesMove_51 : decode cX11_refusesMove 51 = .ok (.iload 4, 2) := by decide +kernel
theorem dX11_refusesMove_53 : decode cX11_refusesMove 53 = .ok (.aload_n 0, 1) := by decide +kernel
theorem dX11_refusesMove_54 : decode cX11_refusesMove 54 = .ok (.iload_n 1, 1) := by decide +kernel
theorem dX11_refusesMove_55 : decode cX11_refusesMove 55 = .ok (.iload 6, 2) := by decide +kernel
theorem dX11_refusesMove_57 : decode cX11_refusesMove 57 = .ok (.invokevirtual 48, 3) := by decide +kernel
theorem dX11_refusesMove_60 : decode cX11_refusesMove 60 = .ok (.aload_n 0, 1) := by decide +kernel
theorem dX11_refusesMove_61 : decode cX11_refusesMove 61 = .ok (.iload_n 1, 1) := by decide +kernel
theorem dX11_refusesMove_62 : decode cX11_refusesMove 62 = .ok (.iload 6, 2) := by decide +kernel
theorem dX11_refusesMove_64 : decode cX11_refusesMove 64 = .ok (.iload 5, 2) := by decide +kernel
theorem dX11_refusesMove_66 : decode cX11_refusesMove 66 = .ok (.iadd, 1) := by decide +kernel
theorem dX11_refusesMove_67 : decode cX11_refusesMove 67 = .ok (.iconst 1, 1) := by decide +kernel
theorem dX11_refusesMove_68 : decode cX11_refusesMove 68 = .ok (.isub, 1) := by decide +kernel
theorem dX11_refusesMove_69 : decode cX11_refusesMove 69 = .ok (.invokevirtual 48, 3) := by decide +kernel
theorem dX11_refusesMove_72 : decode cX11_refusesMove 72 = .ok (.invokevirtual 127, 3) := by decide +kernel
theorem dX11_refusesMove_75 : decode cX11_refusesMove 75 = .ok (.ifCond .le 5, 3) := by decide +kernel
theorem dX11_refusesMove_78 : decode cX11_refusesMove 78 = .ok (.iconst 3, 1) := by decide +kernel
theorem dX11_refusesMove_79 : decode cX11_refusesMove 79 = .ok (.ireturn, 1) := by decide +kernel
theorem dX11_refusesMove_80 : decode cX11_refusesMove 80 = .ok (.aload_n 0, 1) := by decide +kernel
theorem dX11_refusesMove_81 : decode cX11_refusesMove 81 = .ok (.iload 4, 2) := by decide +kernel
theorem dX11_refusesMove_83 : decode cX11_refusesMove 83 = .ok (.invokevirtual 44, 3) := by decide +kernel
theorem dX11_refusesMove_86 : decode cX11_refusesMove 86 = .ok (.iload 5, 2) := by decide +kernel
theorem dX11_refusesMove_88 : decode cX11_refusesMove 88 = .ok (.iadd, 1) := by decide +kernel
theorem dX11_refusesMove_89 : decode cX11_refusesMove 89 = .ok (.bipush 60, 2) := by decide +kernel
theorem dX11_refusesMove_91 : decode cX11_refusesMove 91 = .ok (.if_icmp .le 7, 3) := by decide +kernel
theorem dX11_refusesMove_94 : decode cX11_refusesMove 94 = .ok (.iconst 4, 1) := by decide +kernel
theorem dX11_refusesMove_95 : decode cX11_refusesMove 95 = .ok (.goto 4, 3) := by decide +kernel
theorem dX11_refusesMove_98 : decode cX11_refusesMove 98 = .ok (.iconst 0, 1) := by decide +kernel
theorem dX11_refusesMove_99 : decode cX11_refusesMove 99 = .ok (.ireturn, 1) := by decide +kernel
theorem dX11_marked_0 : decode cX11_marked 0 = .ok (.iconst 0, 1) := by decide +kernel
theorem dX11_marked_1 : decode cX11_marked 1 = .ok (.istore 6, 2) := by decide +kernel
theorem dX11_marked_3 : decode cX11_marked 3 = .ok (.iconst 0, 1) := by decide +kernel
theorem dX11_marked_4 : decode cX11_marked 4 = .ok (.istore 7, 2) := by decide +kernel
theorem dX11_marked_6 : decode cX11_marked 6 = .ok (.iload 7, 2) := by decide +kernel
theorem dX11_marked_8 : decode cX11_marked 8 = .ok (.aload_n 0, 1) := by decide +kernel
theorem dX11_marked_9 : decode cX11_marked 9 = .ok (.iload_n 1, 1) := by decide +kernel
theorem dX11_marked_10 : decode cX11_marked 10 = .ok (.invokevirtual 44, 3) := by decide +kernel
theorem dX11_marked_13 : decode cX11_marked 13 = .ok (.if_icmp .ge 69, 3) := by decide +kernel
theorem dX11_marked_16 : decode cX11_marked 16 = .ok (.aload_n 0, 1) := by decide +kernel
theorem dX11_marked_17 : decode cX11_marked 17 = .ok (.iload_n 1, 1) := by decide +kernel
theorem dX11_marked_18 : decode cX11_marked 18 = .ok (.iload 7, 2) := by decide +kernel
theorem dX11_marked_20 : decode cX11_marked 20 = .ok (.invokevirtual 48, 3) := by decide +kernel
theorem dX11_marked_23 : decode cX11_marked 23 = .ok (.iload_n 2, 1) := by decide +kernel
theorem dX11_marked_24 : decode cX11_marked 24 = .ok (.iload_n 3, 1) := by decide +kernel
theorem dX11_marked_25 : decode cX11_marked 25 = .ok (.invokestatic 37, 3) := by decide +kernel
theorem dX11_marked_28 : decode cX11_marked 28 = .ok (.ifCond .eq 48, 3) := by decide +kernel
theorem dX11_marked_31 : decode cX11_marked 31 = .ok (.aload_n 0, 1) := by decide +kernel
theorem dX11_marked_32 : decode cX11_marked 32 = .ok (.iload_n 1, 1) := by decide +kernel
theorem dX11_marked_33 : decode cX11_marked 33 = .ok (.iload 7, 2) := by decide +kernel
theorem dX11_marked_35 : decode cX11_marked 35 = .ok (.invokevirtual 134, 3) := by decide +kernel
theorem dX11_marked_38 : decode cX11_marked 38 = .ok (.iload 4, 2) := by decide +kernel
theorem dX11_marked_40 : decode cX11_marked 40 = .ok (.if_icmp .ne 6, 3) := by decide +kernel
theorem dX11_marked_43 : decode cX11_marked 43 = .ok (.goto 33, 3) := by decide +kernel
theorem dX11_marked_46 : decode cX11_marked 46 = .ok (.iinc 6 1, 3) := by decide +kernel
theorem dX11_marked_49 : decode cX11_marked 49 = .ok (.iload 5, 2) := by decide +kernel
theorem dX11_marked_51 : decode cX11_marked 51 = .ok (.ifCond .eq 25, 3) := by decide +kernel
theorem dX11_marked_54 : decode cX11_marked 54 = .ok (.aload_n 0, 1) := by decide +kernel
theorem dX11_marked_55 : decode cX11_marked 55 = .ok (.getfield 7, 3) := by decide +kernel
theorem dX11_marked_58 : decode cX11_marked 58 = .ok (.aload_n 0, 1) := by decide +kernel
theorem dX11_marked_59 : decode cX11_marked 59 = .ok (.getfield 41, 3) := by decide +kernel
theorem dX11_marked_62 : decode cX11_marked 62 = .ok (.bipush 122, 2) := by decide +kernel
theorem dX11_marked_64 : decode cX11_marked 64 = .ok (.iload_n 1, 1) := by decide +kernel
theorem dX11_marked_65 : decode cX11_marked 65 = .ok (.imul, 1) := by decide +kernel
theorem dX11_marked_66 : decode cX11_marked 66 = .ok (.iadd, 1) := by decide +kernel
theorem dX11_marked_67 : decode cX11_marked 67 = .ok (.bipush 62, 2) := by decide +kernel
theorem dX11_marked_69 : decode cX11_marked 69 = .ok (.iadd, 1) := by decide +kernel
theorem dX11_marked_70 : decode cX11_marked 70 = .ok (.iload 7, 2) := by decide +kernel
theorem dX11_marked_72 : decode cX11_marked 72 = .ok (.iadd, 1) := by decide +kernel
theorem dX11_marked_73 : decode cX11_marked 73 = .ok (.iload 4, 2) := by decide +kernel
theorem dX11_marked_75 : decode cX11_marked 75 = .ok (.iastore, 1) := by decide +kernel
theorem dX11_marked_76 : decode cX11_marked 76 = .ok (.iinc 7 1, 3) := by decide +kernel
theorem dX11_marked_79 : decode cX11_marked 79 = .ok (.goto (-73), 3) := by decide +kernel
theorem dX11_marked_82 : decode cX11_marked 82 = .ok (.iload 6, 2) := by decide +kernel
theorem dX11_marked_84 : decode cX11_marked 84 = .ok (.ireturn, 1) := by decide +kernel
theorem dX11_refusesMark_0 : decode cX11_refusesMark 0 = .ok (.iload_n 1, 1) := by decide +kernel
theorem dX11_refusesMark_1 : decode cX11_refusesMark 1 = .ok (.invokestatic 112, 3) := by decide +kernel
theorem dX11_refusesMark_4 : decode cX11_refusesMark 4 = .ok (.ifCond .eq 17, 3) := by decide +kernel
theorem dX11_refusesMark_7 : decode cX11_refusesMark 7 = .ok (.iload_n 2, 1) := by decide +kernel
theorem dX11_refusesMark_8 : decode cX11_refusesMark 8 = .ok (.invokestatic 116, 3) := by decide +kernel
theorem dX11_refusesMark_11 : decode cX11_refusesMark 11 = .ok (.ifCond .eq 10, 3) := by decide +kernel
theorem dX11_refusesMark_14 : decode cX11_refusesMark 14 = .ok (.iload_n 3, 1) := by decide +kernel
theorem dX11_refusesMark_15 : decode cX11_refusesMark 15 = .ok (.invokestatic 116, 3) := by decide +kernel
theorem dX11_refusesMark_18 : decode cX11_refusesMark 18 = .ok (.ifCond .ne 5, 3) := by decide +kernel
theorem dX11_refusesMark_21 : decode cX11_refusesMark 21 = .ok (.iconst 1, 1) := by decide +kernel
theorem dX11_refusesMark_22 : decode cX11_refusesMark 22 = .ok (.ireturn, 1) := by decide +kernel
theorem dX11_refusesMark_23 : decode cX11_refusesMark 23 = .ok (.aload_n 0, 1) := by decide +kernel
theorem dX11_refusesMark_24 : decode cX11_refusesMark 24 = .ok (.iload_n 1, 1) := by decide +kernel
theorem dX11_refusesMark_25 : decode cX11_refusesMark 25 = .ok (.iload_n 2, 1) := by decide +kernel
theorem dX11_refusesMark_26 : decode cX11_refusesMark 26 = .ok (.iload_n 3, 1) := by decide +kernel
theorem dX11_refusesMark_27 : decode cX11_refusesMark 27 = .ok (.iload 4, 2) := by decide +kernel
theorem dX11_refusesMark_29 : decode cX11_refusesMark 29 = .ok (.iconst 0, 1) := by decide +kernel
theorem dX11_refusesMark_30 : decode cX11_refusesMark 30 = .ok (.invokevirtual 137, 3) := by decide +kernel
theorem dX11_refusesMark_33 : decode cX11_refusesMark 33 = .ok (.ifCond .ne 7, 3) := by decide +kernel
theorem dX11_refusesMark_36 : decode cX11_refusesMark 36 = .ok (.iconst 2, 1) := by decide +kernel
theorem dX11_refusesMark_37 : decode cX11_refusesMark 37 = .ok (.goto 4, 3) := by decide +kernel
theorem dX11_refusesMark_40 : decode cX11_refusesMark 40 = .ok (.iconst 0, 1) := by decide +kernel
theorem dX11_refusesMark_41 : decode cX11_refusesMark 41 = .ok (.ireturn, 1) := by decide +kernel
theorem dX11_goOver_0 : decode cX11_goOver 0 = .ok (.aload_n 0, 1) := by decide +kernel
theorem dX11_goOver_1 : decode cX11_goOver 1 = .ok (.iload_n 1, 1) := by decide +kernel
theorem dX11_goOver_2 : decode cX11_goOver 2 = .ok (.iload_n 2, 1) := by decide +kernel
theorem dX11_goOver_3 : decode cX11_goOver 3 = .ok (.iload_n 3, 1) := by decide +kernel
theorem dX11_goOver_4 : decode cX11_goOver 4 = .ok (.invokevirtual 127, 3) := by decide +kernel
theorem dX11_goOver_7 : decode cX11_goOver 7 = .ok (.istore 5, 2) := by decide +kernel
theorem dX11_goOver_9 : decode cX11_goOver 9 = .ok (.aload_n 0, 1) := by decide +kernel
theorem dX11_goOver_10 : decode cX11_goOver 10 = .ok (.iload_n 1, 1) := by decide +kernel
theorem dX11_goOver_11 : decode cX11_goOver 11 = .ok (.iload_n 2, 1) := by decide +kernel
theorem dX11_goOver_12 : decode cX11_goOver 12 = .ok (.invokevirtual 52, 3) := by decide +kernel
theorem dX11_goOver_15 : decode cX11_goOver 15 = .ok (.istore 6, 2) := by decide +kernel
theorem dX11_goOver_17 : decode cX11_goOver 17 = .ok (.iconst 0, 1) := by decide +kernel
theorem dX11_goOver_18 : decode cX11_goOver 18 = .ok (.istore 7, 2) := by decide +kernel
theorem dX11_goOver_20 : decode cX11_goOver 20 = .ok (.iload 7, 2) := by decide +kernel
theorem dX11_goOver_22 : decode cX11_goOver 22 = .ok (.iload 5, 2) := by decide +kernel
theorem dX11_goOver_24 : decode cX11_goOver 24 = .ok (.if_icmp .ge 91, 3) := by decide +kernel
theorem dX11_goOver_27 : decode cX11_goOver 27 = .ok (.aload_n 0, 1) := by decide +kernel
theorem dX11_goOver_28 : decode cX11_goOver 28 = .ok (.iload_n 1, 1) := by decide +kernel
theorem dX11_goOver_29 : decode cX11_goOver 29 = .ok (.iload 6, 2) := by decide +kernel
theorem dX11_goOver_31 : decode cX11_goOver 31 = .ok (.invokevirtual 48, 3) := by decide +kernel
theorem dX11_goOver_34 : decode cX11_goOver 34 = .ok (.istore 8, 2) := by decide +kernel
theorem dX11_goOver_36 : decode cX11_goOver 36 = .ok (.aload_n 0, 1) := by decide +kernel
theorem dX11_goOver_37 : decode cX11_goOver 37 = .ok (.iload_n 1, 1) := by decide +kernel
theorem dX11_goOver_38 : decode cX11_goOver 38 = .ok (.iload 6, 2) := by decide +kernel
theorem dX11_goOver_40 : decode cX11_goOver 40 = .ok (.invokevirtual 134, 3) := by decide +kernel
theorem dX11_goOver_43 : decode cX11_goOver 43 = .ok (.istore 9, 2) := by decide +kernel
theorem dX11_goOver_45 : decode cX11_goOver 45 = .ok (.aload_n 0, 1) := by decide +kernel
theorem dX11_goOver_46 : decode cX11_goOver 46 = .ok (.iload_n 1, 1) := by decide +kernel
theorem dX11_goOver_47 : decode cX11_goOver 47 = .ok (.iload 6, 2) := by decide +kernel
theorem dX11_goOver_49 : decode cX11_goOver 49 = .ok (.invokevirtual 141, 3) := by decide +kernel
theorem dX11_goOver_52 : decode cX11_goOver 52 = .ok (.aload_n 0, 1) := by decide +kernel
theorem dX11_goOver_53 : decode cX11_goOver 53 = .ok (.iload 4, 2) := by decide +kernel
theorem dX11_goOver_55 : decode cX11_goOver 55 = .ok (.iload 8, 2) := by decide +kernel
theorem dX11_goOver_57 : decode cX11_goOver 57 = .ok (.invokevirtual 59, 3) := by decide +kernel
theorem dX11_goOver_60 : decode cX11_goOver 60 = .ok (.istore 10, 2) := by decide +kernel
theorem dX11_goOver_62 : decode cX11_goOver 62 = .ok (.iload 10, 2) := by decide +kernel
theorem dX11_goOver_64 : decode cX11_goOver 64 = .ok (.iconst (-1), 1) := by decide +kernel
theorem dX11_goOver_65 : decode cX11_goOver 65 = .ok (.if_icmp .ne 16, 3) := by decide +kernel
theorem dX11_goOver_68 : decode cX11_goOver 68 = .ok (.aload_n 0, 1) := by decide +kernel
theorem dX11_goOver_69 : decode cX11_goOver 69 = .ok (.iload 4, 2) := by decide +kernel
theorem dX11_goOver_71 : decode cX11_goOver 71 = .ok (.iload 8, 2) := by decide +kernel
theorem dX11_goOver_73 : decode cX11_goOver 73 = .ok (.iload 9, 2) := by decide +kernel
theorem dX11_goOver_75 : decode cX11_goOver 75 = .ok (.invokevirtual 144, 3) := by decide +kernel
theorem dX11_goOver_78 : decode cX11_goOver 78 = .ok (.goto 31, 3) := by decide +kernel
theorem dX11_goOver_81 : decode cX11_goOver 81 = .ok (.iload 9, 2) := by decide +kernel
theorem dX11_goOver_83 : decode cX11_goOver 83 = .ok (.iconst 1, 1) := by decide +kernel
theorem dX11_goOver_84 : decode cX11_goOver 84 = .ok (.if_icmp .ne 25, 3) := by decide +kernel
theorem dX11_goOver_87 : decode cX11_goOver 87 = .ok (.aload_n 0, 1) := by decide +kernel
theorem dX11_goOver_88 : decode cX11_goOver 88 = .ok (.getfield 7, 3) := by decide +kernel
theorem dX11_goOver_91 : decode cX11_goOver 91 = .ok (.aload_n 0, 1) := by decide +kernel
theorem dX11_goOver_92 : decode cX11_goOver 92 = .ok (.getfield 41, 3) := by decide +kernel
theorem dX11_goOver_95 : decode cX11_goOver 95 = .ok (.bipush 122, 2) := by decide +kernel
theorem dX11_goOver_97 : decode cX11_goOver 97 = .ok (.iload 4, 2) := by decide +kernel
theorem dX11_goOver_99 : decode cX11_goOver 99 = .ok (.imul, 1) := by decide +kernel
theorem dX11_goOver_100 : decode cX11_goOver 100 = .ok (.iadd, 1) := by decide +kernel
theorem dX11_goOver_101 : decode cX11_goOver 101 = .ok (.bipush 62, 2) := by decide +kernel
theorem dX11_goOver_103 : decode cX11_goOver 103 = .ok (.iadd, 1) := by decide +kernel
theorem dX11_goOver_104 : decode cX11_goOver 104 = .ok (.iload 10, 2) := by decide +kernel
theorem dX11_goOver_106 : decode cX11_goOver 106 = .ok (.iadd, 1) := by decide +kernel
theorem dX11_goOver_107 : decode cX11_goOver 107 = .ok (.iconst 1, 1) := by decide +kernel
theorem dX11_goOver_108 : decode cX11_goOver 108 = .ok (.iastore, 1) := by decide +kernel
theorem dX11_goOver_109 : decode cX11_goOver 109 = .ok (.iinc 7 1, 3) := by decide +kernel
theorem dX11_goOver_112 : decode cX11_goOver 112 = .ok (.goto (-92), 3) := by decide +kernel
theorem dX11_goOver_115 : decode cX11_goOver 115 = .ok (.iload 5, 2) := by decide +kernel
theorem dX11_goOver_117 : decode cX11_goOver 117 = .ok (.ireturn, 1) := by decide +kernel
theorem dX11_shifts_0 : decode cX11_shifts 0 = .ok (.iconst 0, 1) := by decide +kernel
theorem dX11_shifts_1 : decode cX11_shifts 1 = .ok (.istore_n 3, 1) := by decide +kernel
theorem dX11_shifts_2 : decode cX11_shifts 2 = .ok (.iload_n 3, 1) := by decide +kernel
theorem dX11_shifts_3 : decode cX11_shifts 3 = .ok (.aload_n 0, 1) := by decide +kernel
theorem dX11_shifts_4 : decode cX11_shifts 4 = .ok (.iload_n 1, 1) := by decide +kernel
theorem dX11_shifts_5 : decode cX11_shifts 5 = .ok (.invokevirtual 44, 3) := by decide +kernel
theorem dX11_shifts_8 : decode cX11_shifts 8 = .ok (.if_icmp .ge 31, 3) := by decide +kernel
theorem dX11_shifts_11 : decode cX11_shifts 11 = .ok (.aload_n 0, 1) := by decide +kernel
theorem dX11_shifts_12 : decode cX11_shifts 12 = .ok (.getfield 7, 3) := by decide +kernel
theorem dX11_shifts_15 : decode cX11_shifts 15 = .ok (.aload_n 0, 1) := by decide +kernel
theorem dX11_shifts_16 : decode cX11_shifts 16 = .ok (.getfield 41, 3) := by decide +kernel
theorem dX11_shifts_19 : decode cX11_shifts 19 = .ok (.bipush 122, 2) := by decide +kernel
theorem dX11_shifts_21 : decode cX11_shifts 21 = .ok (.iload_n 1, 1) := by decide +kernel
theorem dX11_shifts_22 : decode cX11_shifts 22 = .ok (.imul, 1) := by decide +kernel
theorem dX11_shifts_23 : decode cX11_shifts 23 = .ok (.iadd, 1) := by decide +kernel
theorem dX11_shifts_24 : decode cX11_shifts 24 = .ok (.iconst 2, 1) := by decide +kernel
theorem dX11_shifts_25 : decode cX11_shifts 25 = .ok (.iadd, 1) := by decide +kernel
theorem dX11_shifts_26 : decode cX11_shifts 26 = .ok (.iload_n 3, 1) := by decide +kernel
theorem dX11_shifts_27 : decode cX11_shifts 27 = .ok (.iadd, 1) := by decide +kernel
theorem dX11_shifts_28 : decode cX11_shifts 28 = .ok (.dup2, 1) := by decide +kernel
theorem dX11_shifts_29 : decode cX11_shifts 29 = .ok (.iaload, 1) := by decide +kernel
theorem dX11_shifts_30 : decode cX11_shifts 30 = .ok (.iload_n 2, 1) := by decide +kernel
theorem dX11_shifts_31 : decode cX11_shifts 31 = .ok (.iadd, 1) := by decide +kernel
theorem dX11_shifts_32 : decode cX11_shifts 32 = .ok (.iastore, 1) := by decide +kernel
theorem dX11_shifts_33 : decode cX11_shifts 33 = .ok (.iinc 3 1, 3) := by decide +kernel
theorem dX11_shifts_36 : decode cX11_shifts 36 = .ok (.goto (-34), 3) := by decide +kernel
theorem dX11_shifts_39 : decode cX11_shifts 39 = .ok (.aload_n 0, 1) := by decide +kernel
theorem dX11_shifts_40 : decode cX11_shifts 40 = .ok (.iload_n 1, 1) := by decide +kernel
theorem dX11_shifts_41 : decode cX11_shifts 41 = .ok (.invokevirtual 148, 3) := by decide +kernel
theorem dX11_shifts_44 : decode cX11_shifts 44 = .ok (.iconst (-1), 1) := by decide +kernel
theorem dX11_shifts_45 : decode cX11_shifts 45 = .ok (.if_icmp .eq 15, 3) := by decide +kernel
theorem dX11_shifts_48 : decode cX11_shifts 48 = .ok (.aload_n 0, 1) := by decide +kernel
theorem dX11_shifts_49 : decode cX11_shifts 49 = .ok (.iload_n 1, 1) := by decide +kernel
theorem dX11_shifts_50 : decode cX11_shifts 50 = .ok (.aload_n 0, 1) := by decide +kernel
theorem dX11_shifts_51 : decode cX11_shifts 51 = .ok (.iload_n 1, 1) := by decide +kernel
theorem dX11_shifts_52 : decode cX11_shifts 52 = .ok (.invokevirtual 148, 3) := by decide +kernel
theorem dX11_shifts_55 : decode cX11_shifts 55 = .ok (.iload_n 2, 1) := by decide +kernel
theorem dX11_shifts_56 : decode cX11_shifts 56 = .ok (.iadd, 1) := by decide +kernel
theorem dX11_shifts_57 : decode cX11_shifts 57 = .ok (.invokevirtual 55, 3) := by decide +kernel
theorem dX11_shifts_60 : decode cX11_shifts 60 = .ok (.return_, 1) := by decide +kernel
theorem dX11_keeps_0 : decode cX11_keeps 0 = .ok (.aload_n 0, 1) := by decide +kernel
theorem dX11_keeps_1 : decode cX11_keeps 1 = .ok (.getfield 151, 3) := by decide +kernel
theorem dX11_keeps_4 : decode cX11_keeps 4 = .ok (.bipush 12, 2) := by decide +kernel
theorem dX11_keeps_6 : decode cX11_keeps 6 = .ok (.if_icmp .ne 26, 3) := by decide +kernel
theorem dX11_keeps_9 : decode cX11_keeps 9 = .ok (.aload_n 0, 1) := by decide +kernel
theorem dX11_keeps_10 : decode cX11_keeps 10 = .ok (.sipush 2928, 3) := by decide +kernel
theorem dX11_keeps_13 : decode cX11_keeps 13 = .ok (.sipush 1952, 3) := by decide +kernel
theorem dX11_keeps_16 : decode cX11_keeps 16 = .ok (.sipush 10736, 3) := by decide +kernel
theorem dX11_keeps_19 : decode cX11_keeps 19 = .ok (.invokevirtual 154, 3) := by decide +kernel
theorem dX11_keeps_22 : decode cX11_keeps 22 = .ok (.aload_n 0, 1) := by decide +kernel
theorem dX11_keeps_23 : decode cX11_keeps 23 = .ok (.dup, 1) := by decide +kernel
theorem dX11_keeps_24 : decode cX11_keeps 24 = .ok (.getfield 151, 3) := by decide +kernel
theorem dX11_keeps_27 : decode cX11_keeps 27 = .ok (.iconst 1, 1) := by decide +kernel
theorem dX11_keeps_28 : decode cX11_keeps 28 = .ok (.isub, 1) := by decide +kernel
theorem dX11_keeps_29 : decode cX11_keeps 29 = .ok (.putfield 151, 3) := by decide +kernel
theorem dX11_keeps_32 : decode cX11_keeps 32 = .ok (.aload_n 0, 1) := by decide +kernel
theorem dX11_keeps_33 : decode cX11_keeps 33 = .ok (.iconst 0, 1) := by decide +kernel
theorem dX11_keeps_34 : decode cX11_keeps 34 = .ok (.sipush 1952, 3) := by decide +kernel
theorem dX11_keeps_37 : decode cX11_keeps 37 = .ok (.sipush 976, 3) := by decide +kernel
theorem dX11_keeps_40 : decode cX11_keeps 40 = .ok (.aload_n 0, 1) := by decide +kernel
theorem dX11_keeps_41 : decode cX11_keeps 41 = .ok (.getfield 151, 3) := by decide +kernel
theorem dX11_keeps_44 : decode cX11_keeps 44 = .ok (.imul, 1) := by decide +kernel
theorem dX11_keeps_45 : decode cX11_keeps 45 = .ok (.iadd, 1) := by decide +kernel
theorem dX11_keeps_46 : decode cX11_keeps 46 = .ok (.sipush 976, 3) := by decide +kernel
theorem dX11_keeps_49 : decode cX11_keeps 49 = .ok (.invokevirtual 154, 3) := by decide +kernel
theorem dX11_keeps_52 : decode cX11_keeps 52 = .ok (.aload_n 0, 1) := by decide +kernel
theorem dX11_keeps_53 : decode cX11_keeps 53 = .ok (.dup, 1) := by decide +kernel
theorem dX11_keeps_54 : decode cX11_keeps 54 = .ok (.getfield 151, 3) := by decide +kernel
theorem dX11_keeps_57 : decode cX11_keeps 57 = .ok (.iconst 1, 1) := by decide +kernel
theorem dX11_keeps_58 : decode cX11_keeps 58 = .ok (.iadd, 1) := by decide +kernel
theorem dX11_keeps_59 : decode cX11_keeps 59 = .ok (.putfield 151, 3) := by decide +kernel
theorem dX11_keeps_62 : decode cX11_keeps 62 = .ok (.return_, 1) := by decide +kernel
theorem dX11_begins_0 : decode cX11_begins 0 = .ok (.iload_n 1, 1) := by decide +kernel
theorem dX11_begins_1 : decode cX11_begins 1 = .ok (.ifCond .ne 7, 3) := by decide +kernel
theorem dX11_begins_4 : decode cX11_begins 4 = .ok (.aload_n 0, 1) := by decide +kernel
theorem dX11_begins_5 : decode cX11_begins 5 = .ok (.invokevirtual 157, 3) := by decide +kernel
theorem dX11_begins_8 : decode cX11_begins 8 = .ok (.iload_n 1, 1) := by decide +kernel
theorem dX11_begins_9 : decode cX11_begins 9 = .ok (.ireturn, 1) := by decide +kernel
theorem dX11_put_0 : decode cX11_put 0 = .ok (.aload_n 0, 1) := by decide +kernel
theorem dX11_put_1 : decode cX11_put 1 = .ok (.aload_n 0, 1) := by decide +kernel
theorem dX11_put_2 : decode cX11_put 2 = .ok (.iload_n 1, 1) := by decide +kernel
theorem dX11_put_3 : decode cX11_put 3 = .ok (.iload_n 2, 1) := by decide +kernel
theorem dX11_put_4 : decode cX11_put 4 = .ok (.invokevirtual 160, 3) := by decide +kernel
theorem dX11_put_7 : decode cX11_put 7 = .ok (.invokevirtual 163, 3) := by decide +kernel
theorem dX11_put_10 : decode cX11_put 10 = .ok (.istore_n 3, 1) := by decide +kernel
theorem dX11_put_11 : decode cX11_put 11 = .ok (.iload_n 3, 1) := by decide +kernel
theorem dX11_put_12 : decode cX11_put 12 = .ok (.ifCond .le 6, 3) := by decide +kernel
theorem dX11_put_15 : decode cX11_put 15 = .ok (.iload_n 3, 1) := by decide +kernel
theorem dX11_put_16 : decode cX11_put 16 = .ok (.ineg, 1) := by decide +kernel
theorem dX11_put_17 : decode cX11_put 17 = .ok (.ireturn, 1) := by decide +kernel
theorem dX11_put_18 : decode cX11_put 18 = .ok (.aload_n 0, 1) := by decide +kernel
theorem dX11_put_19 : decode cX11_put 19 = .ok (.iload_n 1, 1) := by decide +kernel
theorem dX11_put_20 : decode cX11_put 20 = .ok (.iload_n 2, 1) := by decide +kernel
theorem dX11_put_21 : decode cX11_put 21 = .ok (.iconst 0, 1) := by decide +kernel
theorem dX11_put_22 : decode cX11_put 22 = .ok (.invokevirtual 144, 3) := by decide +kernel
theorem dX11_put_25 : decode cX11_put 25 = .ok (.aload_n 0, 1) := by decide +kernel
theorem dX11_put_26 : decode cX11_put 26 = .ok (.iload_n 1, 1) := by decide +kernel
theorem dX11_put_27 : decode cX11_put 27 = .ok (.iload_n 2, 1) := by decide +kernel
theorem dX11_put_28 : decode cX11_put 28 = .ok (.invokevirtual 52, 3) := by decide +kernel
theorem dX11_put_31 : decode cX11_put 31 = .ok (.ireturn, 1) := by decide +kernel
theorem dX11_drop_0 : decode cX11_drop 0 = .ok (.aload_n 0, 1) := by decide +kernel
theorem dX11_drop_1 : decode cX11_drop 1 = .ok (.iload_n 1, 1) := by decide +kernel
theorem dX11_drop_2 : decode cX11_drop 2 = .ok (.invokestatic 112, 3) := by decide +kernel
theorem dX11_drop_5 : decode cX11_drop 5 = .ok (.ifCond .eq 10, 3) := by decide +kernel
theorem dX11_drop_8 : decode cX11_drop 8 = .ok (.iload_n 2, 1) := by decide +kernel
theorem dX11_drop_9 : decode cX11_drop 9 = .ok (.invokestatic 116, 3) := by decide +kernel
theorem dX11_drop_12 : decode cX11_drop 12 = .ok (.ifCond .ne 7, 3) := by decide +kernel
theorem dX11_drop_15 : decode cX11_drop 15 = .ok (.iconst 1, 1) := by decide +kernel
theorem dX11_drop_16 : decode cX11_drop 16 = .ok (.goto 18, 3) := by decide +kernel
theorem dX11_drop_19 : decode cX11_drop 19 = .ok (.aload_n 0, 1) := by decide +kernel
theorem dX11_drop_20 : decode cX11_drop 20 = .ok (.iload_n 1, 1) := by decide +kernel
theorem dX11_drop_21 : decode cX11_drop 21 = .ok (.iload_n 2, 1) := by decide +kernel
theorem dX11_drop_22 : decode cX11_drop 22 = .ok (.invokevirtual 59, 3) := by decide +kernel
theorem dX11_drop_25 : decode cX11_drop 25 = .ok (.iconst (-1), 1) := by decide +kernel
theorem dX11_drop_26 : decode cX11_drop 26 = .ok (.if_icmp .ne 7, 3) := by decide +kernel
theorem dX11_drop_29 : decode cX11_drop 29 = .ok (.iconst 2, 1) := by decide +kernel
theorem dX11_drop_30 : decode cX11_drop 30 = .ok (.goto 4, 3) := by decide +kernel
theorem dX11_drop_33 : decode cX11_drop 33 = .ok (.iconst 0, 1) := by decide +kernel
theorem dX11_drop_34 : decode cX11_drop 34 = .ok (.invokevirtual 163, 3) := by decide +kernel
theorem dX11_drop_37 : decode cX11_drop 37 = .ok (.istore_n 3, 1) := by decide +kernel
theorem dX11_drop_38 : decode cX11_drop 38 = .ok (.iload_n 3, 1) := by decide +kernel
theorem dX11_drop_39 : decode cX11_drop 39 = .ok (.ifCond .le 6, 3) := by decide +kernel
theorem dX11_drop_42 : decode cX11_drop 42 = .ok (.iload_n 3, 1) := by decide +kernel
theorem dX11_drop_43 : decode cX11_drop 43 = .ok (.ineg, 1) := by decide +kernel
theorem dX11_drop_44 : decode cX11_drop 44 = .ok (.ireturn, 1) := by decide +kernel
theorem dX11_drop_45 : decode cX11_drop 45 = .ok (.aload_n 0, 1) := by decide +kernel
theorem dX11_drop_46 : decode cX11_drop 46 = .ok (.iload_n 1, 1) := by decide +kernel
theorem dX11_drop_47 : decode cX11_drop 47 = .ok (.aload_n 0, 1) := by decide +kernel
theorem dX11_drop_48 : decode cX11_drop 48 = .ok (.iload_n 1, 1) := by decide +kernel
theorem dX11_drop_49 : decode cX11_drop 49 = .ok (.iload_n 2, 1) := by decide +kernel
theorem dX11_drop_50 : decode cX11_drop 50 = .ok (.invokevirtual 59, 3) := by decide +kernel
theorem dX11_drop_53 : decode cX11_drop 53 = .ok (.invokevirtual 141, 3) := by decide +kernel
theorem dX11_drop_56 : decode cX11_drop 56 = .ok (.aload_n 0, 1) := by decide +kernel
theorem dX11_drop_57 : decode cX11_drop 57 = .ok (.iload_n 1, 1) := by decide +kernel
theorem dX11_drop_58 : decode cX11_drop 58 = .ok (.invokevirtual 44, 3) := by decide +kernel
theorem dX11_drop_61 : decode cX11_drop 61 = .ok (.ireturn, 1) := by decide +kernel
theorem dX11_cut_0 : decode cX11_cut 0 = .ok (.aload_n 0, 1) := by decide +kernel
theorem dX11_cut_1 : decode cX11_cut 1 = .ok (.aload_n 0, 1) := by decide +kernel
theorem dX11_cut_2 : decode cX11_cut 2 = .ok (.iload_n 1, 1) := by decide +kernel
theorem dX11_cut_3 : decode cX11_cut 3 = .ok (.iload_n 2, 1) := by decide +kernel
theorem dX11_cut_4 : decode cX11_cut 4 = .ok (.iload_n 3, 1) := by decide +kernel
theorem dX11_cut_5 : decode cX11_cut 5 = .ok (.invokevirtual 166, 3) := by decide +kernel
theorem dX11_cut_8 : decode cX11_cut 8 = .ok (.invokevirtual 163, 3) := by decide +kernel
theorem dX11_cut_11 : decode cX11_cut 11 = .ok (.istore 4, 2) := by decide +kernel
theorem dX11_cut_13 : decode cX11_cut 13 = .ok (.iload 4, 2) := by decide +kernel
theorem dX11_cut_15 : decode cX11_cut 15 = .ok (.ifCond .le 9, 3) := by decide +kernel
theorem dX11_cut_18 : decode cX11_cut 18 = .ok (.iload 4, 2) := by decide +kernel
theorem dX11_cut_20 : decode cX11_cut 20 = .ok (.ineg, 1) := by decide +kernel
theorem dX11_cut_21 : decode cX11_cut 21 = .ok (.goto 15, 3) := by decide +kernel
theorem dX11_cut_24 : decode cX11_cut 24 = .ok (.aload_n 0, 1) := by decide +kernel
theorem dX11_cut_25 : decode cX11_cut 25 = .ok (.iload_n 1, 1) := by decide +kernel
theorem dX11_cut_26 : decode cX11_cut 26 = .ok (.iload_n 2, 1) := by decide +kernel
theorem dX11_cut_27 : decode cX11_cut 27 = .ok (.iconst 1, 1) := by decide +kernel
theorem dX11_cut_28 : decode cX11_cut 28 = .ok (.iadd, 1) := by decide +kernel
theorem dX11_cut_29 : decode cX11_cut 29 = .ok (.sipush 9999, 3) := by decide +kernel
theorem dX11_cut_32 : decode cX11_cut 32 = .ok (.iload_n 3, 1) := by decide +kernel
theorem dX11_cut_33 : decode cX11_cut 33 = .ok (.invokevirtual 169, 3) := by decide +kernel
theorem dX11_cut_36 : decode cX11_cut 36 = .ok (.ireturn, 1) := by decide +kernel
theorem dX11_join_0 : decode cX11_join 0 = .ok (.aload_n 0, 1) := by decide +kernel
theorem dX11_join_1 : decode cX11_join 1 = .ok (.aload_n 0, 1) := by decide +kernel
theorem dX11_join_2 : decode cX11_join 2 = .ok (.iload_n 1, 1) := by decide +kernel
theorem dX11_join_3 : decode cX11_join 3 = .ok (.iload_n 2, 1) := by decide +kernel
theorem dX11_join_4 : decode cX11_join 4 = .ok (.invokevirtual 173, 3) := by decide +kernel
theorem dX11_join_7 : decode cX11_join 7 = .ok (.invokevirtual 163, 3) := by decide +kernel
theorem dX11_join_10 : decode cX11_join 10 = .ok (.istore_n 3, 1) := by decide +kernel
theorem dX11_join_11 : decode cX11_join 11 = .ok (.iload_n 3, 1) := by decide +kernel
theorem dX11_join_12 : decode cX11_join 12 = .ok (.ifCond .le 8, 3) := by decide +kernel
theorem dX11_join_15 : decode cX11_join 15 = .ok (.iload_n 3, 1) := by decide +kernel
theorem dX11_join_16 : decode cX11_join 16 = .ok (.ineg, 1) := by decide +kernel
theorem dX11_join_17 : decode cX11_join 17 = .ok (.goto 19, 3) := by decide +kernel
theorem dX11_join_20 : decode cX11_join 20 = .ok (.aload_n 0, 1) := by decide +kernel
theorem dX11_join_21 : decode cX11_join 21 = .ok (.iload_n 1, 1) := by decide +kernel
theorem dX11_join_22 : decode cX11_join 22 = .ok (.invokevirtual 44, 3) := by decide +kernel
theorem dX11_join_25 : decode cX11_join 25 = .ok (.aload_n 0, 1) := by decide +kernel
theorem dX11_join_26 : decode cX11_join 26 = .ok (.iload_n 2, 1) := by decide +kernel
theorem dX11_join_27 : decode cX11_join 27 = .ok (.iconst 0, 1) := by decide +kernel
theorem dX11_join_28 : decode cX11_join 28 = .ok (.sipush 9999, 3) := by decide +kernel
theorem dX11_join_31 : decode cX11_join 31 = .ok (.iload_n 1, 1) := by decide +kernel
theorem dX11_join_32 : decode cX11_join 32 = .ok (.invokevirtual 169, 3) := by decide +kernel
theorem dX11_join_35 : decode cX11_join 35 = .ok (.iadd, 1) := by decide +kernel
theorem dX11_join_36 : decode cX11_join 36 = .ok (.ireturn, 1) := by decide +kernel
theorem dX11_melt_0 : decode cX11_melt 0 = .ok (.aload_n 0, 1) := by decide +kernel
theorem dX11_melt_1 : decode cX11_melt 1 = .ok (.aload_n 0, 1) := by decide +kernel
theorem dX11_melt_2 : decode cX11_melt 2 = .ok (.iload_n 1, 1) := by decide +kernel
theorem dX11_melt_3 : decode cX11_melt 3 = .ok (.iload_n 2, 1) := by decide +kernel
theorem dX11_melt_4 : decode cX11_melt 4 = .ok (.invokevirtual 176, 3) := by decide +kernel
theorem dX11_melt_7 : decode cX11_melt 7 = .ok (.invokevirtual 163, 3) := by decide +kernel
theorem dX11_melt_10 : decode cX11_melt 10 = .ok (.istore_n 3, 1) := by decide +kernel
theorem dX11_melt_11 : decode cX11_melt 11 = .ok (.iload_n 3, 1) := by decide +kernel
theorem dX11_melt_12 : decode cX11_melt 12 = .ok (.ifCond .le 6, 3) := by decide +kernel
theorem dX11_melt_15 : decode cX11_melt 15 = .ok (.iload_n 3, 1) := by decide +kernel
theorem dX11_melt_16 : decode cX11_melt 16 = .ok (.ineg, 1) := by decide +kernel
theorem dX11_melt_17 : decode cX11_melt 17 = .ok (.ireturn, 1) := by decide +kernel
theorem dX11_melt_18 : decode cX11_melt 18 = .ok (.aload_n 0, 1) := by decide +kernel
theorem dX11_melt_19 : decode cX11_melt 19 = .ok (.iload_n 1, 1) := by decide +kernel
theorem dX11_melt_20 : decode cX11_melt 20 = .ok (.iload_n 2, 1) := by decide +kernel
theorem dX11_melt_21 : decode cX11_melt 21 = .ok (.invokevirtual 179, 3) := by decide +kernel
theorem dX11_melt_24 : decode cX11_melt 24 = .ok (.aload_n 0, 1) := by decide +kernel
theorem dX11_melt_25 : decode cX11_melt 25 = .ok (.getfield 100, 3) := by decide +kernel
theorem dX11_melt_28 : decode cX11_melt 28 = .ok (.istore 4, 2) := by decide +kernel
theorem dX11_melt_30 : decode cX11_melt 30 = .ok (.aload_n 0, 1) := by decide +kernel
theorem dX11_melt_31 : decode cX11_melt 31 = .ok (.iload_n 2, 1) := by decide +kernel
theorem dX11_melt_32 : decode cX11_melt 32 = .ok (.iconst 0, 1) := by decide +kernel
theorem dX11_melt_33 : decode cX11_melt 33 = .ok (.sipush 9999, 3) := by decide +kernel
theorem dX11_melt_36 : decode cX11_melt 36 = .ok (.iload_n 1, 1) := by decide +kernel
theorem dX11_melt_37 : decode cX11_melt 37 = .ok (.invokevirtual 169, 3) := by decide +kernel
theorem dX11_melt_40 : decode cX11_melt 40 = .ok (.istore 5, 2) := by decide +kernel
theorem dX11_melt_42 : decode cX11_melt 42 = .ok (.iload 5, 2) := by decide +kernel
theorem dX11_melt_44 : decode cX11_melt 44 = .ok (.ifCond .le 8, 3) := by decide +kernel
theorem dX11_melt_47 : decode cX11_melt 47 = .ok (.iload 4, 2) := by decide +kernel
theorem dX11_melt_49 : decode cX11_melt 49 = .ok (.goto 4, 3) := by decide +kernel
theorem dX11_melt_52 : decode cX11_melt 52 = .ok (.iconst 0, 1) := by decide +kernel
theorem dX11_melt_53 : decode cX11_melt 53 = .ok (.ireturn, 1) := by decide +kernel
theorem dX11_shift_0 : decode cX11_shift 0 = .ok (.aload_n 0, 1) := by decide +kernel
theorem dX11_shift_1 : decode cX11_shift 1 = .ok (.aload_n 0, 1) := by decide +kernel
theorem dX11_shift_2 : decode cX11_shift 2 = .ok (.iload_n 1, 1) := by decide +kernel
theorem dX11_shift_3 : decode cX11_shift 3 = .ok (.iload_n 2, 1) := by decide +kernel
theorem dX11_shift_4 : decode cX11_shift 4 = .ok (.invokevirtual 182, 3) := by decide +kernel
theorem dX11_shift_7 : decode cX11_shift 7 = .ok (.invokevirtual 163, 3) := by decide +kernel
theorem dX11_shift_10 : decode cX11_shift 10 = .ok (.istore_n 3, 1) := by decide +kernel
theorem dX11_shift_11 : decode cX11_shift 11 = .ok (.iload_n 3, 1) := by decide +kernel
theorem dX11_shift_12 : decode cX11_shift 12 = .ok (.ifCond .le 6, 3) := by decide +kernel
theorem dX11_shift_15 : decode cX11_shift 15 = .ok (.iload_n 3, 1) := by decide +kernel
theorem dX11_shift_16 : decode cX11_shift 16 = .ok (.ineg, 1) := by decide +kernel
theorem dX11_shift_17 : decode cX11_shift 17 = .ok (.ireturn, 1) := by decide +kernel
theorem dX11_shift_18 : decode cX11_shift 18 = .ok (.aload_n 0, 1) := by decide +kernel
theorem dX11_shift_19 : decode cX11_shift 19 = .ok (.iload_n 1, 1) := by decide +kernel
theorem dX11_shift_20 : decode cX11_shift 20 = .ok (.iload_n 2, 1) := by decide +kernel
theorem dX11_shift_21 : decode cX11_shift 21 = .ok (.invokevirtual 185, 3) := by decide +kernel
theorem dX11_shift_24 : decode cX11_shift 24 = .ok (.aload_n 0, 1) := by decide +kernel
theorem dX11_shift_25 : decode cX11_shift 25 = .ok (.iload_n 1, 1) := by decide +kernel
theorem dX11_shift_26 : decode cX11_shift 26 = .ok (.invokevirtual 44, 3) := by decide +kernel
theorem dX11_shift_29 : decode cX11_shift 29 = .ok (.ireturn, 1) := by decide +kernel
theorem dX11_move_0 : decode cX11_move 0 = .ok (.aload_n 0, 1) := by decide +kernel
theorem dX11_move_1 : decode cX11_move 1 = .ok (.aload_n 0, 1) := by decide +kernel
theorem dX11_move_2 : decode cX11_move 2 = .ok (.iload_n 1, 1) := by decide +kernel
theorem dX11_move_3 : decode cX11_move 3 = .ok (.iload_n 2, 1) := by decide +kernel
theorem dX11_move_4 : decode cX11_move 4 = .ok (.iload_n 3, 1) := by decide +kernel
theorem dX11_move_5 : decode cX11_move 5 = .ok (.iload 4, 2) := by decide +kernel
theorem dX11_move_7 : decode cX11_move 7 = .ok (.invokevirtual 188, 3) := by decide +kernel
theorem dX11_move_10 : decode cX11_move 10 = .ok (.invokevirtual 163, 3) := by decide +kernel
theorem dX11_move_13 : decode cX11_move 13 = .ok (.istore 5, 2) := by decide +kernel
theorem dX11_move_15 : decode cX11_move 15 = .ok (.iload 5, 2) := by decide +kernel
theorem dX11_move_17 : decode cX11_move 17 = .ok (.ifCond .le 9, 3) := by decide +kernel
theorem dX11_move_20 : decode cX11_move 20 = .ok (.iload 5, 2) := by decide +kernel
theorem dX11_move_22 : decode cX11_move 22 = .ok (.ineg, 1) := by decide +kernel
theorem dX11_move_23 : decode cX11_move 23 = .ok (.goto 12, 3) := by decide +kernel
theorem dX11_move_26 : decode cX11_move 26 = .ok (.aload_n 0, 1) := by decide +kernel
theorem dX11_move_27 : decode cX11_move 27 = .ok (.iload_n 1, 1) := by decide +kernel
theorem dX11_move_28 : decode cX11_move 28 = .ok (.iload_n 2, 1) := by decide +kernel
theorem dX11_move_29 : decode cX11_move 29 = .ok (.iload_n 3, 1) := by decide +kernel
theorem dX11_move_30 : decode cX11_move 30 = .ok (.iload 4, 2) := by decide +kernel
theorem dX11_move_32 : decode cX11_move 32 = .ok (.invokevirtual 169, 3) := by decide +kernel
theorem dX11_move_35 : decode cX11_move 35 = .ok (.ireturn, 1) := by decide +kernel
theorem dX11_mark_0 : decode cX11_mark 0 = .ok (.aload_n 0, 1) := by decide +kernel
theorem dX11_mark_1 : decode cX11_mark 1 = .ok (.aload_n 0, 1) := by decide +kernel
theorem dX11_mark_2 : decode cX11_mark 2 = .ok (.iload_n 1, 1) := by decide +kernel
theorem dX11_mark_3 : decode cX11_mark 3 = .ok (.iload_n 2, 1) := by decide +kernel
theorem dX11_mark_4 : decode cX11_mark 4 = .ok (.iload_n 3, 1) := by decide +kernel
theorem dX11_mark_5 : decode cX11_mark 5 = .ok (.iload 4, 2) := by decide +kernel
theorem dX11_mark_7 : decode cX11_mark 7 = .ok (.ifCond .eq 7, 3) := by decide +kernel
theorem dX11_mark_10 : decode cX11_mark 10 = .ok (.iconst 0, 1) := by decide +kernel
theorem dX11_mark_11 : decode cX11_mark 11 = .ok (.goto 4, 3) := by decide +kernel
theorem dX11_mark_14 : decode cX11_mark 14 = .ok (.iconst 1, 1) := by decide +kernel
theorem dX11_mark_15 : decode cX11_mark 15 = .ok (.invokevirtual 191, 3) := by decide +kernel
theorem dX11_mark_18 : decode cX11_mark 18 = .ok (.invokevirtual 163, 3) := by decide +kernel
theorem dX11_mark_21 : decode cX11_mark 21 = .ok (.istore 5, 2) := by decide +kernel
theorem dX11_mark_23 : decode cX11_mark 23 = .ok (.iload 5, 2) := by decide +kernel
theorem dX11_mark_25 : decode cX11_mark 25 = .ok (.ifCond .le 9, 3) := by decide +kernel
theorem dX11_mark_28 : decode cX11_mark 28 = .ok (.iload 5, 2) := by decide +kernel
theorem dX11_mark_30 : decode cX11_mark 30 = .ok (.ineg, 1) := by decide +kernel
theorem dX11_mark_31 : decode cX11_mark 31 = .ok (.goto 21, 3) := by decide +kernel
theorem dX11_mark_34 : decode cX11_mark 34 = .ok (.aload_n 0, 1) := by decide +kernel
theorem dX11_mark_35 : decode cX11_mark 35 = .ok (.iload_n 1, 1) := by decide +kernel
theorem dX11_mark_36 : decode cX11_mark 36 = .ok (.iload_n 2, 1) := by decide +kernel
theorem dX11_mark_37 : decode cX11_mark 37 = .ok (.iload_n 3, 1) := by decide +kernel
theorem dX11_mark_38 : decode cX11_mark 38 = .ok (.iload 4, 2) := by decide +kernel
theorem dX11_mark_40 : decode cX11_mark 40 = .ok (.ifCond .eq 7, 3) := by decide +kernel
theorem dX11_mark_43 : decode cX11_mark 43 = .ok (.iconst 0, 1) := by decide +kernel
theorem dX11_mark_44 : decode cX11_mark 44 = .ok (.goto 4, 3) := by decide +kernel
theorem dX11_mark_47 : decode cX11_mark 47 = .ok (.iconst 1, 1) := by decide +kernel
theorem dX11_mark_48 : decode cX11_mark 48 = .ok (.iconst 1, 1) := by decide +kernel
theorem dX11_mark_49 : decode cX11_mark 49 = .ok (.invokevirtual 137, 3) := by decide +kernel
theorem dX11_mark_52 : decode cX11_mark 52 = .ok (.ireturn, 1) := by decide +kernel
theorem dX11_seek_0 : decode cX11_seek 0 = .ok (.aload_n 0, 1) := by decide +kernel
theorem dX11_seek_1 : decode cX11_seek 1 = .ok (.iload_n 1, 1) := by decide +kernel
theorem dX11_seek_2 : decode cX11_seek 2 = .ok (.invokestatic 112, 3) := by decide +kernel
theorem dX11_seek_5 : decode cX11_seek 5 = .ok (.ifCond .eq 10, 3) := by decide +kernel
theorem dX11_seek_8 : decode cX11_seek 8 = .ok (.iload_n 2, 1) := by decide +kernel
theorem dX11_seek_9 : decode cX11_seek 9 = .ok (.invokestatic 116, 3) := by decide +kernel
theorem dX11_seek_12 : decode cX11_seek 12 = .ok (.ifCond .ne 7, 3) := by decide +kernel
theorem dX11_seek_15 : decode cX11_seek 15 = .ok (.iconst 1, 1) := by decide +kernel
theorem dX11_seek_16 : decode cX11_seek 16 = .ok (.goto 16, 3) := by decide +kernel
theorem dX11_seek_19 : decode cX11_seek 19 = .ok (.aload_n 0, 1) := by decide +kernel
theorem dX11_seek_20 : decode cX11_seek 20 = .ok (.iload_n 1, 1) := by decide +kernel
theorem dX11_seek_21 : decode cX11_seek 21 = .ok (.invokevirtual 44, 3) := by decide +kernel
theorem dX11_seek_24 : decode cX11_seek 24 = .ok (.ifCond .ne 7, 3) := by decide +kernel
theorem dX11_seek_27 : decode cX11_seek 27 = .ok (.iconst 2, 1) := by decide +kernel
theorem dX11_seek_28 : decode cX11_seek 28 = .ok (.goto 4, 3) := by decide +kernel
theorem dX11_seek_31 : decode cX11_seek 31 = .ok (.iconst 0, 1) := by decide +kernel
theorem dX11_seek_32 : decode cX11_seek 32 = .ok (.invokevirtual 163, 3) := by decide +kernel
theorem dX11_seek_35 : decode cX11_seek 35 = .ok (.istore_n 3, 1) := by decide +kernel
theorem dX11_seek_36 : decode cX11_seek 36 = .ok (.iload_n 3, 1) := by decide +kernel
theorem dX11_seek_37 : decode cX11_seek 37 = .ok (.ifCond .le 6, 3) := by decide +kernel
theorem dX11_seek_40 : decode cX11_seek 40 = .ok (.iload_n 3, 1) := by decide +kernel
theorem dX11_seek_41 : decode cX11_seek 41 = .ok (.ineg, 1) := by decide +kernel
theorem dX11_seek_42 : decode cX11_seek 42 = .ok (.ireturn, 1) := by decide +kernel
theorem dX11_seek_43 : decode cX11_seek 43 = .ok (.aload_n 0, 1) := by decide +kernel
theorem dX11_seek_44 : decode cX11_seek 44 = .ok (.iload_n 1, 1) := by decide +kernel
theorem dX11_seek_45 : decode cX11_seek 45 = .ok (.iload_n 2, 1) := by decide +kernel
theorem dX11_seek_46 : decode cX11_seek 46 = .ok (.iconst 1, 1) := by decide +kernel
theorem dX11_seek_47 : decode cX11_seek 47 = .ok (.iadd, 1) := by decide +kernel
theorem dX11_seek_48 : decode cX11_seek 48 = .ok (.invokevirtual 52, 3) := by decide +kernel
theorem dX11_seek_51 : decode cX11_seek 51 = .ok (.iconst 1, 1) := by decide +kernel
theorem dX11_seek_52 : decode cX11_seek 52 = .ok (.isub, 1) := by decide +kernel
theorem dX11_seek_53 : decode cX11_seek 53 = .ok (.istore 4, 2) := by decide +kernel
theorem dX11_seek_55 : decode cX11_seek 55 = .ok (.iload 4, 2) := by decide +kernel
theorem dX11_seek_57 : decode cX11_seek 57 = .ok (.ifCond .ge 7, 3) := by decide +kernel
theorem dX11_seek_60 : decode cX11_seek 60 = .ok (.iconst 0, 1) := by decide +kernel
theorem dX11_seek_61 : decode cX11_seek 61 = .ok (.goto 5, 3) := by decide +kernel
theorem dX11_seek_64 : decode cX11_seek 64 = .ok (.iload 4, 2) := by decide +kernel
theorem dX11_seek_66 : decode cX11_seek 66 = .ok (.istore 4, 2) := by decide +kernel
theorem dX11_seek_68 : decode cX11_seek 68 = .ok (.aload_n 0, 1) := by decide +kernel
theorem dX11_seek_69 : decode cX11_seek 69 = .ok (.iload_n 1, 1) := by decide +kernel
theorem dX11_seek_70 : decode cX11_seek 70 = .ok (.invokevirtual 148, 3) := by decide +kernel
theorem dX11_seek_73 : decode cX11_seek 73 = .ok (.iconst (-1), 1) := by decide +kernel
theorem dX11_seek_74 : decode cX11_seek 74 = .ok (.if_icmp .ne 8, 3) := by decide +kernel
theorem dX11_seek_77 : decode cX11_seek 77 = .ok (.iload 4, 2) := by decide +kernel
theorem dX11_seek_79 : decode cX11_seek 79 = .ok (.goto 13, 3) := by decide +kernel
theorem dX11_seek_82 : decode cX11_seek 82 = .ok (.aload_n 0, 1) := by decide +kernel
theorem dX11_seek_83 : decode cX11_seek 83 = .ok (.iload_n 1, 1) := by decide +kernel
theorem dX11_seek_84 : decode cX11_seek 84 = .ok (.aload_n 0, 1) := by decide +kernel
theorem dX11_seek_85 : decode cX11_seek 85 = .ok (.iload_n 1, 1) := by decide +kernel
theorem dX11_seek_86 : decode cX11_seek 86 = .ok (.invokevirtual 148, 3) := by decide +kernel
theorem dX11_seek_89 : decode cX11_seek 89 = .ok (.invokevirtual 59, 3) := by decide +kernel
theorem dX11_seek_92 : decode cX11_seek 92 = .ok (.istore 5, 2) := by decide +kernel
theorem dX11_seek_94 : decode cX11_seek 94 = .ok (.aload_n 0, 1) := by decide +kernel
theorem dX11_seek_95 : decode cX11_seek 95 = .ok (.iload_n 1, 1) := by decide +kernel
theorem dX11_seek_96 : decode cX11_seek 96 = .ok (.aload_n 0, 1) := by decide +kernel
theorem dX11_seek_97 : decode cX11_seek 97 = .ok (.iload_n 1, 1) := by decide +kernel
theorem dX11_seek_98 : decode cX11_seek 98 = .ok (.iload 4, 2) := by decide +kernel
theorem dX11_seek_100 : decode cX11_seek 100 = .ok (.invokevirtual 48, 3) := by decide +kernel
theorem dX11_seek_103 : decode cX11_seek 103 = .ok (.invokevirtual 55, 3) := by decide +kernel
theorem dX11_seek_106 : decode cX11_seek 106 = .ok (.aload_n 0, 1) := by decide +kernel
theorem dX11_seek_107 : decode cX11_seek 107 = .ok (.iload_n 1, 1) := by decide +kernel
theorem dX11_seek_108 : decode cX11_seek 108 = .ok (.invokevirtual 194, 3) := by decide +kernel
theorem dX11_seek_111 : decode cX11_seek 111 = .ok (.aload_n 0, 1) := by decide +kernel
theorem dX11_seek_112 : decode cX11_seek 112 = .ok (.iload 5, 2) := by decide +kernel
theorem dX11_seek_114 : decode cX11_seek 114 = .ok (.iload 4, 2) := by decide +kernel
theorem dX11_seek_116 : decode cX11_seek 116 = .ok (.invokevirtual 197, 3) := by decide +kernel
theorem dX11_seek_119 : decode cX11_seek 119 = .ok (.ireturn, 1) := by decide +kernel
theorem dX11_undo_0 : decode cX11_undo 0 = .ok (.aload_n 0, 1) := by decide +kernel
theorem dX11_undo_1 : decode cX11_undo 1 = .ok (.getfield 151, 3) := by decide +kernel
theorem dX11_undo_4 : decode cX11_undo 4 = .ok (.ifCond .ne 5, 3) := by decide +kernel
theorem dX11_undo_7 : decode cX11_undo 7 = .ok (.iconst (-1), 1) := by decide +kernel
theorem dX11_undo_8 : decode cX11_undo 8 = .ok (.ireturn, 1) := by decide +kernel
theorem dX11_undo_9 : decode cX11_undo 9 = .ok (.aload_n 0, 1) := by decide +kernel
theorem dX11_undo_10 : decode cX11_undo 10 = .ok (.dup, 1) := by decide +kernel
theorem dX11_undo_11 : decode cX11_undo 11 = .ok (.getfield 151, 3) := by decide +kernel
theorem dX11_undo_14 : decode cX11_undo 14 = .ok (.iconst 1, 1) := by decide +kernel
theorem dX11_undo_15 : decode cX11_undo 15 = .ok (.isub, 1) := by decide +kernel
theorem dX11_undo_16 : decode cX11_undo 16 = .ok (.putfield 151, 3) := by decide +kernel
theorem dX11_undo_19 : decode cX11_undo 19 = .ok (.aload_n 0, 1) := by decide +kernel
theorem dX11_undo_20 : decode cX11_undo 20 = .ok (.sipush 1952, 3) := by decide +kernel
theorem dX11_undo_23 : decode cX11_undo 23 = .ok (.sipush 976, 3) := by decide +kernel
theorem dX11_undo_26 : decode cX11_undo 26 = .ok (.aload_n 0, 1) := by decide +kernel
theorem dX11_undo_27 : decode cX11_undo 27 = .ok (.getfield 151, 3) := by decide +kernel
theorem dX11_undo_30 : decode cX11_undo 30 = .ok (.imul, 1) := by decide +kernel
theorem dX11_undo_31 : decode cX11_undo 31 = .ok (.iadd, 1) := by decide +kernel
theorem dX11_undo_32 : decode cX11_undo 32 = .ok (.iconst 0, 1) := by decide +kernel
theorem dX11_undo_33 : decode cX11_undo 33 = .ok (.sipush 976, 3) := by decide +kernel
theorem dX11_undo_36 : decode cX11_undo 36 = .ok (.invokevirtual 154, 3) := by decide +kernel
theorem dX11_undo_39 : decode cX11_undo 39 = .ok (.aload_n 0, 1) := by decide +kernel
theorem dX11_undo_40 : decode cX11_undo 40 = .ok (.getfield 151, 3) := by decide +kernel
theorem dX11_undo_43 : decode cX11_undo 43 = .ok (.ireturn, 1) := by decide +kernel
theorem dX11_summed_0 : decode cX11_summed 0 = .ok (.aload_n 0, 1) := by decide +kernel
theorem dX11_summed_1 : decode cX11_summed 1 = .ok (.iload_n 1, 1) := by decide +kernel
theorem dX11_summed_2 : decode cX11_summed 2 = .ok (.invokevirtual 194, 3) := by decide +kernel
theorem dX11_summed_5 : decode cX11_summed 5 = .ok (.iconst 0, 1) := by decide +kernel
theorem dX11_summed_6 : decode cX11_summed 6 = .ok (.istore_n 3, 1) := by decide +kernel
theorem dX11_summed_7 : decode cX11_summed 7 = .ok (.iconst (-1), 1) := by decide +kernel
theorem dX11_summed_8 : decode cX11_summed 8 = .ok (.istore 4, 2) := by decide +kernel
theorem dX11_summed_10 : decode cX11_summed 10 = .ok (.iconst 0, 1) := by decide +kernel
theorem dX11_summed_11 : decode cX11_summed 11 = .ok (.istore 5, 2) := by decide +kernel
theorem dX11_summed_13 : decode cX11_summed 13 = .ok (.iload 5, 2) := by decide +kernel
theorem dX11_summed_15 : decode cX11_summed 15 = .ok (.aload_n 0, 1) := by decide +kernel
theorem dX11_summed_16 : decode cX11_summed 16 = .ok (.getfield 62, 3) := by decide +kernel
theorem dX11_summed_19 : decode cX11_summed 19 = .ok (.if_icmp .ge 129, 3) := by decide +kernel
theorem dX11_summed_22 : decode cX11_summed 22 = .ok (.iload 5, 2) := by decide +kernel
theorem dX11_summed_24 : decode cX11_summed 24 = .ok (.ifCond .le 23, 3) := by decide +kernel
theorem dX11_summed_27 : decode cX11_summed 27 = .ok (.aload_n 0, 1) := by decide +kernel
theorem dX11_summed_28 : decode cX11_summed 28 = .ok (.getfield 27, 3) := by decide +kernel
theorem dX11_summed_31 : decode cX11_summed 31 = .ok (.iload 5, 2) := by decide +kernel
theorem dX11_summed_33 : decode cX11_summed 33 = .ok (.iaload, 1) := by decide +kernel
theorem dX11_summed_34 : decode cX11_summed 34 = .ok (.aload_n 0, 1) := by decide +kernel
theorem dX11_summed_35 : decode cX11_summed 35 = .ok (.getfield 27, 3) := by decide +kernel
theorem dX11_summed_38 : decode cX11_summed 38 = .ok (.iload 5, 2) := by decide +kernel
theorem dX11_summed_40 : decode cX11_summed 40 = .ok (.iconst 1, 1) := by decide +kernel
theorem dX11_summed_41 : decode cX11_summed 41 = .ok (.isub, 1) := by decide +kernel
theorem dX11_summed_42 : decode cX11_summed 42 = .ok (.iaload, 1) := by decide +kernel
theorem dX11_summed_43 : decode cX11_summed 43 = .ok (.isub, 1) := by decide +kernel
theorem dX11_summed_44 : decode cX11_summed 44 = .ok (.goto 4, 3) := by decide +kernel
theorem dX11_summed_47 : decode cX11_summed 47 = .ok (.iconst 0, 1) := by decide +kernel
theorem dX11_summed_48 : decode cX11_summed 48 = .ok (.istore 6, 2) := by decide +kernel
theorem dX11_summed_50 : decode cX11_summed 50 = .ok (.iload 5, 2) := by decide +kernel
theorem dX11_summed_52 : decode cX11_summed 52 = .ok (.ifCond .le 21, 3) := by decide +kernel
theorem dX11_summed_55 : decode cX11_summed 55 = .ok (.iload 4, 2) := by decide +kernel
theorem dX11_summed_57 : decode cX11_summed 57 = .ok (.iconst (-1), 1) := by decide +kernel
theorem dX11_summed_58 : decode cX11_summed 58 = .ok (.if_icmp .eq 10, 3) := by decide +kernel
theorem dX11_summed_61 : decode cX11_summed 61 = .ok (.iload 6, 2) := by decide +kernel
theorem dX11_summed_63 : decode cX11_summed 63 = .ok (.iload 4, 2) := by decide +kernel
theorem dX11_summed_65 : decode cX11_summed 65 = .ok (.if_icmp .ge 8, 3) := by decide +kernel
theorem dX11_summed_68 : decode cX11_summed 68 = .ok (.iload 6, 2) := by decide +kernel
theorem dX11_summed_70 : decode cX11_summed 70 = .ok (.goto 5, 3) := by decide +kernel
theorem dX11_summed_73 : decode cX11_summed 73 = .ok (.iload 4, 2) := by decide +kernel
theorem dX11_summed_75 : decode cX11_summed 75 = .ok (.istore 4, 2) := by decide +kernel
theorem dX11_summed_77 : decode cX11_summed 77 = .ok (.iload_n 3, 1) := by decide +kernel
theorem dX11_summed_78 : decode cX11_summed 78 = .ok (.iload_n 2, 1) := by decide +kernel
theorem dX11_summed_79 : decode cX11_summed 79 = .ok (.iconst 3, 1) := by decide +kernel
theorem dX11_summed_80 : decode cX11_summed 80 = .ok (.if_icmp .ne 13, 3) := by decide +kernel
theorem dX11_summed_83 : decode cX11_summed 83 = .ok (.aload_n 0, 1) := by decide +kernel
theorem dX11_summed_84 : decode cX11_summed 84 = .ok (.iload_n 1, 1) := by decide +kernel
theorem dX11_summed_85 : decode cX11_summed 85 = .ok (.iload 5, 2) := by decide +kernel
theorem dX11_summed_87 : decode cX11_summed 87 = .ok (.invokevirtual 134, 3) := by decide +kernel
theorem dX11_summed_90 : decode cX11_summed 90 = .ok (.goto 50, 3) := by decide +kernel
theorem dX11_summed_93 : decode cX11_summed 93 = .ok (.iload_n 2, 1) := by decide +kernel
theorem dX11_summed_94 : decode cX11_summed 94 = .ok (.bipush 8, 2) := by decide +kernel
theorem dX11_summed_96 : decode cX11_summed 96 = .ok (.if_icmp .ne 12, 3) := by decide +kernel
theorem dX11_summed_99 : decode cX11_summed 99 = .ok (.aload_n 0, 1) := by decide +kernel
theorem dX11_summed_100 : decode cX11_summed 100 = .ok (.iload 5, 2) := by decide +kernel
theorem dX11_summed_102 : decode cX11_summed 102 = .ok (.invokevirtual 88, 3) := by decide +kernel
theorem dX11_summed_105 : decode cX11_summed 105 = .ok (.goto 35, 3) := by decide +kernel
theorem dX11_summed_108 : decode cX11_summed 108 = .ok (.iload_n 2, 1) := by decide +kernel
theorem dX11_summed_109 : decode cX11_summed 109 = .ok (.bipush 9, 2) := by decide +kernel
theorem dX11_summed_111 : decode cX11_summed 111 = .ok (.if_icmp .ne 22, 3) := by decide +kernel
theorem dX11_summed_114 : decode cX11_summed 114 = .ok (.iload 5, 2) := by decide +kernel
theorem dX11_summed_116 : decode cX11_summed 116 = .ok (.ifCond .le 13, 3) := by decide +kernel
theorem dX11_summed_119 : decode cX11_summed 119 = .ok (.iload 6, 2) := by decide +kernel
theorem dX11_summed_121 : decode cX11_summed 121 = .ok (.iconst 1, 1) := by decide +kernel
theorem dX11_summed_122 : decode cX11_summed 122 = .ok (.if_icmp .ne 7, 3) := by decide +kernel
theorem dX11_summed_125 : decode cX11_summed 125 = .ok (.iconst 0, 1) := by decide +kernel
theorem dX11_summed_126 : decode cX11_summed 126 = .ok (.goto 14, 3) := by decide +kernel
theorem dX11_summed_129 : decode cX11_summed 129 = .ok (.iconst 1, 1) := by decide +kernel
theorem dX11_summed_130 : decode cX11_summed 130 = .ok (.goto 10, 3) := by decide +kernel
theorem dX11_summed_133 : decode cX11_summed 133 = .ok (.aload_n 0, 1) := by decide +kernel
theorem dX11_summed_134 : decode cX11_summed 134 = .ok (.getfield 27, 3) := by decide +kernel
theorem dX11_summed_137 : decode cX11_summed 137 = .ok (.iload 5, 2) := by decide +kernel
theorem dX11_summed_139 : decode cX11_summed 139 = .ok (.iaload, 1) := by decide +kernel
theorem dX11_summed_140 : decode cX11_summed 140 = .ok (.iadd, 1) := by decide +kernel
theorem dX11_summed_141 : decode cX11_summed 141 = .ok (.istore_n 3, 1) := by decide +kernel
theorem dX11_summed_142 : decode cX11_summed 142 = .ok (.iinc 5 1, 3) := by decide +kernel
theorem dX11_summed_145 : decode cX11_summed 145 = .ok (.goto (-132), 3) := by decide +kernel
theorem dX11_summed_148 : decode cX11_summed 148 = .ok (.iload_n 2, 1) := by decide +kernel
theorem dX11_summed_149 : decode cX11_summed 149 = .ok (.bipush 7, 2) := by decide +kernel
theorem dX11_summed_151 : decode cX11_summed 151 = .ok (.if_icmp .ne 8, 3) := by decide +kernel
theorem dX11_summed_154 : decode cX11_summed 154 = .ok (.iload 4, 2) := by decide +kernel
theorem dX11_summed_156 : decode cX11_summed 156 = .ok (.goto 4, 3) := by decide +kernel
theorem dX11_summed_159 : decode cX11_summed 159 = .ok (.iload_n 3, 1) := by decide +kernel
theorem dX11_summed_160 : decode cX11_summed 160 = .ok (.ireturn, 1) := by decide +kernel
theorem dX11_set_0 : decode cX11_set 0 = .ok (.iload_n 1, 1) := by decide +kernel
theorem dX11_set_1 : decode cX11_set 1 = .ok (.invokestatic 112, 3) := by decide +kernel
theorem dX11_set_4 : decode cX11_set 4 = .ok (.ifCond .ne 5, 3) := by decide +kernel
theorem dX11_set_7 : decode cX11_set 7 = .ok (.iconst (-1), 1) := by decide +kernel
theorem dX11_set_8 : decode cX11_set 8 = .ok (.ireturn, 1) := by decide +kernel
theorem dX11_set_9 : decode cX11_set 9 = .ok (.aload_n 0, 1) := by decide +kernel
theorem dX11_set_10 : decode cX11_set 10 = .ok (.iload_n 1, 1) := by decide +kernel
theorem dX11_set_11 : decode cX11_set 11 = .ok (.invokevirtual 194, 3) := by decide +kernel
theorem dX11_set_14 : decode cX11_set 14 = .ok (.iload_n 2, 1) := by decide +kernel
theorem dX11_set_15 : decode cX11_set 15 = .ok (.tableswitch 149 0 10 #[57, 62, 80, 142, 103, 131, 136, 142, 142, 142, 142], 57) := by decide +kernel
theorem dX11_set_72 : decode cX11_set 72 = .ok (.aload_n 0, 1) := by decide +kernel
theorem dX11_set_73 : decode cX11_set 73 = .ok (.getfield 62, 3) := by decide +kernel
theorem dX11_set_76 : decode cX11_set 76 = .ok (.ireturn, 1) := by decide +kernel
theorem dX11_set_77 : decode cX11_set 77 = .ok (.aload_n 0, 1) := by decide +kernel
theorem dX11_set_78 : decode cX11_set 78 = .ok (.getfield 62, 3) := by decide +kernel
theorem dX11_set_81 : decode cX11_set 81 = .ok (.ifCond .ne 7, 3) := by decide +kernel
theorem dX11_set_84 : decode cX11_set 84 = .ok (.iconst (-1), 1) := by decide +kernel
theorem dX11_set_85 : decode cX11_set 85 = .ok (.goto 9, 3) := by decide +kernel
theorem dX11_set_88 : decode cX11_set 88 = .ok (.aload_n 0, 1) := by decide +kernel
theorem dX11_set_89 : decode cX11_set 89 = .ok (.getfield 27, 3) := by decide +kernel
theorem dX11_set_92 : decode cX11_set 92 = .ok (.iconst 0, 1) := by decide +kernel
theorem dX11_set_93 : decode cX11_set 93 = .ok (.iaload, 1) := by decide +kernel
theorem dX11_set_94 : decode cX11_set 94 = .ok (.ireturn, 1) := by decide +kernel
theorem dX11_set_95 : decode cX11_set 95 = .ok (.aload_n 0, 1) := by decide +kernel
theorem dX11_set_96 : decode cX11_set 96 = .ok (.getfield 62, 3) := by decide +kernel
theorem dX11_set_99 : decode cX11_set 99 = .ok (.ifCond .ne 7, 3) := by decide +kernel
theorem dX11_set_102 : decode cX11_set 102 = .ok (.iconst (-1), 1) := by decide +kernel
theorem dX11_set_103 : decode cX11_set 103 = .ok (.goto 14, 3) := by decide +kernel
theorem dX11_set_106 : decode cX11_set 106 = .ok (.aload_n 0, 1) := by decide +kernel
theorem dX11_set_107 : decode cX11_set 107 = .ok (.getfield 27, 3) := by decide +kernel
theorem dX11_set_110 : decode cX11_set 110 = .ok (.aload_n 0, 1) := by decide +kernel
theorem dX11_set_111 : decode cX11_set 111 = .ok (.getfield 62, 3) := by decide +kernel
theorem dX11_set_114 : decode cX11_set 114 = .ok (.iconst 1, 1) := by decide +kernel
theorem dX11_set_115 : decode cX11_set 115 = .ok (.isub, 1) := by decide +kernel
theorem dX11_set_116 : decode cX11_set 116 = .ok (.iaload, 1) := by decide +kernel
theorem dX11_set_117 : decode cX11_set 117 = .ok (.ireturn, 1) := by decide +kernel
theorem dX11_set_118 : decode cX11_set 118 = .ok (.aload_n 0, 1) := by decide +kernel
theorem dX11_set_119 : decode cX11_set 119 = .ok (.getfield 62, 3) := by decide +kernel
theorem dX11_set_122 : decode cX11_set 122 = .ok (.ifCond .ne 7, 3) := by decide +kernel
theorem dX11_set_125 : decode cX11_set 125 = .ok (.iconst (-1), 1) := by decide +kernel
theorem dX11_set_126 : decode cX11_set 126 = .ok (.goto 19, 3) := by decide +kernel
theorem dX11_set_129 : decode cX11_set 129 = .ok (.aload_n 0, 1) := by decide +kernel
theorem dX11_set_130 : decode cX11_set 130 = .ok (.getfield 27, 3) := by decide +kernel
theorem dX11_set_133 : decode cX11_set 133 = .ok (.aload_n 0, 1) := by decide +kernel
theorem dX11_set_134 : decode cX11_set 134 = .ok (.iconst 0, 1) := by decide +kernel
theorem dX11_set_135 : decode cX11_set 135 = .ok (.aload_n 0, 1) := by decide +kernel
theorem dX11_set_136 : decode cX11_set 136 = .ok (.getfield 62, 3) := by decide +kernel
theorem dX11_set_139 : decode cX11_set 139 = .ok (.iconst 1, 1) := by decide +kernel
theorem dX11_set_140 : decode cX11_set 140 = .ok (.isub, 1) := by decide +kernel
theorem dX11_set_141 : decode cX11_set 141 = .ok (.invokevirtual 82, 3) := by decide +kernel
theorem dX11_set_144 : decode cX11_set 144 = .ok (.iaload, 1) := by decide +kernel
theorem dX11_set_145 : decode cX11_set 145 = .ok (.ireturn, 1) := by decide +kernel
theorem dX11_set_146 : decode cX11_set 146 = .ok (.aload_n 0, 1) := by decide +kernel
theorem dX11_set_147 : decode cX11_set 147 = .ok (.invokevirtual 200, 3) := by decide +kernel
theorem dX11_set_150 : decode cX11_set 150 = .ok (.ireturn, 1) := by decide +kernel
theorem dX11_set_151 : decode cX11_set 151 = .ok (.aload_n 0, 1) := by decide +kernel
theorem dX11_set_152 : decode cX11_set 152 = .ok (.iload_n 1, 1) := by decide +kernel
theorem dX11_set_153 : decode cX11_set 153 = .ok (.invokevirtual 148, 3) := by decide +kernel
theorem dX11_set_156 : decode cX11_set 156 = .ok (.ireturn, 1) := by decide +kernel
theorem dX11_set_157 : decode cX11_set 157 = .ok (.aload_n 0, 1) := by decide +kernel
theorem dX11_set_158 : decode cX11_set 158 = .ok (.iload_n 1, 1) := by decide +kernel
theorem dX11_set_159 : decode cX11_set 159 = .ok (.iload_n 2, 1) := by decide +kernel
theorem dX11_set_160 : decode cX11_set 160 = .ok (.invokevirtual 203, 3) := by decide +kernel
theorem dX11_set_163 : decode cX11_set 163 = .ok (.ireturn, 1) := by decide +kernel
theorem dX11_set_164 : decode cX11_set 164 = .ok (.iconst (-1), 1) := by decide +kernel
theorem dX11_set_165 : decode cX11_set 165 = .ok (.ireturn, 1) := by decide +kernel
theorem dX11_key_0 : decode cX11_key 0 = .ok (.iload_n 1, 1) := by decide +kernel
theorem dX11_key_1 : decode cX11_key 1 = .ok (.invokestatic 112, 3) := by decide +kernel
theorem dX11_key_4 : decode cX11_key 4 = .ok (.ifCond .eq 27, 3) := by decide +kernel
theorem dX11_key_7 : decode cX11_key 7 = .ok (.iload_n 2, 1) := by decide +kernel
theorem dX11_key_8 : decode cX11_key 8 = .ok (.iconst 0, 1) := by decide +kernel
theorem dX11_key_9 : decode cX11_key 9 = .ok (.aload_n 0, 1) := by decide +kernel
theorem dX11_key_10 : decode cX11_key 10 = .ok (.iload_n 1, 1) := by decide +kernel
theorem dX11_key_11 : decode cX11_key 11 = .ok (.invokevirtual 44, 3) := by decide +kernel
theorem dX11_key_14 : decode cX11_key 14 = .ok (.iconst 1, 1) := by decide +kernel
theorem dX11_key_15 : decode cX11_key 15 = .ok (.isub, 1) := by decide +kernel
theorem dX11_key_16 : decode cX11_key 16 = .ok (.invokestatic 37, 3) := by decide +kernel
theorem dX11_key_19 : decode cX11_key 19 = .ok (.ifCond .eq 12, 3) := by decide +kernel
theorem dX11_key_22 : decode cX11_key 22 = .ok (.aload_n 0, 1) := by decide +kernel
theorem dX11_key_23 : decode cX11_key 23 = .ok (.iload_n 1, 1) := by decide +kernel
theorem dX11_key_24 : decode cX11_key 24 = .ok (.iload_n 2, 1) := by decide +kernel
theorem dX11_key_25 : decode cX11_key 25 = .ok (.invokevirtual 48, 3) := by decide +kernel
theorem dX11_key_28 : decode cX11_key 28 = .ok (.goto 4, 3) := by decide +kernel
theorem dX11_key_31 : decode cX11_key 31 = .ok (.iconst (-1), 1) := by decide +kernel
theorem dX11_key_32 : decode cX11_key 32 = .ok (.ireturn, 1) := by decide +kernel
theorem dX11_keyOf_0 : decode cX11_keyOf 0 = .ok (.iload_n 1, 1) := by decide +kernel
theorem dX11_keyOf_1 : decode cX11_keyOf 1 = .ok (.iconst (-1), 1) := by decide +kernel
theorem dX11_keyOf_2 : decode cX11_keyOf 2 = .ok (.if_icmp .ne 7, 3) := by decide +kernel
theorem dX11_keyOf_5 : decode cX11_keyOf 5 = .ok (.iconst (-1), 1) := by decide +kernel
theorem dX11_keyOf_6 : decode cX11_keyOf 6 = .ok (.goto 9, 3) := by decide +kernel
theorem dX11_keyOf_9 : decode cX11_keyOf 9 = .ok (.aload_n 0, 1) := by decide +kernel
theorem dX11_keyOf_10 : decode cX11_keyOf 10 = .ok (.getfield 27, 3) := by decide +kernel
theorem dX11_keyOf_13 : decode cX11_keyOf 13 = .ok (.iload_n 1, 1) := by decide +kernel
theorem dX11_keyOf_14 : decode cX11_keyOf 14 = .ok (.iaload, 1) := by decide +kernel
theorem dX11_keyOf_15 : decode cX11_keyOf 15 = .ok (.ireturn, 1) := by decide +kernel
theorem dX11_of_0 : decode cX11_of 0 = .ok (.iload_n 1, 1) := by decide +kernel
theorem dX11_of_1 : decode cX11_of 1 = .ok (.invokestatic 112, 3) := by decide +kernel
theorem dX11_of_4 : decode cX11_of 4 = .ok (.ifCond .eq 13, 3) := by decide +kernel
theorem dX11_of_7 : decode cX11_of 7 = .ok (.aload_n 0, 1) := by decide +kernel
theorem dX11_of_8 : decode cX11_of 8 = .ok (.iload_n 1, 1) := by decide +kernel
theorem dX11_of_9 : decode cX11_of 9 = .ok (.iload_n 2, 1) := by decide +kernel
theorem dX11_of_10 : decode cX11_of 10 = .ok (.invokevirtual 59, 3) := by decide +kernel
theorem dX11_of_13 : decode cX11_of 13 = .ok (.iconst (-1), 1) := by decide +kernel
theorem dX11_of_14 : decode cX11_of 14 = .ok (.if_icmp .ne 5, 3) := by decide +kernel
theorem dX11_of_17 : decode cX11_of 17 = .ok (.iconst (-1), 1) := by decide +kernel
theorem dX11_of_18 : decode cX11_of 18 = .ok (.ireturn, 1) := by decide +kernel
theorem dX11_of_19 : decode cX11_of 19 = .ok (.aload_n 0, 1) := by decide +kernel
theorem dX11_of_20 : decode cX11_of 20 = .ok (.iload_n 1, 1) := by decide +kernel
theorem dX11_of_21 : decode cX11_of 21 = .ok (.invokevirtual 194, 3) := by decide +kernel
theorem dX11_of_24 : decode cX11_of 24 = .ok (.aload_n 0, 1) := by decide +kernel
theorem dX11_of_25 : decode cX11_of 25 = .ok (.iload_n 1, 1) := by decide +kernel
theorem dX11_of_26 : decode cX11_of 26 = .ok (.iload_n 2, 1) := by decide +kernel
theorem dX11_of_27 : decode cX11_of 27 = .ok (.invokevirtual 59, 3) := by decide +kernel
theorem dX11_of_30 : decode cX11_of 30 = .ok (.istore 4, 2) := by decide +kernel
theorem dX11_of_32 : decode cX11_of 32 = .ok (.aload_n 0, 1) := by decide +kernel
theorem dX11_of_33 : decode cX11_of 33 = .ok (.iload 4, 2) := by decide +kernel
theorem dX11_of_35 : decode cX11_of 35 = .ok (.invokevirtual 85, 3) := by decide +kernel
theorem dX11_of_38 : decode cX11_of 38 = .ok (.iload_n 3, 1) := by decide +kernel
theorem dX11_of_39 : decode cX11_of 39 = .ok (.tableswitch 119 0 7 #[45, 48, 56, 61, 70, 87, 104, 109], 45) := by decide +kernel
theorem dX11_of_84 : decode cX11_of 84 = .ok (.iload 4, 2) := by decide +kernel
theorem dX11_of_86 : decode cX11_of 86 = .ok (.ireturn, 1) := by decide +kernel
theorem dX11_of_87 : decode cX11_of 87 = .ok (.aload_n 0, 1) := by decide +kernel
theorem dX11_of_88 : decode cX11_of 88 = .ok (.iload_n 1, 1) := by decide +kernel
theorem dX11_of_89 : decode cX11_of 89 = .ok (.iload 4, 2) := by decide +kernel
theorem dX11_of_91 : decode cX11_of 91 = .ok (.invokevirtual 134, 3) := by decide +kernel
theorem dX11_of_94 : decode cX11_of 94 = .ok (.ireturn, 1) := by decide +kernel
theorem dX11_of_95 : decode cX11_of 95 = .ok (.aload_n 0, 1) := by decide +kernel
theorem dX11_of_96 : decode cX11_of 96 = .ok (.getfield 79, 3) := by decide +kernel
theorem dX11_of_99 : decode cX11_of 99 = .ok (.ireturn, 1) := by decide +kernel
theorem dX11_of_100 : decode cX11_of 100 = .ok (.aload_n 0, 1) := by decide +kernel
theorem dX11_of_101 : decode cX11_of 101 = .ok (.aload_n 0, 1) := by decide +kernel
theorem dX11_of_102 : decode cX11_of 102 = .ok (.getfield 76, 3) := by decide +kernel
theorem dX11_of_105 : decode cX11_of 105 = .ok (.invokevirtual 206, 3) := by decide +kernel
theorem dX11_of_108 : decode cX11_of 108 = .ok (.ireturn, 1) := by decide +kernel
theorem dX11_of_109 : decode cX11_of 109 = .ok (.aload_n 0, 1) := by decide +kernel
theorem dX11_of_110 : decode cX11_of 110 = .ok (.aload_n 0, 1) := by decide +kernel
theorem dX11_of_111 : decode cX11_of 111 = .ok (.aload_n 0, 1) := by decide +kernel
theorem dX11_of_112 : decode cX11_of 112 = .ok (.getfield 70, 3) := by decide +kernel
theorem dX11_of_115 : decode cX11_of 115 = .ok (.iload 4, 2) := by decide +kernel
theorem dX11_of_117 : decode cX11_of 117 = .ok (.iconst 1, 1) := by decide +kernel
theorem dX11_of_118 : decode cX11_of 118 = .ok (.isub, 1) := by decide +kernel
theorem dX11_of_119 : decode cX11_of 119 = .ok (.invokevirtual 82, 3) := by decide +kernel
theorem dX11_of_122 : decode cX11_of 122 = .ok (.invokevirtual 206, 3) := by decide +kernel
theorem dX11_of_125 : decode cX11_of 125 = .ok (.ireturn, 1) := by decide +kernel
theorem dX11_of_126 : decode cX11_of 126 = .ok (.aload_n 0, 1) := by decide +kernel
theorem dX11_of_127 : decode cX11_of 127 = .ok (.aload_n 0, 1) := by decide +kernel
theorem dX11_of_128 : decode cX11_of 128 = .ok (.iload 4, 2) := by decide +kernel
theorem dX11_of_130 : decode cX11_of 130 = .ok (.iconst 1, 1) := by decide +kernel
theorem dX11_of_131 : decode cX11_of 131 = .ok (.iadd, 1) := by decide +kernel
theorem dX11_of_132 : decode cX11_of 132 = .ok (.aload_n 0, 1) := by decide +kernel
theorem dX11_of_133 : decode cX11_of 133 = .ok (.getfield 73, 3) := by decide +kernel
theorem dX11_of_136 : decode cX11_of 136 = .ok (.invokevirtual 82, 3) := by decide +kernel
theorem dX11_of_139 : decode cX11_of 139 = .ok (.invokevirtual 206, 3) := by decide +kernel
theorem dX11_of_142 : decode cX11_of 142 = .ok (.ireturn, 1) := by decide +kernel
theorem dX11_of_143 : decode cX11_of 143 = .ok (.iload_n 2, 1) := by decide +kernel
theorem dX11_of_144 : decode cX11_of 144 = .ok (.invokestatic 67, 3) := by decide +kernel
theorem dX11_of_147 : decode cX11_of 147 = .ok (.ireturn, 1) := by decide +kernel
theorem dX11_of_148 : decode cX11_of 148 = .ok (.aload_n 0, 1) := by decide +kernel
theorem dX11_of_149 : decode cX11_of 149 = .ok (.getfield 73, 3) := by decide +kernel
theorem dX11_of_152 : decode cX11_of 152 = .ok (.aload_n 0, 1) := by decide +kernel
theorem dX11_of_153 : decode cX11_of 153 = .ok (.getfield 70, 3) := by decide +kernel
theorem dX11_of_156 : decode cX11_of 156 = .ok (.isub, 1) := by decide +kernel
theorem dX11_of_157 : decode cX11_of 157 = .ok (.ireturn, 1) := by decide +kernel
theorem dX11_of_158 : decode cX11_of 158 = .ok (.iconst (-1), 1) := by decide +kernel
theorem dX11_of_159 : decode cX11_of 159 = .ok (.ireturn, 1) := by decide +kernel
theorem dX11_within_0 : decode cX11_within 0 = .ok (.iload_n 1, 1) := by decide +kernel
theorem dX11_within_1 : decode cX11_within 1 = .ok (.invokestatic 112, 3) := by decide +kernel
theorem dX11_within_4 : decode cX11_within 4 = .ok (.ifCond .ne 5, 3) := by decide +kernel
theorem dX11_within_7 : decode cX11_within 7 = .ok (.iconst (-1), 1) := by decide +kernel
theorem dX11_within_8 : decode cX11_within 8 = .ok (.ireturn, 1) := by decide +kernel
theorem dX11_within_9 : decode cX11_within 9 = .ok (.iconst 0, 1) := by decide +kernel
theorem dX11_within_10 : decode cX11_within 10 = .ok (.istore 5, 2) := by decide +kernel
theorem dX11_within_12 : decode cX11_within 12 = .ok (.iconst 0, 1) := by decide +kernel
theorem dX11_within_13 : decode cX11_within 13 = .ok (.istore 6, 2) := by decide +kernel
theorem dX11_within_15 : decode cX11_within 15 = .ok (.iload 6, 2) := by decide +kernel
theorem dX11_within_17 : decode cX11_within 17 = .ok (.aload_n 0, 1) := by decide +kernel
theorem dX11_within_18 : decode cX11_within 18 = .ok (.iload_n 1, 1) := by decide +kernel
theorem dX11_within_19 : decode cX11_within 19 = .ok (.invokevirtual 44, 3) := by decide +kernel
theorem dX11_within_22 : decode cX11_within 22 = .ok (.if_icmp .ge 50, 3) := by decide +kernel
theorem dX11_within_25 : decode cX11_within 25 = .ok (.iload 5, 2) := by decide +kernel
theorem dX11_within_27 : decode cX11_within 27 = .ok (.aload_n 0, 1) := by decide +kernel
theorem dX11_within_28 : decode cX11_within 28 = .ok (.iload_n 1, 1) := by decide +kernel
theorem dX11_within_29 : decode cX11_within 29 = .ok (.iload 6, 2) := by decide +kernel
theorem dX11_within_31 : decode cX11_within 31 = .ok (.invokevirtual 48, 3) := by decide +kernel
theorem dX11_within_34 : decode cX11_within 34 = .ok (.iload_n 2, 1) := by decide +kernel
theorem dX11_within_35 : decode cX11_within 35 = .ok (.iload_n 3, 1) := by decide +kernel
theorem dX11_within_36 : decode cX11_within 36 = .ok (.invokestatic 37, 3) := by decide +kernel
theorem dX11_within_39 : decode cX11_within 39 = .ok (.ifCond .eq 23, 3) := by decide +kernel
theorem dX11_within_42 : decode cX11_within 42 = .ok (.iload 4, 2) := by decide +kernel
theorem dX11_within_44 : decode cX11_within 44 = .ok (.ifCond .eq 14, 3) := by decide +kernel
theorem dX11_within_47 : decode cX11_within 47 = .ok (.aload_n 0, 1) := by decide +kernel
theorem dX11_within_48 : decode cX11_within 48 = .ok (.iload_n 1, 1) := by decide +kernel
theorem dX11_within_49 : decode cX11_within 49 = .ok (.iload 6, 2) := by decide +kernel
theorem dX11_within_51 : decode cX11_within 51 = .ok (.invokevirtual 134, 3) := by decide +kernel
theorem dX11_within_54 : decode cX11_within 54 = .ok (.iconst 1, 1) := by decide +kernel
theorem dX11_within_55 : decode cX11_within 55 = .ok (.if_icmp .ne 7, 3) := by decide +kernel
theorem dX11_within_58 : decode cX11_within 58 = .ok (.iconst 1, 1) := by decide +kernel
theorem dX11_within_59 : decode cX11_within 59 = .ok (.goto 4, 3) := by decide +kernel
theorem dX11_within_62 : decode cX11_within 62 = .ok (.iconst 0, 1) := by decide +kernel
theorem dX11_within_63 : decode cX11_within 63 = .ok (.iadd, 1) := by decide +kernel
theorem dX11_within_64 : decode cX11_within 64 = .ok (.istore 5, 2) := by decide +kernel
theorem dX11_within_66 : decode cX11_within 66 = .ok (.iinc 6 1, 3) := by decide +kernel
theorem dX11_within_69 : decode cX11_within 69 = .ok (.goto (-54), 3) := by decide +kernel
theorem dX11_within_72 : decode cX11_within 72 = .ok (.iload 5, 2) := by decide +kernel
theorem dX11_within_74 : decode cX11_within 74 = .ok (.ireturn, 1) := by decide +kernel
theorem dX11_far_0 : decode cX11_far 0 = .ok (.iload_n 1, 1) := by decide +kernel
theorem dX11_far_1 : decode cX11_far 1 = .ok (.invokestatic 112, 3) := by decide +kernel
theorem dX11_far_4 : decode cX11_far 4 = .ok (.ifCond .eq 23, 3) := by decide +kernel
theorem dX11_far_7 : decode cX11_far 7 = .ok (.aload_n 0, 1) := by decide +kernel
theorem dX11_far_8 : decode cX11_far 8 = .ok (.iload_n 1, 1) := by decide +kernel
theorem dX11_far_9 : decode cX11_far 9 = .ok (.iload_n 2, 1) := by decide +kernel
theorem dX11_far_10 : decode cX11_far 10 = .ok (.invokevirtual 59, 3) := by decide +kernel
theorem dX11_far_13 : decode cX11_far 13 = .ok (.iconst (-1), 1) := by decide +kernel
theorem dX11_far_14 : decode cX11_far 14 = .ok (.if_icmp .eq 13, 3) := by decide +kernel
theorem dX11_far_17 : decode cX11_far 17 = .ok (.aload_n 0, 1) := by decide +kernel
theorem dX11_far_18 : decode cX11_far 18 = .ok (.iload_n 1, 1) := by decide +kernel
theorem dX11_far_19 : decode cX11_far 19 = .ok (.iload_n 3, 1) := by decide +kernel
theorem dX11_far_20 : decode cX11_far 20 = .ok (.invokevirtual 59, 3) := by decide +kernel
theorem dX11_far_23 : decode cX11_far 23 = .ok (.iconst (-1), 1) := by decide +kernel
theorem dX11_far_24 : decode cX11_far 24 = .ok (.if_icmp .ne 5, 3) := by decide +kernel
theorem dX11_far_27 : decode cX11_far 27 = .ok (.iconst (-1), 1) := by decide +kernel
theorem dX11_far_28 : decode cX11_far 28 = .ok (.ireturn, 1) := by decide +kernel
theorem dX11_far_29 : decode cX11_far 29 = .ok (.aload_n 0, 1) := by decide +kernel
theorem dX11_far_30 : decode cX11_far 30 = .ok (.iload_n 1, 1) := by decide +kernel
theorem dX11_far_31 : decode cX11_far 31 = .ok (.invokevirtual 194, 3) := by decide +kernel
theorem dX11_far_34 : decode cX11_far 34 = .ok (.aload_n 0, 1) := by decide +kernel
theorem dX11_far_35 : decode cX11_far 35 = .ok (.aload_n 0, 1) := by decide +kernel
theorem dX11_far_36 : decode cX11_far 36 = .ok (.iload_n 1, 1) := by decide +kernel
theorem dX11_far_37 : decode cX11_far 37 = .ok (.iload_n 2, 1) := by decide +kernel
theorem dX11_far_38 : decode cX11_far 38 = .ok (.invokevirtual 59, 3) := by decide +kernel
theorem dX11_far_41 : decode cX11_far 41 = .ok (.aload_n 0, 1) := by decide +kernel
theorem dX11_far_42 : decode cX11_far 42 = .ok (.iload_n 1, 1) := by decide +kernel
theorem dX11_far_43 : decode cX11_far 43 = .ok (.iload_n 3, 1) := by decide +kernel
theorem dX11_far_44 : decode cX11_far 44 = .ok (.invokevirtual 59, 3) := by decide +kernel
theorem dX11_far_47 : decode cX11_far 47 = .ok (.invokevirtual 197, 3) := by decide +kernel
theorem dX11_far_50 : decode cX11_far 50 = .ok (.ireturn, 1) := by decide +kernel
theorem dX11_where_0 : decode cX11_where 0 = .ok (.iconst 0, 1) := by decide +kernel
theorem dX11_where_1 : decode cX11_where 1 = .ok (.istore_n 2, 1) := by decide +kernel
theorem dX11_where_2 : decode cX11_where 2 = .ok (.iconst 0, 1) := by decide +kernel
theorem dX11_where_3 : decode cX11_where 3 = .ok (.istore_n 3, 1) := by decide +kernel
theorem dX11_where_4 : decode cX11_where 4 = .ok (.iload_n 3, 1) := by decide +kernel
theorem dX11_where_5 : decode cX11_where 5 = .ok (.bipush 8, 2) := by decide +kernel
theorem dX11_where_7 : decode cX11_where 7 = .ok (.if_icmp .ge 29, 3) := by decide +kernel
theorem dX11_where_10 : decode cX11_where 10 = .ok (.iload_n 2, 1) := by decide +kernel
theorem dX11_where_11 : decode cX11_where 11 = .ok (.aload_n 0, 1) := by decide +kernel
theorem dX11_where_12 : decode cX11_where 12 = .ok (.iload_n 3, 1) := by decide +kernel
theorem dX11_where_13 : decode cX11_where 13 = .ok (.iload_n 1, 1) := by decide +kernel
theorem dX11_where_14 : decode cX11_where 14 = .ok (.invokevirtual 59, 3) := by decide +kernel
theorem dX11_where_17 : decode cX11_where 17 = .ok (.iconst (-1), 1) := by decide +kernel
theorem dX11_where_18 : decode cX11_where 18 = .ok (.if_icmp .eq 9, 3) := by decide +kernel
theorem dX11_where_21 : decode cX11_where 21 = .ok (.iconst 1, 1) := by decide +kernel
theorem dX11_where_22 : decode cX11_where 22 = .ok (.iload_n 3, 1) := by decide +kernel
theorem dX11_where_23 : decode cX11_where 23 = .ok (.ishl, 1) := by decide +kernel
theorem dX11_where_24 : decode cX11_where 24 = .ok (.goto 4, 3) := by decide +kernel
theorem dX11_where_27 : decode cX11_where 27 = .ok (.iconst 0, 1) := by decide +kernel
theorem dX11_where_28 : decode cX11_where 28 = .ok (.ior, 1) := by decide +kernel
theorem dX11_where_29 : decode cX11_where 29 = .ok (.istore_n 2, 1) := by decide +kernel
theorem dX11_where_30 : decode cX11_where 30 = .ok (.iinc 3 1, 3) := by decide +kernel
theorem dX11_where_33 : decode cX11_where 33 = .ok (.goto (-29), 3) := by decide +kernel
theorem dX11_where_36 : decode cX11_where 36 = .ok (.iload_n 2, 1) := by decide +kernel
theorem dX11_where_37 : decode cX11_where 37 = .ok (.ireturn, 1) := by decide +kernel
theorem dX11_unlike_0 : decode cX11_unlike 0 = .ok (.iconst 0, 1) := by decide +kernel
theorem dX11_unlike_1 : decode cX11_unlike 1 = .ok (.istore_n 1, 1) := by decide +kernel
theorem dX11_unlike_2 : decode cX11_unlike 2 = .ok (.iconst 0, 1) := by decide +kernel
theorem dX11_unlike_3 : decode cX11_unlike 3 = .ok (.istore_n 2, 1) := by decide +kernel
theorem dX11_unlike_4 : decode cX11_unlike 4 = .ok (.iload_n 2, 1) := by decide +kernel
theorem dX11_unlike_5 : decode cX11_unlike 5 = .ok (.bipush 8, 2) := by decide +kernel
theorem dX11_unlike_7 : decode cX11_unlike 7 = .ok (.if_icmp .ge 53, 3) := by decide +kernel
theorem dX11_unlike_10 : decode cX11_unlike 10 = .ok (.iconst 0, 1) := by decide +kernel
theorem dX11_unlike_11 : decode cX11_unlike 11 = .ok (.istore_n 3, 1) := by decide +kernel
theorem dX11_unlike_12 : decode cX11_unlike 12 = .ok (.iload_n 3, 1) := by decide +kernel
theorem dX11_unlike_13 : decode cX11_unlike 13 = .ok (.aload_n 0, 1) := by decide +kernel
theorem dX11_unlike_14 : decode cX11_unlike 14 = .ok (.iload_n 2, 1) := by decide +kernel
theorem dX11_unlike_15 : decode cX11_unlike 15 = .ok (.invokevirtual 44, 3) := by decide +kernel
theorem dX11_unlike_18 : decode cX11_unlike 18 = .ok (.if_icmp .ge 36, 3) := by decide +kernel
theorem dX11_unlike_21 : decode cX11_unlike 21 = .ok (.iload_n 1, 1) := by decide +kernel
theorem dX11_unlike_22 : decode cX11_unlike 22 = .ok (.aload_n 0, 1) := by decide +kernel
theorem dX11_unlike_23 : decode cX11_unlike 23 = .ok (.aload_n 0, 1) := by decide +kernel
theorem dX11_unlike_24 : decode cX11_unlike 24 = .ok (.iload_n 2, 1) := by decide +kernel
theorem dX11_unlike_25 : decode cX11_unlike 25 = .ok (.iload_n 3, 1) := by decide +kernel
theorem dX11_unlike_26 : decode cX11_unlike 26 = .ok (.invokevirtual 48, 3) := by decide +kernel
theorem dX11_unlike_29 : decode cX11_unlike 29 = .ok (.invokevirtual 209, 3) := by decide +kernel
theorem dX11_unlike_32 : decode cX11_unlike 32 = .ok (.iconst 1, 1) := by decide +kernel
theorem dX11_unlike_33 : decode cX11_unlike 33 = .ok (.iload_n 2, 1) := by decide +kernel
theorem dX11_unlike_34 : decode cX11_unlike 34 = .ok (.ishl, 1) := by decide +kernel
theorem dX11_unlike_35 : decode cX11_unlike 35 = .ok (.iconst 1, 1) := by decide +kernel
theorem dX11_unlike_36 : decode cX11_unlike 36 = .ok (.isub, 1) := by decide +kernel
theorem dX11_unlike_37 : decode cX11_unlike 37 = .ok (.iand, 1) := by decide +kernel
theorem dX11_unlike_38 : decode cX11_unlike 38 = .ok (.ifCond .ne 7, 3) := by decide +kernel
theorem dX11_unlike_41 : decode cX11_unlike 41 = .ok (.iconst 1, 1) := by decide +kernel
theorem dX11_unlike_42 : decode cX11_unlike 42 = .ok (.goto 4, 3) := by decide +kernel
theorem dX11_unlike_45 : decode cX11_unlike 45 = .ok (.iconst 0, 1) := by decide +kernel
theorem dX11_unlike_46 : decode cX11_unlike 46 = .ok (.iadd, 1) := by decide +kernel
theorem dX11_unlike_47 : decode cX11_unlike 47 = .ok (.istore_n 1, 1) := by decide +kernel
theorem dX11_unlike_48 : decode cX11_unlike 48 = .ok (.iinc 3 1, 3) := by decide +kernel
theorem dX11_unlike_51 : decode cX11_unlike 51 = .ok (.goto (-39), 3) := by decide +kernel
theorem dX11_unlike_54 : decode cX11_unlike 54 = .ok (.iinc 2 1, 3) := by decide +kernel
theorem dX11_unlike_57 : decode cX11_unlike 57 = .ok (.goto (-53), 3) := by decide +kernel
theorem dX11_unlike_60 : decode cX11_unlike 60 = .ok (.iload_n 1, 1) := by decide +kernel
theorem dX11_unlike_61 : decode cX11_unlike 61 = .ok (.ireturn, 1) := by decide +kernel
theorem dX11_fewest_0 : decode cX11_fewest 0 = .ok (.iconst (-1), 1) := by decide +kernel
theorem dX11_fewest_1 : decode cX11_fewest 1 = .ok (.istore_n 2, 1) := by decide +kernel
theorem dX11_fewest_2 : decode cX11_fewest 2 = .ok (.iconst 0, 1) := by decide +kernel
theorem dX11_fewest_3 : decode cX11_fewest 3 = .ok (.istore_n 3, 1) := by decide +kernel
theorem dX11_fewest_4 : decode cX11_fewest 4 = .ok (.iload_n 3, 1) := by decide +kernel
theorem dX11_fewest_5 : decode cX11_fewest 5 = .ok (.bipush 8, 2) := by decide +kernel
theorem dX11_fewest_7 : decode cX11_fewest 7 = .ok (.if_icmp .ge 45, 3) := by decide +kernel
theorem dX11_fewest_10 : decode cX11_fewest 10 = .ok (.iload_n 3, 1) := by decide +kernel
theorem dX11_fewest_11 : decode cX11_fewest 11 = .ok (.iload_n 1, 1) := by decide +kernel
theorem dX11_fewest_12 : decode cX11_fewest 12 = .ok (.if_icmp .eq 34, 3) := by decide +kernel
theorem dX11_fewest_15 : decode cX11_fewest 15 = .ok (.aload_n 0, 1) := by decide +kernel
theorem dX11_fewest_16 : decode cX11_fewest 16 = .ok (.getfield 30, 3) := by decide +kernel
theorem dX11_fewest_19 : decode cX11_fewest 19 = .ok (.iload_n 3, 1) := by decide +kernel
theorem dX11_fewest_20 : decode cX11_fewest 20 = .ok (.iaload, 1) := by decide +kernel
theorem dX11_fewest_21 : decode cX11_fewest 21 = .ok (.ifCond .le 25, 3) := by decide +kernel
theorem dX11_fewest_24 : decode cX11_fewest 24 = .ok (.iload_n 2, 1) := by decide +kernel
theorem dX11_fewest_25 : decode cX11_fewest 25 = .ok (.iconst (-1), 1) := by decide +kernel
theorem dX11_fewest_26 : decode cX11_fewest 26 = .ok (.if_icmp .eq 18, 3) := by decide +kernel
theorem dX11_fewest_29 : decode cX11_fewest 29 = .ok (.aload_n 0, 1) := by decide +kernel
theorem dX11_fewest_30 : decode cX11_fewest 30 = .ok (.getfield 30, 3) := by decide +kernel
theorem dX11_fewest_33 : decode cX11_fewest 33 = .ok (.iload_n 3, 1) := by decide +kernel
theorem dX11_fewest_34 : decode cX11_fewest 34 = .ok (.iaload, 1) := by decide +kernel
theorem dX11_fewest_35 : decode cX11_fewest 35 = .ok (.aload_n 0, 1) := by decide +kernel
theorem dX11_fewest_36 : decode cX11_fewest 36 = .ok (.getfield 30, 3) := by decide +kernel
theorem dX11_fewest_39 : decode cX11_fewest 39 = .ok (.iload_n 2, 1) := by decide +kernel
theorem dX11_fewest_40 : decode cX11_fewest 40 = .ok (.iaload, 1) := by decide +kernel
theorem dX11_fewest_41 : decode cX11_fewest 41 = .ok (.if_icmp .ge 5, 3) := by decide +kernel
theorem dX11_fewest_44 : decode cX11_fewest 44 = .ok (.iload_n 3, 1) := by decide +kernel
theorem dX11_fewest_45 : decode cX11_fewest 45 = .ok (.istore_n 2, 1) := by decide +kernel
theorem dX11_fewest_46 : decode cX11_fewest 46 = .ok (.iinc 3 1, 3) := by decide +kernel
theorem dX11_fewest_49 : decode cX11_fewest 49 = .ok (.goto (-45), 3) := by decide +kernel
theorem dX11_fewest_52 : decode cX11_fewest 52 = .ok (.iload_n 2, 1) := by decide +kernel
theorem dX11_fewest_53 : decode cX11_fewest 53 = .ok (.ireturn, 1) := by decide +kernel
theorem dX11_huffman_0 : decode cX11_huffman 0 = .ok (.iconst 0, 1) := by decide +kernel
theorem dX11_huffman_1 : decode cX11_huffman 1 = .ok (.istore_n 1, 1) := by decide +kernel
theorem dX11_huffman_2 : decode cX11_huffman 2 = .ok (.iload_n 1, 1) := by decide +kernel
theorem dX11_huffman_3 : decode cX11_huffman 3 = .ok (.bipush 8, 2) := by decide +kernel
theorem dX11_huffman_5 : decode cX11_huffman 5 = .ok (.if_icmp .ge 20, 3) := by decide +kernel
theorem dX11_huffman_8 : decode cX11_huffman 8 = .ok (.aload_n 0, 1) := by decide +kernel
theorem dX11_huffman_9 : decode cX11_huffman 9 = .ok (.getfield 30, 3) := by decide +kernel
theorem dX11_huffman_12 : decode cX11_huffman 12 = .ok (.iload_n 1, 1) := by decide +kernel
theorem dX11_huffman_13 : decode cX11_huffman 13 = .ok (.aload_n 0, 1) := by decide +kernel
theorem dX11_huffman_14 : decode cX11_huffman 14 = .ok (.iload_n 1, 1) := by decide +kernel
theorem dX11_huffman_15 : decode cX11_huffman 15 = .ok (.invokevirtual 44, 3) := by decide +kernel
theorem dX11_huffman_18 : decode cX11_huffman 18 = .ok (.iastore, 1) := by decide +kernel
theorem dX11_huffman_19 : decode cX11_huffman 19 = .ok (.iinc 1 1, 3) := by decide +kernel
theorem dX11_huffman_22 : decode cX11_huffman 22 = .ok (.goto (-20), 3) := by decide +kernel
theorem dX11_huffman_25 : decode cX11_huffman 25 = .ok (.iconst 0, 1) := by decide +kernel
theorem dX11_huffman_26 : decode cX11_huffman 26 = .ok (.istore_n 1, 1) := by decide +kernel
theorem dX11_huffman_27 : decode cX11_huffman 27 = .ok (.aload_n 0, 1) := by decide +kernel
theorem dX11_huffman_28 : decode cX11_huffman 28 = .ok (.iconst (-1), 1) := by decide +kernel
theorem dX11_huffman_29 : decode cX11_huffman 29 = .ok (.invokevirtual 212, 3) := by decide +kernel
theorem dX11_huffman_32 : decode cX11_huffman 32 = .ok (.istore_n 2, 1) := by decide +kernel
theorem dX11_huffman_33 : decode cX11_huffman 33 = .ok (.aload_n 0, 1) := by decide +kernel
theorem dX11_huffman_34 : decode cX11_huffman 34 = .ok (.iload_n 2, 1) := by decide +kernel
theorem dX11_huffman_35 : decode cX11_huffman 35 = .ok (.invokevirtual 212, 3) := by decide +kernel
theorem dX11_huffman_38 : decode cX11_huffman 38 = .ok (.istore_n 3, 1) := by decide +kernel
theorem dX11_huffman_39 : decode cX11_huffman 39 = .ok (.iload_n 2, 1) := by decide +kernel
theorem dX11_huffman_40 : decode cX11_huffman 40 = .ok (.iconst (-1), 1) := by decide +kernel
theorem dX11_huffman_41 : decode cX11_huffman 41 = .ok (.if_icmp .eq 74, 3) := by decide +kernel
theorem dX11_huffman_44 : decode cX11_huffman 44 = .ok (.iload_n 3, 1) := by decide +kernel
theorem dX11_huffman_45 : decode cX11_huffman 45 = .ok (.iconst (-1), 1) := by decide +kernel
theorem dX11_huffman_46 : decode cX11_huffman 46 = .ok (.if_icmp .eq 69, 3) := by decide +kernel
theorem dX11_huffman_49 : decode cX11_huffman 49 = .ok (.aload_n 0, 1) := by decide +kernel
theorem dX11_huffman_50 : decode cX11_huffman 50 = .ok (.getfield 30, 3) := by decide +kernel
theorem dX11_huffman_53 : decode cX11_huffman 53 = .ok (.iload_n 2, 1) := by decide +kernel
theorem dX11_huffman_54 : decode cX11_huffman 54 = .ok (.iaload, 1) := by decide +kernel
theorem dX11_huffman_55 : decode cX11_huffman 55 = .ok (.aload_n 0, 1) := by decide +kernel
theorem dX11_huffman_56 : decode cX11_huffman 56 = .ok (.getfield 30, 3) := by decide +kernel
theorem dX11_huffman_59 : decode cX11_huffman 59 = .ok (.iload_n 3, 1) := by decide +kernel
theorem dX11_huffman_60 : decode cX11_huffman 60 = .ok (.iaload, 1) := by decide +kernel
theorem dX11_huffman_61 : decode cX11_huffman 61 = .ok (.iadd, 1) := by decide +kernel
theorem dX11_huffman_62 : decode cX11_huffman 62 = .ok (.istore 4, 2) := by decide +kernel
theorem dX11_huffman_64 : decode cX11_huffman 64 = .ok (.aload_n 0, 1) := by decide +kernel
theorem dX11_huffman_65 : decode cX11_huffman 65 = .ok (.getfield 30, 3) := by decide +kernel
theorem dX11_huffman_68 : decode cX11_huffman 68 = .ok (.iload_n 2, 1) := by decide +kernel
theorem dX11_huffman_69 : decode cX11_huffman 69 = .ok (.iconst 0, 1) := by decide +kernel
theorem dX11_huffman_70 : decode cX11_huffman 70 = .ok (.iastore, 1) := by decide +kernel
theorem dX11_huffman_71 : decode cX11_huffman 71 = .ok (.aload_n 0, 1) := by decide +kernel
theorem dX11_huffman_72 : decode cX11_huffman 72 = .ok (.getfield 30, 3) := by decide +kernel
theorem dX11_huffman_75 : decode cX11_huffman 75 = .ok (.iload_n 3, 1) := by decide +kernel
theorem dX11_huffman_76 : decode cX11_huffman 76 = .ok (.iconst 0, 1) := by decide +kernel
theorem dX11_huffman_77 : decode cX11_huffman 77 = .ok (.iastore, 1) := by decide +kernel
theorem dX11_huffman_78 : decode cX11_huffman 78 = .ok (.aload_n 0, 1) := by decide +kernel
theorem dX11_huffman_79 : decode cX11_huffman 79 = .ok (.getfield 30, 3) := by decide +kernel
theorem dX11_huffman_82 : decode cX11_huffman 82 = .ok (.iload_n 2, 1) := by decide +kernel
theorem dX11_huffman_83 : decode cX11_huffman 83 = .ok (.iload_n 3, 1) := by decide +kernel
theorem dX11_huffman_84 : decode cX11_huffman 84 = .ok (.if_icmp .ge 7, 3) := by decide +kernel
theorem dX11_huffman_87 : decode cX11_huffman 87 = .ok (.iload_n 2, 1) := by decide +kernel
theorem dX11_huffman_88 : decode cX11_huffman 88 = .ok (.goto 4, 3) := by decide +kernel
theorem dX11_huffman_91 : decode cX11_huffman 91 = .ok (.iload_n 3, 1) := by decide +kernel
theorem dX11_huffman_92 : decode cX11_huffman 92 = .ok (.iload 4, 2) := by decide +kernel
theorem dX11_huffman_94 : decode cX11_huffman 94 = .ok (.iastore, 1) := by decide +kernel
theorem dX11_huffman_95 : decode cX11_huffman 95 = .ok (.iload_n 1, 1) := by decide +kernel
theorem dX11_huffman_96 : decode cX11_huffman 96 = .ok (.iload 4, 2) := by decide +kernel
theorem dX11_huffman_98 : decode cX11_huffman 98 = .ok (.iadd, 1) := by decide +kernel
theorem dX11_huffman_99 : decode cX11_huffman 99 = .ok (.istore_n 1, 1) := by decide +kernel
theorem dX11_huffman_100 : decode cX11_huffman 100 = .ok (.aload_n 0, 1) := by decide +kernel
theorem dX11_huffman_101 : decode cX11_huffman 101 = .ok (.iconst (-1), 1) := by decide +kernel
theorem dX11_huffman_102 : decode cX11_huffman 102 = .ok (.invokevirtual 212, 3) := by decide +kernel
theorem dX11_huffman_105 : decode cX11_huffman 105 = .ok (.istore_n 2, 1) := by decide +kernel
theorem dX11_huffman_106 : decode cX11_huffman 106 = .ok (.aload_n 0, 1) := by decide +kernel
theorem dX11_huffman_107 : decode cX11_huffman 107 = .ok (.iload_n 2, 1) := by decide +kernel
theorem dX11_huffman_108 : decode cX11_huffman 108 = .ok (.invokevirtual 212, 3) := by decide +kernel
theorem dX11_huffman_111 : decode cX11_huffman 111 = .ok (.istore_n 3, 1) := by decide +kernel
theorem dX11_huffman_112 : decode cX11_huffman 112 = .ok (.goto (-73), 3) := by decide +kernel
theorem dX11_huffman_115 : decode cX11_huffman 115 = .ok (.iload_n 1, 1) := by decide +kernel
theorem dX11_huffman_116 : decode cX11_huffman 116 = .ok (.ireturn, 1) := by decide +kernel
theorem dX11_count_0 : decode cX11_count 0 = .ok (.iconst 0, 1) := by decide +kernel
theorem dX11_count_1 : decode cX11_count 1 = .ok (.istore_n 2, 1) := by decide +kernel
theorem dX11_count_2 : decode cX11_count 2 = .ok (.iconst 0, 1) := by decide +kernel
theorem dX11_count_3 : decode cX11_count 3 = .ok (.istore_n 3, 1) := by decide +kernel
theorem dX11_count_4 : decode cX11_count 4 = .ok (.iconst 0, 1) := by decide +kernel
theorem dX11_count_5 : decode cX11_count 5 = .ok (.istore 4, 2) := by decide +kernel
theorem dX11_count_7 : decode cX11_count 7 = .ok (.iload 4, 2) := by decide +kernel
theorem dX11_count_9 : decode cX11_count 9 = .ok (.bipush 8, 2) := by decide +kernel
theorem dX11_count_11 : decode cX11_count 11 = .ok (.if_icmp .ge 36, 3) := by decide +kernel
theorem dX11_count_14 : decode cX11_count 14 = .ok (.iload_n 2, 1) := by decide +kernel
theorem dX11_count_15 : decode cX11_count 15 = .ok (.aload_n 0, 1) := by decide +kernel
theorem dX11_count_16 : decode cX11_count 16 = .ok (.iload 4, 2) := by decide +kernel
theorem dX11_count_18 : decode cX11_count 18 = .ok (.invokevirtual 44, 3) := by decide +kernel
theorem dX11_count_21 : decode cX11_count 21 = .ok (.ifCond .le 7, 3) := by decide +kernel
theorem dX11_count_24 : decode cX11_count 24 = .ok (.iconst 1, 1) := by decide +kernel
theorem dX11_count_25 : decode cX11_count 25 = .ok (.goto 4, 3) := by decide +kernel
theorem dX11_count_28 : decode cX11_count 28 = .ok (.iconst 0, 1) := by decide +kernel
theorem dX11_count_29 : decode cX11_count 29 = .ok (.iadd, 1) := by decide +kernel
theorem dX11_count_30 : decode cX11_count 30 = .ok (.istore_n 2, 1) := by decide +kernel
theorem dX11_count_31 : decode cX11_count 31 = .ok (.iload_n 3, 1) := by decide +kernel
theorem dX11_count_32 : decode cX11_count 32 = .ok (.aload_n 0, 1) := by decide +kernel
theorem dX11_count_33 : decode cX11_count 33 = .ok (.iload 4, 2) := by decide +kernel
theorem dX11_count_35 : decode cX11_count 35 = .ok (.iconst 3, 1) := by decide +kernel
theorem dX11_count_36 : decode cX11_count 36 = .ok (.invokevirtual 203, 3) := by decide +kernel
theorem dX11_count_39 : decode cX11_count 39 = .ok (.iadd, 1) := by decide +kernel
theorem dX11_count_40 : decode cX11_count 40 = .ok (.istore_n 3, 1) := by decide +kernel
theorem dX11_count_41 : decode cX11_count 41 = .ok (.iinc 4 1, 3) := by decide +kernel
theorem dX11_count_44 : decode cX11_count 44 = .ok (.goto (-37), 3) := by decide +kernel
theorem dX11_count_47 : decode cX11_count 47 = .ok (.iload_n 1, 1) := by decide +kernel
theorem dX11_count_48 : decode cX11_count 48 = .ok (.tableswitch 82 0 7 #[48, 53, 55, 60, 62, 67, 72, 77], 48) := by decide +kernel
theorem dX11_count_96 : decode cX11_count 96 = .ok (.aload_n 0, 1) := by decide +kernel
theorem dX11_count_97 : decode cX11_count 97 = .ok (.invokevirtual 119, 3) := by decide +kernel
theorem dX11_count_100 : decode cX11_count 100 = .ok (.ireturn, 1) := by decide +kernel
theorem dX11_count_101 : decode cX11_count 101 = .ok (.iload_n 2, 1) := by decide +kernel
theorem dX11_count_102 : decode cX11_count 102 = .ok (.ireturn, 1) := by decide +kernel
theorem dX11_count_103 : decode cX11_count 103 = .ok (.aload_n 0, 1) := by decide +kernel
theorem dX11_count_104 : decode cX11_count 104 = .ok (.invokevirtual 215, 3) := by decide +kernel
theorem dX11_count_107 : decode cX11_count 107 = .ok (.ireturn, 1) := by decide +kernel
theorem dX11_count_108 : decode cX11_count 108 = .ok (.iload_n 3, 1) := by decide +kernel
theorem dX11_count_109 : decode cX11_count 109 = .ok (.ireturn, 1) := by decide +kernel
theorem dX11_count_110 : decode cX11_count 110 = .ok (.aload_n 0, 1) := by decide +kernel
theorem dX11_count_111 : decode cX11_count 111 = .ok (.getfield 151, 3) := by decide +kernel
theorem dX11_count_114 : decode cX11_count 114 = .ok (.ireturn, 1) := by decide +kernel
theorem dX11_count_115 : decode cX11_count 115 = .ok (.aload_n 0, 1) := by decide +kernel
theorem dX11_count_116 : decode cX11_count 116 = .ok (.getfield 218, 3) := by decide +kernel
theorem dX11_count_119 : decode cX11_count 119 = .ok (.ireturn, 1) := by decide +kernel
theorem dX11_count_120 : decode cX11_count 120 = .ok (.aload_n 0, 1) := by decide +kernel
theorem dX11_count_121 : decode cX11_count 121 = .ok (.invokevirtual 221, 3) := by decide +kernel
theorem dX11_count_124 : decode cX11_count 124 = .ok (.ireturn, 1) := by decide +kernel
theorem dX11_count_125 : decode cX11_count 125 = .ok (.aload_n 0, 1) := by decide +kernel
theorem dX11_count_126 : decode cX11_count 126 = .ok (.getfield 224, 3) := by decide +kernel
theorem dX11_count_129 : decode cX11_count 129 = .ok (.ireturn, 1) := by decide +kernel
theorem dX11_count_130 : decode cX11_count 130 = .ok (.iconst (-1), 1) := by decide +kernel
theorem dX11_count_131 : decode cX11_count 131 = .ok (.ireturn, 1) := by decide +kernel
theorem dX11_pair_0 : decode cX11_pair 0 = .ok (.aload_n 0, 1) := by decide +kernel
theorem dX11_pair_1 : decode cX11_pair 1 = .ok (.iload_n 1, 1) := by decide +kernel
theorem dX11_pair_2 : decode cX11_pair 2 = .ok (.iload_n 2, 1) := by decide +kernel
theorem dX11_pair_3 : decode cX11_pair 3 = .ok (.invokevirtual 123, 3) := by decide +kernel
theorem dX11_pair_6 : decode cX11_pair 6 = .ok (.ifCond .ne 5, 3) := by decide +kernel
theorem dX11_pair_9 : decode cX11_pair 9 = .ok (.iconst (-1), 1) := by decide +kernel
theorem dX11_pair_10 : decode cX11_pair 10 = .ok (.ireturn, 1) := by decide +kernel
theorem dX11_pair_11 : decode cX11_pair 11 = .ok (.aload_n 0, 1) := by decide +kernel
theorem dX11_pair_12 : decode cX11_pair 12 = .ok (.iload_n 1, 1) := by decide +kernel
theorem dX11_pair_13 : decode cX11_pair 13 = .ok (.iload_n 2, 1) := by decide +kernel
theorem dX11_pair_14 : decode cX11_pair 14 = .ok (.invokevirtual 179, 3) := by decide +kernel
theorem dX11_pair_17 : decode cX11_pair 17 = .ok (.iload_n 3, 1) := by decide +kernel
theorem dX11_pair_18 : decode cX11_pair 18 = .ok (.tableswitch 115 0 6 #[42, 47, 54, 59, 80, 85, 100], 42) := by decide +kernel
theorem dX11_pair_60 : decode cX11_pair 60 = .ok (.aload_n 0, 1) := by decide +kernel
theorem dX11_pair_61 : decode cX11_pair 61 = .ok (.getfield 94, 3) := by decide +kernel
theorem dX11_pair_64 : decode cX11_pair 64 = .ok (.ireturn, 1) := by decide +kernel
theorem dX11_pair_65 : decode cX11_pair 65 = .ok (.aload_n 0, 1) := by decide +kernel
theorem dX11_pair_66 : decode cX11_pair 66 = .ok (.iload_n 1, 1) := by decide +kernel
theorem dX11_pair_67 : decode cX11_pair 67 = .ok (.iload_n 2, 1) := by decide +kernel
theorem dX11_pair_68 : decode cX11_pair 68 = .ok (.invokevirtual 131, 3) := by decide +kernel
theorem dX11_pair_71 : decode cX11_pair 71 = .ok (.ireturn, 1) := by decide +kernel
theorem dX11_pair_72 : decode cX11_pair 72 = .ok (.aload_n 0, 1) := by decide +kernel
theorem dX11_pair_73 : decode cX11_pair 73 = .ok (.getfield 100, 3) := by decide +kernel
theorem dX11_pair_76 : decode cX11_pair 76 = .ok (.ireturn, 1) := by decide +kernel
theorem dX11_pair_77 : decode cX11_pair 77 = .ok (.aload_n 0, 1) := by decide +kernel
theorem dX11_pair_78 : decode cX11_pair 78 = .ok (.iload_n 1, 1) := by decide +kernel
theorem dX11_pair_79 : decode cX11_pair 79 = .ok (.invokevirtual 44, 3) := by decide +kernel
theorem dX11_pair_82 : decode cX11_pair 82 = .ok (.aload_n 0, 1) := by decide +kernel
theorem dX11_pair_83 : decode cX11_pair 83 = .ok (.iload_n 2, 1) := by decide +kernel
theorem dX11_pair_84 : decode cX11_pair 84 = .ok (.invokevirtual 44, 3) := by decide +kernel
theorem dX11_pair_87 : decode cX11_pair 87 = .ok (.iadd, 1) := by decide +kernel
theorem dX11_pair_88 : decode cX11_pair 88 = .ok (.iconst 2, 1) := by decide +kernel
theorem dX11_pair_89 : decode cX11_pair 89 = .ok (.aload_n 0, 1) := by decide +kernel
theorem dX11_pair_90 : decode cX11_pair 90 = .ok (.iload_n 1, 1) := by decide +kernel
theorem dX11_pair_91 : decode cX11_pair 91 = .ok (.iload_n 2, 1) := by decide +kernel
theorem dX11_pair_92 : decode cX11_pair 92 = .ok (.invokevirtual 131, 3) := by decide +kernel
theorem dX11_pair_95 : decode cX11_pair 95 = .ok (.imul, 1) := by decide +kernel
theorem dX11_pair_96 : decode cX11_pair 96 = .ok (.isub, 1) := by decide +kernel
theorem dX11_pair_97 : decode cX11_pair 97 = .ok (.ireturn, 1) := by decide +kernel
theorem dX11_pair_98 : decode cX11_pair 98 = .ok (.aload_n 0, 1) := by decide +kernel
theorem dX11_pair_99 : decode cX11_pair 99 = .ok (.getfield 97, 3) := by decide +kernel
theorem dX11_pair_102 : decode cX11_pair 102 = .ok (.ireturn, 1) := by decide +kernel
theorem dX11_pair_103 : decode cX11_pair 103 = .ok (.aload_n 0, 1) := by decide +kernel
theorem dX11_pair_104 : decode cX11_pair 104 = .ok (.iload_n 1, 1) := by decide +kernel
theorem dX11_pair_105 : decode cX11_pair 105 = .ok (.iload_n 2, 1) := by decide +kernel
theorem dX11_pair_106 : decode cX11_pair 106 = .ok (.invokevirtual 173, 3) := by decide +kernel
theorem dX11_pair_109 : decode cX11_pair 109 = .ok (.ifCond .ne 7, 3) := by decide +kernel
theorem dX11_pair_112 : decode cX11_pair 112 = .ok (.iconst 1, 1) := by decide +kernel
theorem dX11_pair_113 : decode cX11_pair 113 = .ok (.goto 4, 3) := by decide +kernel
theorem dX11_pair_116 : decode cX11_pair 116 = .ok (.iconst 0, 1) := by decide +kernel
theorem dX11_pair_117 : decode cX11_pair 117 = .ok (.ireturn, 1) := by decide +kernel
theorem dX11_pair_118 : decode cX11_pair 118 = .ok (.aload_n 0, 1) := by decide +kernel
theorem dX11_pair_119 : decode cX11_pair 119 = .ok (.iload_n 1, 1) := by decide +kernel
theorem dX11_pair_120 : decode cX11_pair 120 = .ok (.iload_n 2, 1) := by decide +kernel
theorem dX11_pair_121 : decode cX11_pair 121 = .ok (.invokevirtual 176, 3) := by decide +kernel
theorem dX11_pair_124 : decode cX11_pair 124 = .ok (.ifCond .ne 7, 3) := by decide +kernel
theorem dX11_pair_127 : decode cX11_pair 127 = .ok (.iconst 1, 1) := by decide +kernel
theorem dX11_pair_128 : decode cX11_pair 128 = .ok (.goto 4, 3) := by decide +kernel
theorem dX11_pair_131 : decode cX11_pair 131 = .ok (.iconst 0, 1) := by decide +kernel
theorem dX11_pair_132 : decode cX11_pair 132 = .ok (.ireturn, 1) := by decide +kernel
theorem dX11_pair_133 : decode cX11_pair 133 = .ok (.iconst (-1), 1) := by decide +kernel
theorem dX11_pair_134 : decode cX11_pair 134 = .ok (.ireturn, 1) := by decide +kernel
theorem dX11_cheapest_0 : decode cX11_cheapest 0 = .ok (.iconst (-1), 1) := by decide +kernel
theorem dX11_cheapest_1 : decode cX11_cheapest 1 = .ok (.istore_n 2, 1) := by decide +kernel
theorem dX11_cheapest_2 : decode cX11_cheapest 2 = .ok (.iconst (-1), 1) := by decide +kernel
theorem dX11_cheapest_3 : decode cX11_cheapest 3 = .ok (.istore_n 3, 1) := by decide +kernel
theorem dX11_cheapest_4 : decode cX11_cheapest 4 = .ok (.iconst 0, 1) := by decide +kernel
theorem dX11_cheapest_5 : decode cX11_cheapest 5 = .ok (.istore 4, 2) := by decide +kernel
theorem dX11_cheapest_7 : decode cX11_cheapest 7 = .ok (.iconst 0, 1) := by decide +kernel
theorem dX11_cheapest_8 : decode cX11_cheapest 8 = .ok (.istore 5, 2) := by decide +kernel
theorem dX11_cheapest_10 : decode cX11_cheapest 10 = .ok (.iload 5, 2) := by decide +kernel
theorem dX11_cheapest_12 : decode cX11_cheapest 12 = .ok (.bipush 8, 2) := by decide +kernel
theorem dX11_cheapest_14 : decode cX11_cheapest 14 = .ok (.if_icmp .ge 88, 3) := by decide +kernel
theorem dX11_cheapest_17 : decode cX11_cheapest 17 = .ok (.iload 5, 2) := by decide +kernel
theorem dX11_cheapest_19 : decode cX11_cheapest 19 = .ok (.iconst 1, 1) := by decide +kernel
theorem dX11_cheapest_20 : decode cX11_cheapest 20 = .ok (.iadd, 1) := by decide +kernel
theorem dX11_cheapest_21 : decode cX11_cheapest 21 = .ok (.istore 6, 2) := by decide +kernel
theorem dX11_cheapest_23 : decode cX11_cheapest 23 = .ok (.iload 6, 2) := by decide +kernel
theorem dX11_cheapest_25 : decode cX11_cheapest 25 = .ok (.bipush 8, 2) := by decide +kernel
theorem dX11_cheapest_27 : decode cX11_cheapest 27 = .ok (.if_icmp .ge 69, 3) := by decide +kernel
theorem dX11_cheapest_30 : decode cX11_cheapest 30 = .ok (.aload_n 0, 1) := by decide +kernel
theorem dX11_cheapest_31 : decode cX11_cheapest 31 = .ok (.iload 5, 2) := by decide +kernel
theorem dX11_cheapest_33 : decode cX11_cheapest 33 = .ok (.invokevirtual 44, 3) := by decide +kernel
theorem dX11_cheapest_36 : decode cX11_cheapest 36 = .ok (.ifCond .eq 54, 3) := by decide +kernel
theorem dX11_cheapest_39 : decode cX11_cheapest 39 = .ok (.aload_n 0, 1) := by decide +kernel
theorem dX11_cheapest_40 : decode cX11_cheapest 40 = .ok (.iload 5, 2) := by decide +kernel
theorem dX11_cheapest_42 : decode cX11_cheapest 42 = .ok (.iload 6, 2) := by decide +kernel
theorem dX11_cheapest_44 : decode cX11_cheapest 44 = .ok (.invokevirtual 176, 3) := by decide +kernel
theorem dX11_cheapest_47 : decode cX11_cheapest 47 = .ok (.ifCond .le 6, 3) := by decide +kernel
theorem dX11_cheapest_50 : decode cX11_cheapest 50 = .ok (.goto 40, 3) := by decide +kernel
theorem dX11_cheapest_53 : decode cX11_cheapest 53 = .ok (.aload_n 0, 1) := by decide +kernel
theorem dX11_cheapest_54 : decode cX11_cheapest 54 = .ok (.iload 5, 2) := by decide +kernel
theorem dX11_cheapest_56 : decode cX11_cheapest 56 = .ok (.iload 6, 2) := by decide +kernel
theorem dX11_cheapest_58 : decode cX11_cheapest 58 = .ok (.invokevirtual 179, 3) := by decide +kernel
theorem dX11_cheapest_61 : decode cX11_cheapest 61 = .ok (.iload_n 2, 1) := by decide +kernel
theorem dX11_cheapest_62 : decode cX11_cheapest 62 = .ok (.iconst (-1), 1) := by decide +kernel
theorem dX11_cheapest_63 : decode cX11_cheapest 63 = .ok (.if_icmp .eq 15, 3) := by decide +kernel
theorem dX11_cheapest_66 : decode cX11_cheapest 66 = .ok (.aload_n 0, 1) := by decide +kernel
theorem dX11_cheapest_67 : decode cX11_cheapest 67 = .ok (.getfield 100, 3) := by decide +kernel
theorem dX11_cheapest_70 : decode cX11_cheapest 70 = .ok (.iload 4, 2) := by decide +kernel
theorem dX11_cheapest_72 : decode cX11_cheapest 72 = .ok (.if_icmp .lt 6, 3) := by decide +kernel
theorem dX11_cheapest_75 : decode cX11_cheapest 75 = .ok (.goto 15, 3) := by decide +kernel
theorem dX11_cheapest_78 : decode cX11_cheapest 78 = .ok (.iload 5, 2) := by decide +kernel
theorem dX11_cheapest_80 : decode cX11_cheapest 80 = .ok (.istore_n 2, 1) := by decide +kernel
theorem dX11_cheapest_81 : decode cX11_cheapest 81 = .ok (.iload 6, 2) := by decide +kernel
theorem dX11_cheapest_83 : decode cX11_cheapest 83 = .ok (.istore_n 3, 1) := by decide +kernel
theorem dX11_cheapest_84 : decode cX11_cheapest 84 = .ok (.aload_n 0, 1) := by decide +kernel
theorem dX11_cheapest_85 : decode cX11_cheapest 85 = .ok (.getfield 100, 3) := by decide +kernel
theorem dX11_cheapest_88 : decode cX11_cheapest 88 = .ok (.istore 4, 2) := by decide +kernel
theorem dX11_cheapest_90 : decode cX11_cheapest 90 = .ok (.iinc 6 1, 3) := by decide +kernel
theorem dX11_cheapest_93 : decode cX11_cheapest 93 = .ok (.goto (-70), 3) := by decide +kernel
theorem dX11_cheapest_96 : decode cX11_cheapest 96 = .ok (.iinc 5 1, 3) := by decide +kernel
theorem dX11_cheapest_99 : decode cX11_cheapest 99 = .ok (.goto (-89), 3) := by decide +kernel
theorem dX11_cheapest_102 : decode cX11_cheapest 102 = .ok (.iload_n 2, 1) := by decide +kernel
theorem dX11_cheapest_103 : decode cX11_cheapest 103 = .ok (.iconst (-1), 1) := by decide +kernel
theorem dX11_cheapest_104 : decode cX11_cheapest 104 = .ok (.if_icmp .ne 5, 3) := by decide +kernel
theorem dX11_cheapest_107 : decode cX11_cheapest 107 = .ok (.iconst (-1), 1) := by decide +kernel
theorem dX11_cheapest_108 : decode cX11_cheapest 108 = .ok (.ireturn, 1) := by decide +kernel
theorem dX11_cheapest_109 : decode cX11_cheapest 109 = .ok (.iload_n 1, 1) := by decide +kernel
theorem dX11_cheapest_110 : decode cX11_cheapest 110 = .ok (.ifCond .ne 7, 3) := by decide +kernel
theorem dX11_cheapest_113 : decode cX11_cheapest 113 = .ok (.iload_n 2, 1) := by decide +kernel
theorem dX11_cheapest_114 : decode cX11_cheapest 114 = .ok (.goto 23, 3) := by decide +kernel
theorem dX11_cheapest_117 : decode cX11_cheapest 117 = .ok (.iload_n 1, 1) := by decide +kernel
theorem dX11_cheapest_118 : decode cX11_cheapest 118 = .ok (.iconst 1, 1) := by decide +kernel
theorem dX11_cheapest_119 : decode cX11_cheapest 119 = .ok (.if_icmp .ne 7, 3) := by decide +kernel
theorem dX11_cheapest_122 : decode cX11_cheapest 122 = .ok (.iload_n 3, 1) := by decide +kernel
theorem dX11_cheapest_123 : decode cX11_cheapest 123 = .ok (.goto 14, 3) := by decide +kernel
theorem dX11_cheapest_126 : decode cX11_cheapest 126 = .ok (.iload_n 1, 1) := by decide +kernel
theorem dX11_cheapest_127 : decode cX11_cheapest 127 = .ok (.iconst 2, 1) := by decide +kernel
theorem dX11_cheapest_128 : decode cX11_cheapest 128 = .ok (.if_icmp .ne 8, 3) := by decide +kernel
theorem dX11_cheapest_131 : decode cX11_cheapest 131 = .ok (.iload 4, 2) := by decide +kernel
theorem dX11_cheapest_133 : decode cX11_cheapest 133 = .ok (.goto 4, 3) := by decide +kernel
theorem dX11_cheapest_136 : decode cX11_cheapest 136 = .ok (.iconst (-1), 1) := by decide +kernel
theorem dX11_cheapest_137 : decode cX11_cheapest 137 = .ok (.ireturn, 1) := by decide +kernel
theorem dX11_merged_0 : decode cX11_merged 0 = .ok (.iload_n 1, 1) := by decide +kernel
theorem dX11_merged_1 : decode cX11_merged 1 = .ok (.ifCond .ge 5, 3) := by decide +kernel
theorem dX11_merged_4 : decode cX11_merged 4 = .ok (.iconst (-1), 1) := by decide +kernel
theorem dX11_merged_5 : decode cX11_merged 5 = .ok (.ireturn, 1) := by decide +kernel
theorem dX11_merged_6 : decode cX11_merged 6 = .ok (.iconst 0, 1) := by decide +kernel
theorem dX11_merged_7 : decode cX11_merged 7 = .ok (.istore_n 2, 1) := by decide +kernel
theorem dX11_merged_8 : decode cX11_merged 8 = .ok (.iload_n 2, 1) := by decide +kernel
theorem dX11_merged_9 : decode cX11_merged 9 = .ok (.bipush 8, 2) := by decide +kernel
theorem dX11_merged_11 : decode cX11_merged 11 = .ok (.if_icmp .ge 103, 3) := by decide +kernel
theorem dX11_merged_14 : decode cX11_merged 14 = .ok (.iconst 0, 1) := by decide +kernel
theorem dX11_merged_15 : decode cX11_merged 15 = .ok (.istore_n 3, 1) := by decide +kernel
theorem dX11_merged_16 : decode cX11_merged 16 = .ok (.iload_n 3, 1) := by decide +kernel
theorem dX11_merged_17 : decode cX11_merged 17 = .ok (.aload_n 0, 1) := by decide +kernel
theorem dX11_merged_18 : decode cX11_merged 18 = .ok (.iload_n 2, 1) := by decide +kernel
theorem dX11_merged_19 : decode cX11_merged 19 = .ok (.invokevirtual 44, 3) := by decide +kernel
theorem dX11_merged_22 : decode cX11_merged 22 = .ok (.if_icmp .ge 86, 3) := by decide +kernel
theorem dX11_merged_25 : decode cX11_merged 25 = .ok (.iconst 0, 1) := by decide +kernel
theorem dX11_merged_26 : decode cX11_merged 26 = .ok (.istore 4, 2) := by decide +kernel
theorem dX11_merged_28 : decode cX11_merged 28 = .ok (.iconst 0, 1) := by decide +kernel
theorem dX11_merged_29 : decode cX11_merged 29 = .ok (.istore 5, 2) := by decide +kernel
theorem dX11_merged_31 : decode cX11_merged 31 = .ok (.iload 5, 2) := by decide +kernel
theorem dX11_merged_33 : decode cX11_merged 33 = .ok (.bipush 8, 2) := by decide +kernel
theorem dX11_merged_35 : decode cX11_merged 35 = .ok (.if_icmp .ge 54, 3) := by decide +kernel
theorem dX11_merged_38 : decode cX11_merged 38 = .ok (.iload 4, 2) := by decide +kernel
theorem dX11_merged_40 : decode cX11_merged 40 = .ok (.aload_n 0, 1) := by decide +kernel
theorem dX11_merged_41 : decode cX11_merged 41 = .ok (.iload 5, 2) := by decide +kernel
theorem dX11_merged_43 : decode cX11_merged 43 = .ok (.aload_n 0, 1) := by decide +kernel
theorem dX11_merged_44 : decode cX11_merged 44 = .ok (.iload_n 2, 1) := by decide +kernel
theorem dX11_merged_45 : decode cX11_merged 45 = .ok (.iload_n 3, 1) := by decide +kernel
theorem dX11_merged_46 : decode cX11_merged 46 = .ok (.invokevirtual 48, 3) := by decide +kernel
theorem dX11_merged_49 : decode cX11_merged 49 = .ok (.invokevirtual 52, 3) := by decide +kernel
theorem dX11_merged_52 : decode cX11_merged 52 = .ok (.iload 5, 2) := by decide +kernel
theorem dX11_merged_54 : decode cX11_merged 54 = .ok (.iload_n 2, 1) := by decide +kernel
theorem dX11_merged_55 : decode cX11_merged 55 = .ok (.if_icmp .ge 23, 3) := by decide +kernel
theorem dX11_merged_58 : decode cX11_merged 58 = .ok (.aload_n 0, 1) := by decide +kernel
theorem dX11_merged_59 : decode cX11_merged 59 = .ok (.iload 5, 2) := by decide +kernel
theorem dX11_merged_61 : decode cX11_merged 61 = .ok (.aload_n 0, 1) := by decide +kernel
theorem dX11_merged_62 : decode cX11_merged 62 = .ok (.iload_n 2, 1) := by decide +kernel
theorem dX11_merged_63 : decode cX11_merged 63 = .ok (.iload_n 3, 1) := by decide +kernel
theorem dX11_merged_64 : decode cX11_merged 64 = .ok (.invokevirtual 48, 3) := by decide +kernel
theorem dX11_merged_67 : decode cX11_merged 67 = .ok (.invokevirtual 59, 3) := by decide +kernel
theorem dX11_merged_70 : decode cX11_merged 70 = .ok (.iconst (-1), 1) := by decide +kernel
theorem dX11_merged_71 : decode cX11_merged 71 = .ok (.if_icmp .eq 7, 3) := by decide +kernel
theorem dX11_merged_74 : decode cX11_merged 74 = .ok (.iconst 1, 1) := by decide +kernel
theorem dX11_merged_75 : decode cX11_merged 75 = .ok (.goto 4, 3) := by decide +kernel
theorem dX11_merged_78 : decode cX11_merged 78 = .ok (.iconst 0, 1) := by decide +kernel
theorem dX11_merged_79 : decode cX11_merged 79 = .ok (.iadd, 1) := by decide +kernel
theorem dX11_merged_80 : decode cX11_merged 80 = .ok (.iadd, 1) := by decide +kernel
theorem dX11_merged_81 : decode cX11_merged 81 = .ok (.istore 4, 2) := by decide +kernel
theorem dX11_merged_83 : decode cX11_merged 83 = .ok (.iinc 5 1, 3) := by decide +kernel
theorem dX11_merged_86 : decode cX11_merged 86 = .ok (.goto (-55), 3) := by decide +kernel
theorem dX11_merged_89 : decode cX11_merged 89 = .ok (.iload 4, 2) := by decide +kernel
theorem dX11_merged_91 : decode cX11_merged 91 = .ok (.iload_n 1, 1) := by decide +kernel
theorem dX11_merged_92 : decode cX11_merged 92 = .ok (.if_icmp .ne 10, 3) := by decide +kernel
theorem dX11_merged_95 : decode cX11_merged 95 = .ok (.aload_n 0, 1) := by decide +kernel
theorem dX11_merged_96 : decode cX11_merged 96 = .ok (.iload_n 2, 1) := by decide +kernel
theorem dX11_merged_97 : decode cX11_merged 97 = .ok (.iload_n 3, 1) := by decide +kernel
theorem dX11_merged_98 : decode cX11_merged 98 = .ok (.invokevirtual 48, 3) := by decide +kernel
theorem dX11_merged_101 : decode cX11_merged 101 = .ok (.ireturn, 1) := by decide +kernel
theorem dX11_merged_102 : decode cX11_merged 102 = .ok (.iinc 3 1, 3) := by decide +kernel
theorem dX11_merged_105 : decode cX11_merged 105 = .ok (.goto (-89), 3) := by decide +kernel
theorem dX11_merged_108 : decode cX11_merged 108 = .ok (.iinc 2 1, 3) := by decide +kernel
theorem dX11_merged_111 : decode cX11_merged 111 = .ok (.goto (-103), 3) := by decide +kernel
theorem dX11_merged_114 : decode cX11_merged 114 = .ok (.iconst (-1), 1) := by decide +kernel
theorem dX11_merged_115 : decode cX11_merged 115 = .ok (.ireturn, 1) := by decide +kernel
theorem dX11_would_0 : decode cX11_would 0 = .ok (.iload_n 1, 1) := by decide +kernel
theorem dX11_would_1 : decode cX11_would 1 = .ok (.invokestatic 112, 3) := by decide +kernel
theorem dX11_would_4 : decode cX11_would 4 = .ok (.ifCond .eq 29, 3) := by decide +kernel
theorem dX11_would_7 : decode cX11_would 7 = .ok (.iload_n 2, 1) := by decide +kernel
theorem dX11_would_8 : decode cX11_would 8 = .ok (.invokestatic 116, 3) := by decide +kernel
theorem dX11_would_11 : decode cX11_would 11 = .ok (.ifCond .eq 22, 3) := by decide +kernel
theorem dX11_would_14 : decode cX11_would 14 = .ok (.aload_n 0, 1) := by decide +kernel
theorem dX11_would_15 : decode cX11_would 15 = .ok (.iload_n 1, 1) := by decide +kernel
theorem dX11_would_16 : decode cX11_would 16 = .ok (.iload_n 2, 1) := by decide +kernel
theorem dX11_would_17 : decode cX11_would 17 = .ok (.invokevirtual 59, 3) := by decide +kernel
theorem dX11_would_20 : decode cX11_would 20 = .ok (.iconst (-1), 1) := by decide +kernel
theorem dX11_would_21 : decode cX11_would 21 = .ok (.if_icmp .eq 7, 3) := by decide +kernel
theorem dX11_would_24 : decode cX11_would 24 = .ok (.iconst 1, 1) := by decide +kernel
theorem dX11_would_25 : decode cX11_would 25 = .ok (.goto 4, 3) := by decide +kernel
theorem dX11_would_28 : decode cX11_would 28 = .ok (.iconst 0, 1) := by decide +kernel
theorem dX11_would_29 : decode cX11_would 29 = .ok (.iload_n 3, 1) := by decide +kernel
theorem dX11_would_30 : decode cX11_would 30 = .ok (.if_icmp .eq 5, 3) := by decide +kernel
theorem dX11_would_33 : decode cX11_would 33 = .ok (.iconst (-1), 1) := by decide +kernel
theorem dX11_would_34 : decode cX11_would 34 = .ok (.ireturn, 1) := by decide +kernel
theorem dX11_would_35 : decode cX11_would 35 = .ok (.aload_n 0, 1) := by decide +kernel
theorem dX11_would_36 : decode cX11_would 36 = .ok (.iload_n 1, 1) := by decide +kernel
theorem dX11_would_37 : decode cX11_would 37 = .ok (.invokevirtual 194, 3) := by decide +kernel
theorem dX11_would_40 : decode cX11_would 40 = .ok (.aload_n 0, 1) := by decide +kernel
theorem dX11_would_41 : decode cX11_would 41 = .ok (.iload_n 1, 1) := by decide +kernel
theorem dX11_would_42 : decode cX11_would 42 = .ok (.iload_n 2, 1) := by decide +kernel
theorem dX11_would_43 : decode cX11_would 43 = .ok (.invokevirtual 52, 3) := by decide +kernel
theorem dX11_would_46 : decode cX11_would 46 = .ok (.istore 4, 2) := by decide +kernel
theorem dX11_would_48 : decode cX11_would 48 = .ok (.iload_n 3, 1) := by decide +kernel
theorem dX11_would_49 : decode cX11_would 49 = .ok (.ifCond .eq 43, 3) := by decide +kernel
theorem dX11_would_52 : decode cX11_would 52 = .ok (.iload 4, 2) := by decide +kernel
theorem dX11_would_54 : decode cX11_would 54 = .ok (.istore 5, 2) := by decide +kernel
theorem dX11_would_56 : decode cX11_would 56 = .ok (.iload 5, 2) := by decide +kernel
theorem dX11_would_58 : decode cX11_would 58 = .ok (.iconst 1, 1) := by decide +kernel
theorem dX11_would_59 : decode cX11_would 59 = .ok (.iadd, 1) := by decide +kernel
theorem dX11_would_60 : decode cX11_would 60 = .ok (.aload_n 0, 1) := by decide +kernel
theorem dX11_would_61 : decode cX11_would 61 = .ok (.getfield 62, 3) := by decide +kernel
theorem dX11_would_64 : decode cX11_would 64 = .ok (.if_icmp .ge 25, 3) := by decide +kernel
theorem dX11_would_67 : decode cX11_would 67 = .ok (.aload_n 0, 1) := by decide +kernel
theorem dX11_would_68 : decode cX11_would 68 = .ok (.getfield 27, 3) := by decide +kernel
theorem dX11_would_71 : decode cX11_would 71 = .ok (.iload 5, 2) := by decide +kernel
theorem dX11_would_73 : decode cX11_would 73 = .ok (.aload_n 0, 1) := by decide +kernel
theorem dX11_would_74 : decode cX11_would 74 = .ok (.getfield 27, 3) := by decide +kernel
theorem dX11_would_77 : decode cX11_would 77 = .ok (.iload 5, 2) := by decide +kernel
theorem dX11_would_79 : decode cX11_would 79 = .ok (.iconst 1, 1) := by decide +kernel
theorem dX11_would_80 : decode cX11_would 80 = .ok (.iadd, 1) := by decide +kernel
theorem dX11_would_81 : decode cX11_would 81 = .ok (.iaload, 1) := by decide +kernel
theorem dX11_would_82 : decode cX11_would 82 = .ok (.iastore, 1) := by decide +kernel
theorem dX11_would_83 : decode cX11_would 83 = .ok (.iinc 5 1, 3) := by decide +kernel
theorem dX11_would_86 : decode cX11_would 86 = .ok (.goto (-30), 3) := by decide +kernel
theorem dX11_would_89 : decode cX11_would 89 = .ok (.goto 38, 3) := by decide +kernel
theorem dX11_would_92 : decode cX11_would 92 = .ok (.aload_n 0, 1) := by decide +kernel
theorem dX11_would_93 : decode cX11_would 93 = .ok (.getfield 62, 3) := by decide +kernel
theorem dX11_would_96 : decode cX11_would 96 = .ok (.istore 5, 2) := by decide +kernel
theorem dX11_would_98 : decode cX11_would 98 = .ok (.iload 5, 2) := by decide +kernel
theorem dX11_would_100 : decode cX11_would 100 = .ok (.iload 4, 2) := by decide +kernel
theorem dX11_would_102 : decode cX11_would 102 = .ok (.if_icmp .le 25, 3) := by decide +kernel
theorem dX11_would_105 : decode cX11_would 105 = .ok (.aload_n 0, 1) := by decide +kernel
theorem dX11_would_106 : decode cX11_would 106 = .ok (.getfield 27, 3) := by decide +kernel
theorem dX11_would_109 : decode cX11_would 109 = .ok (.iload 5, 2) := by decide +kernel
theorem dX11_would_111 : decode cX11_would 111 = .ok (.aload_n 0, 1) := by decide +kernel
theorem dX11_would_112 : decode cX11_would 112 = .ok (.getfield 27, 3) := by decide +kernel
theorem dX11_would_115 : decode cX11_would 115 = .ok (.iload 5, 2) := by decide +kernel
theorem dX11_would_117 : decode cX11_would 117 = .ok (.iconst 1, 1) := by decide +kernel
theorem dX11_would_118 : decode cX11_would 118 = .ok (.isub, 1) := by decide +kernel
theorem dX11_would_119 : decode cX11_would 119 = .ok (.iaload, 1) := by decide +kernel
theorem dX11_would_120 : decode cX11_would 120 = .ok (.iastore, 1) := by decide +kernel
theorem dX11_would_121 : decode cX11_would 121 = .ok (.iinc 5 (-1), 3) := by decide +kernel
theorem dX11_would_124 : decode cX11_would 124 = .ok (.goto (-26), 3) := by decide +kernel
theorem dX11_would_127 : decode cX11_would 127 = .ok (.iload_n 3, 1) := by decide +kernel
theorem dX11_would_128 : decode cX11_would 128 = .ok (.ifCond .ne 11, 3) := by decide +kernel
theorem dX11_would_131 : decode cX11_would 131 = .ok (.aload_n 0, 1) := by decide +kernel
theorem dX11_would_132 : decode cX11_would 132 = .ok (.getfield 27, 3) := by decide +kernel
theorem dX11_would_135 : decode cX11_would 135 = .ok (.iload 4, 2) := by decide +kernel
theorem dX11_would_137 : decode cX11_would 137 = .ok (.iload_n 2, 1) := by decide +kernel
theorem dX11_would_138 : decode cX11_would 138 = .ok (.iastore, 1) := by decide +kernel
theorem dX11_would_139 : decode cX11_would 139 = .ok (.aload_n 0, 1) := by decide +kernel
theorem dX11_would_140 : decode cX11_would 140 = .ok (.dup, 1) := by decide +kernel
theorem dX11_would_141 : decode cX11_would 141 = .ok (.getfield 62, 3) := by decide +kernel
theorem dX11_would_144 : decode cX11_would 144 = .ok (.iload_n 3, 1) := by decide +kernel
theorem dX11_would_145 : decode cX11_would 145 = .ok (.ifCond .eq 7, 3) := by decide +kernel
theorem dX11_would_148 : decode cX11_would 148 = .ok (.iconst (-1), 1) := by decide +kernel
theorem dX11_would_149 : decode cX11_would 149 = .ok (.goto 4, 3) := by decide +kernel
theorem dX11_would_152 : decode cX11_would 152 = .ok (.iconst 1, 1) := by decide +kernel
theorem dX11_would_153 : decode cX11_would 153 = .ok (.iadd, 1) := by decide +kernel
theorem dX11_would_154 : decode cX11_would 154 = .ok (.putfield 62, 3) := by decide +kernel
theorem dX11_would_157 : decode cX11_would 157 = .ok (.aload_n 0, 1) := by decide +kernel
theorem dX11_would_158 : decode cX11_would 158 = .ok (.invokevirtual 200, 3) := by decide +kernel
theorem dX11_would_161 : decode cX11_would 161 = .ok (.ireturn, 1) := by decide +kernel
theorem dX11_halves_0 : decode cX11_halves 0 = .ok (.iload_n 1, 1) := by decide +kernel
theorem dX11_halves_1 : decode cX11_halves 1 = .ok (.invokestatic 112, 3) := by decide +kernel
theorem dX11_halves_4 : decode cX11_halves 4 = .ok (.ifCond .eq 31, 3) := by decide +kernel
theorem dX11_halves_7 : decode cX11_halves 7 = .ok (.aload_n 0, 1) := by decide +kernel
theorem dX11_halves_8 : decode cX11_halves 8 = .ok (.iload_n 1, 1) := by decide +kernel
theorem dX11_halves_9 : decode cX11_halves 9 = .ok (.invokevirtual 44, 3) := by decide +kernel
theorem dX11_halves_12 : decode cX11_halves 12 = .ok (.iconst 1, 1) := by decide +kernel
theorem dX11_halves_13 : decode cX11_halves 13 = .ok (.if_icmp .le 22, 3) := by decide +kernel
theorem dX11_halves_16 : decode cX11_halves 16 = .ok (.aload_n 0, 1) := by decide +kernel
theorem dX11_halves_17 : decode cX11_halves 17 = .ok (.iload_n 1, 1) := by decide +kernel
theorem dX11_halves_18 : decode cX11_halves 18 = .ok (.aload_n 0, 1) := by decide +kernel
theorem dX11_halves_19 : decode cX11_halves 19 = .ok (.iload_n 1, 1) := by decide +kernel
theorem dX11_halves_20 : decode cX11_halves 20 = .ok (.invokevirtual 44, 3) := by decide +kernel
theorem dX11_halves_23 : decode cX11_halves 23 = .ok (.iconst 1, 1) := by decide +kernel
theorem dX11_halves_24 : decode cX11_halves 24 = .ok (.iadd, 1) := by decide +kernel
theorem dX11_halves_25 : decode cX11_halves 25 = .ok (.iconst 2, 1) := by decide +kernel
theorem dX11_halves_26 : decode cX11_halves 26 = .ok (.idiv, 1) := by decide +kernel
theorem dX11_halves_27 : decode cX11_halves 27 = .ok (.iconst 1, 1) := by decide +kernel
theorem dX11_halves_28 : decode cX11_halves 28 = .ok (.isub, 1) := by decide +kernel
theorem dX11_halves_29 : decode cX11_halves 29 = .ok (.invokevirtual 48, 3) := by decide +kernel
theorem dX11_halves_32 : decode cX11_halves 32 = .ok (.goto 4, 3) := by decide +kernel
theorem dX11_halves_35 : decode cX11_halves 35 = .ok (.iconst (-1), 1) := by decide +kernel
theorem dX11_halves_36 : decode cX11_halves 36 = .ok (.ireturn, 1) := by decide +kernel
theorem dX11_tells_0 : decode cX11_tells 0 = .ok (.aload_n 0, 1) := by decide +kernel
theorem dX11_tells_1 : decode cX11_tells 1 = .ok (.getfield 16, 3) := by decide +kernel
theorem dX11_tells_4 : decode cX11_tells 4 = .ok (.aload_n 0, 1) := by decide +kernel
theorem dX11_tells_5 : decode cX11_tells 5 = .ok (.getfield 224, 3) := by decide +kernel
theorem dX11_tells_8 : decode cX11_tells 8 = .ok (.iload_n 1, 1) := by decide +kernel
theorem dX11_tells_9 : decode cX11_tells 9 = .ok (.iastore, 1) := by decide +kernel
theorem dX11_tells_10 : decode cX11_tells 10 = .ok (.aload_n 0, 1) := by decide +kernel
theorem dX11_tells_11 : decode cX11_tells 11 = .ok (.dup, 1) := by decide +kernel
theorem dX11_tells_12 : decode cX11_tells 12 = .ok (.getfield 224, 3) := by decide +kernel
theorem dX11_tells_15 : decode cX11_tells 15 = .ok (.iconst 1, 1) := by decide +kernel
theorem dX11_tells_16 : decode cX11_tells 16 = .ok (.iadd, 1) := by decide +kernel
theorem dX11_tells_17 : decode cX11_tells 17 = .ok (.putfield 224, 3) := by decide +kernel
theorem dX11_tells_20 : decode cX11_tells 20 = .ok (.return_, 1) := by decide +kernel
theorem dX11_number_0 : decode cX11_number 0 = .ok (.iconst 1, 1) := by decide +kernel
theorem dX11_number_1 : decode cX11_number 1 = .ok (.istore_n 2, 1) := by decide +kernel
theorem dX11_number_2 : decode cX11_number 2 = .ok (.iload_n 1, 1) := by decide +kernel
theorem dX11_number_3 : decode cX11_number 3 = .ok (.iload_n 2, 1) := by decide +kernel
theorem dX11_number_4 : decode cX11_number 4 = .ok (.idiv, 1) := by decide +kernel
theorem dX11_number_5 : decode cX11_number 5 = .ok (.bipush 9, 2) := by decide +kernel
theorem dX11_number_7 : decode cX11_number 7 = .ok (.if_icmp .le 11, 3) := by decide +kernel
theorem dX11_number_10 : decode cX11_number 10 = .ok (.iload_n 2, 1) := by decide +kernel
theorem dX11_number_11 : decode cX11_number 11 = .ok (.bipush 10, 2) := by decide +kernel
theorem dX11_number_13 : decode cX11_number 13 = .ok (.imul, 1) := by decide +kernel
theorem dX11_number_14 : decode cX11_number 14 = .ok (.istore_n 2, 1) := by decide +kernel
theorem dX11_number_15 : decode cX11_number 15 = .ok (.goto (-13), 3) := by decide +kernel
theorem dX11_number_18 : decode cX11_number 18 = .ok (.iload_n 2, 1) := by decide +kernel
theorem dX11_number_19 : decode cX11_number 19 = .ok (.ifCond .le 24, 3) := by decide +kernel
theorem dX11_number_22 : decode cX11_number 22 = .ok (.aload_n 0, 1) := by decide +kernel
theorem dX11_number_23 : decode cX11_number 23 = .ok (.bipush 48, 2) := by decide +kernel
theorem dX11_number_25 : decode cX11_number 25 = .ok (.iload_n 1, 1) := by decide +kernel
theorem dX11_number_26 : decode cX11_number 26 = .ok (.iload_n 2, 1) := by decide +kernel
theorem dX11_number_27 : decode cX11_number 27 = .ok (.idiv, 1) := by decide +kernel
theorem dX11_number_28 : decode cX11_number 28 = .ok (.bipush 10, 2) := by decide +kernel
theorem dX11_number_30 : decode cX11_number 30 = .ok (.irem, 1) := by decide +kernel
theorem dX11_number_31 : decode cX11_number 31 = .ok (.iadd, 1) := by decide +kernel
theorem dX11_number_32 : decode cX11_number 32 = .ok (.invokevirtual 227, 3) := by decide +kernel
theorem dX11_number_35 : decode cX11_number 35 = .ok (.iload_n 2, 1) := by decide +kernel
theorem dX11_number_36 : decode cX11_number 36 = .ok (.bipush 10, 2) := by decide +kernel
theorem dX11_number_38 : decode cX11_number 38 = .ok (.idiv, 1) := by decide +kernel
theorem dX11_number_39 : decode cX11_number 39 = .ok (.istore_n 2, 1) := by decide +kernel
theorem dX11_number_40 : decode cX11_number 40 = .ok (.goto (-22), 3) := by decide +kernel
theorem dX11_number_43 : decode cX11_number 43 = .ok (.return_, 1) := by decide +kernel
theorem dX11_tell_0 : decode cX11_tell 0 = .ok (.iload_n 1, 1) := by decide +kernel
theorem dX11_tell_1 : decode cX11_tell 1 = .ok (.invokestatic 112, 3) := by decide +kernel
theorem dX11_tell_4 : decode cX11_tell 4 = .ok (.ifCond .ne 5, 3) := by decide +kernel
theorem dX11_tell_7 : decode cX11_tell 7 = .ok (.iconst (-1), 1) := by decide +kernel
theorem dX11_tell_8 : decode cX11_tell 8 = .ok (.ireturn, 1) := by decide +kernel
theorem dX11_tell_9 : decode cX11_tell 9 = .ok (.aload_n 0, 1) := by decide +kernel
theorem dX11_tell_10 : decode cX11_tell 10 = .ok (.iconst 0, 1) := by decide +kernel
theorem dX11_tell_11 : decode cX11_tell 11 = .ok (.putfield 224, 3) := by decide +kernel
theorem dX11_tell_14 : decode cX11_tell 14 = .ok (.iconst 0, 1) := by decide +kernel
theorem dX11_tell_15 : decode cX11_tell 15 = .ok (.istore_n 2, 1) := by decide +kernel
theorem dX11_tell_16 : decode cX11_tell 16 = .ok (.iload_n 2, 1) := by decide +kernel
theorem dX11_tell_17 : decode cX11_tell 17 = .ok (.aload_n 0, 1) := by decide +kernel
theorem dX11_tell_18 : decode cX11_tell 18 = .ok (.iload_n 1, 1) := by decide +kernel
theorem dX11_tell_19 : decode cX11_tell 19 = .ok (.invokevirtual 44, 3) := by decide +kernel
theorem dX11_tell_22 : decode cX11_tell 22 = .ok (.if_icmp .ge 132, 3) := by decide +kernel
theorem dX11_tell_25 : decode cX11_tell 25 = .ok (.iload_n 2, 1) := by decide +kernel
theorem dX11_tell_26 : decode cX11_tell 26 = .ok (.istore_n 3, 1) := by decide +kernel
theorem dX11_tell_27 : decode cX11_tell 27 = .ok (.iload_n 3, 1) := by decide +kernel
theorem dX11_tell_28 : decode cX11_tell 28 = .ok (.iconst 1, 1) := by decide +kernel
theorem dX11_tell_29 : decode cX11_tell 29 = .ok (.iadd, 1) := by decide +kernel
theorem dX11_tell_30 : decode cX11_tell 30 = .ok (.aload_n 0, 1) := by decide +kernel
theorem dX11_tell_31 : decode cX11_tell 31 = .ok (.iload_n 1, 1) := by decide +kernel
theorem dX11_tell_32 : decode cX11_tell 32 = .ok (.invokevirtual 44, 3) := by decide +kernel
theorem dX11_tell_35 : decode cX11_tell 35 = .ok (.if_icmp .ge 45, 3) := by decide +kernel
theorem dX11_tell_38 : decode cX11_tell 38 = .ok (.aload_n 0, 1) := by decide +kernel
theorem dX11_tell_39 : decode cX11_tell 39 = .ok (.iload_n 1, 1) := by decide +kernel
theorem dX11_tell_40 : decode cX11_tell 40 = .ok (.iload_n 3, 1) := by decide +kernel
theorem dX11_tell_41 : decode cX11_tell 41 = .ok (.iconst 1, 1) := by decide +kernel
theorem dX11_tell_42 : decode cX11_tell 42 = .ok (.iadd, 1) := by decide +kernel
theorem dX11_tell_43 : decode cX11_tell 43 = .ok (.invokevirtual 48, 3) := by decide +kernel
theorem dX11_tell_46 : decode cX11_tell 46 = .ok (.aload_n 0, 1) := by decide +kernel
theorem dX11_tell_47 : decode cX11_tell 47 = .ok (.iload_n 1, 1) := by decide +kernel
theorem dX11_tell_48 : decode cX11_tell 48 = .ok (.iload_n 3, 1) := by decide +kernel
theorem dX11_tell_49 : decode cX11_tell 49 = .ok (.invokevirtual 48, 3) := by decide +kernel
theorem dX11_tell_52 : decode cX11_tell 52 = .ok (.iconst 1, 1) := by decide +kernel
theorem dX11_tell_53 : decode cX11_tell 53 = .ok (.iadd, 1) := by decide +kernel
theorem dX11_tell_54 : decode cX11_tell 54 = .ok (.if_icmp .ne 26, 3) := by decide +kernel
theorem dX11_tell_57 : decode cX11_tell 57 = .ok (.aload_n 0, 1) := by decide +kernel
theorem dX11_tell_58 : decode cX11_tell 58 = .ok (.iload_n 1, 1) := by decide +kernel
theorem dX11_tell_59 : decode cX11_tell 59 = .ok (.iload_n 3, 1) := by decide +kernel
theorem dX11_tell_60 : decode cX11_tell 60 = .ok (.iconst 1, 1) := by decide +kernel
theorem dX11_tell_61 : decode cX11_tell 61 = .ok (.iadd, 1) := by decide +kernel
theorem dX11_tell_62 : decode cX11_tell 62 = .ok (.invokevirtual 134, 3) := by decide +kernel
theorem dX11_tell_65 : decode cX11_tell 65 = .ok (.aload_n 0, 1) := by decide +kernel
theorem dX11_tell_66 : decode cX11_tell 66 = .ok (.iload_n 1, 1) := by decide +kernel
theorem dX11_tell_67 : decode cX11_tell 67 = .ok (.iload_n 2, 1) := by decide +kernel
theorem dX11_tell_68 : decode cX11_tell 68 = .ok (.invokevirtual 134, 3) := by decide +kernel
theorem dX11_tell_71 : decode cX11_tell 71 = .ok (.if_icmp .ne 9, 3) := by decide +kernel
theorem dX11_tell_74 : decode cX11_tell 74 = .ok (.iinc 3 1, 3) := by decide +kernel
theorem dX11_tell_77 : decode cX11_tell 77 = .ok (.goto (-50), 3) := by decide +kernel
theorem dX11_tell_80 : decode cX11_tell 80 = .ok (.iload_n 3, 1) := by decide +kernel
theorem dX11_tell_81 : decode cX11_tell 81 = .ok (.iload_n 2, 1) := by decide +kernel
theorem dX11_tell_82 : decode cX11_tell 82 = .ok (.isub, 1) := by decide +kernel
theorem dX11_tell_83 : decode cX11_tell 83 = .ok (.iconst 2, 1) := by decide +kernel
theorem dX11_tell_84 : decode cX11_tell 84 = .ok (.if_icmp .ge 5, 3) := by decide +kernel
theorem dX11_tell_87 : decode cX11_tell 87 = .ok (.iload_n 2, 1) := by decide +kernel
theorem dX11_tell_88 : decode cX11_tell 88 = .ok (.istore_n 3, 1) := by decide +kernel
theorem dX11_tell_89 : decode cX11_tell 89 = .ok (.iload_n 2, 1) := by decide +kernel
theorem dX11_tell_90 : decode cX11_tell 90 = .ok (.ifCond .le 9, 3) := by decide +kernel
theorem dX11_tell_93 : decode cX11_tell 93 = .ok (.aload_n 0, 1) := by decide +kernel
theorem dX11_tell_94 : decode cX11_tell 94 = .ok (.bipush 32, 2) := by decide +kernel
theorem dX11_tell_96 : decode cX11_tell 96 = .ok (.invokevirtual 227, 3) := by decide +kernel
theorem dX11_tell_99 : decode cX11_tell 99 = .ok (.aload_n 0, 1) := by decide +kernel
theorem dX11_tell_100 : decode cX11_tell 100 = .ok (.aload_n 0, 1) := by decide +kernel
theorem dX11_tell_101 : decode cX11_tell 101 = .ok (.iload_n 1, 1) := by decide +kernel
theorem dX11_tell_102 : decode cX11_tell 102 = .ok (.iload_n 2, 1) := by decide +kernel
theorem dX11_tell_103 : decode cX11_tell 103 = .ok (.invokevirtual 48, 3) := by decide +kernel
theorem dX11_tell_106 : decode cX11_tell 106 = .ok (.invokevirtual 230, 3) := by decide +kernel
theorem dX11_tell_109 : decode cX11_tell 109 = .ok (.iload_n 3, 1) := by decide +kernel
theorem dX11_tell_110 : decode cX11_tell 110 = .ok (.iload_n 2, 1) := by decide +kernel
theorem dX11_tell_111 : decode cX11_tell 111 = .ok (.if_icmp .le 19, 3) := by decide +kernel
theorem dX11_tell_114 : decode cX11_tell 114 = .ok (.aload_n 0, 1) := by decide +kernel
theorem dX11_tell_115 : decode cX11_tell 115 = .ok (.bipush 45, 2) := by decide +kernel
theorem dX11_tell_117 : decode cX11_tell 117 = .ok (.invokevirtual 227, 3) := by decide +kernel
theorem dX11_tell_120 : decode cX11_tell 120 = .ok (.aload_n 0, 1) := by decide +kernel
theorem dX11_tell_121 : decode cX11_tell 121 = .ok (.aload_n 0, 1) := by decide +kernel
theorem dX11_tell_122 : decode cX11_tell 122 = .ok (.iload_n 1, 1) := by decide +kernel
theorem dX11_tell_123 : decode cX11_tell 123 = .ok (.iload_n 3, 1) := by decide +kernel
theorem dX11_tell_124 : decode cX11_tell 124 = .ok (.invokevirtual 48, 3) := by decide +kernel
theorem dX11_tell_127 : decode cX11_tell 127 = .ok (.invokevirtual 230, 3) := by decide +kernel
theorem dX11_tell_130 : decode cX11_tell 130 = .ok (.aload_n 0, 1) := by decide +kernel
theorem dX11_tell_131 : decode cX11_tell 131 = .ok (.iload_n 1, 1) := by decide +kernel
theorem dX11_tell_132 : decode cX11_tell 132 = .ok (.iload_n 2, 1) := by decide +kernel
theorem dX11_tell_133 : decode cX11_tell 133 = .ok (.invokevirtual 134, 3) := by decide +kernel
theorem dX11_tell_136 : decode cX11_tell 136 = .ok (.iconst 1, 1) := by decide +kernel
theorem dX11_tell_137 : decode cX11_tell 137 = .ok (.if_icmp .ne 9, 3) := by decide +kernel
theorem dX11_tell_140 : decode cX11_tell 140 = .ok (.aload_n 0, 1) := by decide +kernel
theorem dX11_tell_141 : decode cX11_tell 141 = .ok (.bipush 42, 2) := by decide +kernel
theorem dX11_tell_143 : decode cX11_tell 143 = .ok (.invokevirtual 227, 3) := by decide +kernel
theorem dX11_tell_146 : decode cX11_tell 146 = .ok (.iload_n 3, 1) := by decide +kernel
theorem dX11_tell_147 : decode cX11_tell 147 = .ok (.istore_n 2, 1) := by decide +kernel
theorem dX11_tell_148 : decode cX11_tell 148 = .ok (.iinc 2 1, 3) := by decide +kernel
theorem dX11_tell_151 : decode cX11_tell 151 = .ok (.goto (-135), 3) := by decide +kernel
theorem dX11_tell_154 : decode cX11_tell 154 = .ok (.aload_n 0, 1) := by decide +kernel
theorem dX11_tell_155 : decode cX11_tell 155 = .ok (.getfield 224, 3) := by decide +kernel
theorem dX11_tell_158 : decode cX11_tell 158 = .ok (.ireturn, 1) := by decide +kernel
theorem dX11_octet_0 : decode cX11_octet 0 = .ok (.iload_n 1, 1) := by decide +kernel
theorem dX11_octet_1 : decode cX11_octet 1 = .ok (.iconst 0, 1) := by decide +kernel
theorem dX11_octet_2 : decode cX11_octet 2 = .ok (.aload_n 0, 1) := by decide +kernel
theorem dX11_octet_3 : decode cX11_octet 3 = .ok (.getfield 224, 3) := by decide +kernel
theorem dX11_octet_6 : decode cX11_octet 6 = .ok (.iconst 1, 1) := by decide +kernel
theorem dX11_octet_7 : decode cX11_octet 7 = .ok (.isub, 1) := by decide +kernel
theorem dX11_octet_8 : decode cX11_octet 8 = .ok (.invokestatic 37, 3) := by decide +kernel
theorem dX11_octet_11 : decode cX11_octet 11 = .ok (.ifCond .eq 12, 3) := by decide +kernel
theorem dX11_octet_14 : decode cX11_octet 14 = .ok (.aload_n 0, 1) := by decide +kernel
theorem dX11_octet_15 : decode cX11_octet 15 = .ok (.getfield 16, 3) := by decide +kernel
theorem dX11_octet_18 : decode cX11_octet 18 = .ok (.iload_n 1, 1) := by decide +kernel
theorem dX11_octet_19 : decode cX11_octet 19 = .ok (.iaload, 1) := by decide +kernel
theorem dX11_octet_20 : decode cX11_octet 20 = .ok (.goto 4, 3) := by decide +kernel
theorem dX11_octet_23 : decode cX11_octet 23 = .ok (.iconst (-1), 1) := by decide +kernel
theorem dX11_octet_24 : decode cX11_octet 24 = .ok (.ireturn, 1) := by decide +kernel
theorem dX11_feed_0 : decode cX11_feed 0 = .ok (.aload_n 0, 1) := by decide +kernel
theorem dX11_feed_1 : decode cX11_feed 1 = .ok (.getfield 218, 3) := by decide +kernel
theorem dX11_feed_4 : decode cX11_feed 4 = .ok (.bipush 20, 2) := by decide +kernel
theorem dX11_feed_6 : decode cX11_feed 6 = .ok (.iadd, 1) := by decide +kernel
theorem dX11_feed_7 : decode cX11_feed 7 = .ok (.sipush 800, 3) := by decide +kernel
theorem dX11_feed_10 : decode cX11_feed 10 = .ok (.if_icmp .le 5, 3) := by decide +kernel
theorem dX11_feed_13 : decode cX11_feed 13 = .ok (.iconst (-1), 1) := by decide +kernel
theorem dX11_feed_14 : decode cX11_feed 14 = .ok (.ireturn, 1) := by decide +kernel
theorem dX11_feed_15 : decode cX11_feed 15 = .ok (.iconst 0, 1) := by decide +kernel
theorem dX11_feed_16 : decode cX11_feed 16 = .ok (.istore 6, 2) := by decide +kernel
theorem dX11_feed_18 : decode cX11_feed 18 = .ok (.iload 6, 2) := by decide +kernel
theorem dX11_feed_20 : decode cX11_feed 20 = .ok (.bipush 20, 2) := by decide +kernel
theorem dX11_feed_22 : decode cX11_feed 22 = .ok (.if_icmp .ge 86, 3) := by decide +kernel
theorem dX11_feed_25 : decode cX11_feed 25 = .ok (.iload 6, 2) := by decide +kernel
theorem dX11_feed_27 : decode cX11_feed 27 = .ok (.iconst 4, 1) := by decide +kernel
theorem dX11_feed_28 : decode cX11_feed 28 = .ok (.if_icmp .ge 7, 3) := by decide +kernel
theorem dX11_feed_31 : decode cX11_feed 31 = .ok (.iload_n 1, 1) := by decide +kernel
theorem dX11_feed_32 : decode cX11_feed 32 = .ok (.goto 39, 3) := by decide +kernel
theorem dX11_feed_35 : decode cX11_feed 35 = .ok (.iload 6, 2) := by decide +kernel
theorem dX11_feed_37 : decode cX11_feed 37 = .ok (.bipush 8, 2) := by decide +kernel
theorem dX11_feed_39 : decode cX11_feed 39 = .ok (.if_icmp .ge 7, 3) := by decide +kernel
theorem dX11_feed_42 : decode cX11_feed 42 = .ok (.iload_n 2, 1) := by decide +kernel
theorem dX11_feed_43 : decode cX11_feed 43 = .ok (.goto 28, 3) := by decide +kernel
theorem dX11_feed_46 : decode cX11_feed 46 = .ok (.iload 6, 2) := by decide +kernel
theorem dX11_feed_48 : decode cX11_feed 48 = .ok (.bipush 12, 2) := by decide +kernel
theorem dX11_feed_50 : decode cX11_feed 50 = .ok (.if_icmp .ge 7, 3) := by decide +kernel
theorem dX11_feed_53 : decode cX11_feed 53 = .ok (.iload_n 3, 1) := by decide +kernel
theorem dX11_feed_54 : decode cX11_feed 54 = .ok (.goto 17, 3) := by decide +kernel
theorem dX11_feed_57 : decode cX11_feed 57 = .ok (.iload 6, 2) := by decide +kernel
theorem dX11_feed_59 : decode cX11_feed 59 = .ok (.bipush 16, 2) := by decide +kernel
theorem dX11_feed_61 : decode cX11_feed 61 = .ok (.if_icmp .ge 8, 3) := by decide +kernel
theorem dX11_feed_64 : decode cX11_feed 64 = .ok (.iload 4, 2) := by decide +kernel
theorem dX11_feed_66 : decode cX11_feed 66 = .ok (.goto 5, 3) := by decide +kernel
theorem dX11_feed_69 : decode cX11_feed 69 = .ok (.iload 5, 2) := by decide +kernel
theorem dX11_feed_71 : decode cX11_feed 71 = .ok (.istore 7, 2) := by decide +kernel
theorem dX11_feed_73 : decode cX11_feed 73 = .ok (.aload_n 0, 1) := by decide +kernel
theorem dX11_feed_74 : decode cX11_feed 74 = .ok (.getfield 13, 3) := by decide +kernel
theorem dX11_feed_77 : decode cX11_feed 77 = .ok (.aload_n 0, 1) := by decide +kernel
theorem dX11_feed_78 : decode cX11_feed 78 = .ok (.getfield 218, 3) := by decide +kernel
theorem dX11_feed_81 : decode cX11_feed 81 = .ok (.iload 6, 2) := by decide +kernel
theorem dX11_feed_83 : decode cX11_feed 83 = .ok (.iadd, 1) := by decide +kernel
theorem dX11_feed_84 : decode cX11_feed 84 = .ok (.iload 7, 2) := by decide +kernel
theorem dX11_feed_86 : decode cX11_feed 86 = .ok (.bipush 24, 2) := by decide +kernel
theorem dX11_feed_88 : decode cX11_feed 88 = .ok (.bipush 8, 2) := by decide +kernel
theorem dX11_feed_90 : decode cX11_feed 90 = .ok (.iload 6, 2) := by decide +kernel
theorem dX11_feed_92 : decode cX11_feed 92 = .ok (.iconst 3, 1) := by decide +kernel
theorem dX11_feed_93 : decode cX11_feed 93 = .ok (.iand, 1) := by decide +kernel
theorem dX11_feed_94 : decode cX11_feed 94 = .ok (.imul, 1) := by decide +kernel
theorem dX11_feed_95 : decode cX11_feed 95 = .ok (.isub, 1) := by decide +kernel
theorem dX11_feed_96 : decode cX11_feed 96 = .ok (.ishr, 1) := by decide +kernel
theorem dX11_feed_97 : decode cX11_feed 97 = .ok (.sipush 255, 3) := by decide +kernel
theorem dX11_feed_100 : decode cX11_feed 100 = .ok (.iand, 1) := by decide +kernel
theorem dX11_feed_101 : decode cX11_feed 101 = .ok (.iastore, 1) := by decide +kernel
theorem dX11_feed_102 : decode cX11_feed 102 = .ok (.iinc 6 1, 3) := by decide +kernel
theorem dX11_feed_105 : decode cX11_feed 105 = .ok (.goto (-87), 3) := by decide +kernel
theorem dX11_feed_108 : decode cX11_feed 108 = .ok (.aload_n 0, 1) := by decide +kernel
theorem dX11_feed_109 : decode cX11_feed 109 = .ok (.dup, 1) := by decide +kernel
theorem dX11_feed_110 : decode cX11_feed 110 = .ok (.getfield 218, 3) := by decide +kernel
theorem dX11_feed_113 : decode cX11_feed 113 = .ok (.bipush 20, 2) := by decide +kernel
theorem dX11_feed_115 : decode cX11_feed 115 = .ok (.iadd, 1) := by decide +kernel
theorem dX11_feed_116 : decode cX11_feed 116 = .ok (.putfield 218, 3) := by decide +kernel
theorem dX11_feed_119 : decode cX11_feed 119 = .ok (.aload_n 0, 1) := by decide +kernel
theorem dX11_feed_120 : decode cX11_feed 120 = .ok (.getfield 218, 3) := by decide +kernel
theorem dX11_feed_123 : decode cX11_feed 123 = .ok (.ireturn, 1) := by decide +kernel
theorem dX11_end_0 : decode cX11_end 0 = .ok (.iload_n 1, 1) := by decide +kernel
theorem dX11_end_1 : decode cX11_end 1 = .ok (.iconst 0, 1) := by decide +kernel
theorem dX11_end_2 : decode cX11_end 2 = .ok (.aload_n 0, 1) := by decide +kernel
theorem dX11_end_3 : decode cX11_end 3 = .ok (.getfield 218, 3) := by decide +kernel
theorem dX11_end_6 : decode cX11_end 6 = .ok (.invokestatic 37, 3) := by decide +kernel
theorem dX11_end_9 : decode cX11_end 9 = .ok (.ifCond .ne 5, 3) := by decide +kernel
theorem dX11_end_12 : decode cX11_end 12 = .ok (.iconst (-1), 1) := by decide +kernel
theorem dX11_end_13 : decode cX11_end 13 = .ok (.ireturn, 1) := by decide +kernel
theorem dX11_end_14 : decode cX11_end 14 = .ok (.aload_n 0, 1) := by decide +kernel
theorem dX11_end_15 : decode cX11_end 15 = .ok (.iload_n 1, 1) := by decide +kernel
theorem dX11_end_16 : decode cX11_end 16 = .ok (.putfield 218, 3) := by decide +kernel
theorem dX11_end_19 : decode cX11_end 19 = .ok (.iload_n 1, 1) := by decide +kernel
theorem dX11_end_20 : decode cX11_end 20 = .ok (.ireturn, 1) := by decide +kernel
theorem dX11_fault_0 : decode cX11_fault 0 = .ok (.iload_n 1, 1) := by decide +kernel
theorem dX11_fault_1 : decode cX11_fault 1 = .ok (.ifCond .ne 10, 3) := by decide +kernel
theorem dX11_fault_4 : decode cX11_fault 4 = .ok (.aload_n 0, 1) := by decide +kernel
theorem dX11_fault_5 : decode cX11_fault 5 = .ok (.getfield 233, 3) := by decide +kernel
theorem dX11_fault_8 : decode cX11_fault 8 = .ok (.goto 16, 3) := by decide +kernel
theorem dX11_fault_11 : decode cX11_fault 11 = .ok (.iload_n 1, 1) := by decide +kernel
theorem dX11_fault_12 : decode cX11_fault 12 = .ok (.iconst 1, 1) := by decide +kernel
theorem dX11_fault_13 : decode cX11_fault 13 = .ok (.if_icmp .ne 10, 3) := by decide +kernel
theorem dX11_fault_16 : decode cX11_fault 16 = .ok (.aload_n 0, 1) := by decide +kernel
theorem dX11_fault_17 : decode cX11_fault 17 = .ok (.getfield 23, 3) := by decide +kernel
theorem dX11_fault_20 : decode cX11_fault 20 = .ok (.goto 4, 3) := by decide +kernel
theorem dX11_fault_23 : decode cX11_fault 23 = .ok (.iconst (-1), 1) := by decide +kernel
theorem dX11_fault_24 : decode cX11_fault 24 = .ok (.ireturn, 1) := by decide +kernel
theorem dX11_byteAt_0 : decode cX11_byteAt 0 = .ok (.iload_n 1, 1) := by decide +kernel
theorem dX11_byteAt_1 : decode cX11_byteAt 1 = .ok (.aload_n 0, 1) := by decide +kernel
theorem dX11_byteAt_2 : decode cX11_byteAt 2 = .ok (.getfield 236, 3) := by decide +kernel
theorem dX11_byteAt_5 : decode cX11_byteAt 5 = .ok (.if_icmp .ge 12, 3) := by decide +kernel
theorem dX11_byteAt_8 : decode cX11_byteAt 8 = .ok (.aload_n 0, 1) := by decide +kernel
theorem dX11_byteAt_9 : decode cX11_byteAt 9 = .ok (.getfield 13, 3) := by decide +kernel
theorem dX11_byteAt_12 : decode cX11_byteAt 12 = .ok (.iload_n 1, 1) := by decide +kernel
theorem dX11_byteAt_13 : decode cX11_byteAt 13 = .ok (.iaload, 1) := by decide +kernel
theorem dX11_byteAt_14 : decode cX11_byteAt 14 = .ok (.goto 4, 3) := by decide +kernel
theorem dX11_byteAt_17 : decode cX11_byteAt 17 = .ok (.iconst (-1), 1) := by decide +kernel
theorem dX11_byteAt_18 : decode cX11_byteAt 18 = .ok (.ireturn, 1) := by decide +kernel
theorem dX11_isLetter_0 : decode cX11_isLetter 0 = .ok (.iload_n 0, 1) := by decide +kernel
theorem dX11_isLetter_1 : decode cX11_isLetter 1 = .ok (.bipush 97, 2) := by decide +kernel
theorem dX11_isLetter_3 : decode cX11_isLetter 3 = .ok (.if_icmp .lt 13, 3) := by decide +kernel
theorem dX11_isLetter_6 : decode cX11_isLetter 6 = .ok (.iload_n 0, 1) := by decide +kernel
theorem dX11_isLetter_7 : decode cX11_isLetter 7 = .ok (.bipush 122, 2) := by decide +kernel
theorem dX11_isLetter_9 : decode cX11_isLetter 9 = .ok (.if_icmp .gt 7, 3) := by decide +kernel
theorem dX11_isLetter_12 : decode cX11_isLetter 12 = .ok (.iconst 1, 1) := by decide +kernel
theorem dX11_isLetter_13 : decode cX11_isLetter 13 = .ok (.goto 4, 3) := by decide +kernel
theorem dX11_isLetter_16 : decode cX11_isLetter 16 = .ok (.iconst 0, 1) := by decide +kernel
theorem dX11_isLetter_17 : decode cX11_isLetter 17 = .ok (.ireturn, 1) := by decide +kernel
theorem dX11_isDigit_0 : decode cX11_isDigit 0 = .ok (.iload_n 0, 1) := by decide +kernel
theorem dX11_isDigit_1 : decode cX11_isDigit 1 = .ok (.bipush 48, 2) := by decide +kernel
theorem dX11_isDigit_3 : decode cX11_isDigit 3 = .ok (.if_icmp .lt 13, 3) := by decide +kernel
theorem dX11_isDigit_6 : decode cX11_isDigit 6 = .ok (.iload_n 0, 1) := by decide +kernel
theorem dX11_isDigit_7 : decode cX11_isDigit 7 = .ok (.bipush 57, 2) := by decide +kernel
theorem dX11_isDigit_9 : decode cX11_isDigit 9 = .ok (.if_icmp .gt 7, 3) := by decide +kernel
theorem dX11_isDigit_12 : decode cX11_isDigit 12 = .ok (.iconst 1, 1) := by decide +kernel
theorem dX11_isDigit_13 : decode cX11_isDigit 13 = .ok (.goto 4, 3) := by decide +kernel
theorem dX11_isDigit_16 : decode cX11_isDigit 16 = .ok (.iconst 0, 1) := by decide +kernel
theorem dX11_isDigit_17 : decode cX11_isDigit 17 = .ok (.ireturn, 1) := by decide +kernel
theorem dX11_takes_0 : decode cX11_takes 0 = .ok (.aload_n 0, 1) := by decide +kernel
theorem dX11_takes_1 : decode cX11_takes 1 = .ok (.aload_n 0, 1) := by decide +kernel
theorem dX11_takes_2 : decode cX11_takes 2 = .ok (.getfield 239, 3) := by decide +kernel
theorem dX11_takes_5 : decode cX11_takes 5 = .ok (.invokevirtual 242, 3) := by decide +kernel
theorem dX11_takes_8 : decode cX11_takes 8 = .ok (.bipush 32, 2) := by decide +kernel
theorem dX11_takes_10 : decode cX11_takes 10 = .ok (.if_icmp .eq 16, 3) := by decide +kernel
theorem dX11_takes_13 : decode cX11_takes 13 = .ok (.aload_n 0, 1) := by decide +kernel
theorem dX11_takes_14 : decode cX11_takes 14 = .ok (.aload_n 0, 1) := by decide +kernel
theorem dX11_takes_15 : decode cX11_takes 15 = .ok (.getfield 239, 3) := by decide +kernel
theorem dX11_takes_18 : decode cX11_takes 18 = .ok (.invokevirtual 242, 3) := by decide +kernel
theorem dX11_takes_21 : decode cX11_takes 21 = .ok (.bipush 10, 2) := by decide +kernel
theorem dX11_takes_23 : decode cX11_takes 23 = .ok (.if_icmp .ne 16, 3) := by decide +kernel
theorem dX11_takes_26 : decode cX11_takes 26 = .ok (.aload_n 0, 1) := by decide +kernel
theorem dX11_takes_27 : decode cX11_takes 27 = .ok (.dup, 1) := by decide +kernel
theorem dX11_takes_28 : decode cX11_takes 28 = .ok (.getfield 239, 3) := by decide +kernel
theorem dX11_takes_31 : decode cX11_takes 31 = .ok (.iconst 1, 1) := by decide +kernel
theorem dX11_takes_32 : decode cX11_takes 32 = .ok (.iadd, 1) := by decide +kernel
theorem dX11_takes_33 : decode cX11_takes 33 = .ok (.putfield 239, 3) := by decide +kernel
theorem dX11_takes_36 : decode cX11_takes 36 = .ok (.goto (-36), 3) := by decide +kernel
theorem dX11_takes_39 : decode cX11_takes 39 = .ok (.aload_n 0, 1) := by decide +kernel
theorem dX11_takes_40 : decode cX11_takes 40 = .ok (.aload_n 0, 1) := by decide +kernel
theorem dX11_takes_41 : decode cX11_takes 41 = .ok (.getfield 239, 3) := by decide +kernel
theorem dX11_takes_44 : decode cX11_takes 44 = .ok (.putfield 245, 3) := by decide +kernel
theorem dX11_takes_47 : decode cX11_takes 47 = .ok (.aload_n 0, 1) := by decide +kernel
theorem dX11_takes_48 : decode cX11_takes 48 = .ok (.aload_n 0, 1) := by decide +kernel
theorem dX11_takes_49 : decode cX11_takes 49 = .ok (.getfield 239, 3) := by decide +kernel
theorem dX11_takes_52 : decode cX11_takes 52 = .ok (.invokevirtual 242, 3) := by decide +kernel
theorem dX11_takes_55 : decode cX11_takes 55 = .ok (.istore_n 1, 1) := by decide +kernel
theorem dX11_takes_56 : decode cX11_takes 56 = .ok (.aload_n 0, 1) := by decide +kernel
theorem dX11_takes_57 : decode cX11_takes 57 = .ok (.lconst 0, 1) := by decide +kernel
theorem dX11_takes_58 : decode cX11_takes 58 = .ok (.putfield 248, 3) := by decide +kernel
theorem dX11_takes_61 : decode cX11_takes 61 = .ok (.iload_n 1, 1) := by decide +kernel
theorem dX11_takes_62 : decode cX11_takes 62 = .ok (.ifCond .ge 11, 3) := by decide +kernel
theorem dX11_takes_65 : decode cX11_takes 65 = .ok (.aload_n 0, 1) := by decide +kernel
theorem dX11_takes_66 : decode cX11_takes 66 = .ok (.iconst 0, 1) := by decide +kernel
theorem dX11_takes_67 : decode cX11_takes 67 = .ok (.putfield 252, 3) := by decide +kernel
theorem dX11_takes_70 : decode cX11_takes 70 = .ok (.goto 235, 3) := by decide +kernel
theorem dX11_takes_73 : decode cX11_takes 73 = .ok (.iload_n 1, 1) := by decide +kernel
theorem dX11_takes_74 : decode cX11_takes 74 = .ok (.invokestatic 255, 3) := by decide +kernel
theorem dX11_takes_77 : decode cX11_takes 77 = .ok (.ifCond .eq 86, 3) := by decide +kernel
theorem dX11_takes_80 : decode cX11_takes 80 = .ok (.aload_n 0, 1) := by decide +kernel
theorem dX11_takes_81 : decode cX11_takes 81 = .ok (.aload_n 0, 1) := by decide +kernel
theorem dX11_takes_82 : decode cX11_takes 82 = .ok (.getfield 239, 3) := by decide +kernel
theorem dX11_takes_85 : decode cX11_takes 85 = .ok (.invokevirtual 242, 3) := by decide +kernel
theorem dX11_takes_88 : decode cX11_takes 88 = .ok (.invokestatic 255, 3) := by decide +kernel
theorem dX11_takes_91 : decode cX11_takes 91 = .ok (.ifCond .eq 64, 3) := by decide +kernel
theorem dX11_takes_94 : decode cX11_takes 94 = .ok (.aload_n 0, 1) := by decide +kernel
theorem dX11_takes_95 : decode cX11_takes 95 = .ok (.aload_n 0, 1) := by decide +kernel
theorem dX11_takes_96 : decode cX11_takes 96 = .ok (.getfield 239, 3) := by decide +kernel
theorem dX11_takes_99 : decode cX11_takes 99 = .ok (.aload_n 0, 1) := by decide +kernel
theorem dX11_takes_100 : decode cX11_takes 100 = .ok (.getfield 245, 3) := by decide +kernel
theorem dX11_takes_103 : decode cX11_takes 103 = .ok (.isub, 1) := by decide +kernel
theorem dX11_takes_104 : decode cX11_takes 104 = .ok (.bipush 9, 2) := by decide +kernel
theorem dX11_takes_106 : decode cX11_takes 106 = .ok (.if_icmp .ge 30, 3) := by decide +kernel
theorem dX11_takes_109 : decode cX11_takes 109 = .ok (.ldc2_w 258, 3) := by decide +kernel
theorem dX11_takes_112 : decode cX11_takes 112 = .ok (.aload_n 0, 1) := by decide +kernel
theorem dX11_takes_113 : decode cX11_takes 113 = .ok (.getfield 248, 3) := by decide +kernel
theorem dX11_takes_116 : decode cX11_takes 116 = .ok (.lmul, 1) := by decide +kernel
theorem dX11_takes_117 : decode cX11_takes 117 = .ok (.aload_n 0, 1) := by decide +kernel
theorem dX11_takes_118 : decode cX11_takes 118 = .ok (.aload_n 0, 1) := by decide +kernel
theorem dX11_takes_119 : decode cX11_takes 119 = .ok (.getfield 239, 3) := by decide +kernel
theorem dX11_takes_122 : decode cX11_takes 122 = .ok (.invokevirtual 242, 3) := by decide +kernel
theorem dX11_takes_125 : decode cX11_takes 125 = .ok (.i2l, 1) := by decide +kernel
theorem dX11_takes_126 : decode cX11_takes 126 = .ok (.ladd, 1) := by decide +kernel
theorem dX11_takes_127 : decode cX11_takes 127 = .ok (.ldc2_w 260, 3) := by decide +kernel
theorem dX11_takes_130 : decode cX11_takes 130 = .ok (.lsub, 1) := by decide +kernel
theorem dX11_takes_131 : decode cX11_takes 131 = .ok (.lconst 1, 1) := by decide +kernel
theorem dX11_takes_132 : decode cX11_takes 132 = .ok (.ladd, 1) := by decide +kernel
theorem dX11_takes_133 : decode cX11_takes 133 = .ok (.goto 6, 3) := by decide +kernel
theorem dX11_takes_136 : decode cX11_takes 136 = .ok (.ldc2_w 262, 3) := by decide +kernel
theorem dX11_takes_139 : decode cX11_takes 139 = .ok (.putfield 248, 3) := by decide +kernel
theorem dX11_takes_142 : decode cX11_takes 142 = .ok (.aload_n 0, 1) := by decide +kernel
theorem dX11_takes_143 : decode cX11_takes 143 = .ok (.dup, 1) := by decide +kernel
theorem dX11_takes_144 : decode cX11_takes 144 = .ok (.getfield 239, 3) := by decide +kernel
theorem dX11_takes_147 : decode cX11_takes 147 = .ok (.iconst 1, 1) := by decide +kernel
theorem dX11_takes_148 : decode cX11_takes 148 = .ok (.iadd, 1) := by decide +kernel
theorem dX11_takes_149 : decode cX11_takes 149 = .ok (.putfield 239, 3) := by decide +kernel
theorem dX11_takes_152 : decode cX11_takes 152 = .ok (.goto (-72), 3) := by decide +kernel
theorem dX11_takes_155 : decode cX11_takes 155 = .ok (.aload_n 0, 1) := by decide +kernel
theorem dX11_takes_156 : decode cX11_takes 156 = .ok (.iconst 1, 1) := by decide +kernel
theorem dX11_takes_157 : decode cX11_takes 157 = .ok (.putfield 252, 3) := by decide +kernel
theorem dX11_takes_160 : decode cX11_takes 160 = .ok (.goto 145, 3) := by decide +kernel
theorem dX11_takes_163 : decode cX11_takes 163 = .ok (.iload_n 1, 1) := by decide +kernel
theorem dX11_takes_164 : decode cX11_takes 164 = .ok (.invokestatic 264, 3) := by decide +kernel
theorem dX11_takes_167 : decode cX11_takes 167 = .ok (.ifCond .eq 101, 3) := by decide +kernel
theorem dX11_takes_170 : decode cX11_takes 170 = .ok (.aload_n 0, 1) := by decide +kernel
theorem dX11_takes_171 : decode cX11_takes 171 = .ok (.aload_n 0, 1) := by decide +kernel
theorem dX11_takes_172 : decode cX11_takes 172 = .ok (.getfield 239, 3) := by decide +kernel
theorem dX11_takes_175 : decode cX11_takes 175 = .ok (.invokevirtual 242, 3) := by decide +kernel
theorem dX11_takes_178 : decode cX11_takes 178 = .ok (.invokestatic 264, 3) := by decide +kernel
theorem dX11_takes_181 : decode cX11_takes 181 = .ok (.ifCond .eq 62, 3) := by decide +kernel
theorem dX11_takes_184 : decode cX11_takes 184 = .ok (.aload_n 0, 1) := by decide +kernel
theorem dX11_takes_185 : decode cX11_takes 185 = .ok (.aload_n 0, 1) := by decide +kernel
theorem dX11_takes_186 : decode cX11_takes 186 = .ok (.getfield 239, 3) := by decide +kernel
theorem dX11_takes_189 : decode cX11_takes 189 = .ok (.aload_n 0, 1) := by decide +kernel
theorem dX11_takes_190 : decode cX11_takes 190 = .ok (.getfield 245, 3) := by decide +kernel
theorem dX11_takes_193 : decode cX11_takes 193 = .ok (.isub, 1) := by decide +kernel
theorem dX11_takes_194 : decode cX11_takes 194 = .ok (.iconst 4, 1) := by decide +kernel
theorem dX11_takes_195 : decode cX11_takes 195 = .ok (.if_icmp .ge 28, 3) := by decide +kernel
theorem dX11_takes_198 : decode cX11_takes 198 = .ok (.ldc2_w 267, 3) := by decide +kernel
theorem dX11_takes_201 : decode cX11_takes 201 = .ok (.aload_n 0, 1) := by decide +kernel
theorem dX11_takes_202 : decode cX11_takes 202 = .ok (.getfield 248, 3) := by decide +kernel
theorem dX11_takes_205 : decode cX11_takes 205 = .ok (.lmul, 1) := by decide +kernel
theorem dX11_takes_206 : decode cX11_takes 206 = .ok (.aload_n 0, 1) := by decide +kernel
theorem dX11_takes_207 : decode cX11_takes 207 = .ok (.aload_n 0, 1) := by decide +kernel
theorem dX11_takes_208 : decode cX11_takes 208 = .ok (.getfield 239, 3) := by decide +kernel
theorem dX11_takes_211 : decode cX11_takes 211 = .ok (.invokevirtual 242, 3) := by decide +kernel
theorem dX11_takes_214 : decode cX11_takes 214 = .ok (.i2l, 1) := by decide +kernel
theorem dX11_takes_215 : decode cX11_takes 215 = .ok (.ladd, 1) := by decide +kernel
theorem dX11_takes_216 : decode cX11_takes 216 = .ok (.ldc2_w 269, 3) := by decide +kernel
theorem dX11_takes_219 : decode cX11_takes 219 = .ok (.lsub, 1) := by decide +kernel
theorem dX11_takes_220 : decode cX11_takes 220 = .ok (.goto 7, 3) := by decide +kernel
theorem dX11_takes_223 : decode cX11_takes 223 = .ok (.aload_n 0, 1) := by decide +kernel
theorem dX11_takes_224 : decode cX11_takes 224 = .ok (.getfield 248, 3) := by decide +kernel
theorem dX11_takes_227 : decode cX11_takes 227 = .ok (.putfield 248, 3) := by decide +kernel
theorem dX11_takes_230 : decode cX11_takes 230 = .ok (.aload_n 0, 1) := by decide +kernel
theorem dX11_takes_231 : decode cX11_takes 231 = .ok (.dup, 1) := by decide +kernel
theorem dX11_takes_232 : decode cX11_takes 232 = .ok (.getfield 239, 3) := by decide +kernel
theorem dX11_takes_235 : decode cX11_takes 235 = .ok (.iconst 1, 1) := by decide +kernel
theorem dX11_takes_236 : decode cX11_takes 236 = .ok (.iadd, 1) := by decide +kernel
theorem dX11_takes_237 : decode cX11_takes 237 = .ok (.putfield 239, 3) := by decide +kernel
theorem dX11_takes_240 : decode cX11_takes 240 = .ok (.goto (-70), 3) := by decide +kernel
theorem dX11_takes_243 : decode cX11_takes 243 = .ok (.aload_n 0, 1) := by decide +kernel
theorem dX11_takes_244 : decode cX11_takes 244 = .ok (.aload_n 0, 1) := by decide +kernel
theorem dX11_takes_245 : decode cX11_takes 245 = .ok (.getfield 239, 3) := by decide +kernel
theorem dX11_takes_248 : decode cX11_takes 248 = .ok (.aload_n 0, 1) := by decide +kernel
theorem dX11_takes_249 : decode cX11_takes 249 = .ok (.getfield 245, 3) := by decide +kernel
theorem dX11_takes_252 : decode cX11_takes 252 = .ok (.isub, 1) := by decide +kernel
theorem dX11_takes_253 : decode cX11_takes 253 = .ok (.iconst 4, 1) := by decide +kernel
theorem dX11_takes_254 : decode cX11_takes 254 = .ok (.if_icmp .le 7, 3) := by decide +kernel
theorem dX11_takes_257 : decode cX11_takes 257 = .ok (.iconst 4, 1) := by decide +kernel
theorem dX11_takes_258 : decode cX11_takes 258 = .ok (.goto 4, 3) := by decide +kernel
theorem dX11_takes_261 : decode cX11_takes 261 = .ok (.iconst 2, 1) := by decide +kernel
theorem dX11_takes_262 : decode cX11_takes 262 = .ok (.putfield 252, 3) := by decide +kernel
theorem dX11_takes_265 : decode cX11_takes 265 = .ok (.goto 40, 3) := by decide +kernel
theorem dX11_takes_268 : decode cX11_takes 268 = .ok (.aload_n 0, 1) := by decide +kernel
theorem dX11_takes_269 : decode cX11_takes 269 = .ok (.dup, 1) := by decide +kernel
theorem dX11_takes_270 : decode cX11_takes 270 = .ok (.getfield 239, 3) := by decide +kernel
theorem dX11_takes_273 : decode cX11_takes 273 = .ok (.iconst 1, 1) := by decide +kernel
theorem dX11_takes_274 : decode cX11_takes 274 = .ok (.iadd, 1) := by decide +kernel
theorem dX11_takes_275 : decode cX11_takes 275 = .ok (.putfield 239, 3) := by decide +kernel
theorem dX11_takes_278 : decode cX11_takes 278 = .ok (.aload_n 0, 1) := by decide +kernel
theorem dX11_takes_279 : decode cX11_takes 279 = .ok (.iload_n 1, 1) := by decide +kernel
theorem dX11_takes_280 : decode cX11_takes 280 = .ok (.i2l, 1) := by decide +kernel
theorem dX11_takes_281 : decode cX11_takes 281 = .ok (.putfield 248, 3) := by decide +kernel
theorem dX11_takes_284 : decode cX11_takes 284 = .ok (.aload_n 0, 1) := by decide +kernel
theorem dX11_takes_285 : decode cX11_takes 285 = .ok (.iload_n 1, 1) := by decide +kernel
theorem dX11_takes_286 : decode cX11_takes 286 = .ok (.bipush 59, 2) := by decide +kernel
theorem dX11_takes_288 : decode cX11_takes 288 = .ok (.if_icmp .eq 9, 3) := by decide +kernel
theorem dX11_takes_291 : decode cX11_takes 291 = .ok (.iload_n 1, 1) := by decide +kernel
theorem dX11_takes_292 : decode cX11_takes 292 = .ok (.bipush 45, 2) := by decide +kernel
theorem dX11_takes_294 : decode cX11_takes 294 = .ok (.if_icmp .ne 7, 3) := by decide +kernel
theorem dX11_takes_297 : decode cX11_takes 297 = .ok (.iconst 3, 1) := by decide +kernel
theorem dX11_takes_298 : decode cX11_takes 298 = .ok (.goto 4, 3) := by decide +kernel
theorem dX11_takes_301 : decode cX11_takes 301 = .ok (.iconst 4, 1) := by decide +kernel
theorem dX11_takes_302 : decode cX11_takes 302 = .ok (.putfield 252, 3) := by decide +kernel
theorem dX11_takes_305 : decode cX11_takes 305 = .ok (.return_, 1) := by decide +kernel
theorem dX11_fails_0 : decode cX11_fails 0 = .ok (.aload_n 0, 1) := by decide +kernel
theorem dX11_fails_1 : decode cX11_fails 1 = .ok (.getfield 233, 3) := by decide +kernel
theorem dX11_fails_4 : decode cX11_fails 4 = .ok (.ifCond .le 4, 3) := by decide +kernel
theorem dX11_fails_7 : decode cX11_fails 7 = .ok (.return_, 1) := by decide +kernel
theorem dX11_fails_8 : decode cX11_fails 8 = .ok (.aload_n 0, 1) := by decide +kernel
theorem dX11_fails_9 : decode cX11_fails 9 = .ok (.iload_n 1, 1) := by decide +kernel
theorem dX11_fails_10 : decode cX11_fails 10 = .ok (.putfield 233, 3) := by decide +kernel
theorem dX11_fails_13 : decode cX11_fails 13 = .ok (.aload_n 0, 1) := by decide +kernel
theorem dX11_fails_14 : decode cX11_fails 14 = .ok (.iload_n 2, 1) := by decide +kernel
theorem dX11_fails_15 : decode cX11_fails 15 = .ok (.putfield 23, 3) := by decide +kernel
theorem dX11_fails_18 : decode cX11_fails 18 = .ok (.return_, 1) := by decide +kernel
theorem dX11_isGood_0 : decode cX11_isGood 0 = .ok (.aload_n 0, 1) := by decide +kernel
theorem dX11_isGood_1 : decode cX11_isGood 1 = .ok (.getfield 233, 3) := by decide +kernel
theorem dX11_isGood_4 : decode cX11_isGood 4 = .ok (.ifCond .ne 7, 3) := by decide +kernel
theorem dX11_isGood_7 : decode cX11_isGood 7 = .ok (.iconst 1, 1) := by decide +kernel
theorem dX11_isGood_8 : decode cX11_isGood 8 = .ok (.goto 4, 3) := by decide +kernel
theorem dX11_isGood_11 : decode cX11_isGood 11 = .ok (.iconst 0, 1) := by decide +kernel
theorem dX11_isGood_12 : decode cX11_isGood 12 = .ok (.ireturn, 1) := by decide +kernel
theorem dX11_hasWord_0 : decode cX11_hasWord 0 = .ok (.aload_n 0, 1) := by decide +kernel
theorem dX11_hasWord_1 : decode cX11_hasWord 1 = .ok (.invokevirtual 271, 3) := by decide +kernel
theorem dX11_hasWord_4 : decode cX11_hasWord 4 = .ok (.ifCond .eq 24, 3) := by decide +kernel
theorem dX11_hasWord_7 : decode cX11_hasWord 7 = .ok (.aload_n 0, 1) := by decide +kernel
theorem dX11_hasWord_8 : decode cX11_hasWord 8 = .ok (.getfield 252, 3) := by decide +kernel
theorem dX11_hasWord_11 : decode cX11_hasWord 11 = .ok (.iconst 1, 1) := by decide +kernel
theorem dX11_hasWord_12 : decode cX11_hasWord 12 = .ok (.if_icmp .ne 16, 3) := by decide +kernel
theorem dX11_hasWord_15 : decode cX11_hasWord 15 = .ok (.aload_n 0, 1) := by decide +kernel
theorem dX11_hasWord_16 : decode cX11_hasWord 16 = .ok (.getfield 248, 3) := by decide +kernel
theorem dX11_hasWord_19 : decode cX11_hasWord 19 = .ok (.lload_n 1, 1) := by decide +kernel
theorem dX11_hasWord_20 : decode cX11_hasWord 20 = .ok (.lcmp, 1) := by decide +kernel
theorem dX11_hasWord_21 : decode cX11_hasWord 21 = .ok (.ifCond .ne 7, 3) := by decide +kernel
theorem dX11_hasWord_24 : decode cX11_hasWord 24 = .ok (.iconst 1, 1) := by decide +kernel
theorem dX11_hasWord_25 : decode cX11_hasWord 25 = .ok (.goto 4, 3) := by decide +kernel
theorem dX11_hasWord_28 : decode cX11_hasWord 28 = .ok (.iconst 0, 1) := by decide +kernel
theorem dX11_hasWord_29 : decode cX11_hasWord 29 = .ok (.istore_n 3, 1) := by decide +kernel
theorem dX11_hasWord_30 : decode cX11_hasWord 30 = .ok (.iload_n 3, 1) := by decide +kernel
theorem dX11_hasWord_31 : decode cX11_hasWord 31 = .ok (.ifCond .eq 7, 3) := by decide +kernel
theorem dX11_hasWord_34 : decode cX11_hasWord 34 = .ok (.aload_n 0, 1) := by decide +kernel
theorem dX11_hasWord_35 : decode cX11_hasWord 35 = .ok (.invokevirtual 275, 3) := by decide +kernel
theorem dX11_hasWord_38 : decode cX11_hasWord 38 = .ok (.iload_n 3, 1) := by decide +kernel
theorem dX11_hasWord_39 : decode cX11_hasWord 39 = .ok (.ireturn, 1) := by decide +kernel
theorem dX11_hasSign_0 : decode cX11_hasSign 0 = .ok (.aload_n 0, 1) := by decide +kernel
theorem dX11_hasSign_1 : decode cX11_hasSign 1 = .ok (.invokevirtual 271, 3) := by decide +kernel
theorem dX11_hasSign_4 : decode cX11_hasSign 4 = .ok (.ifCond .eq 25, 3) := by decide +kernel
theorem dX11_hasSign_7 : decode cX11_hasSign 7 = .ok (.aload_n 0, 1) := by decide +kernel
theorem dX11_hasSign_8 : decode cX11_hasSign 8 = .ok (.getfield 252, 3) := by decide +kernel
theorem dX11_hasSign_11 : decode cX11_hasSign 11 = .ok (.iconst 3, 1) := by decide +kernel
theorem dX11_hasSign_12 : decode cX11_hasSign 12 = .ok (.if_icmp .ne 17, 3) := by decide +kernel
theorem dX11_hasSign_15 : decode cX11_hasSign 15 = .ok (.aload_n 0, 1) := by decide +kernel
theorem dX11_hasSign_16 : decode cX11_hasSign 16 = .ok (.getfield 248, 3) := by decide +kernel
theorem dX11_hasSign_19 : decode cX11_hasSign 19 = .ok (.iload_n 1, 1) := by decide +kernel
theorem dX11_hasSign_20 : decode cX11_hasSign 20 = .ok (.i2l, 1) := by decide +kernel
theorem dX11_hasSign_21 : decode cX11_hasSign 21 = .ok (.lcmp, 1) := by decide +kernel
theorem dX11_hasSign_22 : decode cX11_hasSign 22 = .ok (.ifCond .ne 7, 3) := by decide +kernel
theorem dX11_hasSign_25 : decode cX11_hasSign 25 = .ok (.iconst 1, 1) := by decide +kernel
theorem dX11_hasSign_26 : decode cX11_hasSign 26 = .ok (.goto 4, 3) := by decide +kernel
theorem dX11_hasSign_29 : decode cX11_hasSign 29 = .ok (.iconst 0, 1) := by decide +kernel
theorem dX11_hasSign_30 : decode cX11_hasSign 30 = .ok (.istore_n 2, 1) := by decide +kernel
theorem dX11_hasSign_31 : decode cX11_hasSign 31 = .ok (.iload_n 2, 1) := by decide +kernel
theorem dX11_hasSign_32 : decode cX11_hasSign 32 = .ok (.ifCond .eq 7, 3) := by decide +kernel
theorem dX11_hasSign_35 : decode cX11_hasSign 35 = .ok (.aload_n 0, 1) := by decide +kernel
theorem dX11_hasSign_36 : decode cX11_hasSign 36 = .ok (.invokevirtual 275, 3) := by decide +kernel
theorem dX11_hasSign_39 : decode cX11_hasSign 39 = .ok (.iload_n 2, 1) := by decide +kernel
theorem dX11_hasSign_40 : decode cX11_hasSign 40 = .ok (.ireturn, 1) := by decide +kernel
theorem dX11_numeral_0 : decode cX11_numeral 0 = .ok (.aload_n 0, 1) := by decide +kernel
theorem dX11_numeral_1 : decode cX11_numeral 1 = .ok (.invokevirtual 271, 3) := by decide +kernel
theorem dX11_numeral_4 : decode cX11_numeral 4 = .ok (.ifCond .eq 20, 3) := by decide +kernel
theorem dX11_numeral_7 : decode cX11_numeral 7 = .ok (.aload_n 0, 1) := by decide +kernel
theorem dX11_numeral_8 : decode cX11_numeral 8 = .ok (.getfield 252, 3) := by decide +kernel
theorem dX11_numeral_11 : decode cX11_numeral 11 = .ok (.iconst 2, 1) := by decide +kernel
theorem dX11_numeral_12 : decode cX11_numeral 12 = .ok (.if_icmp .eq 12, 3) := by decide +kernel
theorem dX11_numeral_15 : decode cX11_numeral 15 = .ok (.aload_n 0, 1) := by decide +kernel
theorem dX11_numeral_16 : decode cX11_numeral 16 = .ok (.iconst 1, 1) := by decide +kernel
theorem dX11_numeral_17 : decode cX11_numeral 17 = .ok (.aload_n 0, 1) := by decide +kernel
theorem dX11_numeral_18 : decode cX11_numeral 18 = .ok (.getfield 245, 3) := by decide +kernel
theorem dX11_numeral_21 : decode cX11_numeral 21 = .ok (.invokevirtual 278, 3) := by decide +kernel
theorem dX11_numeral_24 : decode cX11_numeral 24 = .ok (.aload_n 0, 1) := by decide +kernel
theorem dX11_numeral_25 : decode cX11_numeral 25 = .ok (.invokevirtual 271, 3) := by decide +kernel
theorem dX11_numeral_28 : decode cX11_numeral 28 = .ok (.ifCond .ne 5, 3) := by decide +kernel
theorem dX11_numeral_31 : decode cX11_numeral 31 = .ok (.iconst 0, 1) := by decide +kernel
theorem dX11_numeral_32 : decode cX11_numeral 32 = .ok (.ireturn, 1) := by decide +kernel
theorem dX11_numeral_33 : decode cX11_numeral 33 = .ok (.aload_n 0, 1) := by decide +kernel
theorem dX11_numeral_34 : decode cX11_numeral 34 = .ok (.getfield 248, 3) := by decide +kernel
theorem dX11_numeral_37 : decode cX11_numeral 37 = .ok (.l2i, 1) := by decide +kernel
theorem dX11_numeral_38 : decode cX11_numeral 38 = .ok (.istore_n 1, 1) := by decide +kernel
theorem dX11_numeral_39 : decode cX11_numeral 39 = .ok (.aload_n 0, 1) := by decide +kernel
theorem dX11_numeral_40 : decode cX11_numeral 40 = .ok (.invokevirtual 275, 3) := by decide +kernel
theorem dX11_numeral_43 : decode cX11_numeral 43 = .ok (.iload_n 1, 1) := by decide +kernel
theorem dX11_numeral_44 : decode cX11_numeral 44 = .ok (.ireturn, 1) := by decide +kernel
theorem dX11_setNumber_0 : decode cX11_setNumber 0 = .ok (.aload_n 0, 1) := by decide +kernel
theorem dX11_setNumber_1 : decode cX11_setNumber 1 = .ok (.getfield 245, 3) := by decide +kernel
theorem dX11_setNumber_4 : decode cX11_setNumber 4 = .ok (.istore_n 1, 1) := by decide +kernel
theorem dX11_setNumber_5 : decode cX11_setNumber 5 = .ok (.aload_n 0, 1) := by decide +kernel
theorem dX11_setNumber_6 : decode cX11_setNumber 6 = .ok (.invokevirtual 281, 3) := by decide +kernel
theorem dX11_setNumber_9 : decode cX11_setNumber 9 = .ok (.istore_n 2, 1) := by decide +kernel
theorem dX11_setNumber_10 : decode cX11_setNumber 10 = .ok (.aload_n 0, 1) := by decide +kernel
theorem dX11_setNumber_11 : decode cX11_setNumber 11 = .ok (.invokevirtual 271, 3) := by decide +kernel
theorem dX11_setNumber_14 : decode cX11_setNumber 14 = .ok (.ifCond .eq 16, 3) := by decide +kernel
theorem dX11_setNumber_17 : decode cX11_setNumber 17 = .ok (.iload_n 2, 1) := by decide +kernel
theorem dX11_setNumber_18 : decode cX11_setNumber 18 = .ok (.invokestatic 112, 3) := by decide +kernel
theorem dX11_setNumber_21 : decode cX11_setNumber 21 = .ok (.ifCond .ne 9, 3) := by decide +kernel
theorem dX11_setNumber_24 : decode cX11_setNumber 24 = .ok (.aload_n 0, 1) := by decide +kernel
theorem dX11_setNumber_25 : decode cX11_setNumber 25 = .ok (.iconst 2, 1) := by decide +kernel
theorem dX11_setNumber_26 : decode cX11_setNumber 26 = .ok (.iload_n 1, 1) := by decide +kernel
theorem dX11_setNumber_27 : decode cX11_setNumber 27 = .ok (.invokevirtual 278, 3) := by decide +kernel
theorem dX11_setNumber_30 : decode cX11_setNumber 30 = .ok (.aload_n 0, 1) := by decide +kernel
theorem dX11_setNumber_31 : decode cX11_setNumber 31 = .ok (.invokevirtual 271, 3) := by decide +kernel
theorem dX11_setNumber_34 : decode cX11_setNumber 34 = .ok (.ifCond .eq 7, 3) := by decide +kernel
theorem dX11_setNumber_37 : decode cX11_setNumber 37 = .ok (.iload_n 2, 1) := by decide +kernel
theorem dX11_setNumber_38 : decode cX11_setNumber 38 = .ok (.goto 4, 3) := by decide +kernel
theorem dX11_setNumber_41 : decode cX11_setNumber 41 = .ok (.iconst 0, 1) := by decide +kernel
theorem dX11_setNumber_42 : decode cX11_setNumber 42 = .ok (.ireturn, 1) := by decide +kernel
theorem dX11_readsKeys_0 : decode cX11_readsKeys 0 = .ok (.aload_n 0, 1) := by decide +kernel
theorem dX11_readsKeys_1 : decode cX11_readsKeys 1 = .ok (.getfield 245, 3) := by decide +kernel
theorem dX11_readsKeys_4 : decode cX11_readsKeys 4 = .ok (.istore_n 2, 1) := by decide +kernel
theorem dX11_readsKeys_5 : decode cX11_readsKeys 5 = .ok (.aload_n 0, 1) := by decide +kernel
theorem dX11_readsKeys_6 : decode cX11_readsKeys 6 = .ok (.invokevirtual 281, 3) := by decide +kernel
theorem dX11_readsKeys_9 : decode cX11_readsKeys 9 = .ok (.istore_n 3, 1) := by decide +kernel
theorem dX11_readsKeys_10 : decode cX11_readsKeys 10 = .ok (.iload_n 3, 1) := by decide +kernel
theorem dX11_readsKeys_11 : decode cX11_readsKeys 11 = .ok (.istore 4, 2) := by decide +kernel
theorem dX11_readsKeys_13 : decode cX11_readsKeys 13 = .ok (.aload_n 0, 1) := by decide +kernel
theorem dX11_readsKeys_14 : decode cX11_readsKeys 14 = .ok (.bipush 45, 2) := by decide +kernel
theorem dX11_readsKeys_16 : decode cX11_readsKeys 16 = .ok (.invokevirtual 284, 3) := by decide +kernel
theorem dX11_readsKeys_19 : decode cX11_readsKeys 19 = .ok (.ifCond .eq 35, 3) := by decide +kernel
theorem dX11_readsKeys_22 : decode cX11_readsKeys 22 = .ok (.aload_n 0, 1) := by decide +kernel
theorem dX11_readsKeys_23 : decode cX11_readsKeys 23 = .ok (.getfield 245, 3) := by decide +kernel
theorem dX11_readsKeys_26 : decode cX11_readsKeys 26 = .ok (.istore 5, 2) := by decide +kernel
theorem dX11_readsKeys_28 : decode cX11_readsKeys 28 = .ok (.aload_n 0, 1) := by decide +kernel
theorem dX11_readsKeys_29 : decode cX11_readsKeys 29 = .ok (.invokevirtual 281, 3) := by decide +kernel
theorem dX11_readsKeys_32 : decode cX11_readsKeys 32 = .ok (.istore 4, 2) := by decide +kernel
theorem dX11_readsKeys_34 : decode cX11_readsKeys 34 = .ok (.aload_n 0, 1) := by decide +kernel
theorem dX11_readsKeys_35 : decode cX11_readsKeys 35 = .ok (.invokevirtual 271, 3) := by decide +kernel
theorem dX11_readsKeys_38 : decode cX11_readsKeys 38 = .ok (.ifCond .eq 16, 3) := by decide +kernel
theorem dX11_readsKeys_41 : decode cX11_readsKeys 41 = .ok (.iload 4, 2) := by decide +kernel
theorem dX11_readsKeys_43 : decode cX11_readsKeys 43 = .ok (.iload_n 3, 1) := by decide +kernel
theorem dX11_readsKeys_44 : decode cX11_readsKeys 44 = .ok (.if_icmp .ge 10, 3) := by decide +kernel
theorem dX11_readsKeys_47 : decode cX11_readsKeys 47 = .ok (.aload_n 0, 1) := by decide +kernel
theorem dX11_readsKeys_48 : decode cX11_readsKeys 48 = .ok (.iconst 2, 1) := by decide +kernel
theorem dX11_readsKeys_49 : decode cX11_readsKeys 49 = .ok (.iload 5, 2) := by decide +kernel
theorem dX11_readsKeys_51 : decode cX11_readsKeys 51 = .ok (.invokevirtual 278, 3) := by decide +kernel
theorem dX11_readsKeys_54 : decode cX11_readsKeys 54 = .ok (.iload_n 3, 1) := by decide +kernel
theorem dX11_readsKeys_55 : decode cX11_readsKeys 55 = .ok (.istore 5, 2) := by decide +kernel
theorem dX11_readsKeys_57 : decode cX11_readsKeys 57 = .ok (.iload 5, 2) := by decide +kernel
theorem dX11_readsKeys_59 : decode cX11_readsKeys 59 = .ok (.iload 4, 2) := by decide +kernel
theorem dX11_readsKeys_61 : decode cX11_readsKeys 61 = .ok (.if_icmp .gt 50, 3) := by decide +kernel
theorem dX11_readsKeys_64 : decode cX11_readsKeys 64 = .ok (.aload_n 0, 1) := by decide +kernel
theorem dX11_readsKeys_65 : decode cX11_readsKeys 65 = .ok (.invokevirtual 271, 3) := by decide +kernel
theorem dX11_readsKeys_68 : decode cX11_readsKeys 68 = .ok (.ifCond .eq 43, 3) := by decide +kernel
theorem dX11_readsKeys_71 : decode cX11_readsKeys 71 = .ok (.aload_n 0, 1) := by decide +kernel
theorem dX11_readsKeys_72 : decode cX11_readsKeys 72 = .ok (.iload_n 1, 1) := by decide +kernel
theorem dX11_readsKeys_73 : decode cX11_readsKeys 73 = .ok (.iload 5, 2) := by decide +kernel
theorem dX11_readsKeys_75 : decode cX11_readsKeys 75 = .ok (.invokevirtual 160, 3) := by decide +kernel
theorem dX11_readsKeys_78 : decode cX11_readsKeys 78 = .ok (.istore 6, 2) := by decide +kernel
theorem dX11_readsKeys_80 : decode cX11_readsKeys 80 = .ok (.iload 6, 2) := by decide +kernel
theorem dX11_readsKeys_82 : decode cX11_readsKeys 82 = .ok (.iconst 4, 1) := by decide +kernel
theorem dX11_readsKeys_83 : decode cX11_readsKeys 83 = .ok (.if_icmp .ne 9, 3) := by decide +kernel
theorem dX11_readsKeys_86 : decode cX11_readsKeys 86 = .ok (.aload_n 0, 1) := by decide +kernel
theorem dX11_readsKeys_87 : decode cX11_readsKeys 87 = .ok (.iconst 3, 1) := by decide +kernel
theorem dX11_readsKeys_88 : decode cX11_readsKeys 88 = .ok (.iload_n 2, 1) := by decide +kernel
theorem dX11_readsKeys_89 : decode cX11_readsKeys 89 = .ok (.invokevirtual 278, 3) := by decide +kernel
theorem dX11_readsKeys_92 : decode cX11_readsKeys 92 = .ok (.iload 6, 2) := by decide +kernel
theorem dX11_readsKeys_94 : decode cX11_readsKeys 94 = .ok (.ifCond .ne 11, 3) := by decide +kernel
theorem dX11_readsKeys_97 : decode cX11_readsKeys 97 = .ok (.aload_n 0, 1) := by decide +kernel
theorem dX11_readsKeys_98 : decode cX11_readsKeys 98 = .ok (.iload_n 1, 1) := by decide +kernel
theorem dX11_readsKeys_99 : decode cX11_readsKeys 99 = .ok (.iload 5, 2) := by decide +kernel
theorem dX11_readsKeys_101 : decode cX11_readsKeys 101 = .ok (.iconst 0, 1) := by decide +kernel
theorem dX11_readsKeys_102 : decode cX11_readsKeys 102 = .ok (.invokevirtual 144, 3) := by decide +kernel
theorem dX11_readsKeys_105 : decode cX11_readsKeys 105 = .ok (.iinc 5 1, 3) := by decide +kernel
theorem dX11_readsKeys_108 : decode cX11_readsKeys 108 = .ok (.goto (-51), 3) := by decide +kernel
theorem dX11_readsKeys_111 : decode cX11_readsKeys 111 = .ok (.return_, 1) := by decide +kernel
theorem dX11_readsSet_0 : decode cX11_readsSet 0 = .ok (.aload_n 0, 1) := by decide +kernel
theorem dX11_readsSet_1 : decode cX11_readsSet 1 = .ok (.invokevirtual 287, 3) := by decide +kernel
theorem dX11_readsSet_4 : decode cX11_readsSet 4 = .ok (.istore_n 1, 1) := by decide +kernel
theorem dX11_readsSet_5 : decode cX11_readsSet 5 = .ok (.aload_n 0, 1) := by decide +kernel
theorem dX11_readsSet_6 : decode cX11_readsSet 6 = .ok (.invokevirtual 271, 3) := by decide +kernel
theorem dX11_readsSet_9 : decode cX11_readsSet 9 = .ok (.ifCond .eq 19, 3) := by decide +kernel
theorem dX11_readsSet_12 : decode cX11_readsSet 12 = .ok (.aload_n 0, 1) := by decide +kernel
theorem dX11_readsSet_13 : decode cX11_readsSet 13 = .ok (.getfield 252, 3) := by decide +kernel
theorem dX11_readsSet_16 : decode cX11_readsSet 16 = .ok (.iconst 2, 1) := by decide +kernel
theorem dX11_readsSet_17 : decode cX11_readsSet 17 = .ok (.if_icmp .ne 11, 3) := by decide +kernel
theorem dX11_readsSet_20 : decode cX11_readsSet 20 = .ok (.aload_n 0, 1) := by decide +kernel
theorem dX11_readsSet_21 : decode cX11_readsSet 21 = .ok (.iload_n 1, 1) := by decide +kernel
theorem dX11_readsSet_22 : decode cX11_readsSet 22 = .ok (.invokevirtual 290, 3) := by decide +kernel
theorem dX11_readsSet_25 : decode cX11_readsSet 25 = .ok (.goto (-20), 3) := by decide +kernel
theorem dX11_readsSet_28 : decode cX11_readsSet 28 = .ok (.aload_n 0, 1) := by decide +kernel
theorem dX11_readsSet_29 : decode cX11_readsSet 29 = .ok (.invokevirtual 293, 3) := by decide +kernel
theorem dX11_readsSet_32 : decode cX11_readsSet 32 = .ok (.return_, 1) := by decide +kernel
theorem dX11_ends_0 : decode cX11_ends 0 = .ok (.aload_n 0, 1) := by decide +kernel
theorem dX11_ends_1 : decode cX11_ends 1 = .ok (.invokevirtual 271, 3) := by decide +kernel
theorem dX11_ends_4 : decode cX11_ends 4 = .ok (.ifCond .eq 21, 3) := by decide +kernel
theorem dX11_ends_7 : decode cX11_ends 7 = .ok (.aload_n 0, 1) := by decide +kernel
theorem dX11_ends_8 : decode cX11_ends 8 = .ok (.bipush 59, 2) := by decide +kernel
theorem dX11_ends_10 : decode cX11_ends 10 = .ok (.invokevirtual 284, 3) := by decide +kernel
theorem dX11_ends_13 : decode cX11_ends 13 = .ok (.ifCond .ne 12, 3) := by decide +kernel
theorem dX11_ends_16 : decode cX11_ends 16 = .ok (.aload_n 0, 1) := by decide +kernel
theorem dX11_ends_17 : decode cX11_ends 17 = .ok (.iconst 1, 1) := by decide +kernel
theorem dX11_ends_18 : decode cX11_ends 18 = .ok (.aload_n 0, 1) := by decide +kernel
theorem dX11_ends_19 : decode cX11_ends 19 = .ok (.getfield 245, 3) := by decide +kernel
theorem dX11_ends_22 : decode cX11_ends 22 = .ok (.invokevirtual 278, 3) := by decide +kernel
theorem dX11_ends_25 : decode cX11_ends 25 = .ok (.return_, 1) := by decide +kernel
theorem dX11_readsAct_0 : decode cX11_readsAct 0 = .ok (.aload_n 0, 1) := by decide +kernel
theorem dX11_readsAct_1 : decode cX11_readsAct 1 = .ok (.invokevirtual 287, 3) := by decide +kernel
theorem dX11_readsAct_4 : decode cX11_readsAct 4 = .ok (.istore_n 3, 1) := by decide +kernel
theorem dX11_readsAct_5 : decode cX11_readsAct 5 = .ok (.lload_n 1, 1) := by decide +kernel
theorem dX11_readsAct_6 : decode cX11_readsAct 6 = .ok (.ldc2_w 296, 3) := by decide +kernel
theorem dX11_readsAct_9 : decode cX11_readsAct 9 = .ok (.lcmp, 1) := by decide +kernel
theorem dX11_readsAct_10 : decode cX11_readsAct 10 = .ok (.ifCond .ne 16, 3) := by decide +kernel
theorem dX11_readsAct_13 : decode cX11_readsAct 13 = .ok (.aload_n 0, 1) := by decide +kernel
theorem dX11_readsAct_14 : decode cX11_readsAct 14 = .ok (.bipush 45, 2) := by decide +kernel
theorem dX11_readsAct_16 : decode cX11_readsAct 16 = .ok (.invokevirtual 284, 3) := by decide +kernel
theorem dX11_readsAct_19 : decode cX11_readsAct 19 = .ok (.ifCond .eq 7, 3) := by decide +kernel
theorem dX11_readsAct_22 : decode cX11_readsAct 22 = .ok (.iconst 1, 1) := by decide +kernel
theorem dX11_readsAct_23 : decode cX11_readsAct 23 = .ok (.goto 4, 3) := by decide +kernel
theorem dX11_readsAct_26 : decode cX11_readsAct 26 = .ok (.iconst 0, 1) := by decide +kernel
theorem dX11_readsAct_27 : decode cX11_readsAct 27 = .ok (.istore 4, 2) := by decide +kernel
theorem dX11_readsAct_29 : decode cX11_readsAct 29 = .ok (.lload_n 1, 1) := by decide +kernel
theorem dX11_readsAct_30 : decode cX11_readsAct 30 = .ok (.ldc2_w 298, 3) := by decide +kernel
theorem dX11_readsAct_33 : decode cX11_readsAct 33 = .ok (.lcmp, 1) := by decide +kernel
theorem dX11_readsAct_34 : decode cX11_readsAct 34 = .ok (.ifCond .eq 11, 3) := by decide +kernel
theorem dX11_readsAct_37 : decode cX11_readsAct 37 = .ok (.lload_n 1, 1) := by decide +kernel
theorem dX11_readsAct_38 : decode cX11_readsAct 38 = .ok (.ldc2_w 300, 3) := by decide +kernel
theorem dX11_readsAct_41 : decode cX11_readsAct 41 = .ok (.lcmp, 1) := by decide +kernel
theorem dX11_readsAct_42 : decode cX11_readsAct 42 = .ok (.ifCond .ne 10, 3) := by decide +kernel
theorem dX11_readsAct_45 : decode cX11_readsAct 45 = .ok (.aload_n 0, 1) := by decide +kernel
theorem dX11_readsAct_46 : decode cX11_readsAct 46 = .ok (.invokevirtual 287, 3) := by decide +kernel
theorem dX11_readsAct_49 : decode cX11_readsAct 49 = .ok (.goto 7, 3) := by decide +kernel
theorem dX11_readsAct_52 : decode cX11_readsAct 52 = .ok (.aload_n 0, 1) := by decide +kernel
theorem dX11_readsAct_53 : decode cX11_readsAct 53 = .ok (.invokevirtual 281, 3) := by decide +kernel
theorem dX11_readsAct_56 : decode cX11_readsAct 56 = .ok (.istore 5, 2) := by decide +kernel
theorem dX11_readsAct_58 : decode cX11_readsAct 58 = .ok (.lload_n 1, 1) := by decide +kernel
theorem dX11_readsAct_59 : decode cX11_readsAct 59 = .ok (.ldc2_w 302, 3) := by decide +kernel
theorem dX11_readsAct_62 : decode cX11_readsAct 62 = .ok (.lcmp, 1) := by decide +kernel
theorem dX11_readsAct_63 : decode cX11_readsAct 63 = .ok (.ifCond .ne 10, 3) := by decide +kernel
theorem dX11_readsAct_66 : decode cX11_readsAct 66 = .ok (.aload_n 0, 1) := by decide +kernel
theorem dX11_readsAct_67 : decode cX11_readsAct 67 = .ok (.invokevirtual 287, 3) := by decide +kernel
theorem dX11_readsAct_70 : decode cX11_readsAct 70 = .ok (.goto 27, 3) := by decide +kernel
theorem dX11_readsAct_73 : decode cX11_readsAct 73 = .ok (.lload_n 1, 1) := by decide +kernel
theorem dX11_readsAct_74 : decode cX11_readsAct 74 = .ok (.ldc2_w 304, 3) := by decide +kernel
theorem dX11_readsAct_77 : decode cX11_readsAct 77 = .ok (.lcmp, 1) := by decide +kernel
theorem dX11_readsAct_78 : decode cX11_readsAct 78 = .ok (.ifCond .eq 11, 3) := by decide +kernel
theorem dX11_readsAct_81 : decode cX11_readsAct 81 = .ok (.lload_n 1, 1) := by decide +kernel
theorem dX11_readsAct_82 : decode cX11_readsAct 82 = .ok (.ldc2_w 306, 3) := by decide +kernel
theorem dX11_readsAct_85 : decode cX11_readsAct 85 = .ok (.lcmp, 1) := by decide +kernel
theorem dX11_readsAct_86 : decode cX11_readsAct 86 = .ok (.ifCond .ne 10, 3) := by decide +kernel
theorem dX11_readsAct_89 : decode cX11_readsAct 89 = .ok (.aload_n 0, 1) := by decide +kernel
theorem dX11_readsAct_90 : decode cX11_readsAct 90 = .ok (.invokevirtual 281, 3) := by decide +kernel
theorem dX11_readsAct_93 : decode cX11_readsAct 93 = .ok (.goto 4, 3) := by decide +kernel
theorem dX11_readsAct_96 : decode cX11_readsAct 96 = .ok (.iconst 0, 1) := by decide +kernel
theorem dX11_readsAct_97 : decode cX11_readsAct 97 = .ok (.istore 6, 2) := by decide +kernel
theorem dX11_readsAct_99 : decode cX11_readsAct 99 = .ok (.lload_n 1, 1) := by decide +kernel
theorem dX11_readsAct_100 : decode cX11_readsAct 100 = .ok (.ldc2_w 306, 3) := by decide +kernel
theorem dX11_readsAct_103 : decode cX11_readsAct 103 = .ok (.lcmp, 1) := by decide +kernel
theorem dX11_readsAct_104 : decode cX11_readsAct 104 = .ok (.ifCond .ne 10, 3) := by decide +kernel
theorem dX11_readsAct_107 : decode cX11_readsAct 107 = .ok (.aload_n 0, 1) := by decide +kernel
theorem dX11_readsAct_108 : decode cX11_readsAct 108 = .ok (.invokevirtual 287, 3) := by decide +kernel
theorem dX11_readsAct_111 : decode cX11_readsAct 111 = .ok (.goto 4, 3) := by decide +kernel
theorem dX11_readsAct_114 : decode cX11_readsAct 114 = .ok (.iconst 0, 1) := by decide +kernel
theorem dX11_readsAct_115 : decode cX11_readsAct 115 = .ok (.istore 7, 2) := by decide +kernel
theorem dX11_readsAct_117 : decode cX11_readsAct 117 = .ok (.aload_n 0, 1) := by decide +kernel
theorem dX11_readsAct_118 : decode cX11_readsAct 118 = .ok (.invokevirtual 293, 3) := by decide +kernel
theorem dX11_readsAct_121 : decode cX11_readsAct 121 = .ok (.aload_n 0, 1) := by decide +kernel
theorem dX11_readsAct_122 : decode cX11_readsAct 122 = .ok (.invokevirtual 271, 3) := by decide +kernel
theorem dX11_readsAct_125 : decode cX11_readsAct 125 = .ok (.ifCond .ne 5, 3) := by decide +kernel
theorem dX11_readsAct_128 : decode cX11_readsAct 128 = .ok (.iconst 0, 1) := by decide +kernel
theorem dX11_readsAct_129 : decode cX11_readsAct 129 = .ok (.ireturn, 1) := by decide +kernel
theorem dX11_readsAct_130 : decode cX11_readsAct 130 = .ok (.lload_n 1, 1) := by decide +kernel
theorem dX11_readsAct_131 : decode cX11_readsAct 131 = .ok (.ldc2_w 304, 3) := by decide +kernel
theorem dX11_readsAct_134 : decode cX11_readsAct 134 = .ok (.lcmp, 1) := by decide +kernel
theorem dX11_readsAct_135 : decode cX11_readsAct 135 = .ok (.ifCond .ne 16, 3) := by decide +kernel
theorem dX11_readsAct_138 : decode cX11_readsAct 138 = .ok (.aload_n 0, 1) := by decide +kernel
theorem dX11_readsAct_139 : decode cX11_readsAct 139 = .ok (.iload_n 3, 1) := by decide +kernel
theorem dX11_readsAct_140 : decode cX11_readsAct 140 = .ok (.iload 5, 2) := by decide +kernel
theorem dX11_readsAct_142 : decode cX11_readsAct 142 = .ok (.iload 6, 2) := by decide +kernel
theorem dX11_readsAct_144 : decode cX11_readsAct 144 = .ok (.iconst 1, 1) := by decide +kernel
theorem dX11_readsAct_145 : decode cX11_readsAct 145 = .ok (.invokevirtual 191, 3) := by decide +kernel
theorem dX11_readsAct_148 : decode cX11_readsAct 148 = .ok (.goto 99, 3) := by decide +kernel
theorem dX11_readsAct_151 : decode cX11_readsAct 151 = .ok (.lload_n 1, 1) := by decide +kernel
theorem dX11_readsAct_152 : decode cX11_readsAct 152 = .ok (.ldc2_w 302, 3) := by decide +kernel
theorem dX11_readsAct_155 : decode cX11_readsAct 155 = .ok (.lcmp, 1) := by decide +kernel
theorem dX11_readsAct_156 : decode cX11_readsAct 156 = .ok (.ifCond .ne 15, 3) := by decide +kernel
theorem dX11_readsAct_159 : decode cX11_readsAct 159 = .ok (.aload_n 0, 1) := by decide +kernel
theorem dX11_readsAct_160 : decode cX11_readsAct 160 = .ok (.iload_n 3, 1) := by decide +kernel
theorem dX11_readsAct_161 : decode cX11_readsAct 161 = .ok (.iload 5, 2) := by decide +kernel
theorem dX11_readsAct_163 : decode cX11_readsAct 163 = .ok (.iload 6, 2) := by decide +kernel
theorem dX11_readsAct_165 : decode cX11_readsAct 165 = .ok (.invokevirtual 166, 3) := by decide +kernel
theorem dX11_readsAct_168 : decode cX11_readsAct 168 = .ok (.goto 79, 3) := by decide +kernel
theorem dX11_readsAct_171 : decode cX11_readsAct 171 = .ok (.lload_n 1, 1) := by decide +kernel
theorem dX11_readsAct_172 : decode cX11_readsAct 172 = .ok (.ldc2_w 298, 3) := by decide +kernel
theorem dX11_readsAct_175 : decode cX11_readsAct 175 = .ok (.lcmp, 1) := by decide +kernel
theorem dX11_readsAct_176 : decode cX11_readsAct 176 = .ok (.ifCond .ne 13, 3) := by decide +kernel
theorem dX11_readsAct_179 : decode cX11_readsAct 179 = .ok (.aload_n 0, 1) := by decide +kernel
theorem dX11_readsAct_180 : decode cX11_readsAct 180 = .ok (.iload_n 3, 1) := by decide +kernel
theorem dX11_readsAct_181 : decode cX11_readsAct 181 = .ok (.iload 5, 2) := by decide +kernel
theorem dX11_readsAct_183 : decode cX11_readsAct 183 = .ok (.invokevirtual 173, 3) := by decide +kernel
theorem dX11_readsAct_186 : decode cX11_readsAct 186 = .ok (.goto 61, 3) := by decide +kernel
theorem dX11_readsAct_189 : decode cX11_readsAct 189 = .ok (.lload_n 1, 1) := by decide +kernel
theorem dX11_readsAct_190 : decode cX11_readsAct 190 = .ok (.ldc2_w 300, 3) := by decide +kernel
theorem dX11_readsAct_193 : decode cX11_readsAct 193 = .ok (.lcmp, 1) := by decide +kernel
theorem dX11_readsAct_194 : decode cX11_readsAct 194 = .ok (.ifCond .ne 13, 3) := by decide +kernel
theorem dX11_readsAct_197 : decode cX11_readsAct 197 = .ok (.aload_n 0, 1) := by decide +kernel
theorem dX11_readsAct_198 : decode cX11_readsAct 198 = .ok (.iload_n 3, 1) := by decide +kernel
theorem dX11_readsAct_199 : decode cX11_readsAct 199 = .ok (.iload 5, 2) := by decide +kernel
theorem dX11_readsAct_201 : decode cX11_readsAct 201 = .ok (.invokevirtual 176, 3) := by decide +kernel
theorem dX11_readsAct_204 : decode cX11_readsAct 204 = .ok (.goto 43, 3) := by decide +kernel
theorem dX11_readsAct_207 : decode cX11_readsAct 207 = .ok (.lload_n 1, 1) := by decide +kernel
theorem dX11_readsAct_208 : decode cX11_readsAct 208 = .ok (.ldc2_w 296, 3) := by decide +kernel
theorem dX11_readsAct_211 : decode cX11_readsAct 211 = .ok (.lcmp, 1) := by decide +kernel
theorem dX11_readsAct_212 : decode cX11_readsAct 212 = .ok (.ifCond .ne 24, 3) := by decide +kernel
theorem dX11_readsAct_215 : decode cX11_readsAct 215 = .ok (.aload_n 0, 1) := by decide +kernel
theorem dX11_readsAct_216 : decode cX11_readsAct 216 = .ok (.iload_n 3, 1) := by decide +kernel
theorem dX11_readsAct_217 : decode cX11_readsAct 217 = .ok (.iload 4, 2) := by decide +kernel
theorem dX11_readsAct_219 : decode cX11_readsAct 219 = .ok (.ifCond .eq 9, 3) := by decide +kernel
theorem dX11_readsAct_222 : decode cX11_readsAct 222 = .ok (.iload 5, 2) := by decide +kernel
theorem dX11_readsAct_224 : decode cX11_readsAct 224 = .ok (.ineg, 1) := by decide +kernel
theorem dX11_readsAct_225 : decode cX11_readsAct 225 = .ok (.goto 5, 3) := by decide +kernel
theorem dX11_readsAct_228 : decode cX11_readsAct 228 = .ok (.iload 5, 2) := by decide +kernel
theorem dX11_readsAct_230 : decode cX11_readsAct 230 = .ok (.invokevirtual 182, 3) := by decide +kernel
theorem dX11_readsAct_233 : decode cX11_readsAct 233 = .ok (.goto 14, 3) := by decide +kernel
theorem dX11_readsAct_236 : decode cX11_readsAct 236 = .ok (.aload_n 0, 1) := by decide +kernel
theorem dX11_readsAct_237 : decode cX11_readsAct 237 = .ok (.iload_n 3, 1) := by decide +kernel
theorem dX11_readsAct_238 : decode cX11_readsAct 238 = .ok (.iload 5, 2) := by decide +kernel
theorem dX11_readsAct_240 : decode cX11_readsAct 240 = .ok (.iload 6, 2) := by decide +kernel
theorem dX11_readsAct_242 : decode cX11_readsAct 242 = .ok (.iload 7, 2) := by decide +kernel
theorem dX11_readsAct_244 : decode cX11_readsAct 244 = .ok (.invokevirtual 188, 3) := by decide +kernel
theorem dX11_readsAct_247 : decode cX11_readsAct 247 = .ok (.istore 8, 2) := by decide +kernel
theorem dX11_readsAct_249 : decode cX11_readsAct 249 = .ok (.iload 8, 2) := by decide +kernel
theorem dX11_readsAct_251 : decode cX11_readsAct 251 = .ok (.ifCond .le 6, 3) := by decide +kernel
theorem dX11_readsAct_254 : decode cX11_readsAct 254 = .ok (.iload 8, 2) := by decide +kernel
theorem dX11_readsAct_256 : decode cX11_readsAct 256 = .ok (.ireturn, 1) := by decide +kernel
theorem dX11_readsAct_257 : decode cX11_readsAct 257 = .ok (.lload_n 1, 1) := by decide +kernel
theorem dX11_readsAct_258 : decode cX11_readsAct 258 = .ok (.ldc2_w 296, 3) := by decide +kernel
theorem dX11_readsAct_261 : decode cX11_readsAct 261 = .ok (.lcmp, 1) := by decide +kernel
theorem dX11_readsAct_262 : decode cX11_readsAct 262 = .ok (.ifCond .ne 21, 3) := by decide +kernel
theorem dX11_readsAct_265 : decode cX11_readsAct 265 = .ok (.aload_n 0, 1) := by decide +kernel
theorem dX11_readsAct_266 : decode cX11_readsAct 266 = .ok (.iload_n 3, 1) := by decide +kernel
theorem dX11_readsAct_267 : decode cX11_readsAct 267 = .ok (.iload 4, 2) := by decide +kernel
theorem dX11_readsAct_269 : decode cX11_readsAct 269 = .ok (.ifCond .eq 9, 3) := by decide +kernel
theorem dX11_readsAct_272 : decode cX11_readsAct 272 = .ok (.iload 5, 2) := by decide +kernel
theorem dX11_readsAct_274 : decode cX11_readsAct 274 = .ok (.ineg, 1) := by decide +kernel
theorem dX11_readsAct_275 : decode cX11_readsAct 275 = .ok (.goto 5, 3) := by decide +kernel
theorem dX11_readsAct_278 : decode cX11_readsAct 278 = .ok (.iload 5, 2) := by decide +kernel
theorem dX11_readsAct_280 : decode cX11_readsAct 280 = .ok (.invokevirtual 185, 3) := by decide +kernel
theorem dX11_readsAct_283 : decode cX11_readsAct 283 = .ok (.lload_n 1, 1) := by decide +kernel
theorem dX11_readsAct_284 : decode cX11_readsAct 284 = .ok (.ldc2_w 304, 3) := by decide +kernel
theorem dX11_readsAct_287 : decode cX11_readsAct 287 = .ok (.lcmp, 1) := by decide +kernel
theorem dX11_readsAct_288 : decode cX11_readsAct 288 = .ok (.ifCond .ne 17, 3) := by decide +kernel
theorem dX11_readsAct_291 : decode cX11_readsAct 291 = .ok (.aload_n 0, 1) := by decide +kernel
theorem dX11_readsAct_292 : decode cX11_readsAct 292 = .ok (.iload_n 3, 1) := by decide +kernel
theorem dX11_readsAct_293 : decode cX11_readsAct 293 = .ok (.iload 5, 2) := by decide +kernel
theorem dX11_readsAct_295 : decode cX11_readsAct 295 = .ok (.iload 6, 2) := by decide +kernel
theorem dX11_readsAct_297 : decode cX11_readsAct 297 = .ok (.iconst 1, 1) := by decide +kernel
theorem dX11_readsAct_298 : decode cX11_readsAct 298 = .ok (.iconst 1, 1) := by decide +kernel
theorem dX11_readsAct_299 : decode cX11_readsAct 299 = .ok (.invokevirtual 137, 3) := by decide +kernel
theorem dX11_readsAct_302 : decode cX11_readsAct 302 = .ok (.goto 81, 3) := by decide +kernel
theorem dX11_readsAct_305 : decode cX11_readsAct 305 = .ok (.lload_n 1, 1) := by decide +kernel
theorem dX11_readsAct_306 : decode cX11_readsAct 306 = .ok (.ldc2_w 302, 3) := by decide +kernel
theorem dX11_readsAct_309 : decode cX11_readsAct 309 = .ok (.lcmp, 1) := by decide +kernel
theorem dX11_readsAct_310 : decode cX11_readsAct 310 = .ok (.ifCond .ne 20, 3) := by decide +kernel
theorem dX11_readsAct_313 : decode cX11_readsAct 313 = .ok (.aload_n 0, 1) := by decide +kernel
theorem dX11_readsAct_314 : decode cX11_readsAct 314 = .ok (.iload_n 3, 1) := by decide +kernel
theorem dX11_readsAct_315 : decode cX11_readsAct 315 = .ok (.iload 5, 2) := by decide +kernel
theorem dX11_readsAct_317 : decode cX11_readsAct 317 = .ok (.iconst 1, 1) := by decide +kernel
theorem dX11_readsAct_318 : decode cX11_readsAct 318 = .ok (.iadd, 1) := by decide +kernel
theorem dX11_readsAct_319 : decode cX11_readsAct 319 = .ok (.sipush 9999, 3) := by decide +kernel
theorem dX11_readsAct_322 : decode cX11_readsAct 322 = .ok (.iload 6, 2) := by decide +kernel
theorem dX11_readsAct_324 : decode cX11_readsAct 324 = .ok (.invokevirtual 169, 3) := by decide +kernel
theorem dX11_readsAct_327 : decode cX11_readsAct 327 = .ok (.goto 56, 3) := by decide +kernel
theorem dX11_readsAct_330 : decode cX11_readsAct 330 = .ok (.lload_n 1, 1) := by decide +kernel
theorem dX11_readsAct_331 : decode cX11_readsAct 331 = .ok (.ldc2_w 298, 3) := by decide +kernel
theorem dX11_readsAct_334 : decode cX11_readsAct 334 = .ok (.lcmp, 1) := by decide +kernel
theorem dX11_readsAct_335 : decode cX11_readsAct 335 = .ok (.ifCond .eq 11, 3) := by decide +kernel
theorem dX11_readsAct_338 : decode cX11_readsAct 338 = .ok (.lload_n 1, 1) := by decide +kernel
theorem dX11_readsAct_339 : decode cX11_readsAct 339 = .ok (.ldc2_w 300, 3) := by decide +kernel
theorem dX11_readsAct_342 : decode cX11_readsAct 342 = .ok (.lcmp, 1) := by decide +kernel
theorem dX11_readsAct_343 : decode cX11_readsAct 343 = .ok (.ifCond .ne 17, 3) := by decide +kernel
theorem dX11_readsAct_346 : decode cX11_readsAct 346 = .ok (.aload_n 0, 1) := by decide +kernel
theorem dX11_readsAct_347 : decode cX11_readsAct 347 = .ok (.iload 5, 2) := by decide +kernel
theorem dX11_readsAct_349 : decode cX11_readsAct 349 = .ok (.iconst 0, 1) := by decide +kernel
theorem dX11_readsAct_350 : decode cX11_readsAct 350 = .ok (.sipush 9999, 3) := by decide +kernel
theorem dX11_readsAct_353 : decode cX11_readsAct 353 = .ok (.iload_n 3, 1) := by decide +kernel
theorem dX11_readsAct_354 : decode cX11_readsAct 354 = .ok (.invokevirtual 169, 3) := by decide +kernel
theorem dX11_readsAct_357 : decode cX11_readsAct 357 = .ok (.goto 26, 3) := by decide +kernel
theorem dX11_readsAct_360 : decode cX11_readsAct 360 = .ok (.lload_n 1, 1) := by decide +kernel
theorem dX11_readsAct_361 : decode cX11_readsAct 361 = .ok (.ldc2_w 306, 3) := by decide +kernel
theorem dX11_readsAct_364 : decode cX11_readsAct 364 = .ok (.lcmp, 1) := by decide +kernel
theorem dX11_readsAct_365 : decode cX11_readsAct 365 = .ok (.ifCond .ne 17, 3) := by decide +kernel
theorem dX11_readsAct_368 : decode cX11_readsAct 368 = .ok (.aload_n 0, 1) := by decide +kernel
theorem dX11_readsAct_369 : decode cX11_readsAct 369 = .ok (.iload_n 3, 1) := by decide +kernel
theorem dX11_readsAct_370 : decode cX11_readsAct 370 = .ok (.iload 5, 2) := by decide +kernel
theorem dX11_readsAct_372 : decode cX11_readsAct 372 = .ok (.iload 6, 2) := by decide +kernel
theorem dX11_readsAct_374 : decode cX11_readsAct 374 = .ok (.iload 7, 2) := by decide +kernel
theorem dX11_readsAct_376 : decode cX11_readsAct 376 = .ok (.invokevirtual 169, 3) := by decide +kernel
theorem dX11_readsAct_379 : decode cX11_readsAct 379 = .ok (.goto 4, 3) := by decide +kernel
theorem dX11_readsAct_382 : decode cX11_readsAct 382 = .ok (.iconst 1, 1) := by decide +kernel
theorem dX11_readsAct_383 : decode cX11_readsAct 383 = .ok (.istore 9, 2) := by decide +kernel
theorem dX11_readsAct_385 : decode cX11_readsAct 385 = .ok (.iload 9, 2) := by decide +kernel
theorem dX11_readsAct_387 : decode cX11_readsAct 387 = .ok (.ifCond .le 7, 3) := by decide +kernel
theorem dX11_readsAct_390 : decode cX11_readsAct 390 = .ok (.iconst 0, 1) := by decide +kernel
theorem dX11_readsAct_391 : decode cX11_readsAct 391 = .ok (.goto 4, 3) := by decide +kernel
theorem dX11_readsAct_394 : decode cX11_readsAct 394 = .ok (.iconst 1, 1) := by decide +kernel
theorem dX11_readsAct_395 : decode cX11_readsAct 395 = .ok (.ireturn, 1) := by decide +kernel
theorem dX11_readsLine_0 : decode cX11_readsLine 0 = .ok (.aload_n 0, 1) := by decide +kernel
theorem dX11_readsLine_1 : decode cX11_readsLine 1 = .ok (.getfield 245, 3) := by decide +kernel
theorem dX11_readsLine_4 : decode cX11_readsLine 4 = .ok (.istore_n 1, 1) := by decide +kernel
theorem dX11_readsLine_5 : decode cX11_readsLine 5 = .ok (.aload_n 0, 1) := by decide +kernel
theorem dX11_readsLine_6 : decode cX11_readsLine 6 = .ok (.getfield 252, 3) := by decide +kernel
theorem dX11_readsLine_9 : decode cX11_readsLine 9 = .ok (.iconst 1, 1) := by decide +kernel
theorem dX11_readsLine_10 : decode cX11_readsLine 10 = .ok (.if_icmp .ne 10, 3) := by decide +kernel
theorem dX11_readsLine_13 : decode cX11_readsLine 13 = .ok (.aload_n 0, 1) := by decide +kernel
theorem dX11_readsLine_14 : decode cX11_readsLine 14 = .ok (.getfield 248, 3) := by decide +kernel
theorem dX11_readsLine_17 : decode cX11_readsLine 17 = .ok (.goto 4, 3) := by decide +kernel
theorem dX11_readsLine_20 : decode cX11_readsLine 20 = .ok (.lconst 0, 1) := by decide +kernel
theorem dX11_readsLine_21 : decode cX11_readsLine 21 = .ok (.lstore_n 2, 1) := by decide +kernel
theorem dX11_readsLine_22 : decode cX11_readsLine 22 = .ok (.aload_n 0, 1) := by decide +kernel
theorem dX11_readsLine_23 : decode cX11_readsLine 23 = .ok (.ldc2_w 308, 3) := by decide +kernel
theorem dX11_readsLine_26 : decode cX11_readsLine 26 = .ok (.invokevirtual 310, 3) := by decide +kernel
theorem dX11_readsLine_29 : decode cX11_readsLine 29 = .ok (.ifCond .eq 10, 3) := by decide +kernel
theorem dX11_readsLine_32 : decode cX11_readsLine 32 = .ok (.aload_n 0, 1) := by decide +kernel
theorem dX11_readsLine_33 : decode cX11_readsLine 33 = .ok (.invokevirtual 314, 3) := by decide +kernel
theorem dX11_readsLine_36 : decode cX11_readsLine 36 = .ok (.goto 89, 3) := by decide +kernel
theorem dX11_readsLine_39 : decode cX11_readsLine 39 = .ok (.aload_n 0, 1) := by decide +kernel
theorem dX11_readsLine_40 : decode cX11_readsLine 40 = .ok (.ldc2_w 304, 3) := by decide +kernel
theorem dX11_readsLine_43 : decode cX11_readsLine 43 = .ok (.invokevirtual 310, 3) := by decide +kernel
theorem dX11_readsLine_46 : decode cX11_readsLine 46 = .ok (.ifCond .ne 53, 3) := by decide +kernel
theorem dX11_readsLine_49 : decode cX11_readsLine 49 = .ok (.aload_n 0, 1) := by decide +kernel
theorem dX11_readsLine_50 : decode cX11_readsLine 50 = .ok (.ldc2_w 302, 3) := by decide +kernel
theorem dX11_readsLine_53 : decode cX11_readsLine 53 = .ok (.invokevirtual 310, 3) := by decide +kernel
theorem dX11_readsLine_56 : decode cX11_readsLine 56 = .ok (.ifCond .ne 43, 3) := by decide +kernel
theorem dX11_readsLine_59 : decode cX11_readsLine 59 = .ok (.aload_n 0, 1) := by decide +kernel
theorem dX11_readsLine_60 : decode cX11_readsLine 60 = .ok (.ldc2_w 298, 3) := by decide +kernel
theorem dX11_readsLine_63 : decode cX11_readsLine 63 = .ok (.invokevirtual 310, 3) := by decide +kernel
theorem dX11_readsLine_66 : decode cX11_readsLine 66 = .ok (.ifCond .ne 33, 3) := by decide +kernel
theorem dX11_readsLine_69 : decode cX11_readsLine 69 = .ok (.aload_n 0, 1) := by decide +kernel
theorem dX11_readsLine_70 : decode cX11_readsLine 70 = .ok (.ldc2_w 300, 3) := by decide +kernel
theorem dX11_readsLine_73 : decode cX11_readsLine 73 = .ok (.invokevirtual 310, 3) := by decide +kernel
theorem dX11_readsLine_76 : decode cX11_readsLine 76 = .ok (.ifCond .ne 23, 3) := by decide +kernel
theorem dX11_readsLine_79 : decode cX11_readsLine 79 = .ok (.aload_n 0, 1) := by decide +kernel
theorem dX11_readsLine_80 : decode cX11_readsLine 80 = .ok (.ldc2_w 296, 3) := by decide +kernel
theorem dX11_readsLine_83 : decode cX11_readsLine 83 = .ok (.invokevirtual 310, 3) := by decide +kernel
theorem dX11_readsLine_86 : decode cX11_readsLine 86 = .ok (.ifCond .ne 13, 3) := by decide +kernel
theorem dX11_readsLine_89 : decode cX11_readsLine 89 = .ok (.aload_n 0, 1) := by decide +kernel
theorem dX11_readsLine_90 : decode cX11_readsLine 90 = .ok (.ldc2_w 306, 3) := by decide +kernel
theorem dX11_readsLine_93 : decode cX11_readsLine 93 = .ok (.invokevirtual 310, 3) := by decide +kernel
theorem dX11_readsLine_96 : decode cX11_readsLine 96 = .ok (.ifCond .eq 20, 3) := by decide +kernel
theorem dX11_readsLine_99 : decode cX11_readsLine 99 = .ok (.aload_n 0, 1) := by decide +kernel
theorem dX11_readsLine_100 : decode cX11_readsLine 100 = .ok (.lload_n 2, 1) := by decide +kernel
theorem dX11_readsLine_101 : decode cX11_readsLine 101 = .ok (.invokevirtual 317, 3) := by decide +kernel
theorem dX11_readsLine_104 : decode cX11_readsLine 104 = .ok (.ifCond .le 21, 3) := by decide +kernel
theorem dX11_readsLine_107 : decode cX11_readsLine 107 = .ok (.aload_n 0, 1) := by decide +kernel
theorem dX11_readsLine_108 : decode cX11_readsLine 108 = .ok (.iconst 4, 1) := by decide +kernel
theorem dX11_readsLine_109 : decode cX11_readsLine 109 = .ok (.iload_n 1, 1) := by decide +kernel
theorem dX11_readsLine_110 : decode cX11_readsLine 110 = .ok (.invokevirtual 278, 3) := by decide +kernel
theorem dX11_readsLine_113 : decode cX11_readsLine 113 = .ok (.goto 12, 3) := by decide +kernel
theorem dX11_readsLine_116 : decode cX11_readsLine 116 = .ok (.aload_n 0, 1) := by decide +kernel
theorem dX11_readsLine_117 : decode cX11_readsLine 117 = .ok (.iconst 1, 1) := by decide +kernel
theorem dX11_readsLine_118 : decode cX11_readsLine 118 = .ok (.aload_n 0, 1) := by decide +kernel
theorem dX11_readsLine_119 : decode cX11_readsLine 119 = .ok (.getfield 245, 3) := by decide +kernel
theorem dX11_readsLine_122 : decode cX11_readsLine 122 = .ok (.invokevirtual 278, 3) := by decide +kernel
theorem dX11_readsLine_125 : decode cX11_readsLine 125 = .ok (.return_, 1) := by decide +kernel
theorem dX11_text_0 : decode cX11_text 0 = .ok (.aload_n 0, 1) := by decide +kernel
theorem dX11_text_1 : decode cX11_text 1 = .ok (.aload_n 0, 1) := by decide +kernel
theorem dX11_text_2 : decode cX11_text 2 = .ok (.getfield 218, 3) := by decide +kernel
theorem dX11_text_5 : decode cX11_text 5 = .ok (.putfield 236, 3) := by decide +kernel
theorem dX11_text_8 : decode cX11_text 8 = .ok (.aload_n 0, 1) := by decide +kernel
theorem dX11_text_9 : decode cX11_text 9 = .ok (.iconst 0, 1) := by decide +kernel
theorem dX11_text_10 : decode cX11_text 10 = .ok (.putfield 218, 3) := by decide +kernel
theorem dX11_text_13 : decode cX11_text 13 = .ok (.aload_n 0, 1) := by decide +kernel
theorem dX11_text_14 : decode cX11_text 14 = .ok (.iconst 0, 1) := by decide +kernel
theorem dX11_text_15 : decode cX11_text 15 = .ok (.putfield 233, 3) := by decide +kernel
theorem dX11_text_18 : decode cX11_text 18 = .ok (.aload_n 0, 1) := by decide +kernel
theorem dX11_text_19 : decode cX11_text 19 = .ok (.iconst (-1), 1) := by decide +kernel
theorem dX11_text_20 : decode cX11_text 20 = .ok (.putfield 23, 3) := by decide +kernel
theorem dX11_text_23 : decode cX11_text 23 = .ok (.aload_n 0, 1) := by decide +kernel
theorem dX11_text_24 : decode cX11_text 24 = .ok (.iconst 0, 1) := by decide +kernel
theorem dX11_text_25 : decode cX11_text 25 = .ok (.putfield 239, 3) := by decide +kernel
theorem dX11_text_28 : decode cX11_text 28 = .ok (.aload_n 0, 1) := by decide +kernel
theorem dX11_text_29 : decode cX11_text 29 = .ok (.sipush 976, 3) := by decide +kernel
theorem dX11_text_32 : decode cX11_text 32 = .ok (.invokevirtual 33, 3) := by decide +kernel
theorem dX11_text_35 : decode cX11_text 35 = .ok (.aload_n 0, 1) := by decide +kernel
theorem dX11_text_36 : decode cX11_text 36 = .ok (.sipush 976, 3) := by decide +kernel
theorem dX11_text_39 : decode cX11_text 39 = .ok (.putfield 41, 3) := by decide +kernel
theorem dX11_text_42 : decode cX11_text 42 = .ok (.aload_n 0, 1) := by decide +kernel
theorem dX11_text_43 : decode cX11_text 43 = .ok (.invokevirtual 275, 3) := by decide +kernel
theorem dX11_text_46 : decode cX11_text 46 = .ok (.aload_n 0, 1) := by decide +kernel
theorem dX11_text_47 : decode cX11_text 47 = .ok (.invokevirtual 271, 3) := by decide +kernel
theorem dX11_text_50 : decode cX11_text 50 = .ok (.ifCond .eq 17, 3) := by decide +kernel
theorem dX11_text_53 : decode cX11_text 53 = .ok (.aload_n 0, 1) := by decide +kernel
theorem dX11_text_54 : decode cX11_text 54 = .ok (.getfield 252, 3) := by decide +kernel
theorem dX11_text_57 : decode cX11_text 57 = .ok (.ifCond .eq 10, 3) := by decide +kernel
theorem dX11_text_60 : decode cX11_text 60 = .ok (.aload_n 0, 1) := by decide +kernel
theorem dX11_text_61 : decode cX11_text 61 = .ok (.invokevirtual 321, 3) := by decide +kernel
theorem dX11_text_64 : decode cX11_text 64 = .ok (.goto (-18), 3) := by decide +kernel
theorem dX11_text_67 : decode cX11_text 67 = .ok (.aload_n 0, 1) := by decide +kernel
theorem dX11_text_68 : decode cX11_text 68 = .ok (.iconst 0, 1) := by decide +kernel
theorem dX11_text_69 : decode cX11_text 69 = .ok (.putfield 41, 3) := by decide +kernel
theorem dX11_text_72 : decode cX11_text 72 = .ok (.aload_n 0, 1) := by decide +kernel
theorem dX11_text_73 : decode cX11_text 73 = .ok (.invokevirtual 271, 3) := by decide +kernel
theorem dX11_text_76 : decode cX11_text 76 = .ok (.ifCond .ne 5, 3) := by decide +kernel
theorem dX11_text_79 : decode cX11_text 79 = .ok (.iconst (-1), 1) := by decide +kernel
theorem dX11_text_80 : decode cX11_text 80 = .ok (.ireturn, 1) := by decide +kernel
theorem dX11_text_81 : decode cX11_text 81 = .ok (.aload_n 0, 1) := by decide +kernel
theorem dX11_text_82 : decode cX11_text 82 = .ok (.sipush 976, 3) := by decide +kernel
theorem dX11_text_85 : decode cX11_text 85 = .ok (.iconst 0, 1) := by decide +kernel
theorem dX11_text_86 : decode cX11_text 86 = .ok (.sipush 976, 3) := by decide +kernel
theorem dX11_text_89 : decode cX11_text 89 = .ok (.invokevirtual 154, 3) := by decide +kernel
theorem dX11_text_92 : decode cX11_text 92 = .ok (.aload_n 0, 1) := by decide +kernel
theorem dX11_text_93 : decode cX11_text 93 = .ok (.iconst 0, 1) := by decide +kernel
theorem dX11_text_94 : decode cX11_text 94 = .ok (.putfield 151, 3) := by decide +kernel
theorem dX11_text_97 : decode cX11_text 97 = .ok (.aload_n 0, 1) := by decide +kernel
theorem dX11_text_98 : decode cX11_text 98 = .ok (.invokevirtual 119, 3) := by decide +kernel
theorem dX11_text_101 : decode cX11_text 101 = .ok (.ireturn, 1) := by decide +kernel
theorem dX11_image_0 : decode cX11_image 0 = .ok (.iload_n 1, 1) := by decide +kernel
theorem dX11_image_1 : decode cX11_image 1 = .ok (.iconst 0, 1) := by decide +kernel
theorem dX11_image_2 : decode cX11_image 2 = .ok (.iconst 2, 1) := by decide +kernel
theorem dX11_image_3 : decode cX11_image 3 = .ok (.invokestatic 37, 3) := by decide +kernel
theorem dX11_image_6 : decode cX11_image 6 = .ok (.ifCond .ne 5, 3) := by decide +kernel
theorem dX11_image_9 : decode cX11_image 9 = .ok (.iconst 0, 1) := by decide +kernel
theorem dX11_image_10 : decode cX11_image 10 = .ok (.ireturn, 1) := by decide +kernel
theorem dX11_image_11 : decode cX11_image 11 = .ok (.sipush 13664, 3) := by decide +kernel
theorem dX11_image_14 : decode cX11_image 14 = .ok (.sipush 2180, 3) := by decide +kernel
theorem dX11_image_17 : decode cX11_image 17 = .ok (.iload_n 1, 1) := by decide +kernel
theorem dX11_image_18 : decode cX11_image 18 = .ok (.imul, 1) := by decide +kernel
theorem dX11_image_19 : decode cX11_image 19 = .ok (.iadd, 1) := by decide +kernel
theorem dX11_image_20 : decode cX11_image 20 = .ok (.istore_n 2, 1) := by decide +kernel
theorem dX11_image_21 : decode cX11_image 21 = .ok (.aload_n 0, 1) := by decide +kernel
theorem dX11_image_22 : decode cX11_image 22 = .ok (.iconst 0, 1) := by decide +kernel
theorem dX11_image_23 : decode cX11_image 23 = .ok (.iload_n 2, 1) := by decide +kernel
theorem dX11_image_24 : decode cX11_image 24 = .ok (.sipush 976, 3) := by decide +kernel
theorem dX11_image_27 : decode cX11_image 27 = .ok (.invokevirtual 154, 3) := by decide +kernel
theorem dX11_image_30 : decode cX11_image 30 = .ok (.iconst 0, 1) := by decide +kernel
theorem dX11_image_31 : decode cX11_image 31 = .ok (.istore_n 3, 1) := by decide +kernel
theorem dX11_image_32 : decode cX11_image 32 = .ok (.iload_n 3, 1) := by decide +kernel
theorem dX11_image_33 : decode cX11_image 33 = .ok (.sipush 800, 3) := by decide +kernel
theorem dX11_image_36 : decode cX11_image 36 = .ok (.if_icmp .ge 27, 3) := by decide +kernel
theorem dX11_image_39 : decode cX11_image 39 = .ok (.aload_n 0, 1) := by decide +kernel
theorem dX11_image_40 : decode cX11_image 40 = .ok (.getfield 7, 3) := by decide +kernel
theorem dX11_image_43 : decode cX11_image 43 = .ok (.iload_n 2, 1) := by decide +kernel
theorem dX11_image_44 : decode cX11_image 44 = .ok (.sipush 976, 3) := by decide +kernel
theorem dX11_image_47 : decode cX11_image 47 = .ok (.iadd, 1) := by decide +kernel
theorem dX11_image_48 : decode cX11_image 48 = .ok (.iload_n 3, 1) := by decide +kernel
theorem dX11_image_49 : decode cX11_image 49 = .ok (.iadd, 1) := by decide +kernel
theorem dX11_image_50 : decode cX11_image 50 = .ok (.aload_n 0, 1) := by decide +kernel
theorem dX11_image_51 : decode cX11_image 51 = .ok (.getfield 13, 3) := by decide +kernel
theorem dX11_image_54 : decode cX11_image 54 = .ok (.iload_n 3, 1) := by decide +kernel
theorem dX11_image_55 : decode cX11_image 55 = .ok (.iaload, 1) := by decide +kernel
theorem dX11_image_56 : decode cX11_image 56 = .ok (.iastore, 1) := by decide +kernel
theorem dX11_image_57 : decode cX11_image 57 = .ok (.iinc 3 1, 3) := by decide +kernel
theorem dX11_image_60 : decode cX11_image 60 = .ok (.goto (-28), 3) := by decide +kernel
theorem dX11_image_63 : decode cX11_image 63 = .ok (.iconst 0, 1) := by decide +kernel
theorem dX11_image_64 : decode cX11_image 64 = .ok (.istore_n 3, 1) := by decide +kernel
theorem dX11_image_65 : decode cX11_image 65 = .ok (.iload_n 3, 1) := by decide +kernel
theorem dX11_image_66 : decode cX11_image 66 = .ok (.sipush 400, 3) := by decide +kernel
theorem dX11_image_69 : decode cX11_image 69 = .ok (.if_icmp .ge 31, 3) := by decide +kernel
theorem dX11_image_72 : decode cX11_image 72 = .ok (.aload_n 0, 1) := by decide +kernel
theorem dX11_image_73 : decode cX11_image 73 = .ok (.getfield 7, 3) := by decide +kernel
theorem dX11_image_76 : decode cX11_image 76 = .ok (.iload_n 2, 1) := by decide +kernel
theorem dX11_image_77 : decode cX11_image 77 = .ok (.sipush 976, 3) := by decide +kernel
theorem dX11_image_80 : decode cX11_image 80 = .ok (.iadd, 1) := by decide +kernel
theorem dX11_image_81 : decode cX11_image 81 = .ok (.sipush 800, 3) := by decide +kernel
theorem dX11_image_84 : decode cX11_image 84 = .ok (.iadd, 1) := by decide +kernel
theorem dX11_image_85 : decode cX11_image 85 = .ok (.iload_n 3, 1) := by decide +kernel
theorem dX11_image_86 : decode cX11_image 86 = .ok (.iadd, 1) := by decide +kernel
theorem dX11_image_87 : decode cX11_image 87 = .ok (.aload_n 0, 1) := by decide +kernel
theorem dX11_image_88 : decode cX11_image 88 = .ok (.getfield 16, 3) := by decide +kernel
theorem dX11_image_91 : decode cX11_image 91 = .ok (.iload_n 3, 1) := by decide +kernel
theorem dX11_image_92 : decode cX11_image 92 = .ok (.iaload, 1) := by decide +kernel
theorem dX11_image_93 : decode cX11_image 93 = .ok (.iastore, 1) := by decide +kernel
theorem dX11_image_94 : decode cX11_image 94 = .ok (.iinc 3 1, 3) := by decide +kernel
theorem dX11_image_97 : decode cX11_image 97 = .ok (.goto (-32), 3) := by decide +kernel
theorem dX11_image_100 : decode cX11_image 100 = .ok (.aload_n 0, 1) := by decide +kernel
theorem dX11_image_101 : decode cX11_image 101 = .ok (.getfield 7, 3) := by decide +kernel
theorem dX11_image_104 : decode cX11_image 104 = .ok (.iload_n 2, 1) := by decide +kernel
theorem dX11_image_105 : decode cX11_image 105 = .ok (.sipush 976, 3) := by decide +kernel
theorem dX11_image_108 : decode cX11_image 108 = .ok (.iadd, 1) := by decide +kernel
theorem dX11_image_109 : decode cX11_image 109 = .ok (.sipush 800, 3) := by decide +kernel
theorem dX11_image_112 : decode cX11_image 112 = .ok (.iadd, 1) := by decide +kernel
theorem dX11_image_113 : decode cX11_image 113 = .ok (.sipush 400, 3) := by decide +kernel
theorem dX11_image_116 : decode cX11_image 116 = .ok (.iadd, 1) := by decide +kernel
theorem dX11_image_117 : decode cX11_image 117 = .ok (.aload_n 0, 1) := by decide +kernel
theorem dX11_image_118 : decode cX11_image 118 = .ok (.getfield 218, 3) := by decide +kernel
theorem dX11_image_121 : decode cX11_image 121 = .ok (.iastore, 1) := by decide +kernel
theorem dX11_image_122 : decode cX11_image 122 = .ok (.aload_n 0, 1) := by decide +kernel
theorem dX11_image_123 : decode cX11_image 123 = .ok (.getfield 7, 3) := by decide +kernel
theorem dX11_image_126 : decode cX11_image 126 = .ok (.iload_n 2, 1) := by decide +kernel
theorem dX11_image_127 : decode cX11_image 127 = .ok (.sipush 976, 3) := by decide +kernel
theorem dX11_image_130 : decode cX11_image 130 = .ok (.iadd, 1) := by decide +kernel
theorem dX11_image_131 : decode cX11_image 131 = .ok (.sipush 800, 3) := by decide +kernel
theorem dX11_image_134 : decode cX11_image 134 = .ok (.iadd, 1) := by decide +kernel
theorem dX11_image_135 : decode cX11_image 135 = .ok (.sipush 401, 3) := by decide +kernel
theorem dX11_image_138 : decode cX11_image 138 = .ok (.iadd, 1) := by decide +kernel
theorem dX11_image_139 : decode cX11_image 139 = .ok (.aload_n 0, 1) := by decide +kernel
theorem dX11_image_140 : decode cX11_image 140 = .ok (.getfield 233, 3) := by decide +kernel
theorem dX11_image_143 : decode cX11_image 143 = .ok (.iastore, 1) := by decide +kernel
theorem dX11_image_144 : decode cX11_image 144 = .ok (.aload_n 0, 1) := by decide +kernel
theorem dX11_image_145 : decode cX11_image 145 = .ok (.getfield 7, 3) := by decide +kernel
theorem dX11_image_148 : decode cX11_image 148 = .ok (.iload_n 2, 1) := by decide +kernel
theorem dX11_image_149 : decode cX11_image 149 = .ok (.sipush 976, 3) := by decide +kernel
theorem dX11_image_152 : decode cX11_image 152 = .ok (.iadd, 1) := by decide +kernel
theorem dX11_image_153 : decode cX11_image 153 = .ok (.sipush 800, 3) := by decide +kernel
theorem dX11_image_156 : decode cX11_image 156 = .ok (.iadd, 1) := by decide +kernel
theorem dX11_image_157 : decode cX11_image 157 = .ok (.sipush 402, 3) := by decide +kernel
theorem dX11_image_160 : decode cX11_image 160 = .ok (.iadd, 1) := by decide +kernel
theorem dX11_image_161 : decode cX11_image 161 = .ok (.aload_n 0, 1) := by decide +kernel
theorem dX11_image_162 : decode cX11_image 162 = .ok (.getfield 23, 3) := by decide +kernel
theorem dX11_image_165 : decode cX11_image 165 = .ok (.iastore, 1) := by decide +kernel
theorem dX11_image_166 : decode cX11_image 166 = .ok (.aload_n 0, 1) := by decide +kernel
theorem dX11_image_167 : decode cX11_image 167 = .ok (.getfield 7, 3) := by decide +kernel
theorem dX11_image_170 : decode cX11_image 170 = .ok (.iload_n 2, 1) := by decide +kernel
theorem dX11_image_171 : decode cX11_image 171 = .ok (.sipush 976, 3) := by decide +kernel
theorem dX11_image_174 : decode cX11_image 174 = .ok (.iadd, 1) := by decide +kernel
theorem dX11_image_175 : decode cX11_image 175 = .ok (.sipush 800, 3) := by decide +kernel
theorem dX11_image_178 : decode cX11_image 178 = .ok (.iadd, 1) := by decide +kernel
theorem dX11_image_179 : decode cX11_image 179 = .ok (.sipush 403, 3) := by decide +kernel
theorem dX11_image_182 : decode cX11_image 182 = .ok (.iadd, 1) := by decide +kernel
theorem dX11_image_183 : decode cX11_image 183 = .ok (.aload_n 0, 1) := by decide +kernel
theorem dX11_image_184 : decode cX11_image 184 = .ok (.getfield 224, 3) := by decide +kernel
theorem dX11_image_187 : decode cX11_image 187 = .ok (.iastore, 1) := by decide +kernel
theorem dX11_image_188 : decode cX11_image 188 = .ok (.aload_n 0, 1) := by decide +kernel
theorem dX11_image_189 : decode cX11_image 189 = .ok (.getfield 19, 3) := by decide +kernel
theorem dX11_image_192 : decode cX11_image 192 = .ok (.iload_n 1, 1) := by decide +kernel
theorem dX11_image_193 : decode cX11_image 193 = .ok (.iconst 1, 1) := by decide +kernel
theorem dX11_image_194 : decode cX11_image 194 = .ok (.bastore, 1) := by decide +kernel
theorem dX11_image_195 : decode cX11_image 195 = .ok (.iconst 1, 1) := by decide +kernel
theorem dX11_image_196 : decode cX11_image 196 = .ok (.ireturn, 1) := by decide +kernel
theorem dX11_again_0 : decode cX11_again 0 = .ok (.iload_n 1, 1) := by decide +kernel
theorem dX11_again_1 : decode cX11_again 1 = .ok (.iconst 0, 1) := by decide +kernel
theorem dX11_again_2 : decode cX11_again 2 = .ok (.iconst 2, 1) := by decide +kernel
theorem dX11_again_3 : decode cX11_again 3 = .ok (.invokestatic 37, 3) := by decide +kernel
theorem dX11_again_6 : decode cX11_again 6 = .ok (.ifCond .eq 12, 3) := by decide +kernel
theorem dX11_again_9 : decode cX11_again 9 = .ok (.aload_n 0, 1) := by decide +kernel
theorem dX11_again_10 : decode cX11_again 10 = .ok (.getfield 19, 3) := by decide +kernel
theorem dX11_again_13 : decode cX11_again 13 = .ok (.iload_n 1, 1) := by decide +kernel
theorem dX11_again_14 : decode cX11_again 14 = .ok (.baload, 1) := by decide +kernel
theorem dX11_again_15 : decode cX11_again 15 = .ok (.ifCond .ne 5, 3) := by decide +kernel
theorem dX11_again_18 : decode cX11_again 18 = .ok (.iconst 0, 1) := by decide +kernel
theorem dX11_again_19 : decode cX11_again 19 = .ok (.ireturn, 1) := by decide +kernel
theorem dX11_again_20 : decode cX11_again 20 = .ok (.sipush 13664, 3) := by decide +kernel
theorem dX11_again_23 : decode cX11_again 23 = .ok (.sipush 2180, 3) := by decide +kernel
theorem dX11_again_26 : decode cX11_again 26 = .ok (.iload_n 1, 1) := by decide +kernel
theorem dX11_again_27 : decode cX11_again 27 = .ok (.imul, 1) := by decide +kernel
theorem dX11_again_28 : decode cX11_again 28 = .ok (.iadd, 1) := by decide +kernel
theorem dX11_again_29 : decode cX11_again 29 = .ok (.istore_n 2, 1) := by decide +kernel
theorem dX11_again_30 : decode cX11_again 30 = .ok (.aload_n 0, 1) := by decide +kernel
theorem dX11_again_31 : decode cX11_again 31 = .ok (.iload_n 2, 1) := by decide +kernel
theorem dX11_again_32 : decode cX11_again 32 = .ok (.iconst 0, 1) := by decide +kernel
theorem dX11_again_33 : decode cX11_again 33 = .ok (.sipush 976, 3) := by decide +kernel
theorem dX11_again_36 : decode cX11_again 36 = .ok (.invokevirtual 154, 3) := by decide +kernel
theorem dX11_again_39 : decode cX11_again 39 = .ok (.iconst 0, 1) := by decide +kernel
theorem dX11_again_40 : decode cX11_again 40 = .ok (.istore_n 3, 1) := by decide +kernel
theorem dX11_again_41 : decode cX11_again 41 = .ok (.iload_n 3, 1) := by decide +kernel
theorem dX11_again_42 : decode cX11_again 42 = .ok (.sipush 800, 3) := by decide +kernel
theorem dX11_again_45 : decode cX11_again 45 = .ok (.if_icmp .ge 27, 3) := by decide +kernel
theorem dX11_again_48 : decode cX11_again 48 = .ok (.aload_n 0, 1) := by decide +kernel
theorem dX11_again_49 : decode cX11_again 49 = .ok (.getfield 13, 3) := by decide +kernel
theorem dX11_again_52 : decode cX11_again 52 = .ok (.iload_n 3, 1) := by decide +kernel
theorem dX11_again_53 : decode cX11_again 53 = .ok (.aload_n 0, 1) := by decide +kernel
theorem dX11_again_54 : decode cX11_again 54 = .ok (.getfield 7, 3) := by decide +kernel
theorem dX11_again_57 : decode cX11_again 57 = .ok (.iload_n 2, 1) := by decide +kernel
theorem dX11_again_58 : decode cX11_again 58 = .ok (.sipush 976, 3) := by decide +kernel
theorem dX11_again_61 : decode cX11_again 61 = .ok (.iadd, 1) := by decide +kernel
theorem dX11_again_62 : decode cX11_again 62 = .ok (.iload_n 3, 1) := by decide +kernel
theorem dX11_again_63 : decode cX11_again 63 = .ok (.iadd, 1) := by decide +kernel
theorem dX11_again_64 : decode cX11_again 64 = .ok (.iaload, 1) := by decide +kernel
theorem dX11_again_65 : decode cX11_again 65 = .ok (.iastore, 1) := by decide +kernel
theorem dX11_again_66 : decode cX11_again 66 = .ok (.iinc 3 1, 3) := by decide +kernel
theorem dX11_again_69 : decode cX11_again 69 = .ok (.goto (-28), 3) := by decide +kernel
theorem dX11_again_72 : decode cX11_again 72 = .ok (.iconst 0, 1) := by decide +kernel
theorem dX11_again_73 : decode cX11_again 73 = .ok (.istore_n 3, 1) := by decide +kernel
theorem dX11_again_74 : decode cX11_again 74 = .ok (.iload_n 3, 1) := by decide +kernel
theorem dX11_again_75 : decode cX11_again 75 = .ok (.sipush 400, 3) := by decide +kernel
theorem dX11_again_78 : decode cX11_again 78 = .ok (.if_icmp .ge 31, 3) := by decide +kernel
theorem dX11_again_81 : decode cX11_again 81 = .ok (.aload_n 0, 1) := by decide +kernel
theorem dX11_again_82 : decode cX11_again 82 = .ok (.getfield 16, 3) := by decide +kernel
theorem dX11_again_85 : decode cX11_again 85 = .ok (.iload_n 3, 1) := by decide +kernel
theorem dX11_again_86 : decode cX11_again 86 = .ok (.aload_n 0, 1) := by decide +kernel
theorem dX11_again_87 : decode cX11_again 87 = .ok (.getfield 7, 3) := by decide +kernel
theorem dX11_again_90 : decode cX11_again 90 = .ok (.iload_n 2, 1) := by decide +kernel
theorem dX11_again_91 : decode cX11_again 91 = .ok (.sipush 976, 3) := by decide +kernel
theorem dX11_again_94 : decode cX11_again 94 = .ok (.iadd, 1) := by decide +kernel
theorem dX11_again_95 : decode cX11_again 95 = .ok (.sipush 800, 3) := by decide +kernel
theorem dX11_again_98 : decode cX11_again 98 = .ok (.iadd, 1) := by decide +kernel
theorem dX11_again_99 : decode cX11_again 99 = .ok (.iload_n 3, 1) := by decide +kernel
theorem dX11_again_100 : decode cX11_again 100 = .ok (.iadd, 1) := by decide +kernel
theorem dX11_again_101 : decode cX11_again 101 = .ok (.iaload, 1) := by decide +kernel
theorem dX11_again_102 : decode cX11_again 102 = .ok (.iastore, 1) := by decide +kernel
theorem dX11_again_103 : decode cX11_again 103 = .ok (.iinc 3 1, 3) := by decide +kernel
theorem dX11_again_106 : decode cX11_again 106 = .ok (.goto (-32), 3) := by decide +kernel
theorem dX11_again_109 : decode cX11_again 109 = .ok (.aload_n 0, 1) := by decide +kernel
theorem dX11_again_110 : decode cX11_again 110 = .ok (.aload_n 0, 1) := by decide +kernel
theorem dX11_again_111 : decode cX11_again 111 = .ok (.getfield 7, 3) := by decide +kernel
theorem dX11_again_114 : decode cX11_again 114 = .ok (.iload_n 2, 1) := by decide +kernel
theorem dX11_again_115 : decode cX11_again 115 = .ok (.sipush 976, 3) := by decide +kernel
theorem dX11_again_118 : decode cX11_again 118 = .ok (.iadd, 1) := by decide +kernel
theorem dX11_again_119 : decode cX11_again 119 = .ok (.sipush 800, 3) := by decide +kernel
theorem dX11_again_122 : decode cX11_again 122 = .ok (.iadd, 1) := by decide +kernel
theorem dX11_again_123 : decode cX11_again 123 = .ok (.sipush 400, 3) := by decide +kernel
theorem dX11_again_126 : decode cX11_again 126 = .ok (.iadd, 1) := by decide +kernel
theorem dX11_again_127 : decode cX11_again 127 = .ok (.iaload, 1) := by decide +kernel
theorem dX11_again_128 : decode cX11_again 128 = .ok (.putfield 218, 3) := by decide +kernel
theorem dX11_again_131 : decode cX11_again 131 = .ok (.aload_n 0, 1) := by decide +kernel
theorem dX11_again_132 : decode cX11_again 132 = .ok (.aload_n 0, 1) := by decide +kernel
theorem dX11_again_133 : decode cX11_again 133 = .ok (.getfield 7, 3) := by decide +kernel
theorem dX11_again_136 : decode cX11_again 136 = .ok (.iload_n 2, 1) := by decide +kernel
theorem dX11_again_137 : decode cX11_again 137 = .ok (.sipush 976, 3) := by decide +kernel
theorem dX11_again_140 : decode cX11_again 140 = .ok (.iadd, 1) := by decide +kernel
theorem dX11_again_141 : decode cX11_again 141 = .ok (.sipush 800, 3) := by decide +kernel
theorem dX11_again_144 : decode cX11_again 144 = .ok (.iadd, 1) := by decide +kernel
theorem dX11_again_145 : decode cX11_again 145 = .ok (.sipush 401, 3) := by decide +kernel
theorem dX11_again_148 : decode cX11_again 148 = .ok (.iadd, 1) := by decide +kernel
theorem dX11_again_149 : decode cX11_again 149 = .ok (.iaload, 1) := by decide +kernel
theorem dX11_again_150 : decode cX11_again 150 = .ok (.putfield 233, 3) := by decide +kernel
theorem dX11_again_153 : decode cX11_again 153 = .ok (.aload_n 0, 1) := by decide +kernel
theorem dX11_again_154 : decode cX11_again 154 = .ok (.aload_n 0, 1) := by decide +kernel
theorem dX11_again_155 : decode cX11_again 155 = .ok (.getfield 7, 3) := by decide +kernel
theorem dX11_again_158 : decode cX11_again 158 = .ok (.iload_n 2, 1) := by decide +kernel
theorem dX11_again_159 : decode cX11_again 159 = .ok (.sipush 976, 3) := by decide +kernel
theorem dX11_again_162 : decode cX11_again 162 = .ok (.iadd, 1) := by decide +kernel
theorem dX11_again_163 : decode cX11_again 163 = .ok (.sipush 800, 3) := by decide +kernel
theorem dX11_again_166 : decode cX11_again 166 = .ok (.iadd, 1) := by decide +kernel
theorem dX11_again_167 : decode cX11_again 167 = .ok (.sipush 402, 3) := by decide +kernel
theorem dX11_again_170 : decode cX11_again 170 = .ok (.iadd, 1) := by decide +kernel
theorem dX11_again_171 : decode cX11_again 171 = .ok (.iaload, 1) := by decide +kernel
theorem dX11_again_172 : decode cX11_again 172 = .ok (.putfield 23, 3) := by decide +kernel
theorem dX11_again_175 : decode cX11_again 175 = .ok (.aload_n 0, 1) := by decide +kernel
theorem dX11_again_176 : decode cX11_again 176 = .ok (.aload_n 0, 1) := by decide +kernel
theorem dX11_again_177 : decode cX11_again 177 = .ok (.getfield 7, 3) := by decide +kernel
theorem dX11_again_180 : decode cX11_again 180 = .ok (.iload_n 2, 1) := by decide +kernel
theorem dX11_again_181 : decode cX11_again 181 = .ok (.sipush 976, 3) := by decide +kernel
theorem dX11_again_184 : decode cX11_again 184 = .ok (.iadd, 1) := by decide +kernel
theorem dX11_again_185 : decode cX11_again 185 = .ok (.sipush 800, 3) := by decide +kernel
theorem dX11_again_188 : decode cX11_again 188 = .ok (.iadd, 1) := by decide +kernel
theorem dX11_again_189 : decode cX11_again 189 = .ok (.sipush 403, 3) := by decide +kernel
theorem dX11_again_192 : decode cX11_again 192 = .ok (.iadd, 1) := by decide +kernel
theorem dX11_again_193 : decode cX11_again 193 = .ok (.iaload, 1) := by decide +kernel
theorem dX11_again_194 : decode cX11_again 194 = .ok (.putfield 224, 3) := by decide +kernel
theorem dX11_again_197 : decode cX11_again 197 = .ok (.aload_n 0, 1) := by decide +kernel
theorem dX11_again_198 : decode cX11_again 198 = .ok (.iconst 0, 1) := by decide +kernel
theorem dX11_again_199 : decode cX11_again 199 = .ok (.putfield 151, 3) := by decide +kernel
theorem dX11_again_202 : decode cX11_again 202 = .ok (.iconst 1, 1) := by decide +kernel
theorem dX11_again_203 : decode cX11_again 203 = .ok (.ireturn, 1) := by decide +kernel
