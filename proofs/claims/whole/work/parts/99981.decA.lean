theorem dX0_init_0 : decode cX0_init 0 = .ok (.aload_n 0, 1) := by decide +kernel
theorem dX0_init_1 : decode cX0_init 1 = .ok (.invokespecial 3, 3) := by decide +kernel
theorem dX0_init_4 : decode cX0_init 4 = .ok (.aload_n 0, 1) := by decide +kernel
theorem dX0_init_5 : decode cX0_init 5 = .ok (.bipush 60, 2) := by decide +kernel
theorem dX0_init_7 : decode cX0_init 7 = .ok (.newarray .int, 2) := by decide +kernel
theorem dX0_init_9 : decode cX0_init 9 = .ok (.putfield 9, 3) := by decide +kernel
theorem dX0_init_12 : decode cX0_init 12 = .ok (.aload_n 0, 1) := by decide +kernel
theorem dX0_init_13 : decode cX0_init 13 = .ok (.iconst 0, 1) := by decide +kernel
theorem dX0_init_14 : decode cX0_init 14 = .ok (.putfield 15, 3) := by decide +kernel
theorem dX0_init_17 : decode cX0_init 17 = .ok (.aload_n 0, 1) := by decide +kernel
theorem dX0_init_18 : decode cX0_init 18 = .ok (.iconst (-1), 1) := by decide +kernel
theorem dX0_init_19 : decode cX0_init 19 = .ok (.putfield 19, 3) := by decide +kernel
theorem dX0_init_22 : decode cX0_init 22 = .ok (.return_, 1) := by decide +kernel
theorem dX0_empty_0 : decode cX0_empty 0 = .ok (.aload_n 0, 1) := by decide +kernel
theorem dX0_empty_1 : decode cX0_empty 1 = .ok (.iconst 0, 1) := by decide +kernel
theorem dX0_empty_2 : decode cX0_empty 2 = .ok (.putfield 15, 3) := by decide +kernel
theorem dX0_empty_5 : decode cX0_empty 5 = .ok (.aload_n 0, 1) := by decide +kernel
theorem dX0_empty_6 : decode cX0_empty 6 = .ok (.iconst (-1), 1) := by decide +kernel
theorem dX0_empty_7 : decode cX0_empty 7 = .ok (.putfield 19, 3) := by decide +kernel
theorem dX0_empty_10 : decode cX0_empty 10 = .ok (.return_, 1) := by decide +kernel
theorem dX0_keyAt_0 : decode cX0_keyAt 0 = .ok (.iload_n 1, 1) := by decide +kernel
theorem dX0_keyAt_1 : decode cX0_keyAt 1 = .ok (.ifCond .lt 22, 3) := by decide +kernel
theorem dX0_keyAt_4 : decode cX0_keyAt 4 = .ok (.iload_n 1, 1) := by decide +kernel
theorem dX0_keyAt_5 : decode cX0_keyAt 5 = .ok (.aload_n 0, 1) := by decide +kernel
theorem dX0_keyAt_6 : decode cX0_keyAt 6 = .ok (.getfield 15, 3) := by decide +kernel
theorem dX0_keyAt_9 : decode cX0_keyAt 9 = .ok (.if_icmp .ge 14, 3) := by decide +kernel
theorem dX0_keyAt_12 : decode cX0_keyAt 12 = .ok (.aload_n 0, 1) := by decide +kernel
theorem dX0_keyAt_13 : decode cX0_keyAt 13 = .ok (.getfield 9, 3) := by decide +kernel
theorem dX0_keyAt_16 : decode cX0_keyAt 16 = .ok (.iload_n 1, 1) := by decide +kernel
theorem dX0_keyAt_17 : decode cX0_keyAt 17 = .ok (.iaload, 1) := by decide +kernel
theorem dX0_keyAt_18 : decode cX0_keyAt 18 = .ok (.iconst 1, 1) := by decide +kernel
theorem dX0_keyAt_19 : decode cX0_keyAt 19 = .ok (.ishr, 1) := by decide +kernel
theorem dX0_keyAt_20 : decode cX0_keyAt 20 = .ok (.goto 4, 3) := by decide +kernel
theorem dX0_keyAt_23 : decode cX0_keyAt 23 = .ok (.iconst (-1), 1) := by decide +kernel
theorem dX0_keyAt_24 : decode cX0_keyAt 24 = .ok (.ireturn, 1) := by decide +kernel
theorem dX0_markAt_0 : decode cX0_markAt 0 = .ok (.iload_n 1, 1) := by decide +kernel
theorem dX0_markAt_1 : decode cX0_markAt 1 = .ok (.ifCond .lt 22, 3) := by decide +kernel
theorem dX0_markAt_4 : decode cX0_markAt 4 = .ok (.iload_n 1, 1) := by decide +kernel
theorem dX0_markAt_5 : decode cX0_markAt 5 = .ok (.aload_n 0, 1) := by decide +kernel
theorem dX0_markAt_6 : decode cX0_markAt 6 = .ok (.getfield 15, 3) := by decide +kernel
theorem dX0_markAt_9 : decode cX0_markAt 9 = .ok (.if_icmp .ge 14, 3) := by decide +kernel
theorem dX0_markAt_12 : decode cX0_markAt 12 = .ok (.aload_n 0, 1) := by decide +kernel
theorem dX0_markAt_13 : decode cX0_markAt 13 = .ok (.getfield 9, 3) := by decide +kernel
theorem dX0_markAt_16 : decode cX0_markAt 16 = .ok (.iload_n 1, 1) := by decide +kernel
theorem dX0_markAt_17 : decode cX0_markAt 17 = .ok (.iaload, 1) := by decide +kernel
theorem dX0_markAt_18 : decode cX0_markAt 18 = .ok (.iconst 1, 1) := by decide +kernel
theorem dX0_markAt_19 : decode cX0_markAt 19 = .ok (.iand, 1) := by decide +kernel
theorem dX0_markAt_20 : decode cX0_markAt 20 = .ok (.goto 4, 3) := by decide +kernel
theorem dX0_markAt_23 : decode cX0_markAt 23 = .ok (.iconst 0, 1) := by decide +kernel
theorem dX0_markAt_24 : decode cX0_markAt 24 = .ok (.ireturn, 1) := by decide +kernel
theorem dX0_below_0 : decode cX0_below 0 = .ok (.iconst 0, 1) := by decide +kernel
theorem dX0_below_1 : decode cX0_below 1 = .ok (.istore_n 2, 1) := by decide +kernel
theorem dX0_below_2 : decode cX0_below 2 = .ok (.iload_n 2, 1) := by decide +kernel
theorem dX0_below_3 : decode cX0_below 3 = .ok (.aload_n 0, 1) := by decide +kernel
theorem dX0_below_4 : decode cX0_below 4 = .ok (.getfield 15, 3) := by decide +kernel
theorem dX0_below_7 : decode cX0_below 7 = .ok (.if_icmp .ge 21, 3) := by decide +kernel
theorem dX0_below_10 : decode cX0_below 10 = .ok (.aload_n 0, 1) := by decide +kernel
theorem dX0_below_11 : decode cX0_below 11 = .ok (.getfield 9, 3) := by decide +kernel
theorem dX0_below_14 : decode cX0_below 14 = .ok (.iload_n 2, 1) := by decide +kernel
theorem dX0_below_15 : decode cX0_below 15 = .ok (.iaload, 1) := by decide +kernel
theorem dX0_below_16 : decode cX0_below 16 = .ok (.iconst 1, 1) := by decide +kernel
theorem dX0_below_17 : decode cX0_below 17 = .ok (.ishr, 1) := by decide +kernel
theorem dX0_below_18 : decode cX0_below 18 = .ok (.iload_n 1, 1) := by decide +kernel
theorem dX0_below_19 : decode cX0_below 19 = .ok (.if_icmp .ge 9, 3) := by decide +kernel
theorem dX0_below_22 : decode cX0_below 22 = .ok (.iinc 2 1, 3) := by decide +kernel
theorem dX0_below_25 : decode cX0_below 25 = .ok (.goto (-23), 3) := by decide +kernel
theorem dX0_below_28 : decode cX0_below 28 = .ok (.iload_n 2, 1) := by decide +kernel
theorem dX0_below_29 : decode cX0_below 29 = .ok (.ireturn, 1) := by decide +kernel
theorem dX0_notAbove_0 : decode cX0_notAbove 0 = .ok (.iconst 0, 1) := by decide +kernel
theorem dX0_notAbove_1 : decode cX0_notAbove 1 = .ok (.istore_n 2, 1) := by decide +kernel
theorem dX0_notAbove_2 : decode cX0_notAbove 2 = .ok (.iload_n 2, 1) := by decide +kernel
theorem dX0_notAbove_3 : decode cX0_notAbove 3 = .ok (.aload_n 0, 1) := by decide +kernel
theorem dX0_notAbove_4 : decode cX0_notAbove 4 = .ok (.getfield 15, 3) := by decide +kernel
theorem dX0_notAbove_7 : decode cX0_notAbove 7 = .ok (.if_icmp .ge 21, 3) := by decide +kernel
theorem dX0_notAbove_10 : decode cX0_notAbove 10 = .ok (.aload_n 0, 1) := by decide +kernel
theorem dX0_notAbove_11 : decode cX0_notAbove 11 = .ok (.getfield 9, 3) := by decide +kernel
theorem dX0_notAbove_14 : decode cX0_notAbove 14 = .ok (.iload_n 2, 1) := by decide +kernel
theorem dX0_notAbove_15 : decode cX0_notAbove 15 = .ok (.iaload, 1) := by decide +kernel
theorem dX0_notAbove_16 : decode cX0_notAbove 16 = .ok (.iconst 1, 1) := by decide +kernel
theorem dX0_notAbove_17 : decode cX0_notAbove 17 = .ok (.ishr, 1) := by decide +kernel
theorem dX0_notAbove_18 : decode cX0_notAbove 18 = .ok (.iload_n 1, 1) := by decide +kernel
theorem dX0_notAbove_19 : decode cX0_notAbove 19 = .ok (.if_icmp .gt 9, 3) := by decide +kernel
theorem dX0_notAbove_22 : decode cX0_notAbove 22 = .ok (.iinc 2 1, 3) := by decide +kernel
theorem dX0_notAbove_25 : decode cX0_notAbove 25 = .ok (.goto (-23), 3) := by decide +kernel
theorem dX0_notAbove_28 : decode cX0_notAbove 28 = .ok (.iload_n 2, 1) := by decide +kernel
theorem dX0_notAbove_29 : decode cX0_notAbove 29 = .ok (.ireturn, 1) := by decide +kernel
theorem dX0_rankOf_0 : decode cX0_rankOf 0 = .ok (.aload_n 0, 1) := by decide +kernel
theorem dX0_rankOf_1 : decode cX0_rankOf 1 = .ok (.iload_n 1, 1) := by decide +kernel
theorem dX0_rankOf_2 : decode cX0_rankOf 2 = .ok (.invokevirtual 22, 3) := by decide +kernel
theorem dX0_rankOf_5 : decode cX0_rankOf 5 = .ok (.istore_n 2, 1) := by decide +kernel
theorem dX0_rankOf_6 : decode cX0_rankOf 6 = .ok (.iload_n 2, 1) := by decide +kernel
theorem dX0_rankOf_7 : decode cX0_rankOf 7 = .ok (.aload_n 0, 1) := by decide +kernel
theorem dX0_rankOf_8 : decode cX0_rankOf 8 = .ok (.getfield 15, 3) := by decide +kernel
theorem dX0_rankOf_11 : decode cX0_rankOf 11 = .ok (.if_icmp .ge 19, 3) := by decide +kernel
theorem dX0_rankOf_14 : decode cX0_rankOf 14 = .ok (.aload_n 0, 1) := by decide +kernel
theorem dX0_rankOf_15 : decode cX0_rankOf 15 = .ok (.getfield 9, 3) := by decide +kernel
theorem dX0_rankOf_18 : decode cX0_rankOf 18 = .ok (.iload_n 2, 1) := by decide +kernel
theorem dX0_rankOf_19 : decode cX0_rankOf 19 = .ok (.iaload, 1) := by decide +kernel
theorem dX0_rankOf_20 : decode cX0_rankOf 20 = .ok (.iconst 1, 1) := by decide +kernel
theorem dX0_rankOf_21 : decode cX0_rankOf 21 = .ok (.ishr, 1) := by decide +kernel
theorem dX0_rankOf_22 : decode cX0_rankOf 22 = .ok (.iload_n 1, 1) := by decide +kernel
theorem dX0_rankOf_23 : decode cX0_rankOf 23 = .ok (.if_icmp .ne 7, 3) := by decide +kernel
theorem dX0_rankOf_26 : decode cX0_rankOf 26 = .ok (.iload_n 2, 1) := by decide +kernel
theorem dX0_rankOf_27 : decode cX0_rankOf 27 = .ok (.goto 4, 3) := by decide +kernel
theorem dX0_rankOf_30 : decode cX0_rankOf 30 = .ok (.iconst (-1), 1) := by decide +kernel
theorem dX0_rankOf_31 : decode cX0_rankOf 31 = .ok (.ireturn, 1) := by decide +kernel
theorem dX0_howManyBetween_0 : decode cX0_howManyBetween 0 = .ok (.iconst 0, 1) := by decide +kernel
theorem dX0_howManyBetween_1 : decode cX0_howManyBetween 1 = .ok (.aload_n 0, 1) := by decide +kernel
theorem dX0_howManyBetween_2 : decode cX0_howManyBetween 2 = .ok (.iload_n 2, 1) := by decide +kernel
theorem dX0_howManyBetween_3 : decode cX0_howManyBetween 3 = .ok (.invokevirtual 26, 3) := by decide +kernel
theorem dX0_howManyBetween_6 : decode cX0_howManyBetween 6 = .ok (.aload_n 0, 1) := by decide +kernel
theorem dX0_howManyBetween_7 : decode cX0_howManyBetween 7 = .ok (.iload_n 1, 1) := by decide +kernel
theorem dX0_howManyBetween_8 : decode cX0_howManyBetween 8 = .ok (.invokevirtual 22, 3) := by decide +kernel
theorem dX0_howManyBetween_11 : decode cX0_howManyBetween 11 = .ok (.isub, 1) := by decide +kernel
theorem dX0_howManyBetween_12 : decode cX0_howManyBetween 12 = .ok (.invokestatic 29, 3) := by decide +kernel
theorem dX0_howManyBetween_15 : decode cX0_howManyBetween 15 = .ok (.ireturn, 1) := by decide +kernel
theorem dX0_markedBetween_0 : decode cX0_markedBetween 0 = .ok (.aload_n 0, 1) := by decide +kernel
theorem dX0_markedBetween_1 : decode cX0_markedBetween 1 = .ok (.iload_n 2, 1) := by decide +kernel
theorem dX0_markedBetween_2 : decode cX0_markedBetween 2 = .ok (.invokevirtual 26, 3) := by decide +kernel
theorem dX0_markedBetween_5 : decode cX0_markedBetween 5 = .ok (.istore_n 3, 1) := by decide +kernel
theorem dX0_markedBetween_6 : decode cX0_markedBetween 6 = .ok (.iconst 0, 1) := by decide +kernel
theorem dX0_markedBetween_7 : decode cX0_markedBetween 7 = .ok (.istore 4, 2) := by decide +kernel
theorem dX0_markedBetween_9 : decode cX0_markedBetween 9 = .ok (.aload_n 0, 1) := by decide +kernel
theorem dX0_markedBetween_10 : decode cX0_markedBetween 10 = .ok (.iload_n 1, 1) := by decide +kernel
theorem dX0_markedBetween_11 : decode cX0_markedBetween 11 = .ok (.invokevirtual 22, 3) := by decide +kernel
theorem dX0_markedBetween_14 : decode cX0_markedBetween 14 = .ok (.istore 5, 2) := by decide +kernel
theorem dX0_markedBetween_16 : decode cX0_markedBetween 16 = .ok (.iload 5, 2) := by decide +kernel
theorem dX0_markedBetween_18 : decode cX0_markedBetween 18 = .ok (.iload_n 3, 1) := by decide +kernel
theorem dX0_markedBetween_19 : decode cX0_markedBetween 19 = .ok (.if_icmp .ge 20, 3) := by decide +kernel
theorem dX0_markedBetween_22 : decode cX0_markedBetween 22 = .ok (.iload 4, 2) := by decide +kernel
theorem dX0_markedBetween_24 : decode cX0_markedBetween 24 = .ok (.aload_n 0, 1) := by decide +kernel
theorem dX0_markedBetween_25 : decode cX0_markedBetween 25 = .ok (.iload 5, 2) := by decide +kernel
theorem dX0_markedBetween_27 : decode cX0_markedBetween 27 = .ok (.invokevirtual 35, 3) := by decide +kernel
theorem dX0_markedBetween_30 : decode cX0_markedBetween 30 = .ok (.iadd, 1) := by decide +kernel
theorem dX0_markedBetween_31 : decode cX0_markedBetween 31 = .ok (.istore 4, 2) := by decide +kernel
theorem dX0_markedBetween_33 : decode cX0_markedBetween 33 = .ok (.iinc 5 1, 3) := by decide +kernel
theorem dX0_markedBetween_36 : decode cX0_markedBetween 36 = .ok (.goto (-20), 3) := by decide +kernel
theorem dX0_markedBetween_39 : decode cX0_markedBetween 39 = .ok (.iload 4, 2) := by decide +kernel
theorem dX0_markedBetween_41 : decode cX0_markedBetween 41 = .ok (.ireturn, 1) := by decide +kernel
theorem dX0_leastDifference_0 : decode cX0_leastDifference 0 = .ok (.iconst (-1), 1) := by decide +kernel
theorem dX0_leastDifference_1 : decode cX0_leastDifference 1 = .ok (.istore_n 1, 1) := by decide +kernel
theorem dX0_leastDifference_2 : decode cX0_leastDifference 2 = .ok (.iconst 1, 1) := by decide +kernel
theorem dX0_leastDifference_3 : decode cX0_leastDifference 3 = .ok (.istore_n 2, 1) := by decide +kernel
theorem dX0_leastDifference_4 : decode cX0_leastDifference 4 = .ok (.iload_n 2, 1) := by decide +kernel
theorem dX0_leastDifference_5 : decode cX0_leastDifference 5 = .ok (.aload_n 0, 1) := by decide +kernel
theorem dX0_leastDifference_6 : decode cX0_leastDifference 6 = .ok (.getfield 15, 3) := by decide +kernel
theorem dX0_leastDifference_9 : decode cX0_leastDifference 9 = .ok (.if_icmp .ge 38, 3) := by decide +kernel
theorem dX0_leastDifference_12 : decode cX0_leastDifference 12 = .ok (.aload_n 0, 1) := by decide +kernel
theorem dX0_leastDifference_13 : decode cX0_leastDifference 13 = .ok (.iload_n 2, 1) := by decide +kernel
theorem dX0_leastDifference_14 : decode cX0_leastDifference 14 = .ok (.invokevirtual 38, 3) := by decide +kernel
theorem dX0_leastDifference_17 : decode cX0_leastDifference 17 = .ok (.aload_n 0, 1) := by decide +kernel
theorem dX0_leastDifference_18 : decode cX0_leastDifference 18 = .ok (.iload_n 2, 1) := by decide +kernel
theorem dX0_leastDifference_19 : decode cX0_leastDifference 19 = .ok (.iconst 1, 1) := by decide +kernel
theorem dX0_leastDifference_20 : decode cX0_leastDifference 20 = .ok (.isub, 1) := by decide +kernel
theorem dX0_leastDifference_21 : decode cX0_leastDifference 21 = .ok (.invokevirtual 38, 3) := by decide +kernel
theorem dX0_leastDifference_24 : decode cX0_leastDifference 24 = .ok (.isub, 1) := by decide +kernel
theorem dX0_leastDifference_25 : decode cX0_leastDifference 25 = .ok (.istore_n 3, 1) := by decide +kernel
theorem dX0_leastDifference_26 : decode cX0_leastDifference 26 = .ok (.iload_n 1, 1) := by decide +kernel
theorem dX0_leastDifference_27 : decode cX0_leastDifference 27 = .ok (.iconst (-1), 1) := by decide +kernel
theorem dX0_leastDifference_28 : decode cX0_leastDifference 28 = .ok (.if_icmp .ne 7, 3) := by decide +kernel
theorem dX0_leastDifference_31 : decode cX0_leastDifference 31 = .ok (.iload_n 3, 1) := by decide +kernel
theorem dX0_leastDifference_32 : decode cX0_leastDifference 32 = .ok (.goto 8, 3) := by decide +kernel
theorem dX0_leastDifference_35 : decode cX0_leastDifference 35 = .ok (.iload_n 1, 1) := by decide +kernel
theorem dX0_leastDifference_36 : decode cX0_leastDifference 36 = .ok (.iload_n 3, 1) := by decide +kernel
theorem dX0_leastDifference_37 : decode cX0_leastDifference 37 = .ok (.invokestatic 41, 3) := by decide +kernel
theorem dX0_leastDifference_40 : decode cX0_leastDifference 40 = .ok (.istore_n 1, 1) := by decide +kernel
theorem dX0_leastDifference_41 : decode cX0_leastDifference 41 = .ok (.iinc 2 1, 3) := by decide +kernel
theorem dX0_leastDifference_44 : decode cX0_leastDifference 44 = .ok (.goto (-40), 3) := by decide +kernel
theorem dX0_leastDifference_47 : decode cX0_leastDifference 47 = .ok (.iload_n 1, 1) := by decide +kernel
theorem dX0_leastDifference_48 : decode cX0_leastDifference 48 = .ok (.ireturn, 1) := by decide +kernel
theorem dX0_stretches_0 : decode cX0_stretches 0 = .ok (.iconst 0, 1) := by decide +kernel
theorem dX0_stretches_1 : decode cX0_stretches 1 = .ok (.istore_n 1, 1) := by decide +kernel
theorem dX0_stretches_2 : decode cX0_stretches 2 = .ok (.iconst 0, 1) := by decide +kernel
theorem dX0_stretches_3 : decode cX0_stretches 3 = .ok (.istore_n 2, 1) := by decide +kernel
theorem dX0_stretches_4 : decode cX0_stretches 4 = .ok (.iload_n 2, 1) := by decide +kernel
theorem dX0_stretches_5 : decode cX0_stretches 5 = .ok (.aload_n 0, 1) := by decide +kernel
theorem dX0_stretches_6 : decode cX0_stretches 6 = .ok (.getfield 15, 3) := by decide +kernel
theorem dX0_stretches_9 : decode cX0_stretches 9 = .ok (.if_icmp .ge 33, 3) := by decide +kernel
theorem dX0_stretches_12 : decode cX0_stretches 12 = .ok (.iload_n 2, 1) := by decide +kernel
theorem dX0_stretches_13 : decode cX0_stretches 13 = .ok (.ifCond .eq 20, 3) := by decide +kernel
theorem dX0_stretches_16 : decode cX0_stretches 16 = .ok (.aload_n 0, 1) := by decide +kernel
theorem dX0_stretches_17 : decode cX0_stretches 17 = .ok (.iload_n 2, 1) := by decide +kernel
theorem dX0_stretches_18 : decode cX0_stretches 18 = .ok (.invokevirtual 38, 3) := by decide +kernel
theorem dX0_stretches_21 : decode cX0_stretches 21 = .ok (.aload_n 0, 1) := by decide +kernel
theorem dX0_stretches_22 : decode cX0_stretches 22 = .ok (.iload_n 2, 1) := by decide +kernel
theorem dX0_stretches_23 : decode cX0_stretches 23 = .ok (.iconst 1, 1) := by decide +kernel
theorem dX0_stretches_24 : decode cX0_stretches 24 = .ok (.isub, 1) := by decide +kernel
theorem dX0_stretches_25 : decode cX0_stretches 25 = .ok (.invokevirtual 38, 3) := by decide +kernel
theorem dX0_stretches_28 : decode cX0_stretches 28 = .ok (.isub, 1) := by decide +kernel
theorem dX0_stretches_29 : decode cX0_stretches 29 = .ok (.iconst 1, 1) := by decide +kernel
theorem dX0_stretches_30 : decode cX0_stretches 30 = .ok (.if_icmp .le 6, 3) := by decide +kernel
theorem dX0_stretches_33 : decode cX0_stretches 33 = .ok (.iinc 1 1, 3) := by decide +kernel
theorem dX0_stretches_36 : decode cX0_stretches 36 = .ok (.iinc 2 1, 3) := by decide +kernel
theorem dX0_stretches_39 : decode cX0_stretches 39 = .ok (.goto (-35), 3) := by decide +kernel
theorem dX0_stretches_42 : decode cX0_stretches 42 = .ok (.iload_n 1, 1) := by decide +kernel
theorem dX0_stretches_43 : decode cX0_stretches 43 = .ok (.ireturn, 1) := by decide +kernel
theorem dX0_sum_0 : decode cX0_sum 0 = .ok (.iconst 0, 1) := by decide +kernel
theorem dX0_sum_1 : decode cX0_sum 1 = .ok (.istore_n 1, 1) := by decide +kernel
theorem dX0_sum_2 : decode cX0_sum 2 = .ok (.iconst 0, 1) := by decide +kernel
theorem dX0_sum_3 : decode cX0_sum 3 = .ok (.istore_n 2, 1) := by decide +kernel
theorem dX0_sum_4 : decode cX0_sum 4 = .ok (.iload_n 2, 1) := by decide +kernel
theorem dX0_sum_5 : decode cX0_sum 5 = .ok (.aload_n 0, 1) := by decide +kernel
theorem dX0_sum_6 : decode cX0_sum 6 = .ok (.getfield 15, 3) := by decide +kernel
theorem dX0_sum_9 : decode cX0_sum 9 = .ok (.if_icmp .ge 17, 3) := by decide +kernel
theorem dX0_sum_12 : decode cX0_sum 12 = .ok (.iload_n 1, 1) := by decide +kernel
theorem dX0_sum_13 : decode cX0_sum 13 = .ok (.aload_n 0, 1) := by decide +kernel
theorem dX0_sum_14 : decode cX0_sum 14 = .ok (.iload_n 2, 1) := by decide +kernel
theorem dX0_sum_15 : decode cX0_sum 15 = .ok (.invokevirtual 38, 3) := by decide +kernel
theorem dX0_sum_18 : decode cX0_sum 18 = .ok (.iadd, 1) := by decide +kernel
theorem dX0_sum_19 : decode cX0_sum 19 = .ok (.istore_n 1, 1) := by decide +kernel
theorem dX0_sum_20 : decode cX0_sum 20 = .ok (.iinc 2 1, 3) := by decide +kernel
theorem dX0_sum_23 : decode cX0_sum 23 = .ok (.goto (-19), 3) := by decide +kernel
theorem dX0_sum_26 : decode cX0_sum 26 = .ok (.iload_n 1, 1) := by decide +kernel
theorem dX0_sum_27 : decode cX0_sum 27 = .ok (.ireturn, 1) := by decide +kernel
theorem dX0_lastToldWith_0 : decode cX0_lastToldWith 0 = .ok (.iload_n 1, 1) := by decide +kernel
theorem dX0_lastToldWith_1 : decode cX0_lastToldWith 1 = .ok (.iconst 0, 1) := by decide +kernel
theorem dX0_lastToldWith_2 : decode cX0_lastToldWith 2 = .ok (.invokestatic 29, 3) := by decide +kernel
theorem dX0_lastToldWith_5 : decode cX0_lastToldWith 5 = .ok (.istore_n 2, 1) := by decide +kernel
theorem dX0_lastToldWith_6 : decode cX0_lastToldWith 6 = .ok (.iload_n 2, 1) := by decide +kernel
theorem dX0_lastToldWith_7 : decode cX0_lastToldWith 7 = .ok (.iconst 1, 1) := by decide +kernel
theorem dX0_lastToldWith_8 : decode cX0_lastToldWith 8 = .ok (.iadd, 1) := by decide +kernel
theorem dX0_lastToldWith_9 : decode cX0_lastToldWith 9 = .ok (.aload_n 0, 1) := by decide +kernel
theorem dX0_lastToldWith_10 : decode cX0_lastToldWith 10 = .ok (.getfield 15, 3) := by decide +kernel
theorem dX0_lastToldWith_13 : decode cX0_lastToldWith 13 = .ok (.if_icmp .ge 28, 3) := by decide +kernel
theorem dX0_lastToldWith_16 : decode cX0_lastToldWith 16 = .ok (.aload_n 0, 1) := by decide +kernel
theorem dX0_lastToldWith_17 : decode cX0_lastToldWith 17 = .ok (.getfield 9, 3) := by decide +kernel
theorem dX0_lastToldWith_20 : decode cX0_lastToldWith 20 = .ok (.iload_n 2, 1) := by decide +kernel
theorem dX0_lastToldWith_21 : decode cX0_lastToldWith 21 = .ok (.iconst 1, 1) := by decide +kernel
theorem dX0_lastToldWith_22 : decode cX0_lastToldWith 22 = .ok (.iadd, 1) := by decide +kernel
theorem dX0_lastToldWith_23 : decode cX0_lastToldWith 23 = .ok (.iaload, 1) := by decide +kernel
theorem dX0_lastToldWith_24 : decode cX0_lastToldWith 24 = .ok (.aload_n 0, 1) := by decide +kernel
theorem dX0_lastToldWith_25 : decode cX0_lastToldWith 25 = .ok (.getfield 9, 3) := by decide +kernel
theorem dX0_lastToldWith_28 : decode cX0_lastToldWith 28 = .ok (.iload_n 2, 1) := by decide +kernel
theorem dX0_lastToldWith_29 : decode cX0_lastToldWith 29 = .ok (.iaload, 1) := by decide +kernel
theorem dX0_lastToldWith_30 : decode cX0_lastToldWith 30 = .ok (.isub, 1) := by decide +kernel
theorem dX0_lastToldWith_31 : decode cX0_lastToldWith 31 = .ok (.iconst 2, 1) := by decide +kernel
theorem dX0_lastToldWith_32 : decode cX0_lastToldWith 32 = .ok (.if_icmp .ne 9, 3) := by decide +kernel
theorem dX0_lastToldWith_35 : decode cX0_lastToldWith 35 = .ok (.iinc 2 1, 3) := by decide +kernel
theorem dX0_lastToldWith_38 : decode cX0_lastToldWith 38 = .ok (.goto (-32), 3) := by decide +kernel
theorem dX0_lastToldWith_41 : decode cX0_lastToldWith 41 = .ok (.iload_n 2, 1) := by decide +kernel
theorem dX0_lastToldWith_42 : decode cX0_lastToldWith 42 = .ok (.iload_n 1, 1) := by decide +kernel
theorem dX0_lastToldWith_43 : decode cX0_lastToldWith 43 = .ok (.isub, 1) := by decide +kernel
theorem dX0_lastToldWith_44 : decode cX0_lastToldWith 44 = .ok (.iconst 2, 1) := by decide +kernel
theorem dX0_lastToldWith_45 : decode cX0_lastToldWith 45 = .ok (.if_icmp .ge 7, 3) := by decide +kernel
theorem dX0_lastToldWith_48 : decode cX0_lastToldWith 48 = .ok (.iload_n 1, 1) := by decide +kernel
theorem dX0_lastToldWith_49 : decode cX0_lastToldWith 49 = .ok (.goto 4, 3) := by decide +kernel
theorem dX0_lastToldWith_52 : decode cX0_lastToldWith 52 = .ok (.iload_n 2, 1) := by decide +kernel
theorem dX0_lastToldWith_53 : decode cX0_lastToldWith 53 = .ok (.ireturn, 1) := by decide +kernel
theorem dX0_openGap_0 : decode cX0_openGap 0 = .ok (.iload_n 1, 1) := by decide +kernel
theorem dX0_openGap_1 : decode cX0_openGap 1 = .ok (.ifCond .lt 26, 3) := by decide +kernel
theorem dX0_openGap_4 : decode cX0_openGap 4 = .ok (.iload_n 1, 1) := by decide +kernel
theorem dX0_openGap_5 : decode cX0_openGap 5 = .ok (.aload_n 0, 1) := by decide +kernel
theorem dX0_openGap_6 : decode cX0_openGap 6 = .ok (.getfield 15, 3) := by decide +kernel
theorem dX0_openGap_9 : decode cX0_openGap 9 = .ok (.if_icmp .gt 18, 3) := by decide +kernel
theorem dX0_openGap_12 : decode cX0_openGap 12 = .ok (.iload_n 2, 1) := by decide +kernel
theorem dX0_openGap_13 : decode cX0_openGap 13 = .ok (.ifCond .lt 14, 3) := by decide +kernel
theorem dX0_openGap_16 : decode cX0_openGap 16 = .ok (.iload_n 2, 1) := by decide +kernel
theorem dX0_openGap_17 : decode cX0_openGap 17 = .ok (.bipush 60, 2) := by decide +kernel
theorem dX0_openGap_19 : decode cX0_openGap 19 = .ok (.aload_n 0, 1) := by decide +kernel
theorem dX0_openGap_20 : decode cX0_openGap 20 = .ok (.getfield 15, 3) := by decide +kernel
theorem dX0_openGap_23 : decode cX0_openGap 23 = .ok (.isub, 1) := by decide +kernel
theorem dX0_openGap_24 : decode cX0_openGap 24 = .ok (.if_icmp .le 5, 3) := by decide +kernel
theorem dX0_openGap_27 : decode cX0_openGap 27 = .ok (.iconst 0, 1) := by decide +kernel
theorem dX0_openGap_28 : decode cX0_openGap 28 = .ok (.ireturn, 1) := by decide +kernel
theorem dX0_openGap_29 : decode cX0_openGap 29 = .ok (.aload_n 0, 1) := by decide +kernel
theorem dX0_openGap_30 : decode cX0_openGap 30 = .ok (.getfield 9, 3) := by decide +kernel
theorem dX0_openGap_33 : decode cX0_openGap 33 = .ok (.iload_n 1, 1) := by decide +kernel
theorem dX0_openGap_34 : decode cX0_openGap 34 = .ok (.aload_n 0, 1) := by decide +kernel
theorem dX0_openGap_35 : decode cX0_openGap 35 = .ok (.getfield 9, 3) := by decide +kernel
theorem dX0_openGap_38 : decode cX0_openGap 38 = .ok (.iload_n 1, 1) := by decide +kernel
theorem dX0_openGap_39 : decode cX0_openGap 39 = .ok (.iload_n 2, 1) := by decide +kernel
theorem dX0_openGap_40 : decode cX0_openGap 40 = .ok (.iadd, 1) := by decide +kernel
theorem dX0_openGap_41 : decode cX0_openGap 41 = .ok (.aload_n 0, 1) := by decide +kernel
theorem dX0_openGap_42 : decode cX0_openGap 42 = .ok (.getfield 15, 3) := by decide +kernel
theorem dX0_openGap_45 : decode cX0_openGap 45 = .ok (.iload_n 1, 1) := by decide +kernel
theorem dX0_openGap_46 : decode cX0_openGap 46 = .ok (.isub, 1) := by decide +kernel
theorem dX0_openGap_47 : decode cX0_openGap 47 = .ok (.invokestatic 44, 3) := by decide +kernel
theorem dX0_openGap_50 : decode cX0_openGap 50 = .ok (.aload_n 0, 1) := by decide +kernel
theorem dX0_openGap_51 : decode cX0_openGap 51 = .ok (.dup, 1) := by decide +kernel
theorem dX0_openGap_52 : decode cX0_openGap 52 = .ok (.getfield 15, 3) := by decide +kernel
theorem dX0_openGap_55 : decode cX0_openGap 55 = .ok (.iload_n 2, 1) := by decide +kernel
theorem dX0_openGap_56 : decode cX0_openGap 56 = .ok (.iadd, 1) := by decide +kernel
theorem dX0_openGap_57 : decode cX0_openGap 57 = .ok (.putfield 15, 3) := by decide +kernel
theorem dX0_openGap_60 : decode cX0_openGap 60 = .ok (.aload_n 0, 1) := by decide +kernel
theorem dX0_openGap_61 : decode cX0_openGap 61 = .ok (.iconst (-1), 1) := by decide +kernel
theorem dX0_openGap_62 : decode cX0_openGap 62 = .ok (.putfield 19, 3) := by decide +kernel
theorem dX0_openGap_65 : decode cX0_openGap 65 = .ok (.iconst 1, 1) := by decide +kernel
theorem dX0_openGap_66 : decode cX0_openGap 66 = .ok (.ireturn, 1) := by decide +kernel
theorem dX0_closeGap_0 : decode cX0_closeGap 0 = .ok (.iload_n 1, 1) := by decide +kernel
theorem dX0_closeGap_1 : decode cX0_closeGap 1 = .ok (.ifCond .lt 55, 3) := by decide +kernel
theorem dX0_closeGap_4 : decode cX0_closeGap 4 = .ok (.iload_n 2, 1) := by decide +kernel
theorem dX0_closeGap_5 : decode cX0_closeGap 5 = .ok (.ifCond .lt 51, 3) := by decide +kernel
theorem dX0_closeGap_8 : decode cX0_closeGap 8 = .ok (.iload_n 2, 1) := by decide +kernel
theorem dX0_closeGap_9 : decode cX0_closeGap 9 = .ok (.aload_n 0, 1) := by decide +kernel
theorem dX0_closeGap_10 : decode cX0_closeGap 10 = .ok (.getfield 15, 3) := by decide +kernel
theorem dX0_closeGap_13 : decode cX0_closeGap 13 = .ok (.iload_n 1, 1) := by decide +kernel
theorem dX0_closeGap_14 : decode cX0_closeGap 14 = .ok (.isub, 1) := by decide +kernel
theorem dX0_closeGap_15 : decode cX0_closeGap 15 = .ok (.if_icmp .gt 41, 3) := by decide +kernel
theorem dX0_closeGap_18 : decode cX0_closeGap 18 = .ok (.aload_n 0, 1) := by decide +kernel
theorem dX0_closeGap_19 : decode cX0_closeGap 19 = .ok (.getfield 9, 3) := by decide +kernel
theorem dX0_closeGap_22 : decode cX0_closeGap 22 = .ok (.iload_n 1, 1) := by decide +kernel
theorem dX0_closeGap_23 : decode cX0_closeGap 23 = .ok (.iload_n 2, 1) := by decide +kernel
theorem dX0_closeGap_24 : decode cX0_closeGap 24 = .ok (.iadd, 1) := by decide +kernel
theorem dX0_closeGap_25 : decode cX0_closeGap 25 = .ok (.aload_n 0, 1) := by decide +kernel
theorem dX0_closeGap_26 : decode cX0_closeGap 26 = .ok (.getfield 9, 3) := by decide +kernel
theorem dX0_closeGap_29 : decode cX0_closeGap 29 = .ok (.iload_n 1, 1) := by decide +kernel
theorem dX0_closeGap_30 : decode cX0_closeGap 30 = .ok (.aload_n 0, 1) := by decide +kernel
theorem dX0_closeGap_31 : decode cX0_closeGap 31 = .ok (.getfield 15, 3) := by decide +kernel
theorem dX0_closeGap_34 : decode cX0_closeGap 34 = .ok (.iload_n 1, 1) := by decide +kernel
theorem dX0_closeGap_35 : decode cX0_closeGap 35 = .ok (.isub, 1) := by decide +kernel
theorem dX0_closeGap_36 : decode cX0_closeGap 36 = .ok (.iload_n 2, 1) := by decide +kernel
theorem dX0_closeGap_37 : decode cX0_closeGap 37 = .ok (.isub, 1) := by decide +kernel
theorem dX0_closeGap_38 : decode cX0_closeGap 38 = .ok (.invokestatic 44, 3) := by decide +kernel
theorem dX0_closeGap_41 : decode cX0_closeGap 41 = .ok (.aload_n 0, 1) := by decide +kernel
theorem dX0_closeGap_42 : decode cX0_closeGap 42 = .ok (.dup, 1) := by decide +kernel
theorem dX0_closeGap_43 : decode cX0_closeGap 43 = .ok (.getfield 15, 3) := by decide +kernel
theorem dX0_closeGap_46 : decode cX0_closeGap 46 = .ok (.iload_n 2, 1) := by decide +kernel
theorem dX0_closeGap_47 : decode cX0_closeGap 47 = .ok (.isub, 1) := by decide +kernel
theorem dX0_closeGap_48 : decode cX0_closeGap 48 = .ok (.putfield 15, 3) := by decide +kernel
theorem dX0_closeGap_51 : decode cX0_closeGap 51 = .ok (.aload_n 0, 1) := by decide +kernel
theorem dX0_closeGap_52 : decode cX0_closeGap 52 = .ok (.iconst (-1), 1) := by decide +kernel
theorem dX0_closeGap_53 : decode cX0_closeGap 53 = .ok (.putfield 19, 3) := by decide +kernel
theorem dX0_closeGap_56 : decode cX0_closeGap 56 = .ok (.return_, 1) := by decide +kernel
theorem dX0_insert_0 : decode cX0_insert 0 = .ok (.aload_n 0, 1) := by decide +kernel
theorem dX0_insert_1 : decode cX0_insert 1 = .ok (.iload_n 1, 1) := by decide +kernel
theorem dX0_insert_2 : decode cX0_insert 2 = .ok (.invokevirtual 22, 3) := by decide +kernel
theorem dX0_insert_5 : decode cX0_insert 5 = .ok (.istore_n 2, 1) := by decide +kernel
theorem dX0_insert_6 : decode cX0_insert 6 = .ok (.aload_n 0, 1) := by decide +kernel
theorem dX0_insert_7 : decode cX0_insert 7 = .ok (.iload_n 2, 1) := by decide +kernel
theorem dX0_insert_8 : decode cX0_insert 8 = .ok (.iconst 1, 1) := by decide +kernel
theorem dX0_insert_9 : decode cX0_insert 9 = .ok (.invokevirtual 50, 3) := by decide +kernel
theorem dX0_insert_12 : decode cX0_insert 12 = .ok (.ifCond .eq 12, 3) := by decide +kernel
theorem dX0_insert_15 : decode cX0_insert 15 = .ok (.aload_n 0, 1) := by decide +kernel
theorem dX0_insert_16 : decode cX0_insert 16 = .ok (.getfield 9, 3) := by decide +kernel
theorem dX0_insert_19 : decode cX0_insert 19 = .ok (.iload_n 2, 1) := by decide +kernel
theorem dX0_insert_20 : decode cX0_insert 20 = .ok (.iload_n 1, 1) := by decide +kernel
theorem dX0_insert_21 : decode cX0_insert 21 = .ok (.iconst 2, 1) := by decide +kernel
theorem dX0_insert_22 : decode cX0_insert 22 = .ok (.imul, 1) := by decide +kernel
theorem dX0_insert_23 : decode cX0_insert 23 = .ok (.iastore, 1) := by decide +kernel
theorem dX0_insert_24 : decode cX0_insert 24 = .ok (.iload_n 2, 1) := by decide +kernel
theorem dX0_insert_25 : decode cX0_insert 25 = .ok (.ireturn, 1) := by decide +kernel
theorem dX0_giveStretch_0 : decode cX0_giveStretch 0 = .ok (.iload_n 1, 1) := by decide +kernel
theorem dX0_giveStretch_1 : decode cX0_giveStretch 1 = .ok (.ifCond .lt 18, 3) := by decide +kernel
theorem dX0_giveStretch_4 : decode cX0_giveStretch 4 = .ok (.iload_n 2, 1) := by decide +kernel
theorem dX0_giveStretch_5 : decode cX0_giveStretch 5 = .ok (.iconst 1, 1) := by decide +kernel
theorem dX0_giveStretch_6 : decode cX0_giveStretch 6 = .ok (.if_icmp .lt 13, 3) := by decide +kernel
theorem dX0_giveStretch_9 : decode cX0_giveStretch 9 = .ok (.iload_n 2, 1) := by decide +kernel
theorem dX0_giveStretch_10 : decode cX0_giveStretch 10 = .ok (.aload_n 0, 1) := by decide +kernel
theorem dX0_giveStretch_11 : decode cX0_giveStretch 11 = .ok (.getfield 15, 3) := by decide +kernel
theorem dX0_giveStretch_14 : decode cX0_giveStretch 14 = .ok (.iload_n 1, 1) := by decide +kernel
theorem dX0_giveStretch_15 : decode cX0_giveStretch 15 = .ok (.isub, 1) := by decide +kernel
theorem dX0_giveStretch_16 : decode cX0_giveStretch 16 = .ok (.if_icmp .le 4, 3) := by decide +kernel
theorem dX0_giveStretch_19 : decode cX0_giveStretch 19 = .ok (.return_, 1) := by decide +kernel
theorem dX0_giveStretch_20 : decode cX0_giveStretch 20 = .ok (.aload_n 3, 1) := by decide +kernel
theorem dX0_giveStretch_21 : decode cX0_giveStretch 21 = .ok (.aload_n 0, 1) := by decide +kernel
theorem dX0_giveStretch_22 : decode cX0_giveStretch 22 = .ok (.getfield 9, 3) := by decide +kernel
theorem dX0_giveStretch_25 : decode cX0_giveStretch 25 = .ok (.iload_n 1, 1) := by decide +kernel
theorem dX0_giveStretch_26 : decode cX0_giveStretch 26 = .ok (.iaload, 1) := by decide +kernel
theorem dX0_giveStretch_27 : decode cX0_giveStretch 27 = .ok (.iconst 1, 1) := by decide +kernel
theorem dX0_giveStretch_28 : decode cX0_giveStretch 28 = .ok (.ishr, 1) := by decide +kernel
theorem dX0_giveStretch_29 : decode cX0_giveStretch 29 = .ok (.invokevirtual 22, 3) := by decide +kernel
theorem dX0_giveStretch_32 : decode cX0_giveStretch 32 = .ok (.istore 4, 2) := by decide +kernel
theorem dX0_giveStretch_34 : decode cX0_giveStretch 34 = .ok (.aload_n 3, 1) := by decide +kernel
theorem dX0_giveStretch_35 : decode cX0_giveStretch 35 = .ok (.iload 4, 2) := by decide +kernel
theorem dX0_giveStretch_37 : decode cX0_giveStretch 37 = .ok (.iload_n 2, 1) := by decide +kernel
theorem dX0_giveStretch_38 : decode cX0_giveStretch 38 = .ok (.invokevirtual 50, 3) := by decide +kernel
theorem dX0_giveStretch_41 : decode cX0_giveStretch 41 = .ok (.ifCond .eq 24, 3) := by decide +kernel
theorem dX0_giveStretch_44 : decode cX0_giveStretch 44 = .ok (.aload_n 0, 1) := by decide +kernel
theorem dX0_giveStretch_45 : decode cX0_giveStretch 45 = .ok (.getfield 9, 3) := by decide +kernel
theorem dX0_giveStretch_48 : decode cX0_giveStretch 48 = .ok (.iload_n 1, 1) := by decide +kernel
theorem dX0_giveStretch_49 : decode cX0_giveStretch 49 = .ok (.aload_n 3, 1) := by decide +kernel
theorem dX0_giveStretch_50 : decode cX0_giveStretch 50 = .ok (.getfield 9, 3) := by decide +kernel
theorem dX0_giveStretch_53 : decode cX0_giveStretch 53 = .ok (.iload 4, 2) := by decide +kernel
theorem dX0_giveStretch_55 : decode cX0_giveStretch 55 = .ok (.iload_n 2, 1) := by decide +kernel
theorem dX0_giveStretch_56 : decode cX0_giveStretch 56 = .ok (.invokestatic 44, 3) := by decide +kernel
theorem dX0_giveStretch_59 : decode cX0_giveStretch 59 = .ok (.aload_n 0, 1) := by decide +kernel
theorem dX0_giveStretch_60 : decode cX0_giveStretch 60 = .ok (.iload_n 1, 1) := by decide +kernel
theorem dX0_giveStretch_61 : decode cX0_giveStretch 61 = .ok (.iload_n 2, 1) := by decide +kernel
theorem dX0_giveStretch_62 : decode cX0_giveStretch 62 = .ok (.invokevirtual 54, 3) := by decide +kernel
theorem dX0_giveStretch_65 : decode cX0_giveStretch 65 = .ok (.return_, 1) := by decide +kernel
theorem dX0_absorb_0 : decode cX0_absorb 0 = .ok (.aload_n 0, 1) := by decide +kernel
theorem dX0_absorb_1 : decode cX0_absorb 1 = .ok (.getfield 15, 3) := by decide +kernel
theorem dX0_absorb_4 : decode cX0_absorb 4 = .ok (.iconst 1, 1) := by decide +kernel
theorem dX0_absorb_5 : decode cX0_absorb 5 = .ok (.isub, 1) := by decide +kernel
theorem dX0_absorb_6 : decode cX0_absorb 6 = .ok (.istore_n 3, 1) := by decide +kernel
theorem dX0_absorb_7 : decode cX0_absorb 7 = .ok (.aload_n 1, 1) := by decide +kernel
theorem dX0_absorb_8 : decode cX0_absorb 8 = .ok (.getfield 15, 3) := by decide +kernel
theorem dX0_absorb_11 : decode cX0_absorb 11 = .ok (.iconst 1, 1) := by decide +kernel
theorem dX0_absorb_12 : decode cX0_absorb 12 = .ok (.isub, 1) := by decide +kernel
theorem dX0_absorb_13 : decode cX0_absorb 13 = .ok (.istore 4, 2) := by decide +kernel
theorem dX0_absorb_15 : decode cX0_absorb 15 = .ok (.iload_n 2, 1) := by decide +kernel
theorem dX0_absorb_16 : decode cX0_absorb 16 = .ok (.bipush 60, 2) := by decide +kernel
theorem dX0_absorb_18 : decode cX0_absorb 18 = .ok (.invokestatic 41, 3) := by decide +kernel
theorem dX0_absorb_21 : decode cX0_absorb 21 = .ok (.iconst 1, 1) := by decide +kernel
theorem dX0_absorb_22 : decode cX0_absorb 22 = .ok (.isub, 1) := by decide +kernel
theorem dX0_absorb_23 : decode cX0_absorb 23 = .ok (.istore 5, 2) := by decide +kernel
theorem dX0_absorb_25 : decode cX0_absorb 25 = .ok (.iload 5, 2) := by decide +kernel
theorem dX0_absorb_27 : decode cX0_absorb 27 = .ok (.ifCond .lt 82, 3) := by decide +kernel
theorem dX0_absorb_30 : decode cX0_absorb 30 = .ok (.aload_n 0, 1) := by decide +kernel
theorem dX0_absorb_31 : decode cX0_absorb 31 = .ok (.iload_n 3, 1) := by decide +kernel
theorem dX0_absorb_32 : decode cX0_absorb 32 = .ok (.invokevirtual 38, 3) := by decide +kernel
theorem dX0_absorb_35 : decode cX0_absorb 35 = .ok (.aload_n 1, 1) := by decide +kernel
theorem dX0_absorb_36 : decode cX0_absorb 36 = .ok (.iload 4, 2) := by decide +kernel
theorem dX0_absorb_38 : decode cX0_absorb 38 = .ok (.invokevirtual 38, 3) := by decide +kernel
theorem dX0_absorb_41 : decode cX0_absorb 41 = .ok (.invokestatic 58, 3) := by decide +kernel
theorem dX0_absorb_44 : decode cX0_absorb 44 = .ok (.istore 6, 2) := by decide +kernel
theorem dX0_absorb_46 : decode cX0_absorb 46 = .ok (.iconst 0, 1) := by decide +kernel
theorem dX0_absorb_47 : decode cX0_absorb 47 = .ok (.istore 7, 2) := by decide +kernel
theorem dX0_absorb_49 : decode cX0_absorb 49 = .ok (.iload 6, 2) := by decide +kernel
theorem dX0_absorb_51 : decode cX0_absorb 51 = .ok (.ifCond .lt 18, 3) := by decide +kernel
theorem dX0_absorb_54 : decode cX0_absorb 54 = .ok (.iload_n 3, 1) := by decide +kernel
theorem dX0_absorb_55 : decode cX0_absorb 55 = .ok (.ifCond .lt 14, 3) := by decide +kernel
theorem dX0_absorb_58 : decode cX0_absorb 58 = .ok (.aload_n 0, 1) := by decide +kernel
theorem dX0_absorb_59 : decode cX0_absorb 59 = .ok (.getfield 9, 3) := by decide +kernel
theorem dX0_absorb_62 : decode cX0_absorb 62 = .ok (.iload_n 3, 1) := by decide +kernel
theorem dX0_absorb_63 : decode cX0_absorb 63 = .ok (.iaload, 1) := by decide +kernel
theorem dX0_absorb_64 : decode cX0_absorb 64 = .ok (.istore 7, 2) := by decide +kernel
theorem dX0_absorb_66 : decode cX0_absorb 66 = .ok (.iinc 3 (-1), 3) := by decide +kernel
theorem dX0_absorb_69 : decode cX0_absorb 69 = .ok (.iload 6, 2) := by decide +kernel
theorem dX0_absorb_71 : decode cX0_absorb 71 = .ok (.ifCond .gt 23, 3) := by decide +kernel
theorem dX0_absorb_74 : decode cX0_absorb 74 = .ok (.iload 4, 2) := by decide +kernel
theorem dX0_absorb_76 : decode cX0_absorb 76 = .ok (.ifCond .lt 18, 3) := by decide +kernel
theorem dX0_absorb_79 : decode cX0_absorb 79 = .ok (.iload 7, 2) := by decide +kernel
theorem dX0_absorb_81 : decode cX0_absorb 81 = .ok (.aload_n 1, 1) := by decide +kernel
theorem dX0_absorb_82 : decode cX0_absorb 82 = .ok (.getfield 9, 3) := by decide +kernel
theorem dX0_absorb_85 : decode cX0_absorb 85 = .ok (.iload 4, 2) := by decide +kernel
theorem dX0_absorb_87 : decode cX0_absorb 87 = .ok (.iaload, 1) := by decide +kernel
theorem dX0_absorb_88 : decode cX0_absorb 88 = .ok (.ior, 1) := by decide +kernel
theorem dX0_absorb_89 : decode cX0_absorb 89 = .ok (.istore 7, 2) := by decide +kernel
theorem dX0_absorb_91 : decode cX0_absorb 91 = .ok (.iinc 4 (-1), 3) := by decide +kernel
theorem dX0_absorb_94 : decode cX0_absorb 94 = .ok (.aload_n 0, 1) := by decide +kernel
theorem dX0_absorb_95 : decode cX0_absorb 95 = .ok (.getfield 9, 3) := by decide +kernel
theorem dX0_absorb_98 : decode cX0_absorb 98 = .ok (.iload 5, 2) := by decide +kernel
theorem dX0_absorb_100 : decode cX0_absorb 100 = .ok (.iload 7, 2) := by decide +kernel
theorem dX0_absorb_102 : decode cX0_absorb 102 = .ok (.iastore, 1) := by decide +kernel
theorem dX0_absorb_103 : decode cX0_absorb 103 = .ok (.iinc 5 (-1), 3) := by decide +kernel
theorem dX0_absorb_106 : decode cX0_absorb 106 = .ok (.goto (-81), 3) := by decide +kernel
theorem dX0_absorb_109 : decode cX0_absorb 109 = .ok (.iload_n 2, 1) := by decide +kernel
theorem dX0_absorb_110 : decode cX0_absorb 110 = .ok (.aload_n 0, 1) := by decide +kernel
theorem dX0_absorb_111 : decode cX0_absorb 111 = .ok (.getfield 15, 3) := by decide +kernel
theorem dX0_absorb_114 : decode cX0_absorb 114 = .ok (.if_icmp .eq 8, 3) := by decide +kernel
theorem dX0_absorb_117 : decode cX0_absorb 117 = .ok (.aload_n 0, 1) := by decide +kernel
theorem dX0_absorb_118 : decode cX0_absorb 118 = .ok (.iconst (-1), 1) := by decide +kernel
theorem dX0_absorb_119 : decode cX0_absorb 119 = .ok (.putfield 19, 3) := by decide +kernel
theorem dX0_absorb_122 : decode cX0_absorb 122 = .ok (.aload_n 0, 1) := by decide +kernel
theorem dX0_absorb_123 : decode cX0_absorb 123 = .ok (.iload_n 2, 1) := by decide +kernel
theorem dX0_absorb_124 : decode cX0_absorb 124 = .ok (.bipush 60, 2) := by decide +kernel
theorem dX0_absorb_126 : decode cX0_absorb 126 = .ok (.invokestatic 41, 3) := by decide +kernel
theorem dX0_absorb_129 : decode cX0_absorb 129 = .ok (.putfield 15, 3) := by decide +kernel
theorem dX0_absorb_132 : decode cX0_absorb 132 = .ok (.aload_n 1, 1) := by decide +kernel
theorem dX0_absorb_133 : decode cX0_absorb 133 = .ok (.invokevirtual 63, 3) := by decide +kernel
theorem dX0_absorb_136 : decode cX0_absorb 136 = .ok (.return_, 1) := by decide +kernel
theorem dX0_shiftAll_0 : decode cX0_shiftAll 0 = .ok (.iconst 0, 1) := by decide +kernel
theorem dX0_shiftAll_1 : decode cX0_shiftAll 1 = .ok (.istore_n 2, 1) := by decide +kernel
theorem dX0_shiftAll_2 : decode cX0_shiftAll 2 = .ok (.iload_n 2, 1) := by decide +kernel
theorem dX0_shiftAll_3 : decode cX0_shiftAll 3 = .ok (.aload_n 0, 1) := by decide +kernel
theorem dX0_shiftAll_4 : decode cX0_shiftAll 4 = .ok (.getfield 15, 3) := by decide +kernel
theorem dX0_shiftAll_7 : decode cX0_shiftAll 7 = .ok (.if_icmp .ge 21, 3) := by decide +kernel
theorem dX0_shiftAll_10 : decode cX0_shiftAll 10 = .ok (.aload_n 0, 1) := by decide +kernel
theorem dX0_shiftAll_11 : decode cX0_shiftAll 11 = .ok (.getfield 9, 3) := by decide +kernel
theorem dX0_shiftAll_14 : decode cX0_shiftAll 14 = .ok (.iload_n 2, 1) := by decide +kernel
theorem dX0_shiftAll_15 : decode cX0_shiftAll 15 = .ok (.dup2, 1) := by decide +kernel
theorem dX0_shiftAll_16 : decode cX0_shiftAll 16 = .ok (.iaload, 1) := by decide +kernel
theorem dX0_shiftAll_17 : decode cX0_shiftAll 17 = .ok (.iload_n 1, 1) := by decide +kernel
theorem dX0_shiftAll_18 : decode cX0_shiftAll 18 = .ok (.iconst 2, 1) := by decide +kernel
theorem dX0_shiftAll_19 : decode cX0_shiftAll 19 = .ok (.imul, 1) := by decide +kernel
theorem dX0_shiftAll_20 : decode cX0_shiftAll 20 = .ok (.iadd, 1) := by decide +kernel
theorem dX0_shiftAll_21 : decode cX0_shiftAll 21 = .ok (.iastore, 1) := by decide +kernel
theorem dX0_shiftAll_22 : decode cX0_shiftAll 22 = .ok (.iinc 2 1, 3) := by decide +kernel
theorem dX0_shiftAll_25 : decode cX0_shiftAll 25 = .ok (.goto (-23), 3) := by decide +kernel
theorem dX0_shiftAll_28 : decode cX0_shiftAll 28 = .ok (.aload_n 0, 1) := by decide +kernel
theorem dX0_shiftAll_29 : decode cX0_shiftAll 29 = .ok (.getfield 19, 3) := by decide +kernel
theorem dX0_shiftAll_32 : decode cX0_shiftAll 32 = .ok (.iconst (-1), 1) := by decide +kernel
theorem dX0_shiftAll_33 : decode cX0_shiftAll 33 = .ok (.if_icmp .eq 13, 3) := by decide +kernel
theorem dX0_shiftAll_36 : decode cX0_shiftAll 36 = .ok (.aload_n 0, 1) := by decide +kernel
theorem dX0_shiftAll_37 : decode cX0_shiftAll 37 = .ok (.dup, 1) := by decide +kernel
theorem dX0_shiftAll_38 : decode cX0_shiftAll 38 = .ok (.getfield 19, 3) := by decide +kernel
theorem dX0_shiftAll_41 : decode cX0_shiftAll 41 = .ok (.iload_n 1, 1) := by decide +kernel
theorem dX0_shiftAll_42 : decode cX0_shiftAll 42 = .ok (.iadd, 1) := by decide +kernel
theorem dX0_shiftAll_43 : decode cX0_shiftAll 43 = .ok (.putfield 19, 3) := by decide +kernel
theorem dX0_shiftAll_46 : decode cX0_shiftAll 46 = .ok (.return_, 1) := by decide +kernel
theorem dX0_markBetween_0 : decode cX0_markBetween 0 = .ok (.aload_n 0, 1) := by decide +kernel
theorem dX0_markBetween_1 : decode cX0_markBetween 1 = .ok (.iload_n 2, 1) := by decide +kernel
theorem dX0_markBetween_2 : decode cX0_markBetween 2 = .ok (.invokevirtual 26, 3) := by decide +kernel
theorem dX0_markBetween_5 : decode cX0_markBetween 5 = .ok (.istore 4, 2) := by decide +kernel
theorem dX0_markBetween_7 : decode cX0_markBetween 7 = .ok (.iconst 0, 1) := by decide +kernel
theorem dX0_markBetween_8 : decode cX0_markBetween 8 = .ok (.istore 5, 2) := by decide +kernel
theorem dX0_markBetween_10 : decode cX0_markBetween 10 = .ok (.aload_n 0, 1) := by decide +kernel
theorem dX0_markBetween_11 : decode cX0_markBetween 11 = .ok (.iload_n 1, 1) := by decide +kernel
theorem dX0_markBetween_12 : decode cX0_markBetween 12 = .ok (.invokevirtual 22, 3) := by decide +kernel
theorem dX0_markBetween_15 : decode cX0_markBetween 15 = .ok (.istore 6, 2) := by decide +kernel
theorem dX0_markBetween_17 : decode cX0_markBetween 17 = .ok (.iload 6, 2) := by decide +kernel
theorem dX0_markBetween_19 : decode cX0_markBetween 19 = .ok (.iload 4, 2) := by decide +kernel
theorem dX0_markBetween_21 : decode cX0_markBetween 21 = .ok (.if_icmp .ge 36, 3) := by decide +kernel
theorem dX0_markBetween_24 : decode cX0_markBetween 24 = .ok (.aload_n 0, 1) := by decide +kernel
theorem dX0_markBetween_25 : decode cX0_markBetween 25 = .ok (.getfield 9, 3) := by decide +kernel
theorem dX0_markBetween_28 : decode cX0_markBetween 28 = .ok (.iload 6, 2) := by decide +kernel
theorem dX0_markBetween_30 : decode cX0_markBetween 30 = .ok (.iaload, 1) := by decide +kernel
theorem dX0_markBetween_31 : decode cX0_markBetween 31 = .ok (.iconst 1, 1) := by decide +kernel
theorem dX0_markBetween_32 : decode cX0_markBetween 32 = .ok (.iand, 1) := by decide +kernel
theorem dX0_markBetween_33 : decode cX0_markBetween 33 = .ok (.iload_n 3, 1) := by decide +kernel
theorem dX0_markBetween_34 : decode cX0_markBetween 34 = .ok (.if_icmp .eq 17, 3) := by decide +kernel
theorem dX0_markBetween_37 : decode cX0_markBetween 37 = .ok (.aload_n 0, 1) := by decide +kernel
theorem dX0_markBetween_38 : decode cX0_markBetween 38 = .ok (.getfield 9, 3) := by decide +kernel
theorem dX0_markBetween_41 : decode cX0_markBetween 41 = .ok (.iload 6, 2) := by decide +kernel
theorem dX0_markBetween_43 : decode cX0_markBetween 43 = .ok (.dup2, 1) := by decide +kernel
theorem dX0_markBetween_44 : decode cX0_markBetween 44 = .ok (.iaload, 1) := by decide +kernel
theorem dX0_markBetween_45 : decode cX0_markBetween 45 = .ok (.iconst 1, 1) := by decide +kernel
theorem dX0_markBetween_46 : decode cX0_markBetween 46 = .ok (.ixor, 1) := by decide +kernel
theorem dX0_markBetween_47 : decode cX0_markBetween 47 = .ok (.iastore, 1) := by decide +kernel
theorem dX0_markBetween_48 : decode cX0_markBetween 48 = .ok (.iinc 5 1, 3) := by decide +kernel
theorem dX0_markBetween_51 : decode cX0_markBetween 51 = .ok (.iinc 6 1, 3) := by decide +kernel
theorem dX0_markBetween_54 : decode cX0_markBetween 54 = .ok (.goto (-37), 3) := by decide +kernel
theorem dX0_markBetween_57 : decode cX0_markBetween 57 = .ok (.iload 5, 2) := by decide +kernel
theorem dX0_markBetween_59 : decode cX0_markBetween 59 = .ok (.ireturn, 1) := by decide +kernel
theorem dX1_init_0 : decode cX1_init 0 = .ok (.aload_n 0, 1) := by decide +kernel
theorem dX1_init_1 : decode cX1_init 1 = .ok (.invokespecial 3, 3) := by decide +kernel
theorem dX1_init_4 : decode cX1_init 4 = .ok (.aload_n 0, 1) := by decide +kernel
theorem dX1_init_5 : decode cX1_init 5 = .ok (.new 9, 3) := by decide +kernel
theorem dX1_init_8 : decode cX1_init 8 = .ok (.dup, 1) := by decide +kernel
theorem dX1_init_9 : decode cX1_init 9 = .ok (.invokespecial 11, 3) := by decide +kernel
theorem dX1_init_12 : decode cX1_init 12 = .ok (.putfield 12, 3) := by decide +kernel
theorem dX1_init_15 : decode cX1_init 15 = .ok (.aload_n 0, 1) := by decide +kernel
theorem dX1_init_16 : decode cX1_init 16 = .ok (.new 18, 3) := by decide +kernel
theorem dX1_init_19 : decode cX1_init 19 = .ok (.dup, 1) := by decide +kernel
theorem dX1_init_20 : decode cX1_init 20 = .ok (.sipush 800, 3) := by decide +kernel
theorem dX1_init_23 : decode cX1_init 23 = .ok (.newarray .byte, 2) := by decide +kernel
theorem dX1_init_25 : decode cX1_init 25 = .ok (.invokespecial 20, 3) := by decide +kernel
theorem dX1_init_28 : decode cX1_init 28 = .ok (.putfield 23, 3) := by decide +kernel
theorem dX1_init_31 : decode cX1_init 31 = .ok (.aload_n 0, 1) := by decide +kernel
theorem dX1_init_32 : decode cX1_init 32 = .ok (.new 18, 3) := by decide +kernel
theorem dX1_init_35 : decode cX1_init 35 = .ok (.dup, 1) := by decide +kernel
theorem dX1_init_36 : decode cX1_init 36 = .ok (.sipush 360, 3) := by decide +kernel
theorem dX1_init_39 : decode cX1_init 39 = .ok (.newarray .byte, 2) := by decide +kernel
theorem dX1_init_41 : decode cX1_init 41 = .ok (.invokespecial 20, 3) := by decide +kernel
theorem dX1_init_44 : decode cX1_init 44 = .ok (.putfield 27, 3) := by decide +kernel
theorem dX1_init_47 : decode cX1_init 47 = .ok (.aload_n 0, 1) := by decide +kernel
theorem dX1_init_48 : decode cX1_init 48 = .ok (.iconst 0, 1) := by decide +kernel
theorem dX1_init_49 : decode cX1_init 49 = .ok (.putfield 30, 3) := by decide +kernel
theorem dX1_init_52 : decode cX1_init 52 = .ok (.aload_n 0, 1) := by decide +kernel
theorem dX1_init_53 : decode cX1_init 53 = .ok (.iconst 0, 1) := by decide +kernel
theorem dX1_init_54 : decode cX1_init 54 = .ok (.putfield 34, 3) := by decide +kernel
theorem dX1_init_57 : decode cX1_init 57 = .ok (.aload_n 0, 1) := by decide +kernel
theorem dX1_init_58 : decode cX1_init 58 = .ok (.iconst (-1), 1) := by decide +kernel
theorem dX1_init_59 : decode cX1_init 59 = .ok (.putfield 38, 3) := by decide +kernel
theorem dX1_init_62 : decode cX1_init 62 = .ok (.return_, 1) := by decide +kernel
theorem dX2_init_0 : decode cX2_init 0 = .ok (.aload_n 0, 1) := by decide +kernel
theorem dX2_init_1 : decode cX2_init 1 = .ok (.invokespecial 3, 3) := by decide +kernel
theorem dX2_init_4 : decode cX2_init 4 = .ok (.aload_n 0, 1) := by decide +kernel
theorem dX2_init_5 : decode cX2_init 5 = .ok (.bipush 8, 2) := by decide +kernel
theorem dX2_init_7 : decode cX2_init 7 = .ok (.newarray .int, 2) := by decide +kernel
theorem dX2_init_9 : decode cX2_init 9 = .ok (.putfield 9, 3) := by decide +kernel
theorem dX2_init_12 : decode cX2_init 12 = .ok (.aload_n 0, 1) := by decide +kernel
theorem dX2_init_13 : decode cX2_init 13 = .ok (.aload_n 1, 1) := by decide +kernel
theorem dX2_init_14 : decode cX2_init 14 = .ok (.putfield 15, 3) := by decide +kernel
theorem dX2_init_17 : decode cX2_init 17 = .ok (.return_, 1) := by decide +kernel
theorem dX2_begin_0 : decode cX2_begin 0 = .ok (.iconst 0, 1) := by decide +kernel
theorem dX2_begin_1 : decode cX2_begin 1 = .ok (.istore_n 1, 1) := by decide +kernel
theorem dX2_begin_2 : decode cX2_begin 2 = .ok (.iload_n 1, 1) := by decide +kernel
theorem dX2_begin_3 : decode cX2_begin 3 = .ok (.bipush 8, 2) := by decide +kernel
theorem dX2_begin_5 : decode cX2_begin 5 = .ok (.if_icmp .ge 16, 3) := by decide +kernel
theorem dX2_begin_8 : decode cX2_begin 8 = .ok (.aload_n 0, 1) := by decide +kernel
theorem dX2_begin_9 : decode cX2_begin 9 = .ok (.getfield 9, 3) := by decide +kernel
theorem dX2_begin_12 : decode cX2_begin 12 = .ok (.iload_n 1, 1) := by decide +kernel
theorem dX2_begin_13 : decode cX2_begin 13 = .ok (.iconst 0, 1) := by decide +kernel
theorem dX2_begin_14 : decode cX2_begin 14 = .ok (.iastore, 1) := by decide +kernel
theorem dX2_begin_15 : decode cX2_begin 15 = .ok (.iinc 1 1, 3) := by decide +kernel
theorem dX2_begin_18 : decode cX2_begin 18 = .ok (.goto (-16), 3) := by decide +kernel
theorem dX2_begin_21 : decode cX2_begin 21 = .ok (.return_, 1) := by decide +kernel
theorem dX2_next_0 : decode cX2_next 0 = .ok (.iconst (-1), 1) := by decide +kernel
theorem dX2_next_1 : decode cX2_next 1 = .ok (.istore_n 1, 1) := by decide +kernel
theorem dX2_next_2 : decode cX2_next 2 = .ok (.iconst (-1), 1) := by decide +kernel
theorem dX2_next_3 : decode cX2_next 3 = .ok (.istore_n 2, 1) := by decide +kernel
theorem dX2_next_4 : decode cX2_next 4 = .ok (.iconst 0, 1) := by decide +kernel
theorem dX2_next_5 : decode cX2_next 5 = .ok (.istore_n 3, 1) := by decide +kernel
theorem dX2_next_6 : decode cX2_next 6 = .ok (.iload_n 3, 1) := by decide +kernel
theorem dX2_next_7 : decode cX2_next 7 = .ok (.bipush 8, 2) := by decide +kernel
theorem dX2_next_9 : decode cX2_next 9 = .ok (.if_icmp .ge 57, 3) := by decide +kernel
theorem dX2_next_12 : decode cX2_next 12 = .ok (.iload_n 3, 1) := by decide +kernel
theorem dX2_next_13 : decode cX2_next 13 = .ok (.aload_n 0, 1) := by decide +kernel
theorem dX2_next_14 : decode cX2_next 14 = .ok (.getfield 15, 3) := by decide +kernel
theorem dX2_next_17 : decode cX2_next 17 = .ok (.arraylength, 1) := by decide +kernel
theorem dX2_next_18 : decode cX2_next 18 = .ok (.if_icmp .ge 48, 3) := by decide +kernel
theorem dX2_next_21 : decode cX2_next 21 = .ok (.aload_n 0, 1) := by decide +kernel
theorem dX2_next_22 : decode cX2_next 22 = .ok (.getfield 15, 3) := by decide +kernel
theorem dX2_next_25 : decode cX2_next 25 = .ok (.iload_n 3, 1) := by decide +kernel
theorem dX2_next_26 : decode cX2_next 26 = .ok (.aaload, 1) := by decide +kernel
theorem dX2_next_27 : decode cX2_next 27 = .ok (.aload_n 0, 1) := by decide +kernel
theorem dX2_next_28 : decode cX2_next 28 = .ok (.getfield 9, 3) := by decide +kernel
theorem dX2_next_31 : decode cX2_next 31 = .ok (.iload_n 3, 1) := by decide +kernel
theorem dX2_next_32 : decode cX2_next 32 = .ok (.iaload, 1) := by decide +kernel
theorem dX2_next_33 : decode cX2_next 33 = .ok (.invokevirtual 19, 3) := by decide +kernel
theorem dX2_next_36 : decode cX2_next 36 = .ok (.istore 4, 2) := by decide +kernel
theorem dX2_next_38 : decode cX2_next 38 = .ok (.iload 4, 2) := by decide +kernel
theorem dX2_next_40 : decode cX2_next 40 = .ok (.iconst (-1), 1) := by decide +kernel
theorem dX2_next_41 : decode cX2_next 41 = .ok (.if_icmp .eq 19, 3) := by decide +kernel
theorem dX2_next_44 : decode cX2_next 44 = .ok (.iload_n 1, 1) := by decide +kernel
theorem dX2_next_45 : decode cX2_next 45 = .ok (.iconst (-1), 1) := by decide +kernel
theorem dX2_next_46 : decode cX2_next 46 = .ok (.if_icmp .eq 9, 3) := by decide +kernel
theorem dX2_next_49 : decode cX2_next 49 = .ok (.iload 4, 2) := by decide +kernel
theorem dX2_next_51 : decode cX2_next 51 = .ok (.iload_n 1, 1) := by decide +kernel
theorem dX2_next_52 : decode cX2_next 52 = .ok (.if_icmp .ge 8, 3) := by decide +kernel
theorem dX2_next_55 : decode cX2_next 55 = .ok (.iload 4, 2) := by decide +kernel
theorem dX2_next_57 : decode cX2_next 57 = .ok (.istore_n 1, 1) := by decide +kernel
theorem dX2_next_58 : decode cX2_next 58 = .ok (.iload_n 3, 1) := by decide +kernel
theorem dX2_next_59 : decode cX2_next 59 = .ok (.istore_n 2, 1) := by decide +kernel
theorem dX2_next_60 : decode cX2_next 60 = .ok (.iinc 3 1, 3) := by decide +kernel
theorem dX2_next_63 : decode cX2_next 63 = .ok (.goto (-57), 3) := by decide +kernel
theorem dX2_next_66 : decode cX2_next 66 = .ok (.iload_n 2, 1) := by decide +kernel
theorem dX2_next_67 : decode cX2_next 67 = .ok (.iconst (-1), 1) := by decide +kernel
theorem dX2_next_68 : decode cX2_next 68 = .ok (.if_icmp .eq 13, 3) := by decide +kernel
theorem dX2_next_71 : decode cX2_next 71 = .ok (.aload_n 0, 1) := by decide +kernel
theorem dX2_next_72 : decode cX2_next 72 = .ok (.getfield 9, 3) := by decide +kernel
theorem dX2_next_75 : decode cX2_next 75 = .ok (.iload_n 2, 1) := by decide +kernel
theorem dX2_next_76 : decode cX2_next 76 = .ok (.dup2, 1) := by decide +kernel
theorem dX2_next_77 : decode cX2_next 77 = .ok (.iaload, 1) := by decide +kernel
theorem dX2_next_78 : decode cX2_next 78 = .ok (.iconst 1, 1) := by decide +kernel
theorem dX2_next_79 : decode cX2_next 79 = .ok (.iadd, 1) := by decide +kernel
theorem dX2_next_80 : decode cX2_next 80 = .ok (.iastore, 1) := by decide +kernel
theorem dX2_next_81 : decode cX2_next 81 = .ok (.iload_n 1, 1) := by decide +kernel
theorem dX2_next_82 : decode cX2_next 82 = .ok (.ireturn, 1) := by decide +kernel
theorem dX3_init_0 : decode cX3_init 0 = .ok (.aload_n 0, 1) := by decide +kernel
theorem dX3_init_1 : decode cX3_init 1 = .ok (.invokespecial 3, 3) := by decide +kernel
theorem dX3_init_4 : decode cX3_init 4 = .ok (.aload_n 0, 1) := by decide +kernel
theorem dX3_init_5 : decode cX3_init 5 = .ok (.bipush 13, 2) := by decide +kernel
theorem dX3_init_7 : decode cX3_init 7 = .ok (.anewarray 11, 3) := by decide +kernel
theorem dX3_init_10 : decode cX3_init 10 = .ok (.putfield 13, 3) := by decide +kernel
theorem dX3_init_13 : decode cX3_init 13 = .ok (.aload_n 0, 1) := by decide +kernel
theorem dX3_init_14 : decode cX3_init 14 = .ok (.iconst 0, 1) := by decide +kernel
theorem dX3_init_15 : decode cX3_init 15 = .ok (.putfield 17, 3) := by decide +kernel
theorem dX3_init_18 : decode cX3_init 18 = .ok (.aload_n 0, 1) := by decide +kernel
theorem dX3_init_19 : decode cX3_init 19 = .ok (.iconst 0, 1) := by decide +kernel
theorem dX3_init_20 : decode cX3_init 20 = .ok (.putfield 21, 3) := by decide +kernel
theorem dX3_init_23 : decode cX3_init 23 = .ok (.iconst 0, 1) := by decide +kernel
theorem dX3_init_24 : decode cX3_init 24 = .ok (.istore_n 1, 1) := by decide +kernel
theorem dX3_init_25 : decode cX3_init 25 = .ok (.iload_n 1, 1) := by decide +kernel
theorem dX3_init_26 : decode cX3_init 26 = .ok (.bipush 13, 2) := by decide +kernel
theorem dX3_init_28 : decode cX3_init 28 = .ok (.if_icmp .ge 22, 3) := by decide +kernel
theorem dX3_init_31 : decode cX3_init 31 = .ok (.aload_n 0, 1) := by decide +kernel
theorem dX3_init_32 : decode cX3_init 32 = .ok (.getfield 13, 3) := by decide +kernel
theorem dX3_init_35 : decode cX3_init 35 = .ok (.iload_n 1, 1) := by decide +kernel
theorem dX3_init_36 : decode cX3_init 36 = .ok (.new 11, 3) := by decide +kernel
theorem dX3_init_39 : decode cX3_init 39 = .ok (.dup, 1) := by decide +kernel
theorem dX3_init_40 : decode cX3_init 40 = .ok (.invokespecial 24, 3) := by decide +kernel
theorem dX3_init_43 : decode cX3_init 43 = .ok (.aastore, 1) := by decide +kernel
theorem dX3_init_44 : decode cX3_init 44 = .ok (.iinc 1 1, 3) := by decide +kernel
theorem dX3_init_47 : decode cX3_init 47 = .ok (.goto (-22), 3) := by decide +kernel
theorem dX3_init_50 : decode cX3_init 50 = .ok (.return_, 1) := by decide +kernel
theorem dX3_prepare_0 : decode cX3_prepare 0 = .ok (.aload_n 0, 1) := by decide +kernel
theorem dX3_prepare_1 : decode cX3_prepare 1 = .ok (.getfield 13, 3) := by decide +kernel
theorem dX3_prepare_4 : decode cX3_prepare 4 = .ok (.aload_n 0, 1) := by decide +kernel
theorem dX3_prepare_5 : decode cX3_prepare 5 = .ok (.getfield 17, 3) := by decide +kernel
theorem dX3_prepare_8 : decode cX3_prepare 8 = .ok (.aaload, 1) := by decide +kernel
theorem dX3_prepare_9 : decode cX3_prepare 9 = .ok (.aload_n 1, 1) := by decide +kernel
theorem dX3_prepare_10 : decode cX3_prepare 10 = .ok (.invokevirtual 25, 3) := by decide +kernel
theorem dX3_prepare_13 : decode cX3_prepare 13 = .ok (.return_, 1) := by decide +kernel
theorem dX3_settle_0 : decode cX3_settle 0 = .ok (.iload_n 1, 1) := by decide +kernel
theorem dX3_settle_1 : decode cX3_settle 1 = .ok (.ifCond .lt 43, 3) := by decide +kernel
theorem dX3_settle_4 : decode cX3_settle 4 = .ok (.aload_n 0, 1) := by decide +kernel
theorem dX3_settle_5 : decode cX3_settle 5 = .ok (.aload_n 0, 1) := by decide +kernel
theorem dX3_settle_6 : decode cX3_settle 6 = .ok (.getfield 17, 3) := by decide +kernel
theorem dX3_settle_9 : decode cX3_settle 9 = .ok (.iconst 1, 1) := by decide +kernel
theorem dX3_settle_10 : decode cX3_settle 10 = .ok (.iadd, 1) := by decide +kernel
theorem dX3_settle_11 : decode cX3_settle 11 = .ok (.bipush 13, 2) := by decide +kernel
theorem dX3_settle_13 : decode cX3_settle 13 = .ok (.if_icmp .ge 12, 3) := by decide +kernel
theorem dX3_settle_16 : decode cX3_settle 16 = .ok (.aload_n 0, 1) := by decide +kernel
theorem dX3_settle_17 : decode cX3_settle 17 = .ok (.getfield 17, 3) := by decide +kernel
theorem dX3_settle_20 : decode cX3_settle 20 = .ok (.iconst 1, 1) := by decide +kernel
theorem dX3_settle_21 : decode cX3_settle 21 = .ok (.iadd, 1) := by decide +kernel
theorem dX3_settle_22 : decode cX3_settle 22 = .ok (.goto 4, 3) := by decide +kernel
theorem dX3_settle_25 : decode cX3_settle 25 = .ok (.iconst 0, 1) := by decide +kernel
theorem dX3_settle_26 : decode cX3_settle 26 = .ok (.putfield 17, 3) := by decide +kernel
theorem dX3_settle_29 : decode cX3_settle 29 = .ok (.aload_n 0, 1) := by decide +kernel
theorem dX3_settle_30 : decode cX3_settle 30 = .ok (.aload_n 0, 1) := by decide +kernel
theorem dX3_settle_31 : decode cX3_settle 31 = .ok (.getfield 21, 3) := by decide +kernel
theorem dX3_settle_34 : decode cX3_settle 34 = .ok (.iconst 1, 1) := by decide +kernel
theorem dX3_settle_35 : decode cX3_settle 35 = .ok (.iadd, 1) := by decide +kernel
theorem dX3_settle_36 : decode cX3_settle 36 = .ok (.bipush 12, 2) := by decide +kernel
theorem dX3_settle_38 : decode cX3_settle 38 = .ok (.invokestatic 29, 3) := by decide +kernel
theorem dX3_settle_41 : decode cX3_settle 41 = .ok (.putfield 21, 3) := by decide +kernel
theorem dX3_settle_44 : decode cX3_settle 44 = .ok (.iload_n 1, 1) := by decide +kernel
theorem dX3_settle_45 : decode cX3_settle 45 = .ok (.ireturn, 1) := by decide +kernel
theorem dX3_stepBack_0 : decode cX3_stepBack 0 = .ok (.aload_n 0, 1) := by decide +kernel
theorem dX3_stepBack_1 : decode cX3_stepBack 1 = .ok (.aload_n 0, 1) := by decide +kernel
theorem dX3_stepBack_2 : decode cX3_stepBack 2 = .ok (.getfield 17, 3) := by decide +kernel
theorem dX3_stepBack_5 : decode cX3_stepBack 5 = .ok (.ifCond .le 12, 3) := by decide +kernel
theorem dX3_stepBack_8 : decode cX3_stepBack 8 = .ok (.aload_n 0, 1) := by decide +kernel
theorem dX3_stepBack_9 : decode cX3_stepBack 9 = .ok (.getfield 17, 3) := by decide +kernel
theorem dX3_stepBack_12 : decode cX3_stepBack 12 = .ok (.iconst 1, 1) := by decide +kernel
theorem dX3_stepBack_13 : decode cX3_stepBack 13 = .ok (.isub, 1) := by decide +kernel
theorem dX3_stepBack_14 : decode cX3_stepBack 14 = .ok (.goto 5, 3) := by decide +kernel
theorem dX3_stepBack_17 : decode cX3_stepBack 17 = .ok (.bipush 12, 2) := by decide +kernel
theorem dX3_stepBack_19 : decode cX3_stepBack 19 = .ok (.putfield 17, 3) := by decide +kernel
theorem dX3_stepBack_22 : decode cX3_stepBack 22 = .ok (.aload_n 0, 1) := by decide +kernel
theorem dX3_stepBack_23 : decode cX3_stepBack 23 = .ok (.dup, 1) := by decide +kernel
theorem dX3_stepBack_24 : decode cX3_stepBack 24 = .ok (.getfield 21, 3) := by decide +kernel
theorem dX3_stepBack_27 : decode cX3_stepBack 27 = .ok (.iconst 1, 1) := by decide +kernel
theorem dX3_stepBack_28 : decode cX3_stepBack 28 = .ok (.isub, 1) := by decide +kernel
theorem dX3_stepBack_29 : decode cX3_stepBack 29 = .ok (.putfield 21, 3) := by decide +kernel
theorem dX3_stepBack_32 : decode cX3_stepBack 32 = .ok (.aload_n 0, 1) := by decide +kernel
theorem dX3_stepBack_33 : decode cX3_stepBack 33 = .ok (.getfield 13, 3) := by decide +kernel
theorem dX3_stepBack_36 : decode cX3_stepBack 36 = .ok (.aload_n 0, 1) := by decide +kernel
theorem dX3_stepBack_37 : decode cX3_stepBack 37 = .ok (.getfield 17, 3) := by decide +kernel
theorem dX3_stepBack_40 : decode cX3_stepBack 40 = .ok (.aaload, 1) := by decide +kernel
theorem dX3_stepBack_41 : decode cX3_stepBack 41 = .ok (.aload_n 1, 1) := by decide +kernel
theorem dX3_stepBack_42 : decode cX3_stepBack 42 = .ok (.invokevirtual 35, 3) := by decide +kernel
theorem dX3_stepBack_45 : decode cX3_stepBack 45 = .ok (.return_, 1) := by decide +kernel
theorem dX3_forget_0 : decode cX3_forget 0 = .ok (.aload_n 0, 1) := by decide +kernel
theorem dX3_forget_1 : decode cX3_forget 1 = .ok (.iconst 0, 1) := by decide +kernel
theorem dX3_forget_2 : decode cX3_forget 2 = .ok (.putfield 21, 3) := by decide +kernel
theorem dX3_forget_5 : decode cX3_forget 5 = .ok (.return_, 1) := by decide +kernel
theorem dX4_init_0 : decode cX4_init 0 = .ok (.aload_n 0, 1) := by decide +kernel
theorem dX4_init_1 : decode cX4_init 1 = .ok (.invokespecial 3, 3) := by decide +kernel
theorem dX4_init_4 : decode cX4_init 4 = .ok (.aload_n 0, 1) := by decide +kernel
theorem dX4_init_5 : decode cX4_init 5 = .ok (.aload_n 1, 1) := by decide +kernel
theorem dX4_init_6 : decode cX4_init 6 = .ok (.putfield 9, 3) := by decide +kernel
theorem dX4_init_9 : decode cX4_init 9 = .ok (.aload_n 0, 1) := by decide +kernel
theorem dX4_init_10 : decode cX4_init 10 = .ok (.iconst 0, 1) := by decide +kernel
theorem dX4_init_11 : decode cX4_init 11 = .ok (.putfield 15, 3) := by decide +kernel
theorem dX4_init_14 : decode cX4_init 14 = .ok (.return_, 1) := by decide +kernel
theorem dX4_byteAt_0 : decode cX4_byteAt 0 = .ok (.iload_n 1, 1) := by decide +kernel
theorem dX4_byteAt_1 : decode cX4_byteAt 1 = .ok (.ifCond .lt 33, 3) := by decide +kernel
theorem dX4_byteAt_4 : decode cX4_byteAt 4 = .ok (.iload_n 1, 1) := by decide +kernel
theorem dX4_byteAt_5 : decode cX4_byteAt 5 = .ok (.aload_n 0, 1) := by decide +kernel
theorem dX4_byteAt_6 : decode cX4_byteAt 6 = .ok (.getfield 15, 3) := by decide +kernel
theorem dX4_byteAt_9 : decode cX4_byteAt 9 = .ok (.if_icmp .ge 25, 3) := by decide +kernel
theorem dX4_byteAt_12 : decode cX4_byteAt 12 = .ok (.iload_n 1, 1) := by decide +kernel
theorem dX4_byteAt_13 : decode cX4_byteAt 13 = .ok (.aload_n 0, 1) := by decide +kernel
theorem dX4_byteAt_14 : decode cX4_byteAt 14 = .ok (.getfield 9, 3) := by decide +kernel
theorem dX4_byteAt_17 : decode cX4_byteAt 17 = .ok (.arraylength, 1) := by decide +kernel
theorem dX4_byteAt_18 : decode cX4_byteAt 18 = .ok (.if_icmp .ge 16, 3) := by decide +kernel
theorem dX4_byteAt_21 : decode cX4_byteAt 21 = .ok (.aload_n 0, 1) := by decide +kernel
theorem dX4_byteAt_22 : decode cX4_byteAt 22 = .ok (.getfield 9, 3) := by decide +kernel
theorem dX4_byteAt_25 : decode cX4_byteAt 25 = .ok (.iload_n 1, 1) := by decide +kernel
theorem dX4_byteAt_26 : decode cX4_byteAt 26 = .ok (.baload, 1) := by decide +kernel
theorem dX4_byteAt_27 : decode cX4_byteAt 27 = .ok (.sipush 255, 3) := by decide +kernel
theorem dX4_byteAt_30 : decode cX4_byteAt 30 = .ok (.iand, 1) := by decide +kernel
theorem dX4_byteAt_31 : decode cX4_byteAt 31 = .ok (.goto 4, 3) := by decide +kernel
theorem dX4_byteAt_34 : decode cX4_byteAt 34 = .ok (.iconst (-1), 1) := by decide +kernel
theorem dX4_byteAt_35 : decode cX4_byteAt 35 = .ok (.ireturn, 1) := by decide +kernel
theorem dX4_add_0 : decode cX4_add 0 = .ok (.aload_n 0, 1) := by decide +kernel
theorem dX4_add_1 : decode cX4_add 1 = .ok (.getfield 15, 3) := by decide +kernel
theorem dX4_add_4 : decode cX4_add 4 = .ok (.ifCond .lt 36, 3) := by decide +kernel
theorem dX4_add_7 : decode cX4_add 7 = .ok (.aload_n 0, 1) := by decide +kernel
theorem dX4_add_8 : decode cX4_add 8 = .ok (.getfield 15, 3) := by decide +kernel
theorem dX4_add_11 : decode cX4_add 11 = .ok (.aload_n 0, 1) := by decide +kernel
theorem dX4_add_12 : decode cX4_add 12 = .ok (.getfield 9, 3) := by decide +kernel
theorem dX4_add_15 : decode cX4_add 15 = .ok (.arraylength, 1) := by decide +kernel
theorem dX4_add_16 : decode cX4_add 16 = .ok (.if_icmp .ge 24, 3) := by decide +kernel
theorem dX4_add_19 : decode cX4_add 19 = .ok (.aload_n 0, 1) := by decide +kernel
theorem dX4_add_20 : decode cX4_add 20 = .ok (.getfield 9, 3) := by decide +kernel
theorem dX4_add_23 : decode cX4_add 23 = .ok (.aload_n 0, 1) := by decide +kernel
theorem dX4_add_24 : decode cX4_add 24 = .ok (.getfield 15, 3) := by decide +kernel
theorem dX4_add_27 : decode cX4_add 27 = .ok (.iload_n 1, 1) := by decide +kernel
theorem dX4_add_28 : decode cX4_add 28 = .ok (.i2b, 1) := by decide +kernel
theorem dX4_add_29 : decode cX4_add 29 = .ok (.bastore, 1) := by decide +kernel
theorem dX4_add_30 : decode cX4_add 30 = .ok (.aload_n 0, 1) := by decide +kernel
theorem dX4_add_31 : decode cX4_add 31 = .ok (.dup, 1) := by decide +kernel
theorem dX4_add_32 : decode cX4_add 32 = .ok (.getfield 15, 3) := by decide +kernel
theorem dX4_add_35 : decode cX4_add 35 = .ok (.iconst 1, 1) := by decide +kernel
theorem dX4_add_36 : decode cX4_add 36 = .ok (.iadd, 1) := by decide +kernel
theorem dX4_add_37 : decode cX4_add 37 = .ok (.putfield 15, 3) := by decide +kernel
theorem dX4_add_40 : decode cX4_add 40 = .ok (.return_, 1) := by decide +kernel
theorem dX4_addFour_0 : decode cX4_addFour 0 = .ok (.aload_n 0, 1) := by decide +kernel
theorem dX4_addFour_1 : decode cX4_addFour 1 = .ok (.iload_n 1, 1) := by decide +kernel
theorem dX4_addFour_2 : decode cX4_addFour 2 = .ok (.bipush 24, 2) := by decide +kernel
theorem dX4_addFour_4 : decode cX4_addFour 4 = .ok (.iushr, 1) := by decide +kernel
theorem dX4_addFour_5 : decode cX4_addFour 5 = .ok (.invokevirtual 19, 3) := by decide +kernel
theorem dX4_addFour_8 : decode cX4_addFour 8 = .ok (.aload_n 0, 1) := by decide +kernel
theorem dX4_addFour_9 : decode cX4_addFour 9 = .ok (.iload_n 1, 1) := by decide +kernel
theorem dX4_addFour_10 : decode cX4_addFour 10 = .ok (.bipush 16, 2) := by decide +kernel
theorem dX4_addFour_12 : decode cX4_addFour 12 = .ok (.iushr, 1) := by decide +kernel
theorem dX4_addFour_13 : decode cX4_addFour 13 = .ok (.invokevirtual 19, 3) := by decide +kernel
theorem dX4_addFour_16 : decode cX4_addFour 16 = .ok (.aload_n 0, 1) := by decide +kernel
theorem dX4_addFour_17 : decode cX4_addFour 17 = .ok (.iload_n 1, 1) := by decide +kernel
theorem dX4_addFour_18 : decode cX4_addFour 18 = .ok (.bipush 8, 2) := by decide +kernel
theorem dX4_addFour_20 : decode cX4_addFour 20 = .ok (.iushr, 1) := by decide +kernel
theorem dX4_addFour_21 : decode cX4_addFour 21 = .ok (.invokevirtual 19, 3) := by decide +kernel
theorem dX4_addFour_24 : decode cX4_addFour 24 = .ok (.aload_n 0, 1) := by decide +kernel
theorem dX4_addFour_25 : decode cX4_addFour 25 = .ok (.iload_n 1, 1) := by decide +kernel
theorem dX4_addFour_26 : decode cX4_addFour 26 = .ok (.invokevirtual 19, 3) := by decide +kernel
theorem dX4_addFour_29 : decode cX4_addFour 29 = .ok (.return_, 1) := by decide +kernel
theorem dX4_addNumber_0 : decode cX4_addNumber 0 = .ok (.iconst 0, 1) := by decide +kernel
theorem dX4_addNumber_1 : decode cX4_addNumber 1 = .ok (.istore_n 2, 1) := by decide +kernel
theorem dX4_addNumber_2 : decode cX4_addNumber 2 = .ok (.sipush 1000, 3) := by decide +kernel
theorem dX4_addNumber_5 : decode cX4_addNumber 5 = .ok (.istore_n 3, 1) := by decide +kernel
theorem dX4_addNumber_6 : decode cX4_addNumber 6 = .ok (.iload_n 3, 1) := by decide +kernel
theorem dX4_addNumber_7 : decode cX4_addNumber 7 = .ok (.ifCond .le 52, 3) := by decide +kernel
theorem dX4_addNumber_10 : decode cX4_addNumber 10 = .ok (.iload_n 1, 1) := by decide +kernel
theorem dX4_addNumber_11 : decode cX4_addNumber 11 = .ok (.iload_n 3, 1) := by decide +kernel
theorem dX4_addNumber_12 : decode cX4_addNumber 12 = .ok (.idiv, 1) := by decide +kernel
theorem dX4_addNumber_13 : decode cX4_addNumber 13 = .ok (.bipush 10, 2) := by decide +kernel
theorem dX4_addNumber_15 : decode cX4_addNumber 15 = .ok (.irem, 1) := by decide +kernel
theorem dX4_addNumber_16 : decode cX4_addNumber 16 = .ok (.istore 4, 2) := by decide +kernel
theorem dX4_addNumber_18 : decode cX4_addNumber 18 = .ok (.iload_n 2, 1) := by decide +kernel
theorem dX4_addNumber_19 : decode cX4_addNumber 19 = .ok (.ifCond .ne 13, 3) := by decide +kernel
theorem dX4_addNumber_22 : decode cX4_addNumber 22 = .ok (.iload 4, 2) := by decide +kernel
theorem dX4_addNumber_24 : decode cX4_addNumber 24 = .ok (.ifCond .gt 8, 3) := by decide +kernel
theorem dX4_addNumber_27 : decode cX4_addNumber 27 = .ok (.iload_n 3, 1) := by decide +kernel
theorem dX4_addNumber_28 : decode cX4_addNumber 28 = .ok (.iconst 1, 1) := by decide +kernel
theorem dX4_addNumber_29 : decode cX4_addNumber 29 = .ok (.if_icmp .ne 7, 3) := by decide +kernel
theorem dX4_addNumber_32 : decode cX4_addNumber 32 = .ok (.iconst 1, 1) := by decide +kernel
theorem dX4_addNumber_33 : decode cX4_addNumber 33 = .ok (.goto 4, 3) := by decide +kernel
theorem dX4_addNumber_36 : decode cX4_addNumber 36 = .ok (.iconst 0, 1) := by decide +kernel
theorem dX4_addNumber_37 : decode cX4_addNumber 37 = .ok (.istore_n 2, 1) := by decide +kernel
theorem dX4_addNumber_38 : decode cX4_addNumber 38 = .ok (.iload_n 2, 1) := by decide +kernel
theorem dX4_addNumber_39 : decode cX4_addNumber 39 = .ok (.ifCond .eq 12, 3) := by decide +kernel
theorem dX4_addNumber_42 : decode cX4_addNumber 42 = .ok (.aload_n 0, 1) := by decide +kernel
theorem dX4_addNumber_43 : decode cX4_addNumber 43 = .ok (.bipush 48, 2) := by decide +kernel
theorem dX4_addNumber_45 : decode cX4_addNumber 45 = .ok (.iload 4, 2) := by decide +kernel
theorem dX4_addNumber_47 : decode cX4_addNumber 47 = .ok (.iadd, 1) := by decide +kernel
theorem dX4_addNumber_48 : decode cX4_addNumber 48 = .ok (.invokevirtual 19, 3) := by decide +kernel
theorem dX4_addNumber_51 : decode cX4_addNumber 51 = .ok (.iload_n 3, 1) := by decide +kernel
theorem dX4_addNumber_52 : decode cX4_addNumber 52 = .ok (.bipush 10, 2) := by decide +kernel
theorem dX4_addNumber_54 : decode cX4_addNumber 54 = .ok (.idiv, 1) := by decide +kernel
theorem dX4_addNumber_55 : decode cX4_addNumber 55 = .ok (.istore_n 3, 1) := by decide +kernel
theorem dX4_addNumber_56 : decode cX4_addNumber 56 = .ok (.goto (-50), 3) := by decide +kernel
theorem dX4_addNumber_59 : decode cX4_addNumber 59 = .ok (.return_, 1) := by decide +kernel
theorem dX4_copy_0 : decode cX4_copy 0 = .ok (.aload_n 0, 1) := by decide +kernel
theorem dX4_copy_1 : decode cX4_copy 1 = .ok (.aload_n 1, 1) := by decide +kernel
theorem dX4_copy_2 : decode cX4_copy 2 = .ok (.getfield 15, 3) := by decide +kernel
theorem dX4_copy_5 : decode cX4_copy 5 = .ok (.aload_n 0, 1) := by decide +kernel
theorem dX4_copy_6 : decode cX4_copy 6 = .ok (.getfield 9, 3) := by decide +kernel
theorem dX4_copy_9 : decode cX4_copy 9 = .ok (.arraylength, 1) := by decide +kernel
theorem dX4_copy_10 : decode cX4_copy 10 = .ok (.invokestatic 23, 3) := by decide +kernel
theorem dX4_copy_13 : decode cX4_copy 13 = .ok (.putfield 15, 3) := by decide +kernel
theorem dX4_copy_16 : decode cX4_copy 16 = .ok (.aload_n 1, 1) := by decide +kernel
theorem dX4_copy_17 : decode cX4_copy 17 = .ok (.getfield 9, 3) := by decide +kernel
theorem dX4_copy_20 : decode cX4_copy 20 = .ok (.iconst 0, 1) := by decide +kernel
theorem dX4_copy_21 : decode cX4_copy 21 = .ok (.aload_n 0, 1) := by decide +kernel
theorem dX4_copy_22 : decode cX4_copy 22 = .ok (.getfield 9, 3) := by decide +kernel
theorem dX4_copy_25 : decode cX4_copy 25 = .ok (.iconst 0, 1) := by decide +kernel
theorem dX4_copy_26 : decode cX4_copy 26 = .ok (.aload_n 0, 1) := by decide +kernel
theorem dX4_copy_27 : decode cX4_copy 27 = .ok (.getfield 15, 3) := by decide +kernel
theorem dX4_copy_30 : decode cX4_copy 30 = .ok (.invokestatic 29, 3) := by decide +kernel
theorem dX4_copy_33 : decode cX4_copy 33 = .ok (.return_, 1) := by decide +kernel
theorem dX5_init_0 : decode cX5_init 0 = .ok (.aload_n 0, 1) := by decide +kernel
theorem dX5_init_1 : decode cX5_init 1 = .ok (.invokespecial 3, 3) := by decide +kernel
theorem dX5_init_4 : decode cX5_init 4 = .ok (.aload_n 0, 1) := by decide +kernel
theorem dX5_init_5 : decode cX5_init 5 = .ok (.iconst 4, 1) := by decide +kernel
theorem dX5_init_6 : decode cX5_init 6 = .ok (.newarray .int, 2) := by decide +kernel
theorem dX5_init_8 : decode cX5_init 8 = .ok (.putfield 9, 3) := by decide +kernel
theorem dX5_init_11 : decode cX5_init 11 = .ok (.aload_n 0, 1) := by decide +kernel
theorem dX5_init_12 : decode cX5_init 12 = .ok (.aload_n 1, 1) := by decide +kernel
theorem dX5_init_13 : decode cX5_init 13 = .ok (.putfield 15, 3) := by decide +kernel
theorem dX5_init_16 : decode cX5_init 16 = .ok (.aload_n 0, 1) := by decide +kernel
theorem dX5_init_17 : decode cX5_init 17 = .ok (.aload_n 2, 1) := by decide +kernel
theorem dX5_init_18 : decode cX5_init 18 = .ok (.putfield 19, 3) := by decide +kernel
theorem dX5_init_21 : decode cX5_init 21 = .ok (.return_, 1) := by decide +kernel
theorem dX5_perform_0 : decode cX5_perform 0 = .ok (.aload_n 0, 1) := by decide +kernel
theorem dX5_perform_1 : decode cX5_perform 1 = .ok (.iconst 0, 1) := by decide +kernel
theorem dX5_perform_2 : decode cX5_perform 2 = .ok (.putfield 23, 3) := by decide +kernel
theorem dX5_perform_5 : decode cX5_perform 5 = .ok (.aload_n 0, 1) := by decide +kernel
theorem dX5_perform_6 : decode cX5_perform 6 = .ok (.iconst 0, 1) := by decide +kernel
theorem dX5_perform_7 : decode cX5_perform 7 = .ok (.putfield 27, 3) := by decide +kernel
theorem dX5_perform_10 : decode cX5_perform 10 = .ok (.aload_n 0, 1) := by decide +kernel
theorem dX5_perform_11 : decode cX5_perform 11 = .ok (.iconst (-1), 1) := by decide +kernel
theorem dX5_perform_12 : decode cX5_perform 12 = .ok (.putfield 30, 3) := by decide +kernel
theorem dX5_perform_15 : decode cX5_perform 15 = .ok (.aload_n 0, 1) := by decide +kernel
theorem dX5_perform_16 : decode cX5_perform 16 = .ok (.invokevirtual 33, 3) := by decide +kernel
theorem dX5_perform_19 : decode cX5_perform 19 = .ok (.iconst 0, 1) := by decide +kernel
theorem dX5_perform_20 : decode cX5_perform 20 = .ok (.istore_n 1, 1) := by decide +kernel
theorem dX5_perform_21 : decode cX5_perform 21 = .ok (.iload_n 1, 1) := by decide +kernel
theorem dX5_perform_22 : decode cX5_perform 22 = .ok (.sipush 800, 3) := by decide +kernel
theorem dX5_perform_25 : decode cX5_perform 25 = .ok (.if_icmp .ge 27, 3) := by decide +kernel
theorem dX5_perform_28 : decode cX5_perform 28 = .ok (.aload_n 0, 1) := by decide +kernel
theorem dX5_perform_29 : decode cX5_perform 29 = .ok (.getfield 27, 3) := by decide +kernel
theorem dX5_perform_32 : decode cX5_perform 32 = .ok (.ifCond .ne 20, 3) := by decide +kernel
theorem dX5_perform_35 : decode cX5_perform 35 = .ok (.aload_n 0, 1) := by decide +kernel
theorem dX5_perform_36 : decode cX5_perform 36 = .ok (.getfield 36, 3) := by decide +kernel
theorem dX5_perform_39 : decode cX5_perform 39 = .ok (.ifCond .eq 13, 3) := by decide +kernel
theorem dX5_perform_42 : decode cX5_perform 42 = .ok (.aload_n 0, 1) := by decide +kernel
theorem dX5_perform_43 : decode cX5_perform 43 = .ok (.invokevirtual 39, 3) := by decide +kernel
theorem dX5_perform_46 : decode cX5_perform 46 = .ok (.iinc 1 1, 3) := by decide +kernel
theorem dX5_perform_49 : decode cX5_perform 49 = .ok (.goto (-28), 3) := by decide +kernel
theorem dX5_perform_52 : decode cX5_perform 52 = .ok (.return_, 1) := by decide +kernel
theorem dX5_doLine_0 : decode cX5_doLine 0 = .ok (.aload_n 0, 1) := by decide +kernel
theorem dX5_doLine_1 : decode cX5_doLine 1 = .ok (.getfield 42, 3) := by decide +kernel
theorem dX5_doLine_4 : decode cX5_doLine 4 = .ok (.istore_n 1, 1) := by decide +kernel
theorem dX5_doLine_5 : decode cX5_doLine 5 = .ok (.aload_n 0, 1) := by decide +kernel
theorem dX5_doLine_6 : decode cX5_doLine 6 = .ok (.getfield 36, 3) := by decide +kernel
theorem dX5_doLine_9 : decode cX5_doLine 9 = .ok (.iconst 2, 1) := by decide +kernel
theorem dX5_doLine_10 : decode cX5_doLine 10 = .ok (.if_icmp .ne 10, 3) := by decide +kernel
theorem dX5_doLine_13 : decode cX5_doLine 13 = .ok (.aload_n 0, 1) := by decide +kernel
theorem dX5_doLine_14 : decode cX5_doLine 14 = .ok (.invokevirtual 45, 3) := by decide +kernel
theorem dX5_doLine_17 : decode cX5_doLine 17 = .ok (.goto 4, 3) := by decide +kernel
theorem dX5_doLine_20 : decode cX5_doLine 20 = .ok (.iconst (-1), 1) := by decide +kernel
theorem dX5_doLine_21 : decode cX5_doLine 21 = .ok (.istore_n 2, 1) := by decide +kernel
theorem dX5_doLine_22 : decode cX5_doLine 22 = .ok (.iload_n 2, 1) := by decide +kernel
theorem dX5_doLine_23 : decode cX5_doLine 23 = .ok (.iconst (-1), 1) := by decide +kernel
theorem dX5_doLine_24 : decode cX5_doLine 24 = .ok (.if_icmp .ne 13, 3) := by decide +kernel
theorem dX5_doLine_27 : decode cX5_doLine 27 = .ok (.aload_n 0, 1) := by decide +kernel
theorem dX5_doLine_28 : decode cX5_doLine 28 = .ok (.iconst 1, 1) := by decide +kernel
theorem dX5_doLine_29 : decode cX5_doLine 29 = .ok (.aload_n 0, 1) := by decide +kernel
theorem dX5_doLine_30 : decode cX5_doLine 30 = .ok (.getfield 42, 3) := by decide +kernel
theorem dX5_doLine_33 : decode cX5_doLine 33 = .ok (.invokevirtual 49, 3) := by decide +kernel
theorem dX5_doLine_36 : decode cX5_doLine 36 = .ok (.return_, 1) := by decide +kernel
theorem dX5_doLine_37 : decode cX5_doLine 37 = .ok (.aload_n 0, 1) := by decide +kernel
theorem dX5_doLine_38 : decode cX5_doLine 38 = .ok (.invokevirtual 33, 3) := by decide +kernel
theorem dX5_doLine_41 : decode cX5_doLine 41 = .ok (.iload_n 2, 1) := by decide +kernel
theorem dX5_doLine_42 : decode cX5_doLine 42 = .ok (.invokestatic 53, 3) := by decide +kernel
theorem dX5_doLine_45 : decode cX5_doLine 45 = .ok (.astore_n 3, 1) := by decide +kernel
theorem dX5_doLine_46 : decode cX5_doLine 46 = .ok (.iconst 0, 1) := by decide +kernel
theorem dX5_doLine_47 : decode cX5_doLine 47 = .ok (.istore 4, 2) := by decide +kernel
theorem dX5_doLine_49 : decode cX5_doLine 49 = .ok (.iload 4, 2) := by decide +kernel
theorem dX5_doLine_51 : decode cX5_doLine 51 = .ok (.aload_n 3, 1) := by decide +kernel
theorem dX5_doLine_52 : decode cX5_doLine 52 = .ok (.invokevirtual 57, 3) := by decide +kernel
theorem dX5_doLine_55 : decode cX5_doLine 55 = .ok (.if_icmp .ge 36, 3) := by decide +kernel
theorem dX5_doLine_58 : decode cX5_doLine 58 = .ok (.iload 4, 2) := by decide +kernel
theorem dX5_doLine_60 : decode cX5_doLine 60 = .ok (.aload_n 0, 1) := by decide +kernel
theorem dX5_doLine_61 : decode cX5_doLine 61 = .ok (.getfield 9, 3) := by decide +kernel
theorem dX5_doLine_64 : decode cX5_doLine 64 = .ok (.arraylength, 1) := by decide +kernel
theorem dX5_doLine_65 : decode cX5_doLine 65 = .ok (.if_icmp .ge 26, 3) := by decide +kernel
theorem dX5_doLine_68 : decode cX5_doLine 68 = .ok (.aload_n 0, 1) := by decide +kernel
theorem dX5_doLine_69 : decode cX5_doLine 69 = .ok (.getfield 9, 3) := by decide +kernel
theorem dX5_doLine_72 : decode cX5_doLine 72 = .ok (.iload 4, 2) := by decide +kernel
theorem dX5_doLine_74 : decode cX5_doLine 74 = .ok (.aload_n 0, 1) := by decide +kernel
theorem dX5_doLine_75 : decode cX5_doLine 75 = .ok (.aload_n 3, 1) := by decide +kernel
theorem dX5_doLine_76 : decode cX5_doLine 76 = .ok (.iload 4, 2) := by decide +kernel
theorem dX5_doLine_78 : decode cX5_doLine 78 = .ok (.invokevirtual 62, 3) := by decide +kernel
theorem dX5_doLine_81 : decode cX5_doLine 81 = .ok (.invokevirtual 66, 3) := by decide +kernel
theorem dX5_doLine_84 : decode cX5_doLine 84 = .ok (.iastore, 1) := by decide +kernel
theorem dX5_doLine_85 : decode cX5_doLine 85 = .ok (.iinc 4 1, 3) := by decide +kernel
theorem dX5_doLine_88 : decode cX5_doLine 88 = .ok (.goto (-39), 3) := by decide +kernel
theorem dX5_doLine_91 : decode cX5_doLine 91 = .ok (.iconst 0, 1) := by decide +kernel
theorem dX5_doLine_92 : decode cX5_doLine 92 = .ok (.istore 4, 2) := by decide +kernel
theorem dX5_doLine_94 : decode cX5_doLine 94 = .ok (.iload 4, 2) := by decide +kernel
theorem dX5_doLine_96 : decode cX5_doLine 96 = .ok (.sipush 800, 3) := by decide +kernel
theorem dX5_doLine_99 : decode cX5_doLine 99 = .ok (.if_icmp .ge 38, 3) := by decide +kernel
theorem dX5_doLine_102 : decode cX5_doLine 102 = .ok (.iload_n 2, 1) := by decide +kernel
theorem dX5_doLine_103 : decode cX5_doLine 103 = .ok (.ifCond .ne 34, 3) := by decide +kernel
theorem dX5_doLine_106 : decode cX5_doLine 106 = .ok (.aload_n 0, 1) := by decide +kernel
theorem dX5_doLine_107 : decode cX5_doLine 107 = .ok (.getfield 27, 3) := by decide +kernel
theorem dX5_doLine_110 : decode cX5_doLine 110 = .ok (.ifCond .ne 27, 3) := by decide +kernel
theorem dX5_doLine_113 : decode cX5_doLine 113 = .ok (.aload_n 0, 1) := by decide +kernel
theorem dX5_doLine_114 : decode cX5_doLine 114 = .ok (.getfield 36, 3) := by decide +kernel
theorem dX5_doLine_117 : decode cX5_doLine 117 = .ok (.iconst 3, 1) := by decide +kernel
theorem dX5_doLine_118 : decode cX5_doLine 118 = .ok (.if_icmp .ne 19, 3) := by decide +kernel
theorem dX5_doLine_121 : decode cX5_doLine 121 = .ok (.aload_n 0, 1) := by decide +kernel
theorem dX5_doLine_122 : decode cX5_doLine 122 = .ok (.aload_n 0, 1) := by decide +kernel
theorem dX5_doLine_123 : decode cX5_doLine 123 = .ok (.getfield 9, 3) := by decide +kernel
theorem dX5_doLine_126 : decode cX5_doLine 126 = .ok (.iconst 0, 1) := by decide +kernel
theorem dX5_doLine_127 : decode cX5_doLine 127 = .ok (.iaload, 1) := by decide +kernel
theorem dX5_doLine_128 : decode cX5_doLine 128 = .ok (.invokevirtual 70, 3) := by decide +kernel
theorem dX5_doLine_131 : decode cX5_doLine 131 = .ok (.iinc 4 1, 3) := by decide +kernel
theorem dX5_doLine_134 : decode cX5_doLine 134 = .ok (.goto (-40), 3) := by decide +kernel
theorem dX5_doLine_137 : decode cX5_doLine 137 = .ok (.aload_n 0, 1) := by decide +kernel
theorem dX5_doLine_138 : decode cX5_doLine 138 = .ok (.getfield 36, 3) := by decide +kernel
theorem dX5_doLine_141 : decode cX5_doLine 141 = .ok (.bipush 59, 2) := by decide +kernel
theorem dX5_doLine_143 : decode cX5_doLine 143 = .ok (.if_icmp .eq 12, 3) := by decide +kernel
theorem dX5_doLine_146 : decode cX5_doLine 146 = .ok (.aload_n 0, 1) := by decide +kernel
theorem dX5_doLine_147 : decode cX5_doLine 147 = .ok (.iconst 1, 1) := by decide +kernel
theorem dX5_doLine_148 : decode cX5_doLine 148 = .ok (.aload_n 0, 1) := by decide +kernel
theorem dX5_doLine_149 : decode cX5_doLine 149 = .ok (.getfield 42, 3) := by decide +kernel
theorem dX5_doLine_152 : decode cX5_doLine 152 = .ok (.invokevirtual 49, 3) := by decide +kernel
theorem dX5_doLine_155 : decode cX5_doLine 155 = .ok (.aload_n 0, 1) := by decide +kernel
theorem dX5_doLine_156 : decode cX5_doLine 156 = .ok (.getfield 27, 3) := by decide +kernel
theorem dX5_doLine_159 : decode cX5_doLine 159 = .ok (.ifCond .ne 17, 3) := by decide +kernel
theorem dX5_doLine_162 : decode cX5_doLine 162 = .ok (.aload_n 0, 1) := by decide +kernel
theorem dX5_doLine_163 : decode cX5_doLine 163 = .ok (.iload_n 2, 1) := by decide +kernel
theorem dX5_doLine_164 : decode cX5_doLine 164 = .ok (.invokevirtual 74, 3) := by decide +kernel
theorem dX5_doLine_167 : decode cX5_doLine 167 = .ok (.ifCond .ge 9, 3) := by decide +kernel
theorem dX5_doLine_170 : decode cX5_doLine 170 = .ok (.aload_n 0, 1) := by decide +kernel
theorem dX5_doLine_171 : decode cX5_doLine 171 = .ok (.iconst 4, 1) := by decide +kernel
theorem dX5_doLine_172 : decode cX5_doLine 172 = .ok (.iload_n 1, 1) := by decide +kernel
theorem dX5_doLine_173 : decode cX5_doLine 173 = .ok (.invokevirtual 49, 3) := by decide +kernel
theorem dX5_doLine_176 : decode cX5_doLine 176 = .ok (.aload_n 0, 1) := by decide +kernel
theorem dX5_doLine_177 : decode cX5_doLine 177 = .ok (.invokevirtual 33, 3) := by decide +kernel
theorem dX5_doLine_180 : decode cX5_doLine 180 = .ok (.return_, 1) := by decide +kernel
theorem dX5_fail_0 : decode cX5_fail 0 = .ok (.aload_n 0, 1) := by decide +kernel
theorem dX5_fail_1 : decode cX5_fail 1 = .ok (.getfield 27, 3) := by decide +kernel
theorem dX5_fail_4 : decode cX5_fail 4 = .ok (.ifCond .ne 13, 3) := by decide +kernel
theorem dX5_fail_7 : decode cX5_fail 7 = .ok (.aload_n 0, 1) := by decide +kernel
theorem dX5_fail_8 : decode cX5_fail 8 = .ok (.iload_n 1, 1) := by decide +kernel
theorem dX5_fail_9 : decode cX5_fail 9 = .ok (.putfield 27, 3) := by decide +kernel
theorem dX5_fail_12 : decode cX5_fail 12 = .ok (.aload_n 0, 1) := by decide +kernel
theorem dX5_fail_13 : decode cX5_fail 13 = .ok (.iload_n 2, 1) := by decide +kernel
theorem dX5_fail_14 : decode cX5_fail 14 = .ok (.putfield 30, 3) := by decide +kernel
theorem dX5_fail_17 : decode cX5_fail 17 = .ok (.return_, 1) := by decide +kernel
theorem dX5_lineHere_0 : decode cX5_lineHere 0 = .ok (.aload_n 0, 1) := by decide +kernel
theorem dX5_lineHere_1 : decode cX5_lineHere 1 = .ok (.ldc 78, 2) := by decide +kernel
theorem dX5_lineHere_3 : decode cX5_lineHere 3 = .ok (.invokevirtual 80, 3) := by decide +kernel
theorem dX5_lineHere_6 : decode cX5_lineHere 6 = .ok (.ifCond .eq 7, 3) := by decide +kernel
theorem dX5_lineHere_9 : decode cX5_lineHere 9 = .ok (.iconst 0, 1) := by decide +kernel
theorem dX5_lineHere_10 : decode cX5_lineHere 10 = .ok (.goto 83, 3) := by decide +kernel
theorem dX5_lineHere_13 : decode cX5_lineHere 13 = .ok (.aload_n 0, 1) := by decide +kernel
theorem dX5_lineHere_14 : decode cX5_lineHere 14 = .ok (.ldc 84, 2) := by decide +kernel
theorem dX5_lineHere_16 : decode cX5_lineHere 16 = .ok (.invokevirtual 80, 3) := by decide +kernel
theorem dX5_lineHere_19 : decode cX5_lineHere 19 = .ok (.ifCond .eq 7, 3) := by decide +kernel
theorem dX5_lineHere_22 : decode cX5_lineHere 22 = .ok (.iconst 1, 1) := by decide +kernel
theorem dX5_lineHere_23 : decode cX5_lineHere 23 = .ok (.goto 70, 3) := by decide +kernel
theorem dX5_lineHere_26 : decode cX5_lineHere 26 = .ok (.aload_n 0, 1) := by decide +kernel
theorem dX5_lineHere_27 : decode cX5_lineHere 27 = .ok (.ldc 86, 2) := by decide +kernel
theorem dX5_lineHere_29 : decode cX5_lineHere 29 = .ok (.invokevirtual 80, 3) := by decide +kernel
theorem dX5_lineHere_32 : decode cX5_lineHere 32 = .ok (.ifCond .eq 7, 3) := by decide +kernel
theorem dX5_lineHere_35 : decode cX5_lineHere 35 = .ok (.iconst 2, 1) := by decide +kernel
theorem dX5_lineHere_36 : decode cX5_lineHere 36 = .ok (.goto 57, 3) := by decide +kernel
theorem dX5_lineHere_39 : decode cX5_lineHere 39 = .ok (.aload_n 0, 1) := by decide +kernel
theorem dX5_lineHere_40 : decode cX5_lineHere 40 = .ok (.ldc 88, 2) := by decide +kernel
theorem dX5_lineHere_42 : decode cX5_lineHere 42 = .ok (.invokevirtual 80, 3) := by decide +kernel
theorem dX5_lineHere_45 : decode cX5_lineHere 45 = .ok (.ifCond .eq 7, 3) := by decide +kernel
theorem dX5_lineHere_48 : decode cX5_lineHere 48 = .ok (.iconst 3, 1) := by decide +kernel
theorem dX5_lineHere_49 : decode cX5_lineHere 49 = .ok (.goto 44, 3) := by decide +kernel
theorem dX5_lineHere_52 : decode cX5_lineHere 52 = .ok (.aload_n 0, 1) := by decide +kernel
theorem dX5_lineHere_53 : decode cX5_lineHere 53 = .ok (.ldc 90, 2) := by decide +kernel
theorem dX5_lineHere_55 : decode cX5_lineHere 55 = .ok (.invokevirtual 80, 3) := by decide +kernel
theorem dX5_lineHere_58 : decode cX5_lineHere 58 = .ok (.ifCond .eq 7, 3) := by decide +kernel
theorem dX5_lineHere_61 : decode cX5_lineHere 61 = .ok (.iconst 4, 1) := by decide +kernel
theorem dX5_lineHere_62 : decode cX5_lineHere 62 = .ok (.goto 31, 3) := by decide +kernel
theorem dX5_lineHere_65 : decode cX5_lineHere 65 = .ok (.aload_n 0, 1) := by decide +kernel
theorem dX5_lineHere_66 : decode cX5_lineHere 66 = .ok (.ldc 92, 2) := by decide +kernel
theorem dX5_lineHere_68 : decode cX5_lineHere 68 = .ok (.invokevirtual 80, 3) := by decide +kernel
theorem dX5_lineHere_71 : decode cX5_lineHere 71 = .ok (.ifCond .eq 7, 3) := by decide +kernel
theorem dX5_lineHere_74 : decode cX5_lineHere 74 = .ok (.iconst 5, 1) := by decide +kernel
theorem dX5_lineHere_75 : decode cX5_lineHere 75 = .ok (.goto 18, 3) := by decide +kernel
theorem dX5_lineHere_78 : decode cX5_lineHere 78 = .ok (.aload_n 0, 1) := by decide +kernel
theorem dX5_lineHere_79 : decode cX5_lineHere 79 = .ok (.ldc 94, 2) := by decide +kernel
theorem dX5_lineHere_81 : decode cX5_lineHere 81 = .ok (.invokevirtual 80, 3) := by decide +kernel
theorem dX5_lineHere_84 : decode cX5_lineHere 84 = .ok (.ifCond .eq 8, 3) := by decide +kernel
theorem dX5_lineHere_87 : decode cX5_lineHere 87 = .ok (.bipush 6, 2) := by decide +kernel
theorem dX5_lineHere_89 : decode cX5_lineHere 89 = .ok (.goto 4, 3) := by decide +kernel
theorem dX5_lineHere_92 : decode cX5_lineHere 92 = .ok (.iconst (-1), 1) := by decide +kernel
theorem dX5_lineHere_93 : decode cX5_lineHere 93 = .ok (.ireturn, 1) := by decide +kernel
theorem dX5_spells_0 : decode cX5_spells 0 = .ok (.aload_n 0, 1) := by decide +kernel
theorem dX5_spells_1 : decode cX5_spells 1 = .ok (.getfield 23, 3) := by decide +kernel
theorem dX5_spells_4 : decode cX5_spells 4 = .ok (.aload_n 0, 1) := by decide +kernel
theorem dX5_spells_5 : decode cX5_spells 5 = .ok (.getfield 42, 3) := by decide +kernel
theorem dX5_spells_8 : decode cX5_spells 8 = .ok (.isub, 1) := by decide +kernel
theorem dX5_spells_9 : decode cX5_spells 9 = .ok (.aload_n 1, 1) := by decide +kernel
theorem dX5_spells_10 : decode cX5_spells 10 = .ok (.invokevirtual 57, 3) := by decide +kernel
theorem dX5_spells_13 : decode cX5_spells 13 = .ok (.if_icmp .ne 7, 3) := by decide +kernel
theorem dX5_spells_16 : decode cX5_spells 16 = .ok (.iconst 1, 1) := by decide +kernel
theorem dX5_spells_17 : decode cX5_spells 17 = .ok (.goto 4, 3) := by decide +kernel
theorem dX5_spells_20 : decode cX5_spells 20 = .ok (.iconst 0, 1) := by decide +kernel
theorem dX5_spells_21 : decode cX5_spells 21 = .ok (.istore_n 2, 1) := by decide +kernel
theorem dX5_spells_22 : decode cX5_spells 22 = .ok (.iconst 0, 1) := by decide +kernel
theorem dX5_spells_23 : decode cX5_spells 23 = .ok (.istore_n 3, 1) := by decide +kernel
theorem dX5_spells_24 : decode cX5_spells 24 = .ok (.iload_n 3, 1) := by decide +kernel
theorem dX5_spells_25 : decode cX5_spells 25 = .ok (.aload_n 1, 1) := by decide +kernel
theorem dX5_spells_26 : decode cX5_spells 26 = .ok (.invokevirtual 57, 3) := by decide +kernel
theorem dX5_spells_29 : decode cX5_spells 29 = .ok (.if_icmp .ge 40, 3) := by decide +kernel
theorem dX5_spells_32 : decode cX5_spells 32 = .ok (.iload_n 2, 1) := by decide +kernel
theorem dX5_spells_33 : decode cX5_spells 33 = .ok (.ifCond .eq 36, 3) := by decide +kernel
theorem dX5_spells_36 : decode cX5_spells 36 = .ok (.aload_n 0, 1) := by decide +kernel
theorem dX5_spells_37 : decode cX5_spells 37 = .ok (.getfield 15, 3) := by decide +kernel
theorem dX5_spells_40 : decode cX5_spells 40 = .ok (.aload_n 0, 1) := by decide +kernel
theorem dX5_spells_41 : decode cX5_spells 41 = .ok (.getfield 42, 3) := by decide +kernel
theorem dX5_spells_44 : decode cX5_spells 44 = .ok (.iload_n 3, 1) := by decide +kernel
theorem dX5_spells_45 : decode cX5_spells 45 = .ok (.iadd, 1) := by decide +kernel
theorem dX5_spells_46 : decode cX5_spells 46 = .ok (.invokevirtual 96, 3) := by decide +kernel
theorem dX5_spells_49 : decode cX5_spells 49 = .ok (.aload_n 1, 1) := by decide +kernel
theorem dX5_spells_50 : decode cX5_spells 50 = .ok (.iload_n 3, 1) := by decide +kernel
theorem dX5_spells_51 : decode cX5_spells 51 = .ok (.invokevirtual 62, 3) := by decide +kernel
theorem dX5_spells_54 : decode cX5_spells 54 = .ok (.if_icmp .ne 7, 3) := by decide +kernel
theorem dX5_spells_57 : decode cX5_spells 57 = .ok (.iconst 1, 1) := by decide +kernel
theorem dX5_spells_58 : decode cX5_spells 58 = .ok (.goto 4, 3) := by decide +kernel
theorem dX5_spells_61 : decode cX5_spells 61 = .ok (.iconst 0, 1) := by decide +kernel
theorem dX5_spells_62 : decode cX5_spells 62 = .ok (.istore_n 2, 1) := by decide +kernel
theorem dX5_spells_63 : decode cX5_spells 63 = .ok (.iinc 3 1, 3) := by decide +kernel
theorem dX5_spells_66 : decode cX5_spells 66 = .ok (.goto (-42), 3) := by decide +kernel
theorem dX5_spells_69 : decode cX5_spells 69 = .ok (.iload_n 2, 1) := by decide +kernel
theorem dX5_spells_70 : decode cX5_spells 70 = .ok (.ireturn, 1) := by decide +kernel
theorem dX5_shapeOf_0 : decode cX5_shapeOf 0 = .ok (.iload_n 0, 1) := by decide +kernel
theorem dX5_shapeOf_1 : decode cX5_shapeOf 1 = .ok (.tableswitch 58 0 6 #[43, 46, 49, 58, 58, 52, 55], 43) := by decide +kernel
theorem dX5_shapeOf_44 : decode cX5_shapeOf 44 = .ok (.ldc 101, 2) := by decide +kernel
theorem dX5_shapeOf_46 : decode cX5_shapeOf 46 = .ok (.areturn, 1) := by decide +kernel
theorem dX5_shapeOf_47 : decode cX5_shapeOf 47 = .ok (.ldc 103, 2) := by decide +kernel
theorem dX5_shapeOf_49 : decode cX5_shapeOf 49 = .ok (.areturn, 1) := by decide +kernel
theorem dX5_shapeOf_50 : decode cX5_shapeOf 50 = .ok (.ldc 105, 2) := by decide +kernel
theorem dX5_shapeOf_52 : decode cX5_shapeOf 52 = .ok (.areturn, 1) := by decide +kernel
theorem dX5_shapeOf_53 : decode cX5_shapeOf 53 = .ok (.ldc 107, 2) := by decide +kernel
theorem dX5_shapeOf_55 : decode cX5_shapeOf 55 = .ok (.areturn, 1) := by decide +kernel
theorem dX5_shapeOf_56 : decode cX5_shapeOf 56 = .ok (.ldc 109, 2) := by decide +kernel
theorem dX5_shapeOf_58 : decode cX5_shapeOf 58 = .ok (.areturn, 1) := by decide +kernel
theorem dX5_shapeOf_59 : decode cX5_shapeOf 59 = .ok (.ldc 111, 2) := by decide +kernel
theorem dX5_shapeOf_61 : decode cX5_shapeOf 61 = .ok (.areturn, 1) := by decide +kernel
theorem dX5_takeArgument_0 : decode cX5_takeArgument 0 = .ok (.iload_n 1, 1) := by decide +kernel
theorem dX5_takeArgument_1 : decode cX5_takeArgument 1 = .ok (.bipush 98, 2) := by decide +kernel
theorem dX5_takeArgument_3 : decode cX5_takeArgument 3 = .ok (.if_icmp .ne 16, 3) := by decide +kernel
theorem dX5_takeArgument_6 : decode cX5_takeArgument 6 = .ok (.aload_n 0, 1) := by decide +kernel
theorem dX5_takeArgument_7 : decode cX5_takeArgument 7 = .ok (.getfield 36, 3) := by decide +kernel
theorem dX5_takeArgument_10 : decode cX5_takeArgument 10 = .ok (.bipush 45, 2) := by decide +kernel
theorem dX5_takeArgument_12 : decode cX5_takeArgument 12 = .ok (.if_icmp .ne 7, 3) := by decide +kernel
theorem dX5_takeArgument_15 : decode cX5_takeArgument 15 = .ok (.iconst 1, 1) := by decide +kernel
theorem dX5_takeArgument_16 : decode cX5_takeArgument 16 = .ok (.goto 4, 3) := by decide +kernel
theorem dX5_takeArgument_19 : decode cX5_takeArgument 19 = .ok (.iconst 0, 1) := by decide +kernel
theorem dX5_takeArgument_20 : decode cX5_takeArgument 20 = .ok (.istore_n 2, 1) := by decide +kernel
theorem dX5_takeArgument_21 : decode cX5_takeArgument 21 = .ok (.iload_n 2, 1) := by decide +kernel
theorem dX5_takeArgument_22 : decode cX5_takeArgument 22 = .ok (.ifCond .eq 7, 3) := by decide +kernel
theorem dX5_takeArgument_25 : decode cX5_takeArgument 25 = .ok (.aload_n 0, 1) := by decide +kernel
theorem dX5_takeArgument_26 : decode cX5_takeArgument 26 = .ok (.invokevirtual 33, 3) := by decide +kernel
theorem dX5_takeArgument_29 : decode cX5_takeArgument 29 = .ok (.aload_n 0, 1) := by decide +kernel
theorem dX5_takeArgument_30 : decode cX5_takeArgument 30 = .ok (.iload_n 1, 1) := by decide +kernel
theorem dX5_takeArgument_31 : decode cX5_takeArgument 31 = .ok (.bipush 115, 2) := by decide +kernel
theorem dX5_takeArgument_33 : decode cX5_takeArgument 33 = .ok (.if_icmp .ne 8, 3) := by decide +kernel
theorem dX5_takeArgument_36 : decode cX5_takeArgument 36 = .ok (.bipush 7, 2) := by decide +kernel
theorem dX5_takeArgument_38 : decode cX5_takeArgument 38 = .ok (.goto 6, 3) := by decide +kernel
theorem dX5_takeArgument_41 : decode cX5_takeArgument 41 = .ok (.sipush 9999, 3) := by decide +kernel
theorem dX5_takeArgument_44 : decode cX5_takeArgument 44 = .ok (.invokevirtual 113, 3) := by decide +kernel
theorem dX5_takeArgument_47 : decode cX5_takeArgument 47 = .ok (.istore_n 3, 1) := by decide +kernel
theorem dX5_takeArgument_48 : decode cX5_takeArgument 48 = .ok (.iload_n 2, 1) := by decide +kernel
theorem dX5_takeArgument_49 : decode cX5_takeArgument 49 = .ok (.ifCond .eq 8, 3) := by decide +kernel
theorem dX5_takeArgument_52 : decode cX5_takeArgument 52 = .ok (.iload_n 3, 1) := by decide +kernel
theorem dX5_takeArgument_53 : decode cX5_takeArgument 53 = .ok (.ineg, 1) := by decide +kernel
theorem dX5_takeArgument_54 : decode cX5_takeArgument 54 = .ok (.goto 4, 3) := by decide +kernel
theorem dX5_takeArgument_57 : decode cX5_takeArgument 57 = .ok (.iload_n 3, 1) := by decide +kernel
theorem dX5_takeArgument_58 : decode cX5_takeArgument 58 = .ok (.ireturn, 1) := by decide +kernel
theorem dX5_takeNumber_0 : decode cX5_takeNumber 0 = .ok (.aload_n 0, 1) := by decide +kernel
theorem dX5_takeNumber_1 : decode cX5_takeNumber 1 = .ok (.getfield 36, 3) := by decide +kernel
theorem dX5_takeNumber_4 : decode cX5_takeNumber 4 = .ok (.iconst 3, 1) := by decide +kernel
theorem dX5_takeNumber_5 : decode cX5_takeNumber 5 = .ok (.if_icmp .eq 15, 3) := by decide +kernel
theorem dX5_takeNumber_8 : decode cX5_takeNumber 8 = .ok (.aload_n 0, 1) := by decide +kernel
theorem dX5_takeNumber_9 : decode cX5_takeNumber 9 = .ok (.iconst 1, 1) := by decide +kernel
theorem dX5_takeNumber_10 : decode cX5_takeNumber 10 = .ok (.aload_n 0, 1) := by decide +kernel
theorem dX5_takeNumber_11 : decode cX5_takeNumber 11 = .ok (.getfield 42, 3) := by decide +kernel
theorem dX5_takeNumber_14 : decode cX5_takeNumber 14 = .ok (.invokevirtual 49, 3) := by decide +kernel
theorem dX5_takeNumber_17 : decode cX5_takeNumber 17 = .ok (.goto 20, 3) := by decide +kernel
theorem dX5_takeNumber_20 : decode cX5_takeNumber 20 = .ok (.aload_n 0, 1) := by decide +kernel
theorem dX5_takeNumber_21 : decode cX5_takeNumber 21 = .ok (.getfield 116, 3) := by decide +kernel
theorem dX5_takeNumber_24 : decode cX5_takeNumber 24 = .ok (.iload_n 1, 1) := by decide +kernel
theorem dX5_takeNumber_25 : decode cX5_takeNumber 25 = .ok (.if_icmp .le 12, 3) := by decide +kernel
theorem dX5_takeNumber_28 : decode cX5_takeNumber 28 = .ok (.aload_n 0, 1) := by decide +kernel
theorem dX5_takeNumber_29 : decode cX5_takeNumber 29 = .ok (.iconst 2, 1) := by decide +kernel
theorem dX5_takeNumber_30 : decode cX5_takeNumber 30 = .ok (.aload_n 0, 1) := by decide +kernel
theorem dX5_takeNumber_31 : decode cX5_takeNumber 31 = .ok (.getfield 42, 3) := by decide +kernel
theorem dX5_takeNumber_34 : decode cX5_takeNumber 34 = .ok (.invokevirtual 49, 3) := by decide +kernel
theorem dX5_takeNumber_37 : decode cX5_takeNumber 37 = .ok (.aload_n 0, 1) := by decide +kernel
theorem dX5_takeNumber_38 : decode cX5_takeNumber 38 = .ok (.getfield 27, 3) := by decide +kernel
theorem dX5_takeNumber_41 : decode cX5_takeNumber 41 = .ok (.ifCond .eq 5, 3) := by decide +kernel
theorem dX5_takeNumber_44 : decode cX5_takeNumber 44 = .ok (.iconst 0, 1) := by decide +kernel
theorem dX5_takeNumber_45 : decode cX5_takeNumber 45 = .ok (.ireturn, 1) := by decide +kernel
theorem dX5_takeNumber_46 : decode cX5_takeNumber 46 = .ok (.aload_n 0, 1) := by decide +kernel
theorem dX5_takeNumber_47 : decode cX5_takeNumber 47 = .ok (.getfield 116, 3) := by decide +kernel
theorem dX5_takeNumber_50 : decode cX5_takeNumber 50 = .ok (.istore_n 2, 1) := by decide +kernel
theorem dX5_takeNumber_51 : decode cX5_takeNumber 51 = .ok (.aload_n 0, 1) := by decide +kernel
theorem dX5_takeNumber_52 : decode cX5_takeNumber 52 = .ok (.invokevirtual 33, 3) := by decide +kernel
theorem dX5_takeNumber_55 : decode cX5_takeNumber 55 = .ok (.iload_n 2, 1) := by decide +kernel
theorem dX5_takeNumber_56 : decode cX5_takeNumber 56 = .ok (.ireturn, 1) := by decide +kernel
theorem dX5_putItem_0 : decode cX5_putItem 0 = .ok (.aload_n 0, 1) := by decide +kernel
theorem dX5_putItem_1 : decode cX5_putItem 1 = .ok (.getfield 42, 3) := by decide +kernel
theorem dX5_putItem_4 : decode cX5_putItem 4 = .ok (.istore_n 2, 1) := by decide +kernel
theorem dX5_putItem_5 : decode cX5_putItem 5 = .ok (.aload_n 0, 1) := by decide +kernel
theorem dX5_putItem_6 : decode cX5_putItem 6 = .ok (.sipush 9999, 3) := by decide +kernel
theorem dX5_putItem_9 : decode cX5_putItem 9 = .ok (.invokevirtual 113, 3) := by decide +kernel
theorem dX5_putItem_12 : decode cX5_putItem 12 = .ok (.istore_n 3, 1) := by decide +kernel
theorem dX5_putItem_13 : decode cX5_putItem 13 = .ok (.iload_n 3, 1) := by decide +kernel
theorem dX5_putItem_14 : decode cX5_putItem 14 = .ok (.istore 4, 2) := by decide +kernel
theorem dX5_putItem_16 : decode cX5_putItem 16 = .ok (.aload_n 0, 1) := by decide +kernel
theorem dX5_putItem_17 : decode cX5_putItem 17 = .ok (.getfield 36, 3) := by decide +kernel
theorem dX5_putItem_20 : decode cX5_putItem 20 = .ok (.bipush 45, 2) := by decide +kernel
theorem dX5_putItem_22 : decode cX5_putItem 22 = .ok (.if_icmp .ne 35, 3) := by decide +kernel
theorem dX5_putItem_25 : decode cX5_putItem 25 = .ok (.aload_n 0, 1) := by decide +kernel
theorem dX5_putItem_26 : decode cX5_putItem 26 = .ok (.invokevirtual 33, 3) := by decide +kernel
theorem dX5_putItem_29 : decode cX5_putItem 29 = .ok (.aload_n 0, 1) := by decide +kernel
theorem dX5_putItem_30 : decode cX5_putItem 30 = .ok (.getfield 42, 3) := by decide +kernel
theorem dX5_putItem_33 : decode cX5_putItem 33 = .ok (.istore 5, 2) := by decide +kernel
theorem dX5_putItem_35 : decode cX5_putItem 35 = .ok (.aload_n 0, 1) := by decide +kernel
theorem dX5_putItem_36 : decode cX5_putItem 36 = .ok (.sipush 9999, 3) := by decide +kernel
theorem dX5_putItem_39 : decode cX5_putItem 39 = .ok (.invokevirtual 113, 3) := by decide +kernel
theorem dX5_putItem_42 : decode cX5_putItem 42 = .ok (.istore 4, 2) := by decide +kernel
theorem dX5_putItem_44 : decode cX5_putItem 44 = .ok (.iload 4, 2) := by decide +kernel
theorem dX5_putItem_46 : decode cX5_putItem 46 = .ok (.iload_n 3, 1) := by decide +kernel
theorem dX5_putItem_47 : decode cX5_putItem 47 = .ok (.if_icmp .ge 10, 3) := by decide +kernel
theorem dX5_putItem_50 : decode cX5_putItem 50 = .ok (.aload_n 0, 1) := by decide +kernel
theorem dX5_putItem_51 : decode cX5_putItem 51 = .ok (.iconst 2, 1) := by decide +kernel
theorem dX5_putItem_52 : decode cX5_putItem 52 = .ok (.iload 5, 2) := by decide +kernel
theorem dX5_putItem_54 : decode cX5_putItem 54 = .ok (.invokevirtual 49, 3) := by decide +kernel
theorem dX5_putItem_57 : decode cX5_putItem 57 = .ok (.iload_n 3, 1) := by decide +kernel
theorem dX5_putItem_58 : decode cX5_putItem 58 = .ok (.istore 5, 2) := by decide +kernel
theorem dX5_putItem_60 : decode cX5_putItem 60 = .ok (.iload 5, 2) := by decide +kernel
theorem dX5_putItem_62 : decode cX5_putItem 62 = .ok (.iload 4, 2) := by decide +kernel
theorem dX5_putItem_64 : decode cX5_putItem 64 = .ok (.if_icmp .gt 37, 3) := by decide +kernel
theorem dX5_putItem_67 : decode cX5_putItem 67 = .ok (.aload_n 0, 1) := by decide +kernel
theorem dX5_putItem_68 : decode cX5_putItem 68 = .ok (.getfield 27, 3) := by decide +kernel
theorem dX5_putItem_71 : decode cX5_putItem 71 = .ok (.ifCond .ne 30, 3) := by decide +kernel
theorem dX5_putItem_74 : decode cX5_putItem 74 = .ok (.aload_n 0, 1) := by decide +kernel
theorem dX5_putItem_75 : decode cX5_putItem 75 = .ok (.getfield 19, 3) := by decide +kernel
theorem dX5_putItem_78 : decode cX5_putItem 78 = .ok (.iload_n 1, 1) := by decide +kernel
theorem dX5_putItem_79 : decode cX5_putItem 79 = .ok (.iload 5, 2) := by decide +kernel
theorem dX5_putItem_81 : decode cX5_putItem 81 = .ok (.invokevirtual 119, 3) := by decide +kernel
theorem dX5_putItem_84 : decode cX5_putItem 84 = .ok (.bipush (-4), 2) := by decide +kernel
theorem dX5_putItem_86 : decode cX5_putItem 86 = .ok (.if_icmp .ne 9, 3) := by decide +kernel
theorem dX5_putItem_89 : decode cX5_putItem 89 = .ok (.aload_n 0, 1) := by decide +kernel
theorem dX5_putItem_90 : decode cX5_putItem 90 = .ok (.iconst 3, 1) := by decide +kernel
theorem dX5_putItem_91 : decode cX5_putItem 91 = .ok (.iload_n 2, 1) := by decide +kernel
theorem dX5_putItem_92 : decode cX5_putItem 92 = .ok (.invokevirtual 49, 3) := by decide +kernel
theorem dX5_putItem_95 : decode cX5_putItem 95 = .ok (.iinc 5 1, 3) := by decide +kernel
theorem dX5_putItem_98 : decode cX5_putItem 98 = .ok (.goto (-38), 3) := by decide +kernel
theorem dX5_putItem_101 : decode cX5_putItem 101 = .ok (.return_, 1) := by decide +kernel
theorem dX5_act_0 : decode cX5_act 0 = .ok (.iload_n 1, 1) := by decide +kernel
theorem dX5_act_1 : decode cX5_act 1 = .ok (.tableswitch 184 1 6 #[39, 66, 92, 112, 132, 152], 39) := by decide +kernel
theorem dX5_act_40 : decode cX5_act 40 = .ok (.aload_n 0, 1) := by decide +kernel
theorem dX5_act_41 : decode cX5_act 41 = .ok (.getfield 19, 3) := by decide +kernel
theorem dX5_act_44 : decode cX5_act 44 = .ok (.aload_n 0, 1) := by decide +kernel
theorem dX5_act_45 : decode cX5_act 45 = .ok (.getfield 9, 3) := by decide +kernel
theorem dX5_act_48 : decode cX5_act 48 = .ok (.iconst 0, 1) := by decide +kernel
theorem dX5_act_49 : decode cX5_act 49 = .ok (.iaload, 1) := by decide +kernel
theorem dX5_act_50 : decode cX5_act 50 = .ok (.aload_n 0, 1) := by decide +kernel
theorem dX5_act_51 : decode cX5_act 51 = .ok (.getfield 9, 3) := by decide +kernel
theorem dX5_act_54 : decode cX5_act 54 = .ok (.iconst 1, 1) := by decide +kernel
theorem dX5_act_55 : decode cX5_act 55 = .ok (.iaload, 1) := by decide +kernel
theorem dX5_act_56 : decode cX5_act 56 = .ok (.aload_n 0, 1) := by decide +kernel
theorem dX5_act_57 : decode cX5_act 57 = .ok (.getfield 9, 3) := by decide +kernel
theorem dX5_act_60 : decode cX5_act 60 = .ok (.iconst 2, 1) := by decide +kernel
theorem dX5_act_61 : decode cX5_act 61 = .ok (.iaload, 1) := by decide +kernel
theorem dX5_act_62 : decode cX5_act 62 = .ok (.iconst 1, 1) := by decide +kernel
theorem dX5_act_63 : decode cX5_act 63 = .ok (.invokevirtual 125, 3) := by decide +kernel
theorem dX5_act_66 : decode cX5_act 66 = .ok (.ireturn, 1) := by decide +kernel
theorem dX5_act_67 : decode cX5_act 67 = .ok (.aload_n 0, 1) := by decide +kernel
theorem dX5_act_68 : decode cX5_act 68 = .ok (.getfield 19, 3) := by decide +kernel
theorem dX5_act_71 : decode cX5_act 71 = .ok (.aload_n 0, 1) := by decide +kernel
theorem dX5_act_72 : decode cX5_act 72 = .ok (.getfield 9, 3) := by decide +kernel
theorem dX5_act_75 : decode cX5_act 75 = .ok (.iconst 0, 1) := by decide +kernel
theorem dX5_act_76 : decode cX5_act 76 = .ok (.iaload, 1) := by decide +kernel
theorem dX5_act_77 : decode cX5_act 77 = .ok (.aload_n 0, 1) := by decide +kernel
theorem dX5_act_78 : decode cX5_act 78 = .ok (.getfield 9, 3) := by decide +kernel
theorem dX5_act_81 : decode cX5_act 81 = .ok (.iconst 1, 1) := by decide +kernel
theorem dX5_act_82 : decode cX5_act 82 = .ok (.iaload, 1) := by decide +kernel
theorem dX5_act_83 : decode cX5_act 83 = .ok (.aload_n 0, 1) := by decide +kernel
theorem dX5_act_84 : decode cX5_act 84 = .ok (.getfield 9, 3) := by decide +kernel
theorem dX5_act_87 : decode cX5_act 87 = .ok (.iconst 2, 1) := by decide +kernel
theorem dX5_act_88 : decode cX5_act 88 = .ok (.iaload, 1) := by decide +kernel
theorem dX5_act_89 : decode cX5_act 89 = .ok (.invokevirtual 129, 3) := by decide +kernel
theorem dX5_act_92 : decode cX5_act 92 = .ok (.ireturn, 1) := by decide +kernel
theorem dX5_act_93 : decode cX5_act 93 = .ok (.aload_n 0, 1) := by decide +kernel
theorem dX5_act_94 : decode cX5_act 94 = .ok (.getfield 19, 3) := by decide +kernel
theorem dX5_act_97 : decode cX5_act 97 = .ok (.aload_n 0, 1) := by decide +kernel
theorem dX5_act_98 : decode cX5_act 98 = .ok (.getfield 9, 3) := by decide +kernel
theorem dX5_act_101 : decode cX5_act 101 = .ok (.iconst 0, 1) := by decide +kernel
theorem dX5_act_102 : decode cX5_act 102 = .ok (.iaload, 1) := by decide +kernel
theorem dX5_act_103 : decode cX5_act 103 = .ok (.aload_n 0, 1) := by decide +kernel
theorem dX5_act_104 : decode cX5_act 104 = .ok (.getfield 9, 3) := by decide +kernel
theorem dX5_act_107 : decode cX5_act 107 = .ok (.iconst 1, 1) := by decide +kernel
theorem dX5_act_108 : decode cX5_act 108 = .ok (.iaload, 1) := by decide +kernel
theorem dX5_act_109 : decode cX5_act 109 = .ok (.invokevirtual 133, 3) := by decide +kernel
theorem dX5_act_112 : decode cX5_act 112 = .ok (.ireturn, 1) := by decide +kernel
theorem dX5_act_113 : decode cX5_act 113 = .ok (.aload_n 0, 1) := by decide +kernel
theorem dX5_act_114 : decode cX5_act 114 = .ok (.getfield 19, 3) := by decide +kernel
theorem dX5_act_117 : decode cX5_act 117 = .ok (.aload_n 0, 1) := by decide +kernel
theorem dX5_act_118 : decode cX5_act 118 = .ok (.getfield 9, 3) := by decide +kernel
theorem dX5_act_121 : decode cX5_act 121 = .ok (.iconst 0, 1) := by decide +kernel
theorem dX5_act_122 : decode cX5_act 122 = .ok (.iaload, 1) := by decide +kernel
theorem dX5_act_123 : decode cX5_act 123 = .ok (.aload_n 0, 1) := by decide +kernel
theorem dX5_act_124 : decode cX5_act 124 = .ok (.getfield 9, 3) := by decide +kernel
theorem dX5_act_127 : decode cX5_act 127 = .ok (.iconst 1, 1) := by decide +kernel
theorem dX5_act_128 : decode cX5_act 128 = .ok (.iaload, 1) := by decide +kernel
theorem dX5_act_129 : decode cX5_act 129 = .ok (.invokevirtual 136, 3) := by decide +kernel
theorem dX5_act_132 : decode cX5_act 132 = .ok (.ireturn, 1) := by decide +kernel
theorem dX5_act_133 : decode cX5_act 133 = .ok (.aload_n 0, 1) := by decide +kernel
theorem dX5_act_134 : decode cX5_act 134 = .ok (.getfield 19, 3) := by decide +kernel
theorem dX5_act_137 : decode cX5_act 137 = .ok (.aload_n 0, 1) := by decide +kernel
theorem dX5_act_138 : decode cX5_act 138 = .ok (.getfield 9, 3) := by decide +kernel
theorem dX5_act_141 : decode cX5_act 141 = .ok (.iconst 0, 1) := by decide +kernel
theorem dX5_act_142 : decode cX5_act 142 = .ok (.iaload, 1) := by decide +kernel
theorem dX5_act_143 : decode cX5_act 143 = .ok (.aload_n 0, 1) := by decide +kernel
theorem dX5_act_144 : decode cX5_act 144 = .ok (.getfield 9, 3) := by decide +kernel
theorem dX5_act_147 : decode cX5_act 147 = .ok (.iconst 1, 1) := by decide +kernel
theorem dX5_act_148 : decode cX5_act 148 = .ok (.iaload, 1) := by decide +kernel
theorem dX5_act_149 : decode cX5_act 149 = .ok (.invokevirtual 139, 3) := by decide +kernel
theorem dX5_act_152 : decode cX5_act 152 = .ok (.ireturn, 1) := by decide +kernel
theorem dX5_act_153 : decode cX5_act 153 = .ok (.aload_n 0, 1) := by decide +kernel
theorem dX5_act_154 : decode cX5_act 154 = .ok (.getfield 19, 3) := by decide +kernel
theorem dX5_act_157 : decode cX5_act 157 = .ok (.aload_n 0, 1) := by decide +kernel
theorem dX5_act_158 : decode cX5_act 158 = .ok (.getfield 9, 3) := by decide +kernel
theorem dX5_act_161 : decode cX5_act 161 = .ok (.iconst 0, 1) := by decide +kernel
theorem dX5_act_162 : decode cX5_act 162 = .ok (.iaload, 1) := by decide +kernel
theorem dX5_act_163 : decode cX5_act 163 = .ok (.aload_n 0, 1) := by decide +kernel
theorem dX5_act_164 : decode cX5_act 164 = .ok (.getfield 9, 3) := by decide +kernel
theorem dX5_act_167 : decode cX5_act 167 = .ok (.iconst 1, 1) := by decide +kernel
theorem dX5_act_168 : decode cX5_act 168 = .ok (.iaload, 1) := by decide +kernel
theorem dX5_act_169 : decode cX5_act 169 = .ok (.aload_n 0, 1) := by decide +kernel
theorem dX5_act_170 : decode cX5_act 170 = .ok (.getfield 9, 3) := by decide +kernel
theorem dX5_act_173 : decode cX5_act 173 = .ok (.iconst 2, 1) := by decide +kernel
theorem dX5_act_174 : decode cX5_act 174 = .ok (.iaload, 1) := by decide +kernel
theorem dX5_act_175 : decode cX5_act 175 = .ok (.aload_n 0, 1) := by decide +kernel
theorem dX5_act_176 : decode cX5_act 176 = .ok (.getfield 9, 3) := by decide +kernel
theorem dX5_act_179 : decode cX5_act 179 = .ok (.iconst 3, 1) := by decide +kernel
theorem dX5_act_180 : decode cX5_act 180 = .ok (.iaload, 1) := by decide +kernel
theorem dX5_act_181 : decode cX5_act 181 = .ok (.invokevirtual 142, 3) := by decide +kernel
theorem dX5_act_184 : decode cX5_act 184 = .ok (.ireturn, 1) := by decide +kernel
theorem dX5_act_185 : decode cX5_act 185 = .ok (.iconst 0, 1) := by decide +kernel
theorem dX5_act_186 : decode cX5_act 186 = .ok (.ireturn, 1) := by decide +kernel
theorem dX5_advance_0 : decode cX5_advance 0 = .ok (.aload_n 0, 1) := by decide +kernel
theorem dX5_advance_1 : decode cX5_advance 1 = .ok (.getfield 23, 3) := by decide +kernel
theorem dX5_advance_4 : decode cX5_advance 4 = .ok (.aload_n 0, 1) := by decide +kernel
theorem dX5_advance_5 : decode cX5_advance 5 = .ok (.getfield 15, 3) := by decide +kernel
theorem dX5_advance_8 : decode cX5_advance 8 = .ok (.getfield 146, 3) := by decide +kernel
theorem dX5_advance_11 : decode cX5_advance 11 = .ok (.if_icmp .ge 33, 3) := by decide +kernel
theorem dX5_advance_14 : decode cX5_advance 14 = .ok (.aload_n 0, 1) := by decide +kernel
theorem dX5_advance_15 : decode cX5_advance 15 = .ok (.getfield 15, 3) := by decide +kernel
theorem dX5_advance_18 : decode cX5_advance 18 = .ok (.aload_n 0, 1) := by decide +kernel
theorem dX5_advance_19 : decode cX5_advance 19 = .ok (.getfield 23, 3) := by decide +kernel
theorem dX5_advance_22 : decode cX5_advance 22 = .ok (.invokevirtual 96, 3) := by decide +kernel
theorem dX5_advance_25 : decode cX5_advance 25 = .ok (.invokestatic 148, 3) := by decide +kernel
theorem dX5_advance_28 : decode cX5_advance 28 = .ok (.ifCond .eq 16, 3) := by decide +kernel
theorem dX5_advance_31 : decode cX5_advance 31 = .ok (.aload_n 0, 1) := by decide +kernel
theorem dX5_advance_32 : decode cX5_advance 32 = .ok (.dup, 1) := by decide +kernel
theorem dX5_advance_33 : decode cX5_advance 33 = .ok (.getfield 23, 3) := by decide +kernel
theorem dX5_advance_36 : decode cX5_advance 36 = .ok (.iconst 1, 1) := by decide +kernel
theorem dX5_advance_37 : decode cX5_advance 37 = .ok (.iadd, 1) := by decide +kernel
theorem dX5_advance_38 : decode cX5_advance 38 = .ok (.putfield 23, 3) := by decide +kernel
theorem dX5_advance_41 : decode cX5_advance 41 = .ok (.goto (-41), 3) := by decide +kernel
theorem dX5_advance_44 : decode cX5_advance 44 = .ok (.aload_n 0, 1) := by decide +kernel
theorem dX5_advance_45 : decode cX5_advance 45 = .ok (.aload_n 0, 1) := by decide +kernel
theorem dX5_advance_46 : decode cX5_advance 46 = .ok (.getfield 23, 3) := by decide +kernel
theorem dX5_advance_49 : decode cX5_advance 49 = .ok (.putfield 42, 3) := by decide +kernel
theorem dX5_advance_52 : decode cX5_advance 52 = .ok (.aload_n 0, 1) := by decide +kernel
theorem dX5_advance_53 : decode cX5_advance 53 = .ok (.getfield 15, 3) := by decide +kernel
theorem dX5_advance_56 : decode cX5_advance 56 = .ok (.aload_n 0, 1) := by decide +kernel
theorem dX5_advance_57 : decode cX5_advance 57 = .ok (.getfield 23, 3) := by decide +kernel
theorem dX5_advance_60 : decode cX5_advance 60 = .ok (.invokevirtual 96, 3) := by decide +kernel
theorem dX5_advance_63 : decode cX5_advance 63 = .ok (.istore_n 1, 1) := by decide +kernel
theorem dX5_advance_64 : decode cX5_advance 64 = .ok (.iload_n 1, 1) := by decide +kernel
theorem dX5_advance_65 : decode cX5_advance 65 = .ok (.iconst (-1), 1) := by decide +kernel
theorem dX5_advance_66 : decode cX5_advance 66 = .ok (.if_icmp .ne 11, 3) := by decide +kernel
theorem dX5_advance_69 : decode cX5_advance 69 = .ok (.aload_n 0, 1) := by decide +kernel
theorem dX5_advance_70 : decode cX5_advance 70 = .ok (.iconst 0, 1) := by decide +kernel
theorem dX5_advance_71 : decode cX5_advance 71 = .ok (.putfield 36, 3) := by decide +kernel
theorem dX5_advance_74 : decode cX5_advance 74 = .ok (.goto 62, 3) := by decide +kernel
theorem dX5_advance_77 : decode cX5_advance 77 = .ok (.iload_n 1, 1) := by decide +kernel
theorem dX5_advance_78 : decode cX5_advance 78 = .ok (.invokestatic 152, 3) := by decide +kernel
theorem dX5_advance_81 : decode cX5_advance 81 = .ok (.ifCond .eq 10, 3) := by decide +kernel
theorem dX5_advance_84 : decode cX5_advance 84 = .ok (.aload_n 0, 1) := by decide +kernel
theorem dX5_advance_85 : decode cX5_advance 85 = .ok (.invokevirtual 155, 3) := by decide +kernel
theorem dX5_advance_88 : decode cX5_advance 88 = .ok (.goto 48, 3) := by decide +kernel
theorem dX5_advance_91 : decode cX5_advance 91 = .ok (.iload_n 1, 1) := by decide +kernel
theorem dX5_advance_92 : decode cX5_advance 92 = .ok (.invokestatic 158, 3) := by decide +kernel
theorem dX5_advance_95 : decode cX5_advance 95 = .ok (.ifCond .eq 10, 3) := by decide +kernel
theorem dX5_advance_98 : decode cX5_advance 98 = .ok (.aload_n 0, 1) := by decide +kernel
theorem dX5_advance_99 : decode cX5_advance 99 = .ok (.invokevirtual 161, 3) := by decide +kernel
theorem dX5_advance_102 : decode cX5_advance 102 = .ok (.goto 34, 3) := by decide +kernel
theorem dX5_advance_105 : decode cX5_advance 105 = .ok (.aload_n 0, 1) := by decide +kernel
theorem dX5_advance_106 : decode cX5_advance 106 = .ok (.iload_n 1, 1) := by decide +kernel
theorem dX5_advance_107 : decode cX5_advance 107 = .ok (.bipush 45, 2) := by decide +kernel
theorem dX5_advance_109 : decode cX5_advance 109 = .ok (.if_icmp .eq 9, 3) := by decide +kernel
theorem dX5_advance_112 : decode cX5_advance 112 = .ok (.iload_n 1, 1) := by decide +kernel
theorem dX5_advance_113 : decode cX5_advance 113 = .ok (.bipush 59, 2) := by decide +kernel
theorem dX5_advance_115 : decode cX5_advance 115 = .ok (.if_icmp .ne 7, 3) := by decide +kernel
theorem dX5_advance_118 : decode cX5_advance 118 = .ok (.iload_n 1, 1) := by decide +kernel
theorem dX5_advance_119 : decode cX5_advance 119 = .ok (.goto 4, 3) := by decide +kernel
theorem dX5_advance_122 : decode cX5_advance 122 = .ok (.iconst 1, 1) := by decide +kernel
theorem dX5_advance_123 : decode cX5_advance 123 = .ok (.putfield 36, 3) := by decide +kernel
theorem dX5_advance_126 : decode cX5_advance 126 = .ok (.aload_n 0, 1) := by decide +kernel
theorem dX5_advance_127 : decode cX5_advance 127 = .ok (.dup, 1) := by decide +kernel
theorem dX5_advance_128 : decode cX5_advance 128 = .ok (.getfield 23, 3) := by decide +kernel
theorem dX5_advance_131 : decode cX5_advance 131 = .ok (.iconst 1, 1) := by decide +kernel
theorem dX5_advance_132 : decode cX5_advance 132 = .ok (.iadd, 1) := by decide +kernel
theorem dX5_advance_133 : decode cX5_advance 133 = .ok (.putfield 23, 3) := by decide +kernel
theorem dX5_advance_136 : decode cX5_advance 136 = .ok (.return_, 1) := by decide +kernel
theorem dX5_readWord_0 : decode cX5_readWord 0 = .ok (.aload_n 0, 1) := by decide +kernel
theorem dX5_readWord_1 : decode cX5_readWord 1 = .ok (.iconst 2, 1) := by decide +kernel
theorem dX5_readWord_2 : decode cX5_readWord 2 = .ok (.putfield 36, 3) := by decide +kernel
theorem dX5_readWord_5 : decode cX5_readWord 5 = .ok (.aload_n 0, 1) := by decide +kernel
theorem dX5_readWord_6 : decode cX5_readWord 6 = .ok (.getfield 23, 3) := by decide +kernel
theorem dX5_readWord_9 : decode cX5_readWord 9 = .ok (.aload_n 0, 1) := by decide +kernel
theorem dX5_readWord_10 : decode cX5_readWord 10 = .ok (.getfield 15, 3) := by decide +kernel
theorem dX5_readWord_13 : decode cX5_readWord 13 = .ok (.getfield 146, 3) := by decide +kernel
theorem dX5_readWord_16 : decode cX5_readWord 16 = .ok (.if_icmp .ge 33, 3) := by decide +kernel
theorem dX5_readWord_19 : decode cX5_readWord 19 = .ok (.aload_n 0, 1) := by decide +kernel
theorem dX5_readWord_20 : decode cX5_readWord 20 = .ok (.getfield 15, 3) := by decide +kernel
theorem dX5_readWord_23 : decode cX5_readWord 23 = .ok (.aload_n 0, 1) := by decide +kernel
theorem dX5_readWord_24 : decode cX5_readWord 24 = .ok (.getfield 23, 3) := by decide +kernel
theorem dX5_readWord_27 : decode cX5_readWord 27 = .ok (.invokevirtual 96, 3) := by decide +kernel
theorem dX5_readWord_30 : decode cX5_readWord 30 = .ok (.invokestatic 152, 3) := by decide +kernel
theorem dX5_readWord_33 : decode cX5_readWord 33 = .ok (.ifCond .eq 16, 3) := by decide +kernel
theorem dX5_readWord_36 : decode cX5_readWord 36 = .ok (.aload_n 0, 1) := by decide +kernel
theorem dX5_readWord_37 : decode cX5_readWord 37 = .ok (.dup, 1) := by decide +kernel
theorem dX5_readWord_38 : decode cX5_readWord 38 = .ok (.getfield 23, 3) := by decide +kernel
theorem dX5_readWord_41 : decode cX5_readWord 41 = .ok (.iconst 1, 1) := by decide +kernel
theorem dX5_readWord_42 : decode cX5_readWord 42 = .ok (.iadd, 1) := by decide +kernel
theorem dX5_readWord_43 : decode cX5_readWord 43 = .ok (.putfield 23, 3) := by decide +kernel
theorem dX5_readWord_46 : decode cX5_readWord 46 = .ok (.goto (-41), 3) := by decide +kernel
theorem dX5_readWord_49 : decode cX5_readWord 49 = .ok (.return_, 1) := by decide +kernel
theorem dX5_readNumber_0 : decode cX5_readNumber 0 = .ok (.aload_n 0, 1) := by decide +kernel
theorem dX5_readNumber_1 : decode cX5_readNumber 1 = .ok (.iconst 0, 1) := by decide +kernel
theorem dX5_readNumber_2 : decode cX5_readNumber 2 = .ok (.putfield 116, 3) := by decide +kernel
theorem dX5_readNumber_5 : decode cX5_readNumber 5 = .ok (.aload_n 0, 1) := by decide +kernel
theorem dX5_readNumber_6 : decode cX5_readNumber 6 = .ok (.getfield 23, 3) := by decide +kernel
theorem dX5_readNumber_9 : decode cX5_readNumber 9 = .ok (.aload_n 0, 1) := by decide +kernel
theorem dX5_readNumber_10 : decode cX5_readNumber 10 = .ok (.getfield 15, 3) := by decide +kernel
theorem dX5_readNumber_13 : decode cX5_readNumber 13 = .ok (.getfield 146, 3) := by decide +kernel
theorem dX5_readNumber_16 : decode cX5_readNumber 16 = .ok (.if_icmp .ge 59, 3) := by decide +kernel
theorem dX5_readNumber_19 : decode cX5_readNumber 19 = .ok (.aload_n 0, 1) := by decide +kernel
theorem dX5_readNumber_20 : decode cX5_readNumber 20 = .ok (.getfield 15, 3) := by decide +kernel
theorem dX5_readNumber_23 : decode cX5_readNumber 23 = .ok (.aload_n 0, 1) := by decide +kernel
theorem dX5_readNumber_24 : decode cX5_readNumber 24 = .ok (.getfield 23, 3) := by decide +kernel
theorem dX5_readNumber_27 : decode cX5_readNumber 27 = .ok (.invokevirtual 96, 3) := by decide +kernel
theorem dX5_readNumber_30 : decode cX5_readNumber 30 = .ok (.invokestatic 158, 3) := by decide +kernel
theorem dX5_readNumber_33 : decode cX5_readNumber 33 = .ok (.ifCond .eq 42, 3) := by decide +kernel
theorem dX5_readNumber_36 : decode cX5_readNumber 36 = .ok (.aload_n 0, 1) := by decide +kernel
theorem dX5_readNumber_37 : decode cX5_readNumber 37 = .ok (.aload_n 0, 1) := by decide +kernel
theorem dX5_readNumber_38 : decode cX5_readNumber 38 = .ok (.getfield 116, 3) := by decide +kernel
theorem dX5_readNumber_41 : decode cX5_readNumber 41 = .ok (.bipush 10, 2) := by decide +kernel
theorem dX5_readNumber_43 : decode cX5_readNumber 43 = .ok (.imul, 1) := by decide +kernel
theorem dX5_readNumber_44 : decode cX5_readNumber 44 = .ok (.aload_n 0, 1) := by decide +kernel
theorem dX5_readNumber_45 : decode cX5_readNumber 45 = .ok (.getfield 15, 3) := by decide +kernel
theorem dX5_readNumber_48 : decode cX5_readNumber 48 = .ok (.aload_n 0, 1) := by decide +kernel
theorem dX5_readNumber_49 : decode cX5_readNumber 49 = .ok (.getfield 23, 3) := by decide +kernel
theorem dX5_readNumber_52 : decode cX5_readNumber 52 = .ok (.invokevirtual 96, 3) := by decide +kernel
theorem dX5_readNumber_55 : decode cX5_readNumber 55 = .ok (.iadd, 1) := by decide +kernel
theorem dX5_readNumber_56 : decode cX5_readNumber 56 = .ok (.bipush 48, 2) := by decide +kernel
theorem dX5_readNumber_58 : decode cX5_readNumber 58 = .ok (.isub, 1) := by decide +kernel
theorem dX5_readNumber_59 : decode cX5_readNumber 59 = .ok (.putfield 116, 3) := by decide +kernel
theorem dX5_readNumber_62 : decode cX5_readNumber 62 = .ok (.aload_n 0, 1) := by decide +kernel
theorem dX5_readNumber_63 : decode cX5_readNumber 63 = .ok (.dup, 1) := by decide +kernel
theorem dX5_readNumber_64 : decode cX5_readNumber 64 = .ok (.getfield 23, 3) := by decide +kernel
theorem dX5_readNumber_67 : decode cX5_readNumber 67 = .ok (.iconst 1, 1) := by decide +kernel
theorem dX5_readNumber_68 : decode cX5_readNumber 68 = .ok (.iadd, 1) := by decide +kernel
theorem dX5_readNumber_69 : decode cX5_readNumber 69 = .ok (.putfield 23, 3) := by decide +kernel
theorem dX5_readNumber_72 : decode cX5_readNumber 72 = .ok (.goto (-67), 3) := by decide +kernel
theorem dX5_readNumber_75 : decode cX5_readNumber 75 = .ok (.aload_n 0, 1) := by decide +kernel
theorem dX5_readNumber_76 : decode cX5_readNumber 76 = .ok (.aload_n 0, 1) := by decide +kernel
theorem dX5_readNumber_77 : decode cX5_readNumber 77 = .ok (.getfield 23, 3) := by decide +kernel
theorem dX5_readNumber_80 : decode cX5_readNumber 80 = .ok (.aload_n 0, 1) := by decide +kernel
theorem dX5_readNumber_81 : decode cX5_readNumber 81 = .ok (.getfield 42, 3) := by decide +kernel
theorem dX5_readNumber_84 : decode cX5_readNumber 84 = .ok (.isub, 1) := by decide +kernel
theorem dX5_readNumber_85 : decode cX5_readNumber 85 = .ok (.iconst 4, 1) := by decide +kernel
theorem dX5_readNumber_86 : decode cX5_readNumber 86 = .ok (.if_icmp .le 7, 3) := by decide +kernel
theorem dX5_readNumber_89 : decode cX5_readNumber 89 = .ok (.iconst 1, 1) := by decide +kernel
theorem dX5_readNumber_90 : decode cX5_readNumber 90 = .ok (.goto 4, 3) := by decide +kernel
theorem dX5_readNumber_93 : decode cX5_readNumber 93 = .ok (.iconst 3, 1) := by decide +kernel
theorem dX5_readNumber_94 : decode cX5_readNumber 94 = .ok (.putfield 36, 3) := by decide +kernel
theorem dX5_readNumber_97 : decode cX5_readNumber 97 = .ok (.return_, 1) := by decide +kernel
theorem dX5_isBlank_0 : decode cX5_isBlank 0 = .ok (.iload_n 0, 1) := by decide +kernel
theorem dX5_isBlank_1 : decode cX5_isBlank 1 = .ok (.bipush 32, 2) := by decide +kernel
theorem dX5_isBlank_3 : decode cX5_isBlank 3 = .ok (.if_icmp .eq 9, 3) := by decide +kernel
theorem dX5_isBlank_6 : decode cX5_isBlank 6 = .ok (.iload_n 0, 1) := by decide +kernel
theorem dX5_isBlank_7 : decode cX5_isBlank 7 = .ok (.bipush 10, 2) := by decide +kernel
theorem dX5_isBlank_9 : decode cX5_isBlank 9 = .ok (.if_icmp .ne 7, 3) := by decide +kernel
theorem dX5_isBlank_12 : decode cX5_isBlank 12 = .ok (.iconst 1, 1) := by decide +kernel
theorem dX5_isBlank_13 : decode cX5_isBlank 13 = .ok (.goto 4, 3) := by decide +kernel
theorem dX5_isBlank_16 : decode cX5_isBlank 16 = .ok (.iconst 0, 1) := by decide +kernel
theorem dX5_isBlank_17 : decode cX5_isBlank 17 = .ok (.ireturn, 1) := by decide +kernel
theorem dX5_isLetter_0 : decode cX5_isLetter 0 = .ok (.iload_n 0, 1) := by decide +kernel
theorem dX5_isLetter_1 : decode cX5_isLetter 1 = .ok (.bipush 97, 2) := by decide +kernel
theorem dX5_isLetter_3 : decode cX5_isLetter 3 = .ok (.if_icmp .lt 13, 3) := by decide +kernel
theorem dX5_isLetter_6 : decode cX5_isLetter 6 = .ok (.iload_n 0, 1) := by decide +kernel
theorem dX5_isLetter_7 : decode cX5_isLetter 7 = .ok (.bipush 122, 2) := by decide +kernel
theorem dX5_isLetter_9 : decode cX5_isLetter 9 = .ok (.if_icmp .gt 7, 3) := by decide +kernel
theorem dX5_isLetter_12 : decode cX5_isLetter 12 = .ok (.iconst 1, 1) := by decide +kernel
theorem dX5_isLetter_13 : decode cX5_isLetter 13 = .ok (.goto 4, 3) := by decide +kernel
theorem dX5_isLetter_16 : decode cX5_isLetter 16 = .ok (.iconst 0, 1) := by decide +kernel
theorem dX5_isLetter_17 : decode cX5_isLetter 17 = .ok (.ireturn, 1) := by decide +kernel
theorem dX5_isDigit_0 : decode cX5_isDigit 0 = .ok (.iload_n 0, 1) := by decide +kernel
theorem dX5_isDigit_1 : decode cX5_isDigit 1 = .ok (.bipush 48, 2) := by decide +kernel
theorem dX5_isDigit_3 : decode cX5_isDigit 3 = .ok (.if_icmp .lt 13, 3) := by decide +kernel
theorem dX5_isDigit_6 : decode cX5_isDigit 6 = .ok (.iload_n 0, 1) := by decide +kernel
theorem dX5_isDigit_7 : decode cX5_isDigit 7 = .ok (.bipush 57, 2) := by decide +kernel
theorem dX5_isDigit_9 : decode cX5_isDigit 9 = .ok (.if_icmp .gt 7, 3) := by decide +kernel
theorem dX5_isDigit_12 : decode cX5_isDigit 12 = .ok (.iconst 1, 1) := by decide +kernel
theorem dX5_isDigit_13 : decode cX5_isDigit 13 = .ok (.goto 4, 3) := by decide +kernel
theorem dX5_isDigit_16 : decode cX5_isDigit 16 = .ok (.iconst 0, 1) := by decide +kernel
theorem dX5_isDigit_17 : decode cX5_isDigit 17 = .ok (.ireturn, 1) := by decide +kernel
theorem dX6_init_0 : decode cX6_init 0 = .ok (.aload_n 0, 1) := by decide +kernel
theorem dX6_init_1 : decode cX6_init 1 = .ok (.invokespecial 3, 3) := by decide +kernel
theorem dX6_init_4 : decode cX6_init 4 = .ok (.aload_n 0, 1) := by decide +kernel
theorem dX6_init_5 : decode cX6_init 5 = .ok (.sipush 240, 3) := by decide +kernel
theorem dX6_init_8 : decode cX6_init 8 = .ok (.newarray .int, 2) := by decide +kernel
theorem dX6_init_10 : decode cX6_init 10 = .ok (.putfield 9, 3) := by decide +kernel
theorem dX6_init_13 : decode cX6_init 13 = .ok (.aload_n 0, 1) := by decide +kernel
theorem dX6_init_14 : decode cX6_init 14 = .ok (.bipush 8, 2) := by decide +kernel
theorem dX6_init_16 : decode cX6_init 16 = .ok (.newarray .int, 2) := by decide +kernel
theorem dX6_init_18 : decode cX6_init 18 = .ok (.putfield 15, 3) := by decide +kernel
theorem dX6_init_21 : decode cX6_init 21 = .ok (.aload_n 0, 1) := by decide +kernel
theorem dX6_init_22 : decode cX6_init 22 = .ok (.bipush 8, 2) := by decide +kernel
theorem dX6_init_24 : decode cX6_init 24 = .ok (.newarray .int, 2) := by decide +kernel
theorem dX6_init_26 : decode cX6_init 26 = .ok (.putfield 18, 3) := by decide +kernel
theorem dX6_init_29 : decode cX6_init 29 = .ok (.return_, 1) := by decide +kernel
theorem dX6_take_0 : decode cX6_take 0 = .ok (.iconst 0, 1) := by decide +kernel
theorem dX6_take_1 : decode cX6_take 1 = .ok (.istore_n 2, 1) := by decide +kernel
theorem dX6_take_2 : decode cX6_take 2 = .ok (.iconst 0, 1) := by decide +kernel
theorem dX6_take_3 : decode cX6_take 3 = .ok (.istore_n 3, 1) := by decide +kernel
theorem dX6_take_4 : decode cX6_take 4 = .ok (.iload_n 3, 1) := by decide +kernel
theorem dX6_take_5 : decode cX6_take 5 = .ok (.bipush 8, 2) := by decide +kernel
theorem dX6_take_7 : decode cX6_take 7 = .ok (.if_icmp .ge 72, 3) := by decide +kernel
theorem dX6_take_10 : decode cX6_take 10 = .ok (.aload_n 1, 1) := by decide +kernel
theorem dX6_take_11 : decode cX6_take 11 = .ok (.getfield 21, 3) := by decide +kernel
theorem dX6_take_14 : decode cX6_take 14 = .ok (.iload_n 3, 1) := by decide +kernel
theorem dX6_take_15 : decode cX6_take 15 = .ok (.aaload, 1) := by decide +kernel
theorem dX6_take_16 : decode cX6_take 16 = .ok (.astore 4, 2) := by decide +kernel
theorem dX6_take_18 : decode cX6_take 18 = .ok (.aload 4, 2) := by decide +kernel
theorem dX6_take_20 : decode cX6_take 20 = .ok (.getfield 27, 3) := by decide +kernel
theorem dX6_take_23 : decode cX6_take 23 = .ok (.sipush 240, 3) := by decide +kernel
theorem dX6_take_26 : decode cX6_take 26 = .ok (.iload_n 2, 1) := by decide +kernel
theorem dX6_take_27 : decode cX6_take 27 = .ok (.isub, 1) := by decide +kernel
theorem dX6_take_28 : decode cX6_take 28 = .ok (.invokestatic 33, 3) := by decide +kernel
theorem dX6_take_31 : decode cX6_take 31 = .ok (.istore 5, 2) := by decide +kernel
theorem dX6_take_33 : decode cX6_take 33 = .ok (.aload 4, 2) := by decide +kernel
theorem dX6_take_35 : decode cX6_take 35 = .ok (.getfield 39, 3) := by decide +kernel
theorem dX6_take_38 : decode cX6_take 38 = .ok (.iconst 0, 1) := by decide +kernel
theorem dX6_take_39 : decode cX6_take 39 = .ok (.aload_n 0, 1) := by decide +kernel
theorem dX6_take_40 : decode cX6_take 40 = .ok (.getfield 9, 3) := by decide +kernel
theorem dX6_take_43 : decode cX6_take 43 = .ok (.iload_n 2, 1) := by decide +kernel
theorem dX6_take_44 : decode cX6_take 44 = .ok (.iload 5, 2) := by decide +kernel
theorem dX6_take_46 : decode cX6_take 46 = .ok (.invokestatic 40, 3) := by decide +kernel
theorem dX6_take_49 : decode cX6_take 49 = .ok (.aload_n 0, 1) := by decide +kernel
theorem dX6_take_50 : decode cX6_take 50 = .ok (.getfield 15, 3) := by decide +kernel
theorem dX6_take_53 : decode cX6_take 53 = .ok (.iload_n 3, 1) := by decide +kernel
theorem dX6_take_54 : decode cX6_take 54 = .ok (.iload 5, 2) := by decide +kernel
theorem dX6_take_56 : decode cX6_take 56 = .ok (.iastore, 1) := by decide +kernel
theorem dX6_take_57 : decode cX6_take 57 = .ok (.aload_n 0, 1) := by decide +kernel
theorem dX6_take_58 : decode cX6_take 58 = .ok (.getfield 18, 3) := by decide +kernel
theorem dX6_take_61 : decode cX6_take 61 = .ok (.iload_n 3, 1) := by decide +kernel
theorem dX6_take_62 : decode cX6_take 62 = .ok (.aload 4, 2) := by decide +kernel
theorem dX6_take_64 : decode cX6_take 64 = .ok (.getfield 46, 3) := by decide +kernel
theorem dX6_take_67 : decode cX6_take 67 = .ok (.iastore, 1) := by decide +kernel
theorem dX6_take_68 : decode cX6_take 68 = .ok (.iload_n 2, 1) := by decide +kernel
theorem dX6_take_69 : decode cX6_take 69 = .ok (.iload 5, 2) := by decide +kernel
theorem dX6_take_71 : decode cX6_take 71 = .ok (.iadd, 1) := by decide +kernel
theorem dX6_take_72 : decode cX6_take 72 = .ok (.istore_n 2, 1) := by decide +kernel
theorem dX6_take_73 : decode cX6_take 73 = .ok (.iinc 3 1, 3) := by decide +kernel
theorem dX6_take_76 : decode cX6_take 76 = .ok (.goto (-72), 3) := by decide +kernel
theorem dX6_take_79 : decode cX6_take 79 = .ok (.return_, 1) := by decide +kernel
theorem dX6_give_0 : decode cX6_give 0 = .ok (.iconst 0, 1) := by decide +kernel
theorem dX6_give_1 : decode cX6_give 1 = .ok (.istore_n 2, 1) := by decide +kernel
theorem dX6_give_2 : decode cX6_give 2 = .ok (.iconst 0, 1) := by decide +kernel
theorem dX6_give_3 : decode cX6_give 3 = .ok (.istore_n 3, 1) := by decide +kernel
theorem dX6_give_4 : decode cX6_give 4 = .ok (.iload_n 3, 1) := by decide +kernel
theorem dX6_give_5 : decode cX6_give 5 = .ok (.bipush 8, 2) := by decide +kernel
theorem dX6_give_7 : decode cX6_give 7 = .ok (.if_icmp .ge 72, 3) := by decide +kernel
theorem dX6_give_10 : decode cX6_give 10 = .ok (.aload_n 1, 1) := by decide +kernel
theorem dX6_give_11 : decode cX6_give 11 = .ok (.getfield 21, 3) := by decide +kernel
theorem dX6_give_14 : decode cX6_give 14 = .ok (.iload_n 3, 1) := by decide +kernel
theorem dX6_give_15 : decode cX6_give 15 = .ok (.aaload, 1) := by decide +kernel
theorem dX6_give_16 : decode cX6_give 16 = .ok (.astore 4, 2) := by decide +kernel
theorem dX6_give_18 : decode cX6_give 18 = .ok (.aload_n 0, 1) := by decide +kernel
theorem dX6_give_19 : decode cX6_give 19 = .ok (.getfield 15, 3) := by decide +kernel
theorem dX6_give_22 : decode cX6_give 22 = .ok (.iload_n 3, 1) := by decide +kernel
theorem dX6_give_23 : decode cX6_give 23 = .ok (.iaload, 1) := by decide +kernel
theorem dX6_give_24 : decode cX6_give 24 = .ok (.sipush 240, 3) := by decide +kernel
theorem dX6_give_27 : decode cX6_give 27 = .ok (.iload_n 2, 1) := by decide +kernel
theorem dX6_give_28 : decode cX6_give 28 = .ok (.isub, 1) := by decide +kernel
theorem dX6_give_29 : decode cX6_give 29 = .ok (.invokestatic 33, 3) := by decide +kernel
theorem dX6_give_32 : decode cX6_give 32 = .ok (.istore 5, 2) := by decide +kernel
theorem dX6_give_34 : decode cX6_give 34 = .ok (.aload_n 0, 1) := by decide +kernel
theorem dX6_give_35 : decode cX6_give 35 = .ok (.getfield 9, 3) := by decide +kernel
theorem dX6_give_38 : decode cX6_give 38 = .ok (.iload_n 2, 1) := by decide +kernel
theorem dX6_give_39 : decode cX6_give 39 = .ok (.aload 4, 2) := by decide +kernel
theorem dX6_give_41 : decode cX6_give 41 = .ok (.getfield 39, 3) := by decide +kernel
theorem dX6_give_44 : decode cX6_give 44 = .ok (.iconst 0, 1) := by decide +kernel
theorem dX6_give_45 : decode cX6_give 45 = .ok (.iload 5, 2) := by decide +kernel
theorem dX6_give_47 : decode cX6_give 47 = .ok (.invokestatic 40, 3) := by decide +kernel
theorem dX6_give_50 : decode cX6_give 50 = .ok (.aload 4, 2) := by decide +kernel
theorem dX6_give_52 : decode cX6_give 52 = .ok (.iload 5, 2) := by decide +kernel
theorem dX6_give_54 : decode cX6_give 54 = .ok (.putfield 27, 3) := by decide +kernel
theorem dX6_give_57 : decode cX6_give 57 = .ok (.aload 4, 2) := by decide +kernel
theorem dX6_give_59 : decode cX6_give 59 = .ok (.aload_n 0, 1) := by decide +kernel
theorem dX6_give_60 : decode cX6_give 60 = .ok (.getfield 18, 3) := by decide +kernel
theorem dX6_give_63 : decode cX6_give 63 = .ok (.iload_n 3, 1) := by decide +kernel
theorem dX6_give_64 : decode cX6_give 64 = .ok (.iaload, 1) := by decide +kernel
theorem dX6_give_65 : decode cX6_give 65 = .ok (.putfield 46, 3) := by decide +kernel
theorem dX6_give_68 : decode cX6_give 68 = .ok (.iload_n 2, 1) := by decide +kernel
theorem dX6_give_69 : decode cX6_give 69 = .ok (.iload 5, 2) := by decide +kernel
theorem dX6_give_71 : decode cX6_give 71 = .ok (.iadd, 1) := by decide +kernel
theorem dX6_give_72 : decode cX6_give 72 = .ok (.istore_n 2, 1) := by decide +kernel
theorem dX6_give_73 : decode cX6_give 73 = .ok (.iinc 3 1, 3) := by decide +kernel
theorem dX6_give_76 : decode cX6_give 76 = .ok (.goto (-72), 3) := by decide +kernel
theorem dX6_give_79 : decode cX6_give 79 = .ok (.return_, 1) := by decide +kernel
theorem dX7_init_0 : decode cX7_init 0 = .ok (.aload_n 0, 1) := by decide +kernel
theorem dX7_init_1 : decode cX7_init 1 = .ok (.invokespecial 3, 3) := by decide +kernel
theorem dX7_init_4 : decode cX7_init 4 = .ok (.aload_n 0, 1) := by decide +kernel
theorem dX7_init_5 : decode cX7_init 5 = .ok (.bipush 8, 2) := by decide +kernel
theorem dX7_init_7 : decode cX7_init 7 = .ok (.anewarray 9, 3) := by decide +kernel
theorem dX7_init_10 : decode cX7_init 10 = .ok (.putfield 11, 3) := by decide +kernel
theorem dX7_init_13 : decode cX7_init 13 = .ok (.aload_n 0, 1) := by decide +kernel
theorem dX7_init_14 : decode cX7_init 14 = .ok (.new 17, 3) := by decide +kernel
theorem dX7_init_17 : decode cX7_init 17 = .ok (.dup, 1) := by decide +kernel
theorem dX7_init_18 : decode cX7_init 18 = .ok (.invokespecial 19, 3) := by decide +kernel
theorem dX7_init_21 : decode cX7_init 21 = .ok (.putfield 20, 3) := by decide +kernel
theorem dX7_init_24 : decode cX7_init 24 = .ok (.aload_n 0, 1) := by decide +kernel
theorem dX7_init_25 : decode cX7_init 25 = .ok (.new 24, 3) := by decide +kernel
theorem dX7_init_28 : decode cX7_init 28 = .ok (.dup, 1) := by decide +kernel
theorem dX7_init_29 : decode cX7_init 29 = .ok (.invokespecial 26, 3) := by decide +kernel
theorem dX7_init_32 : decode cX7_init 32 = .ok (.putfield 27, 3) := by decide +kernel
theorem dX7_init_35 : decode cX7_init 35 = .ok (.aload_n 0, 1) := by decide +kernel
theorem dX7_init_36 : decode cX7_init 36 = .ok (.bipush 8, 2) := by decide +kernel
theorem dX7_init_38 : decode cX7_init 38 = .ok (.newarray .int, 2) := by decide +kernel
theorem dX7_init_40 : decode cX7_init 40 = .ok (.putfield 31, 3) := by decide +kernel
theorem dX7_init_43 : decode cX7_init 43 = .ok (.aload_n 0, 1) := by decide +kernel
theorem dX7_init_44 : decode cX7_init 44 = .ok (.iconst (-1), 1) := by decide +kernel
theorem dX7_init_45 : decode cX7_init 45 = .ok (.putfield 35, 3) := by decide +kernel
theorem dX7_init_48 : decode cX7_init 48 = .ok (.aload_n 0, 1) := by decide +kernel
theorem dX7_init_49 : decode cX7_init 49 = .ok (.iconst (-1), 1) := by decide +kernel
theorem dX7_init_50 : decode cX7_init 50 = .ok (.putfield 39, 3) := by decide +kernel
theorem dX7_init_53 : decode cX7_init 53 = .ok (.aload_n 0, 1) := by decide +kernel
theorem dX7_init_54 : decode cX7_init 54 = .ok (.iconst (-1), 1) := by decide +kernel
theorem dX7_init_55 : decode cX7_init 55 = .ok (.putfield 42, 3) := by decide +kernel
theorem dX7_init_58 : decode cX7_init 58 = .ok (.iconst 0, 1) := by decide +kernel
theorem dX7_init_59 : decode cX7_init 59 = .ok (.istore_n 1, 1) := by decide +kernel
theorem dX7_init_60 : decode cX7_init 60 = .ok (.iload_n 1, 1) := by decide +kernel
theorem dX7_init_61 : decode cX7_init 61 = .ok (.bipush 8, 2) := by decide +kernel
theorem dX7_init_63 : decode cX7_init 63 = .ok (.if_icmp .ge 22, 3) := by decide +kernel
theorem dX7_init_66 : decode cX7_init 66 = .ok (.aload_n 0, 1) := by decide +kernel
theorem dX7_init_67 : decode cX7_init 67 = .ok (.getfield 11, 3) := by decide +kernel
theorem dX7_init_70 : decode cX7_init 70 = .ok (.iload_n 1, 1) := by decide +kernel
theorem dX7_init_71 : decode cX7_init 71 = .ok (.new 9, 3) := by decide +kernel
theorem dX7_init_74 : decode cX7_init 74 = .ok (.dup, 1) := by decide +kernel
theorem dX7_init_75 : decode cX7_init 75 = .ok (.invokespecial 45, 3) := by decide +kernel
theorem dX7_init_78 : decode cX7_init 78 = .ok (.aastore, 1) := by decide +kernel
theorem dX7_init_79 : decode cX7_init 79 = .ok (.iinc 1 1, 3) := by decide +kernel
theorem dX7_init_82 : decode cX7_init 82 = .ok (.goto (-22), 3) := by decide +kernel
theorem dX7_init_85 : decode cX7_init 85 = .ok (.aload_n 0, 1) := by decide +kernel
theorem dX7_init_86 : decode cX7_init 86 = .ok (.new 46, 3) := by decide +kernel
theorem dX7_init_89 : decode cX7_init 89 = .ok (.dup, 1) := by decide +kernel
theorem dX7_init_90 : decode cX7_init 90 = .ok (.aload_n 0, 1) := by decide +kernel
theorem dX7_init_91 : decode cX7_init 91 = .ok (.getfield 11, 3) := by decide +kernel
theorem dX7_init_94 : decode cX7_init 94 = .ok (.invokespecial 48, 3) := by decide +kernel
theorem dX7_init_97 : decode cX7_init 97 = .ok (.putfield 51, 3) := by decide +kernel
theorem dX7_init_100 : decode cX7_init 100 = .ok (.return_, 1) := by decide +kernel
theorem dX7_empty_0 : decode cX7_empty 0 = .ok (.iconst 0, 1) := by decide +kernel
theorem dX7_empty_1 : decode cX7_empty 1 = .ok (.istore_n 1, 1) := by decide +kernel
theorem dX7_empty_2 : decode cX7_empty 2 = .ok (.iload_n 1, 1) := by decide +kernel
theorem dX7_empty_3 : decode cX7_empty 3 = .ok (.bipush 8, 2) := by decide +kernel
theorem dX7_empty_5 : decode cX7_empty 5 = .ok (.if_icmp .ge 18, 3) := by decide +kernel
theorem dX7_empty_8 : decode cX7_empty 8 = .ok (.aload_n 0, 1) := by decide +kernel
theorem dX7_empty_9 : decode cX7_empty 9 = .ok (.getfield 11, 3) := by decide +kernel
theorem dX7_empty_12 : decode cX7_empty 12 = .ok (.iload_n 1, 1) := by decide +kernel
theorem dX7_empty_13 : decode cX7_empty 13 = .ok (.aaload, 1) := by decide +kernel
theorem dX7_empty_14 : decode cX7_empty 14 = .ok (.invokevirtual 55, 3) := by decide +kernel
theorem dX7_empty_17 : decode cX7_empty 17 = .ok (.iinc 1 1, 3) := by decide +kernel
theorem dX7_empty_20 : decode cX7_empty 20 = .ok (.goto (-18), 3) := by decide +kernel
theorem dX7_empty_23 : decode cX7_empty 23 = .ok (.return_, 1) := by decide +kernel
theorem dX7_heapAt_0 : decode cX7_heapAt 0 = .ok (.iload_n 1, 1) := by decide +kernel
theorem dX7_heapAt_1 : decode cX7_heapAt 1 = .ok (.ifCond .lt 18, 3) := by decide +kernel
theorem dX7_heapAt_4 : decode cX7_heapAt 4 = .ok (.iload_n 1, 1) := by decide +kernel
theorem dX7_heapAt_5 : decode cX7_heapAt 5 = .ok (.bipush 8, 2) := by decide +kernel
theorem dX7_heapAt_7 : decode cX7_heapAt 7 = .ok (.if_icmp .ge 12, 3) := by decide +kernel
theorem dX7_heapAt_10 : decode cX7_heapAt 10 = .ok (.aload_n 0, 1) := by decide +kernel
theorem dX7_heapAt_11 : decode cX7_heapAt 11 = .ok (.getfield 11, 3) := by decide +kernel
theorem dX7_heapAt_14 : decode cX7_heapAt 14 = .ok (.iload_n 1, 1) := by decide +kernel
theorem dX7_heapAt_15 : decode cX7_heapAt 15 = .ok (.aaload, 1) := by decide +kernel
theorem dX7_heapAt_16 : decode cX7_heapAt 16 = .ok (.goto 4, 3) := by decide +kernel
theorem dX7_heapAt_19 : decode cX7_heapAt 19 = .ok (.aconst_null, 1) := by decide +kernel
theorem dX7_heapAt_20 : decode cX7_heapAt 20 = .ok (.areturn, 1) := by decide +kernel
theorem dX7_treeOf_0 : decode cX7_treeOf 0 = .ok (.aload_n 0, 1) := by decide +kernel
theorem dX7_treeOf_1 : decode cX7_treeOf 1 = .ok (.getfield 20, 3) := by decide +kernel
theorem dX7_treeOf_4 : decode cX7_treeOf 4 = .ok (.aload_n 1, 1) := by decide +kernel
theorem dX7_treeOf_5 : decode cX7_treeOf 5 = .ok (.iconst (-1), 1) := by decide +kernel
theorem dX7_treeOf_6 : decode cX7_treeOf 6 = .ok (.iconst (-1), 1) := by decide +kernel
theorem dX7_treeOf_7 : decode cX7_treeOf 7 = .ok (.invokevirtual 58, 3) := by decide +kernel
theorem dX7_treeOf_10 : decode cX7_treeOf 10 = .ok (.aload_n 0, 1) := by decide +kernel
theorem dX7_treeOf_11 : decode cX7_treeOf 11 = .ok (.getfield 20, 3) := by decide +kernel
theorem dX7_treeOf_14 : decode cX7_treeOf 14 = .ok (.areturn, 1) := by decide +kernel
theorem dX7_weaveOf_0 : decode cX7_weaveOf 0 = .ok (.aload_n 0, 1) := by decide +kernel
theorem dX7_weaveOf_1 : decode cX7_weaveOf 1 = .ok (.getfield 27, 3) := by decide +kernel
theorem dX7_weaveOf_4 : decode cX7_weaveOf 4 = .ok (.aload_n 1, 1) := by decide +kernel
theorem dX7_weaveOf_5 : decode cX7_weaveOf 5 = .ok (.aload_n 2, 1) := by decide +kernel
theorem dX7_weaveOf_6 : decode cX7_weaveOf 6 = .ok (.invokevirtual 62, 3) := by decide +kernel
theorem dX7_weaveOf_9 : decode cX7_weaveOf 9 = .ok (.aload_n 0, 1) := by decide +kernel
theorem dX7_weaveOf_10 : decode cX7_weaveOf 10 = .ok (.getfield 27, 3) := by decide +kernel
theorem dX7_weaveOf_13 : decode cX7_weaveOf 13 = .ok (.areturn, 1) := by decide +kernel
theorem dX7_total_0 : decode cX7_total 0 = .ok (.iconst 0, 1) := by decide +kernel
theorem dX7_total_1 : decode cX7_total 1 = .ok (.istore_n 1, 1) := by decide +kernel
theorem dX7_total_2 : decode cX7_total 2 = .ok (.iconst 0, 1) := by decide +kernel
theorem dX7_total_3 : decode cX7_total 3 = .ok (.istore_n 2, 1) := by decide +kernel
theorem dX7_total_4 : decode cX7_total 4 = .ok (.iload_n 2, 1) := by decide +kernel
theorem dX7_total_5 : decode cX7_total 5 = .ok (.bipush 8, 2) := by decide +kernel
theorem dX7_total_7 : decode cX7_total 7 = .ok (.if_icmp .ge 21, 3) := by decide +kernel
theorem dX7_total_10 : decode cX7_total 10 = .ok (.iload_n 1, 1) := by decide +kernel
theorem dX7_total_11 : decode cX7_total 11 = .ok (.aload_n 0, 1) := by decide +kernel
theorem dX7_total_12 : decode cX7_total 12 = .ok (.getfield 11, 3) := by decide +kernel
theorem dX7_total_15 : decode cX7_total 15 = .ok (.iload_n 2, 1) := by decide +kernel
theorem dX7_total_16 : decode cX7_total 16 = .ok (.aaload, 1) := by decide +kernel
theorem dX7_total_17 : decode cX7_total 17 = .ok (.getfield 65, 3) := by decide +kernel
theorem dX7_total_20 : decode cX7_total 20 = .ok (.iadd, 1) := by decide +kernel
theorem dX7_total_21 : decode cX7_total 21 = .ok (.istore_n 1, 1) := by decide +kernel
theorem dX7_total_22 : decode cX7_total 22 = .ok (.iinc 2 1, 3) := by decide +kernel
theorem dX7_total_25 : decode cX7_total 25 = .ok (.goto (-21), 3) := by decide +kernel
theorem dX7_total_28 : decode cX7_total 28 = .ok (.iload_n 1, 1) := by decide +kernel
theorem dX7_total_29 : decode cX7_total 29 = .ok (.ireturn, 1) := by decide +kernel
theorem dX7_putKey_0 : decode cX7_putKey 0 = .ok (.aload_n 0, 1) := by decide +kernel
theorem dX7_putKey_1 : decode cX7_putKey 1 = .ok (.iload_n 1, 1) := by decide +kernel
theorem dX7_putKey_2 : decode cX7_putKey 2 = .ok (.invokevirtual 68, 3) := by decide +kernel
theorem dX7_putKey_5 : decode cX7_putKey 5 = .ok (.astore_n 3, 1) := by decide +kernel
theorem dX7_putKey_6 : decode cX7_putKey 6 = .ok (.aload_n 3, 1) := by decide +kernel
theorem dX7_putKey_7 : decode cX7_putKey 7 = .ok (.ifnull 10, 3) := by decide +kernel
theorem dX7_putKey_10 : decode cX7_putKey 10 = .ok (.iload_n 2, 1) := by decide +kernel
theorem dX7_putKey_11 : decode cX7_putKey 11 = .ok (.invokestatic 72, 3) := by decide +kernel
theorem dX7_putKey_14 : decode cX7_putKey 14 = .ok (.ifCond .ne 5, 3) := by decide +kernel
theorem dX7_putKey_17 : decode cX7_putKey 17 = .ok (.iconst (-1), 1) := by decide +kernel
theorem dX7_putKey_18 : decode cX7_putKey 18 = .ok (.ireturn, 1) := by decide +kernel
theorem dX7_putKey_19 : decode cX7_putKey 19 = .ok (.aload_n 3, 1) := by decide +kernel
theorem dX7_putKey_20 : decode cX7_putKey 20 = .ok (.iload_n 2, 1) := by decide +kernel
theorem dX7_putKey_21 : decode cX7_putKey 21 = .ok (.invokevirtual 76, 3) := by decide +kernel
theorem dX7_putKey_24 : decode cX7_putKey 24 = .ok (.iconst (-1), 1) := by decide +kernel
theorem dX7_putKey_25 : decode cX7_putKey 25 = .ok (.if_icmp .eq 6, 3) := by decide +kernel
theorem dX7_putKey_28 : decode cX7_putKey 28 = .ok (.bipush (-2), 2) := by decide +kernel
theorem dX7_putKey_30 : decode cX7_putKey 30 = .ok (.ireturn, 1) := by decide +kernel
theorem dX7_putKey_31 : decode cX7_putKey 31 = .ok (.aload_n 3, 1) := by decide +kernel
theorem dX7_putKey_32 : decode cX7_putKey 32 = .ok (.getfield 65, 3) := by decide +kernel
theorem dX7_putKey_35 : decode cX7_putKey 35 = .ok (.bipush 60, 2) := by decide +kernel
theorem dX7_putKey_37 : decode cX7_putKey 37 = .ok (.if_icmp .ge 13, 3) := by decide +kernel
theorem dX7_putKey_40 : decode cX7_putKey 40 = .ok (.aload_n 0, 1) := by decide +kernel
theorem dX7_putKey_41 : decode cX7_putKey 41 = .ok (.invokevirtual 80, 3) := by decide +kernel
theorem dX7_putKey_44 : decode cX7_putKey 44 = .ok (.sipush 240, 3) := by decide +kernel
theorem dX7_putKey_47 : decode cX7_putKey 47 = .ok (.if_icmp .lt 6, 3) := by decide +kernel
theorem dX7_putKey_50 : decode cX7_putKey 50 = .ok (.bipush (-4), 2) := by decide +kernel
theorem dX7_putKey_52 : decode cX7_putKey 52 = .ok (.ireturn, 1) := by decide +kernel
theorem dX7_putKey_53 : decode cX7_putKey 53 = .ok (.aload_n 3, 1) := by decide +kernel
theorem dX7_putKey_54 : decode cX7_putKey 54 = .ok (.iload_n 2, 1) := by decide +kernel
theorem dX7_putKey_55 : decode cX7_putKey 55 = .ok (.invokevirtual 84, 3) := by decide +kernel
theorem dX7_putKey_58 : decode cX7_putKey 58 = .ok (.ireturn, 1) := by decide +kernel
theorem dX7_dropKey_0 : decode cX7_dropKey 0 = .ok (.aload_n 0, 1) := by decide +kernel
theorem dX7_dropKey_1 : decode cX7_dropKey 1 = .ok (.iload_n 1, 1) := by decide +kernel
theorem dX7_dropKey_2 : decode cX7_dropKey 2 = .ok (.invokevirtual 68, 3) := by decide +kernel
theorem dX7_dropKey_5 : decode cX7_dropKey 5 = .ok (.astore_n 3, 1) := by decide +kernel
theorem dX7_dropKey_6 : decode cX7_dropKey 6 = .ok (.aload_n 3, 1) := by decide +kernel
theorem dX7_dropKey_7 : decode cX7_dropKey 7 = .ok (.ifnull 10, 3) := by decide +kernel
theorem dX7_dropKey_10 : decode cX7_dropKey 10 = .ok (.iload_n 2, 1) := by decide +kernel
theorem dX7_dropKey_11 : decode cX7_dropKey 11 = .ok (.invokestatic 72, 3) := by decide +kernel
theorem dX7_dropKey_14 : decode cX7_dropKey 14 = .ok (.ifCond .ne 5, 3) := by decide +kernel
theorem dX7_dropKey_17 : decode cX7_dropKey 17 = .ok (.iconst (-1), 1) := by decide +kernel
theorem dX7_dropKey_18 : decode cX7_dropKey 18 = .ok (.ireturn, 1) := by decide +kernel
theorem dX7_dropKey_19 : decode cX7_dropKey 19 = .ok (.aload_n 3, 1) := by decide +kernel
theorem dX7_dropKey_20 : decode cX7_dropKey 20 = .ok (.iload_n 2, 1) := by decide +kernel
theorem dX7_dropKey_21 : decode cX7_dropKey 21 = .ok (.invokevirtual 76, 3) := by decide +kernel
theorem dX7_dropKey_24 : decode cX7_dropKey 24 = .ok (.istore 4, 2) := by decide +kernel
theorem dX7_dropKey_26 : decode cX7_dropKey 26 = .ok (.iload 4, 2) := by decide +kernel
theorem dX7_dropKey_28 : decode cX7_dropKey 28 = .ok (.iconst (-1), 1) := by decide +kernel
theorem dX7_dropKey_29 : decode cX7_dropKey 29 = .ok (.if_icmp .ne 6, 3) := by decide +kernel
theorem dX7_dropKey_32 : decode cX7_dropKey 32 = .ok (.bipush (-2), 2) := by decide +kernel
theorem dX7_dropKey_34 : decode cX7_dropKey 34 = .ok (.ireturn, 1) := by decide +kernel
theorem dX7_dropKey_35 : decode cX7_dropKey 35 = .ok (.aload_n 3, 1) := by decide +kernel
theorem dX7_dropKey_36 : decode cX7_dropKey 36 = .ok (.iload 4, 2) := by decide +kernel
theorem dX7_dropKey_38 : decode cX7_dropKey 38 = .ok (.iconst 1, 1) := by decide +kernel
theorem dX7_dropKey_39 : decode cX7_dropKey 39 = .ok (.invokevirtual 87, 3) := by decide +kernel
theorem dX7_dropKey_42 : decode cX7_dropKey 42 = .ok (.aload_n 3, 1) := by decide +kernel
theorem dX7_dropKey_43 : decode cX7_dropKey 43 = .ok (.getfield 65, 3) := by decide +kernel
theorem dX7_dropKey_46 : decode cX7_dropKey 46 = .ok (.ireturn, 1) := by decide +kernel
theorem dX7_cutAbove_0 : decode cX7_cutAbove 0 = .ok (.aload_n 0, 1) := by decide +kernel
theorem dX7_cutAbove_1 : decode cX7_cutAbove 1 = .ok (.iload_n 1, 1) := by decide +kernel
theorem dX7_cutAbove_2 : decode cX7_cutAbove 2 = .ok (.invokevirtual 68, 3) := by decide +kernel
theorem dX7_cutAbove_5 : decode cX7_cutAbove 5 = .ok (.astore 4, 2) := by decide +kernel
theorem dX7_cutAbove_7 : decode cX7_cutAbove 7 = .ok (.aload_n 0, 1) := by decide +kernel
theorem dX7_cutAbove_8 : decode cX7_cutAbove 8 = .ok (.iload_n 3, 1) := by decide +kernel
theorem dX7_cutAbove_9 : decode cX7_cutAbove 9 = .ok (.invokevirtual 68, 3) := by decide +kernel
theorem dX7_cutAbove_12 : decode cX7_cutAbove 12 = .ok (.astore 5, 2) := by decide +kernel
theorem dX7_cutAbove_14 : decode cX7_cutAbove 14 = .ok (.aload 4, 2) := by decide +kernel
theorem dX7_cutAbove_16 : decode cX7_cutAbove 16 = .ok (.ifnull 20, 3) := by decide +kernel
theorem dX7_cutAbove_19 : decode cX7_cutAbove 19 = .ok (.aload 5, 2) := by decide +kernel
theorem dX7_cutAbove_21 : decode cX7_cutAbove 21 = .ok (.ifnull 15, 3) := by decide +kernel
theorem dX7_cutAbove_24 : decode cX7_cutAbove 24 = .ok (.iload_n 1, 1) := by decide +kernel
theorem dX7_cutAbove_25 : decode cX7_cutAbove 25 = .ok (.iload_n 3, 1) := by decide +kernel
theorem dX7_cutAbove_26 : decode cX7_cutAbove 26 = .ok (.if_icmp .eq 10, 3) := by decide +kernel
theorem dX7_cutAbove_29 : decode cX7_cutAbove 29 = .ok (.iload_n 2, 1) := by decide +kernel
theorem dX7_cutAbove_30 : decode cX7_cutAbove 30 = .ok (.invokestatic 72, 3) := by decide +kernel
theorem dX7_cutAbove_33 : decode cX7_cutAbove 33 = .ok (.ifCond .ne 5, 3) := by decide +kernel
theorem dX7_cutAbove_36 : decode cX7_cutAbove 36 = .ok (.iconst (-1), 1) := by decide +kernel
theorem dX7_cutAbove_37 : decode cX7_cutAbove 37 = .ok (.ireturn, 1) := by decide +kernel
theorem dX7_cutAbove_38 : decode cX7_cutAbove 38 = .ok (.aload 4, 2) := by decide +kernel
theorem dX7_cutAbove_40 : decode cX7_cutAbove 40 = .ok (.iload_n 2, 1) := by decide +kernel
theorem dX7_cutAbove_41 : decode cX7_cutAbove 41 = .ok (.invokevirtual 91, 3) := by decide +kernel
theorem dX7_cutAbove_44 : decode cX7_cutAbove 44 = .ok (.istore 6, 2) := by decide +kernel
theorem dX7_cutAbove_46 : decode cX7_cutAbove 46 = .ok (.aload 4, 2) := by decide +kernel
theorem dX7_cutAbove_48 : decode cX7_cutAbove 48 = .ok (.getfield 65, 3) := by decide +kernel
theorem dX7_cutAbove_51 : decode cX7_cutAbove 51 = .ok (.iload 6, 2) := by decide +kernel
theorem dX7_cutAbove_53 : decode cX7_cutAbove 53 = .ok (.isub, 1) := by decide +kernel
theorem dX7_cutAbove_54 : decode cX7_cutAbove 54 = .ok (.istore 7, 2) := by decide +kernel
theorem dX7_cutAbove_56 : decode cX7_cutAbove 56 = .ok (.iload 7, 2) := by decide +kernel
theorem dX7_cutAbove_58 : decode cX7_cutAbove 58 = .ok (.ifCond .ne 6, 3) := by decide +kernel
theorem dX7_cutAbove_61 : decode cX7_cutAbove 61 = .ok (.bipush (-2), 2) := by decide +kernel
theorem dX7_cutAbove_63 : decode cX7_cutAbove 63 = .ok (.ireturn, 1) := by decide +kernel
theorem dX7_cutAbove_64 : decode cX7_cutAbove 64 = .ok (.aload 5, 2) := by decide +kernel
theorem dX7_cutAbove_66 : decode cX7_cutAbove 66 = .ok (.getfield 65, 3) := by decide +kernel
theorem dX7_cutAbove_69 : decode cX7_cutAbove 69 = .ok (.ifCond .le 6, 3) := by decide +kernel
theorem dX7_cutAbove_72 : decode cX7_cutAbove 72 = .ok (.bipush (-3), 2) := by decide +kernel
theorem dX7_cutAbove_74 : decode cX7_cutAbove 74 = .ok (.ireturn, 1) := by decide +kernel
theorem dX7_cutAbove_75 : decode cX7_cutAbove 75 = .ok (.aload 4, 2) := by decide +kernel
theorem dX7_cutAbove_77 : decode cX7_cutAbove 77 = .ok (.iload 6, 2) := by decide +kernel
theorem dX7_cutAbove_79 : decode cX7_cutAbove 79 = .ok (.iload 7, 2) := by decide +kernel
theorem dX7_cutAbove_81 : decode cX7_cutAbove 81 = .ok (.aload 5, 2) := by decide +kernel
theorem dX7_cutAbove_83 : decode cX7_cutAbove 83 = .ok (.invokevirtual 94, 3) := by decide +kernel
theorem dX7_cutAbove_86 : decode cX7_cutAbove 86 = .ok (.iload 7, 2) := by decide +kernel
theorem dX7_cutAbove_88 : decode cX7_cutAbove 88 = .ok (.ireturn, 1) := by decide +kernel
theorem dX7_joinTo_0 : decode cX7_joinTo 0 = .ok (.aload_n 0, 1) := by decide +kernel
theorem dX7_joinTo_1 : decode cX7_joinTo 1 = .ok (.iload_n 1, 1) := by decide +kernel
theorem dX7_joinTo_2 : decode cX7_joinTo 2 = .ok (.invokevirtual 68, 3) := by decide +kernel
theorem dX7_joinTo_5 : decode cX7_joinTo 5 = .ok (.astore_n 3, 1) := by decide +kernel
theorem dX7_joinTo_6 : decode cX7_joinTo 6 = .ok (.aload_n 0, 1) := by decide +kernel
theorem dX7_joinTo_7 : decode cX7_joinTo 7 = .ok (.iload_n 2, 1) := by decide +kernel
theorem dX7_joinTo_8 : decode cX7_joinTo 8 = .ok (.invokevirtual 68, 3) := by decide +kernel
theorem dX7_joinTo_11 : decode cX7_joinTo 11 = .ok (.astore 4, 2) := by decide +kernel
theorem dX7_joinTo_13 : decode cX7_joinTo 13 = .ok (.aload_n 3, 1) := by decide +kernel
theorem dX7_joinTo_14 : decode cX7_joinTo 14 = .ok (.ifnull 13, 3) := by decide +kernel
theorem dX7_joinTo_17 : decode cX7_joinTo 17 = .ok (.aload 4, 2) := by decide +kernel
theorem dX7_joinTo_19 : decode cX7_joinTo 19 = .ok (.ifnull 8, 3) := by decide +kernel
theorem dX7_joinTo_22 : decode cX7_joinTo 22 = .ok (.iload_n 1, 1) := by decide +kernel
theorem dX7_joinTo_23 : decode cX7_joinTo 23 = .ok (.iload_n 2, 1) := by decide +kernel
theorem dX7_joinTo_24 : decode cX7_joinTo 24 = .ok (.if_icmp .ne 5, 3) := by decide +kernel
theorem dX7_joinTo_27 : decode cX7_joinTo 27 = .ok (.iconst (-1), 1) := by decide +kernel
theorem dX7_joinTo_28 : decode cX7_joinTo 28 = .ok (.ireturn, 1) := by decide +kernel
theorem dX7_joinTo_29 : decode cX7_joinTo 29 = .ok (.aload_n 0, 1) := by decide +kernel
theorem dX7_joinTo_30 : decode cX7_joinTo 30 = .ok (.aload_n 3, 1) := by decide +kernel
theorem dX7_joinTo_31 : decode cX7_joinTo 31 = .ok (.aload 4, 2) := by decide +kernel
theorem dX7_joinTo_33 : decode cX7_joinTo 33 = .ok (.invokevirtual 98, 3) := by decide +kernel
theorem dX7_joinTo_36 : decode cX7_joinTo 36 = .ok (.istore 5, 2) := by decide +kernel
theorem dX7_joinTo_38 : decode cX7_joinTo 38 = .ok (.iload 5, 2) := by decide +kernel
theorem dX7_joinTo_40 : decode cX7_joinTo 40 = .ok (.ifCond .eq 6, 3) := by decide +kernel
theorem dX7_joinTo_43 : decode cX7_joinTo 43 = .ok (.iload 5, 2) := by decide +kernel
theorem dX7_joinTo_45 : decode cX7_joinTo 45 = .ok (.ireturn, 1) := by decide +kernel
theorem dX7_joinTo_46 : decode cX7_joinTo 46 = .ok (.aload 4, 2) := by decide +kernel
theorem dX7_joinTo_48 : decode cX7_joinTo 48 = .ok (.iconst 0, 1) := by decide +kernel
theorem dX7_joinTo_49 : decode cX7_joinTo 49 = .ok (.aload 4, 2) := by decide +kernel
theorem dX7_joinTo_51 : decode cX7_joinTo 51 = .ok (.getfield 65, 3) := by decide +kernel
theorem dX7_joinTo_54 : decode cX7_joinTo 54 = .ok (.aload_n 3, 1) := by decide +kernel
theorem dX7_joinTo_55 : decode cX7_joinTo 55 = .ok (.invokevirtual 94, 3) := by decide +kernel
theorem dX7_joinTo_58 : decode cX7_joinTo 58 = .ok (.aload_n 3, 1) := by decide +kernel
theorem dX7_joinTo_59 : decode cX7_joinTo 59 = .ok (.getfield 65, 3) := by decide +kernel
theorem dX7_joinTo_62 : decode cX7_joinTo 62 = .ok (.ireturn, 1) := by decide +kernel
theorem dX7_whyNotJoin_0 : decode cX7_whyNotJoin 0 = .ok (.aload_n 2, 1) := by decide +kernel
theorem dX7_whyNotJoin_1 : decode cX7_whyNotJoin 1 = .ok (.getfield 65, 3) := by decide +kernel
theorem dX7_whyNotJoin_4 : decode cX7_whyNotJoin 4 = .ok (.ifCond .ne 6, 3) := by decide +kernel
theorem dX7_whyNotJoin_7 : decode cX7_whyNotJoin 7 = .ok (.bipush (-2), 2) := by decide +kernel
theorem dX7_whyNotJoin_9 : decode cX7_whyNotJoin 9 = .ok (.ireturn, 1) := by decide +kernel
theorem dX7_whyNotJoin_10 : decode cX7_whyNotJoin 10 = .ok (.aload_n 1, 1) := by decide +kernel
theorem dX7_whyNotJoin_11 : decode cX7_whyNotJoin 11 = .ok (.getfield 65, 3) := by decide +kernel
theorem dX7_whyNotJoin_14 : decode cX7_whyNotJoin 14 = .ok (.ifCond .le 24, 3) := by decide +kernel
theorem dX7_whyNotJoin_17 : decode cX7_whyNotJoin 17 = .ok (.aload_n 1, 1) := by decide +kernel
theorem dX7_whyNotJoin_18 : decode cX7_whyNotJoin 18 = .ok (.aload_n 1, 1) := by decide +kernel
theorem dX7_whyNotJoin_19 : decode cX7_whyNotJoin 19 = .ok (.getfield 65, 3) := by decide +kernel
theorem dX7_whyNotJoin_22 : decode cX7_whyNotJoin 22 = .ok (.iconst 1, 1) := by decide +kernel
theorem dX7_whyNotJoin_23 : decode cX7_whyNotJoin 23 = .ok (.isub, 1) := by decide +kernel
theorem dX7_whyNotJoin_24 : decode cX7_whyNotJoin 24 = .ok (.invokevirtual 102, 3) := by decide +kernel
theorem dX7_whyNotJoin_27 : decode cX7_whyNotJoin 27 = .ok (.aload_n 2, 1) := by decide +kernel
theorem dX7_whyNotJoin_28 : decode cX7_whyNotJoin 28 = .ok (.iconst 0, 1) := by decide +kernel
theorem dX7_whyNotJoin_29 : decode cX7_whyNotJoin 29 = .ok (.invokevirtual 102, 3) := by decide +kernel
theorem dX7_whyNotJoin_32 : decode cX7_whyNotJoin 32 = .ok (.if_icmp .lt 6, 3) := by decide +kernel
theorem dX7_whyNotJoin_35 : decode cX7_whyNotJoin 35 = .ok (.bipush (-3), 2) := by decide +kernel
theorem dX7_whyNotJoin_37 : decode cX7_whyNotJoin 37 = .ok (.ireturn, 1) := by decide +kernel
theorem dX7_whyNotJoin_38 : decode cX7_whyNotJoin 38 = .ok (.aload_n 1, 1) := by decide +kernel
theorem dX7_whyNotJoin_39 : decode cX7_whyNotJoin 39 = .ok (.getfield 65, 3) := by decide +kernel
theorem dX7_whyNotJoin_42 : decode cX7_whyNotJoin 42 = .ok (.aload_n 2, 1) := by decide +kernel
theorem dX7_whyNotJoin_43 : decode cX7_whyNotJoin 43 = .ok (.getfield 65, 3) := by decide +kernel
theorem dX7_whyNotJoin_46 : decode cX7_whyNotJoin 46 = .ok (.iadd, 1) := by decide +kernel
theorem dX7_whyNotJoin_47 : decode cX7_whyNotJoin 47 = .ok (.bipush 60, 2) := by decide +kernel
theorem dX7_whyNotJoin_49 : decode cX7_whyNotJoin 49 = .ok (.if_icmp .le 8, 3) := by decide +kernel
theorem dX7_whyNotJoin_52 : decode cX7_whyNotJoin 52 = .ok (.bipush (-4), 2) := by decide +kernel
theorem dX7_whyNotJoin_54 : decode cX7_whyNotJoin 54 = .ok (.goto 4, 3) := by decide +kernel
theorem dX7_whyNotJoin_57 : decode cX7_whyNotJoin 57 = .ok (.iconst 0, 1) := by decide +kernel
theorem dX7_whyNotJoin_58 : decode cX7_whyNotJoin 58 = .ok (.ireturn, 1) := by decide +kernel
theorem dX7_meltTo_0 : decode cX7_meltTo 0 = .ok (.aload_n 0, 1) := by decide +kernel
theorem dX7_meltTo_1 : decode cX7_meltTo 1 = .ok (.iload_n 1, 1) := by decide +kernel
theorem dX7_meltTo_2 : decode cX7_meltTo 2 = .ok (.invokevirtual 68, 3) := by decide +kernel
theorem dX7_meltTo_5 : decode cX7_meltTo 5 = .ok (.astore_n 3, 1) := by decide +kernel
theorem dX7_meltTo_6 : decode cX7_meltTo 6 = .ok (.aload_n 0, 1) := by decide +kernel
theorem dX7_meltTo_7 : decode cX7_meltTo 7 = .ok (.iload_n 2, 1) := by decide +kernel
theorem dX7_meltTo_8 : decode cX7_meltTo 8 = .ok (.invokevirtual 68, 3) := by decide +kernel
theorem dX7_meltTo_11 : decode cX7_meltTo 11 = .ok (.astore 4, 2) := by decide +kernel
theorem dX7_meltTo_13 : decode cX7_meltTo 13 = .ok (.aload_n 3, 1) := by decide +kernel
theorem dX7_meltTo_14 : decode cX7_meltTo 14 = .ok (.ifnull 13, 3) := by decide +kernel
theorem dX7_meltTo_17 : decode cX7_meltTo 17 = .ok (.aload 4, 2) := by decide +kernel
theorem dX7_meltTo_19 : decode cX7_meltTo 19 = .ok (.ifnull 8, 3) := by decide +kernel
theorem dX7_meltTo_22 : decode cX7_meltTo 22 = .ok (.iload_n 1, 1) := by decide +kernel
theorem dX7_meltTo_23 : decode cX7_meltTo 23 = .ok (.iload_n 2, 1) := by decide +kernel
theorem dX7_meltTo_24 : decode cX7_meltTo 24 = .ok (.if_icmp .ne 5, 3) := by decide +kernel
theorem dX7_meltTo_27 : decode cX7_meltTo 27 = .ok (.iconst (-1), 1) := by decide +kernel
theorem dX7_meltTo_28 : decode cX7_meltTo 28 = .ok (.ireturn, 1) := by decide +kernel
theorem dX7_meltTo_29 : decode cX7_meltTo 29 = .ok (.aload_n 0, 1) := by decide +kernel
theorem dX7_meltTo_30 : decode cX7_meltTo 30 = .ok (.getfield 27, 3) := by decide +kernel
theorem dX7_meltTo_33 : decode cX7_meltTo 33 = .ok (.aload_n 3, 1) := by decide +kernel
theorem dX7_meltTo_34 : decode cX7_meltTo 34 = .ok (.aload 4, 2) := by decide +kernel
theorem dX7_meltTo_36 : decode cX7_meltTo 36 = .ok (.invokevirtual 62, 3) := by decide +kernel
theorem dX7_meltTo_39 : decode cX7_meltTo 39 = .ok (.aload_n 0, 1) := by decide +kernel
theorem dX7_meltTo_40 : decode cX7_meltTo 40 = .ok (.aload 4, 2) := by decide +kernel
theorem dX7_meltTo_42 : decode cX7_meltTo 42 = .ok (.aload_n 0, 1) := by decide +kernel
theorem dX7_meltTo_43 : decode cX7_meltTo 43 = .ok (.getfield 27, 3) := by decide +kernel
theorem dX7_meltTo_46 : decode cX7_meltTo 46 = .ok (.invokevirtual 105, 3) := by decide +kernel
theorem dX7_meltTo_49 : decode cX7_meltTo 49 = .ok (.istore 5, 2) := by decide +kernel
theorem dX7_meltTo_51 : decode cX7_meltTo 51 = .ok (.iload 5, 2) := by decide +kernel
theorem dX7_meltTo_53 : decode cX7_meltTo 53 = .ok (.ifCond .eq 6, 3) := by decide +kernel
theorem dX7_meltTo_56 : decode cX7_meltTo 56 = .ok (.iload 5, 2) := by decide +kernel
theorem dX7_meltTo_58 : decode cX7_meltTo 58 = .ok (.ireturn, 1) := by decide +kernel
theorem dX7_meltTo_59 : decode cX7_meltTo 59 = .ok (.aload_n 3, 1) := by decide +kernel
theorem dX7_meltTo_60 : decode cX7_meltTo 60 = .ok (.aload 4, 2) := by decide +kernel
theorem dX7_meltTo_62 : decode cX7_meltTo 62 = .ok (.aload_n 0, 1) := by decide +kernel
theorem dX7_meltTo_63 : decode cX7_meltTo 63 = .ok (.getfield 27, 3) := by decide +kernel
theorem dX7_meltTo_66 : decode cX7_meltTo 66 = .ok (.getfield 109, 3) := by decide +kernel
theorem dX7_meltTo_69 : decode cX7_meltTo 69 = .ok (.invokevirtual 112, 3) := by decide +kernel
theorem dX7_meltTo_72 : decode cX7_meltTo 72 = .ok (.aload_n 0, 1) := by decide +kernel
theorem dX7_meltTo_73 : decode cX7_meltTo 73 = .ok (.getfield 27, 3) := by decide +kernel
theorem dX7_meltTo_76 : decode cX7_meltTo 76 = .ok (.getfield 116, 3) := by decide +kernel
theorem dX7_meltTo_79 : decode cX7_meltTo 79 = .ok (.ireturn, 1) := by decide +kernel
theorem dX7_whyNotMelt_0 : decode cX7_whyNotMelt 0 = .ok (.aload_n 1, 1) := by decide +kernel
theorem dX7_whyNotMelt_1 : decode cX7_whyNotMelt 1 = .ok (.getfield 65, 3) := by decide +kernel
theorem dX7_whyNotMelt_4 : decode cX7_whyNotMelt 4 = .ok (.ifCond .ne 6, 3) := by decide +kernel
theorem dX7_whyNotMelt_7 : decode cX7_whyNotMelt 7 = .ok (.bipush (-2), 2) := by decide +kernel
theorem dX7_whyNotMelt_9 : decode cX7_whyNotMelt 9 = .ok (.ireturn, 1) := by decide +kernel
theorem dX7_whyNotMelt_10 : decode cX7_whyNotMelt 10 = .ok (.aload_n 2, 1) := by decide +kernel
theorem dX7_whyNotMelt_11 : decode cX7_whyNotMelt 11 = .ok (.getfield 109, 3) := by decide +kernel
theorem dX7_whyNotMelt_14 : decode cX7_whyNotMelt 14 = .ok (.bipush 60, 2) := by decide +kernel
theorem dX7_whyNotMelt_16 : decode cX7_whyNotMelt 16 = .ok (.if_icmp .le 8, 3) := by decide +kernel
theorem dX7_whyNotMelt_19 : decode cX7_whyNotMelt 19 = .ok (.bipush (-4), 2) := by decide +kernel
theorem dX7_whyNotMelt_21 : decode cX7_whyNotMelt 21 = .ok (.goto 4, 3) := by decide +kernel
theorem dX7_whyNotMelt_24 : decode cX7_whyNotMelt 24 = .ok (.iconst 0, 1) := by decide +kernel
theorem dX7_whyNotMelt_25 : decode cX7_whyNotMelt 25 = .ok (.ireturn, 1) := by decide +kernel
theorem dX7_shiftBy_0 : decode cX7_shiftBy 0 = .ok (.aload_n 0, 1) := by decide +kernel
theorem dX7_shiftBy_1 : decode cX7_shiftBy 1 = .ok (.iload_n 1, 1) := by decide +kernel
theorem dX7_shiftBy_2 : decode cX7_shiftBy 2 = .ok (.invokevirtual 68, 3) := by decide +kernel
theorem dX7_shiftBy_5 : decode cX7_shiftBy 5 = .ok (.astore_n 3, 1) := by decide +kernel
theorem dX7_shiftBy_6 : decode cX7_shiftBy 6 = .ok (.aload_n 3, 1) := by decide +kernel
theorem dX7_shiftBy_7 : decode cX7_shiftBy 7 = .ok (.ifnull 17, 3) := by decide +kernel
theorem dX7_shiftBy_10 : decode cX7_shiftBy 10 = .ok (.iload_n 2, 1) := by decide +kernel
theorem dX7_shiftBy_11 : decode cX7_shiftBy 11 = .ok (.sipush (-9999), 3) := by decide +kernel
theorem dX7_shiftBy_14 : decode cX7_shiftBy 14 = .ok (.if_icmp .lt 10, 3) := by decide +kernel
theorem dX7_shiftBy_17 : decode cX7_shiftBy 17 = .ok (.iload_n 2, 1) := by decide +kernel
theorem dX7_shiftBy_18 : decode cX7_shiftBy 18 = .ok (.sipush 9999, 3) := by decide +kernel
theorem dX7_shiftBy_21 : decode cX7_shiftBy 21 = .ok (.if_icmp .le 5, 3) := by decide +kernel
theorem dX7_shiftBy_24 : decode cX7_shiftBy 24 = .ok (.iconst (-1), 1) := by decide +kernel
theorem dX7_shiftBy_25 : decode cX7_shiftBy 25 = .ok (.ireturn, 1) := by decide +kernel
theorem dX7_shiftBy_26 : decode cX7_shiftBy 26 = .ok (.iload_n 2, 1) := by decide +kernel
theorem dX7_shiftBy_27 : decode cX7_shiftBy 27 = .ok (.ifCond .eq 10, 3) := by decide +kernel
theorem dX7_shiftBy_30 : decode cX7_shiftBy 30 = .ok (.aload_n 3, 1) := by decide +kernel
theorem dX7_shiftBy_31 : decode cX7_shiftBy 31 = .ok (.getfield 65, 3) := by decide +kernel
theorem dX7_shiftBy_34 : decode cX7_shiftBy 34 = .ok (.ifCond .ne 6, 3) := by decide +kernel
theorem dX7_shiftBy_37 : decode cX7_shiftBy 37 = .ok (.bipush (-2), 2) := by decide +kernel
theorem dX7_shiftBy_39 : decode cX7_shiftBy 39 = .ok (.ireturn, 1) := by decide +kernel
theorem dX7_shiftBy_40 : decode cX7_shiftBy 40 = .ok (.aload_n 3, 1) := by decide +kernel
theorem dX7_shiftBy_41 : decode cX7_shiftBy 41 = .ok (.iconst 0, 1) := by decide +kernel
theorem dX7_shiftBy_42 : decode cX7_shiftBy 42 = .ok (.invokevirtual 102, 3) := by decide +kernel
theorem dX7_shiftBy_45 : decode cX7_shiftBy 45 = .ok (.iload_n 2, 1) := by decide +kernel
theorem dX7_shiftBy_46 : decode cX7_shiftBy 46 = .ok (.iadd, 1) := by decide +kernel
theorem dX7_shiftBy_47 : decode cX7_shiftBy 47 = .ok (.invokestatic 72, 3) := by decide +kernel
theorem dX7_shiftBy_50 : decode cX7_shiftBy 50 = .ok (.ifCond .eq 21, 3) := by decide +kernel
theorem dX7_shiftBy_53 : decode cX7_shiftBy 53 = .ok (.aload_n 3, 1) := by decide +kernel
theorem dX7_shiftBy_54 : decode cX7_shiftBy 54 = .ok (.aload_n 3, 1) := by decide +kernel
theorem dX7_shiftBy_55 : decode cX7_shiftBy 55 = .ok (.getfield 65, 3) := by decide +kernel
theorem dX7_shiftBy_58 : decode cX7_shiftBy 58 = .ok (.iconst 1, 1) := by decide +kernel
theorem dX7_shiftBy_59 : decode cX7_shiftBy 59 = .ok (.isub, 1) := by decide +kernel
theorem dX7_shiftBy_60 : decode cX7_shiftBy 60 = .ok (.invokevirtual 102, 3) := by decide +kernel
theorem dX7_shiftBy_63 : decode cX7_shiftBy 63 = .ok (.iload_n 2, 1) := by decide +kernel
theorem dX7_shiftBy_64 : decode cX7_shiftBy 64 = .ok (.iadd, 1) := by decide +kernel
theorem dX7_shiftBy_65 : decode cX7_shiftBy 65 = .ok (.invokestatic 72, 3) := by decide +kernel
theorem dX7_shiftBy_68 : decode cX7_shiftBy 68 = .ok (.ifCond .ne 6, 3) := by decide +kernel
theorem dX7_shiftBy_71 : decode cX7_shiftBy 71 = .ok (.bipush (-3), 2) := by decide +kernel
theorem dX7_shiftBy_73 : decode cX7_shiftBy 73 = .ok (.ireturn, 1) := by decide +kernel
theorem dX7_shiftBy_74 : decode cX7_shiftBy 74 = .ok (.aload_n 3, 1) := by decide +kernel
theorem dX7_shiftBy_75 : decode cX7_shiftBy 75 = .ok (.iload_n 2, 1) := by decide +kernel
theorem dX7_shiftBy_76 : decode cX7_shiftBy 76 = .ok (.invokevirtual 119, 3) := by decide +kernel
theorem dX7_shiftBy_79 : decode cX7_shiftBy 79 = .ok (.aload_n 3, 1) := by decide +kernel
theorem dX7_shiftBy_80 : decode cX7_shiftBy 80 = .ok (.getfield 65, 3) := by decide +kernel
theorem dX7_shiftBy_83 : decode cX7_shiftBy 83 = .ok (.ireturn, 1) := by decide +kernel
theorem dX7_moveStretch_0 : decode cX7_moveStretch 0 = .ok (.aload_n 0, 1) := by decide +kernel
theorem dX7_moveStretch_1 : decode cX7_moveStretch 1 = .ok (.iload_n 1, 1) := by decide +kernel
theorem dX7_moveStretch_2 : decode cX7_moveStretch 2 = .ok (.invokevirtual 68, 3) := by decide +kernel
theorem dX7_moveStretch_5 : decode cX7_moveStretch 5 = .ok (.astore 5, 2) := by decide +kernel
theorem dX7_moveStretch_7 : decode cX7_moveStretch 7 = .ok (.aload_n 0, 1) := by decide +kernel
theorem dX7_moveStretch_8 : decode cX7_moveStretch 8 = .ok (.iload 4, 2) := by decide +kernel
theorem dX7_moveStretch_10 : decode cX7_moveStretch 10 = .ok (.invokevirtual 68, 3) := by decide +kernel
theorem dX7_moveStretch_13 : decode cX7_moveStretch 13 = .ok (.astore 6, 2) := by decide +kernel
theorem dX7_moveStretch_15 : decode cX7_moveStretch 15 = .ok (.aload 5, 2) := by decide +kernel
theorem dX7_moveStretch_17 : decode cX7_moveStretch 17 = .ok (.ifnull 28, 3) := by decide +kernel
theorem dX7_moveStretch_20 : decode cX7_moveStretch 20 = .ok (.aload 6, 2) := by decide +kernel
theorem dX7_moveStretch_22 : decode cX7_moveStretch 22 = .ok (.ifnull 23, 3) := by decide +kernel
theorem dX7_moveStretch_25 : decode cX7_moveStretch 25 = .ok (.iload_n 1, 1) := by decide +kernel
theorem dX7_moveStretch_26 : decode cX7_moveStretch 26 = .ok (.iload 4, 2) := by decide +kernel
theorem dX7_moveStretch_28 : decode cX7_moveStretch 28 = .ok (.if_icmp .eq 17, 3) := by decide +kernel
theorem dX7_moveStretch_31 : decode cX7_moveStretch 31 = .ok (.iload_n 2, 1) := by decide +kernel
theorem dX7_moveStretch_32 : decode cX7_moveStretch 32 = .ok (.invokestatic 72, 3) := by decide +kernel
theorem dX7_moveStretch_35 : decode cX7_moveStretch 35 = .ok (.ifCond .eq 10, 3) := by decide +kernel
theorem dX7_moveStretch_38 : decode cX7_moveStretch 38 = .ok (.iload_n 3, 1) := by decide +kernel
theorem dX7_moveStretch_39 : decode cX7_moveStretch 39 = .ok (.invokestatic 72, 3) := by decide +kernel
theorem dX7_moveStretch_42 : decode cX7_moveStretch 42 = .ok (.ifCond .ne 5, 3) := by decide +kernel
theorem dX7_moveStretch_45 : decode cX7_moveStretch 45 = .ok (.iconst (-1), 1) := by decide +kernel
theorem dX7_moveStretch_46 : decode cX7_moveStretch 46 = .ok (.ireturn, 1) := by decide +kernel
theorem dX7_moveStretch_47 : decode cX7_moveStretch 47 = .ok (.aload 5, 2) := by decide +kernel
theorem dX7_moveStretch_49 : decode cX7_moveStretch 49 = .ok (.iload_n 2, 1) := by decide +kernel
theorem dX7_moveStretch_50 : decode cX7_moveStretch 50 = .ok (.iload_n 3, 1) := by decide +kernel
theorem dX7_moveStretch_51 : decode cX7_moveStretch 51 = .ok (.invokevirtual 123, 3) := by decide +kernel
theorem dX7_moveStretch_54 : decode cX7_moveStretch 54 = .ok (.istore 7, 2) := by decide +kernel
theorem dX7_moveStretch_56 : decode cX7_moveStretch 56 = .ok (.iload 7, 2) := by decide +kernel
theorem dX7_moveStretch_58 : decode cX7_moveStretch 58 = .ok (.ifCond .ne 6, 3) := by decide +kernel
theorem dX7_moveStretch_61 : decode cX7_moveStretch 61 = .ok (.bipush (-2), 2) := by decide +kernel
theorem dX7_moveStretch_63 : decode cX7_moveStretch 63 = .ok (.ireturn, 1) := by decide +kernel
theorem dX7_moveStretch_64 : decode cX7_moveStretch 64 = .ok (.aload 5, 2) := by decide +kernel
theorem dX7_moveStretch_66 : decode cX7_moveStretch 66 = .ok (.iload_n 2, 1) := by decide +kernel
theorem dX7_moveStretch_67 : decode cX7_moveStretch 67 = .ok (.invokevirtual 127, 3) := by decide +kernel
theorem dX7_moveStretch_70 : decode cX7_moveStretch 70 = .ok (.istore 8, 2) := by decide +kernel
theorem dX7_moveStretch_72 : decode cX7_moveStretch 72 = .ok (.aload 6, 2) := by decide +kernel
theorem dX7_moveStretch_74 : decode cX7_moveStretch 74 = .ok (.aload 5, 2) := by decide +kernel
theorem dX7_moveStretch_76 : decode cX7_moveStretch 76 = .ok (.iload 8, 2) := by decide +kernel
theorem dX7_moveStretch_78 : decode cX7_moveStretch 78 = .ok (.invokevirtual 102, 3) := by decide +kernel
theorem dX7_moveStretch_81 : decode cX7_moveStretch 81 = .ok (.aload 5, 2) := by decide +kernel
theorem dX7_moveStretch_83 : decode cX7_moveStretch 83 = .ok (.iload 8, 2) := by decide +kernel
theorem dX7_moveStretch_85 : decode cX7_moveStretch 85 = .ok (.iload 7, 2) := by decide +kernel
theorem dX7_moveStretch_87 : decode cX7_moveStretch 87 = .ok (.iadd, 1) := by decide +kernel
theorem dX7_moveStretch_88 : decode cX7_moveStretch 88 = .ok (.iconst 1, 1) := by decide +kernel
theorem dX7_moveStretch_89 : decode cX7_moveStretch 89 = .ok (.isub, 1) := by decide +kernel
theorem dX7_moveStretch_90 : decode cX7_moveStretch 90 = .ok (.invokevirtual 102, 3) := by decide +kernel
theorem dX7_moveStretch_93 : decode cX7_moveStretch 93 = .ok (.invokevirtual 123, 3) := by decide +kernel
theorem dX7_moveStretch_96 : decode cX7_moveStretch 96 = .ok (.ifCond .le 6, 3) := by decide +kernel
theorem dX7_moveStretch_99 : decode cX7_moveStretch 99 = .ok (.bipush (-3), 2) := by decide +kernel
theorem dX7_moveStretch_101 : decode cX7_moveStretch 101 = .ok (.ireturn, 1) := by decide +kernel
theorem dX7_moveStretch_102 : decode cX7_moveStretch 102 = .ok (.aload 6, 2) := by decide +kernel
theorem dX7_moveStretch_104 : decode cX7_moveStretch 104 = .ok (.getfield 65, 3) := by decide +kernel
theorem dX7_moveStretch_107 : decode cX7_moveStretch 107 = .ok (.iload 7, 2) := by decide +kernel
theorem dX7_moveStretch_109 : decode cX7_moveStretch 109 = .ok (.iadd, 1) := by decide +kernel
theorem dX7_moveStretch_110 : decode cX7_moveStretch 110 = .ok (.bipush 60, 2) := by decide +kernel
theorem dX7_moveStretch_112 : decode cX7_moveStretch 112 = .ok (.if_icmp .le 6, 3) := by decide +kernel
theorem dX7_moveStretch_115 : decode cX7_moveStretch 115 = .ok (.bipush (-4), 2) := by decide +kernel
theorem dX7_moveStretch_117 : decode cX7_moveStretch 117 = .ok (.ireturn, 1) := by decide +kernel
theorem dX7_moveStretch_118 : decode cX7_moveStretch 118 = .ok (.aload 5, 2) := by decide +kernel
theorem dX7_moveStretch_120 : decode cX7_moveStretch 120 = .ok (.iload 8, 2) := by decide +kernel
theorem dX7_moveStretch_122 : decode cX7_moveStretch 122 = .ok (.iload 7, 2) := by decide +kernel
theorem dX7_moveStretch_124 : decode cX7_moveStretch 124 = .ok (.aload 6, 2) := by decide +kernel
theorem dX7_moveStretch_126 : decode cX7_moveStretch 126 = .ok (.invokevirtual 94, 3) := by decide +kernel
theorem dX7_moveStretch_129 : decode cX7_moveStretch 129 = .ok (.iload 7, 2) := by decide +kernel
theorem dX7_moveStretch_131 : decode cX7_moveStretch 131 = .ok (.ireturn, 1) := by decide +kernel
theorem dX7_markStretch_0 : decode cX7_markStretch 0 = .ok (.aload_n 0, 1) := by decide +kernel
theorem dX7_markStretch_1 : decode cX7_markStretch 1 = .ok (.iload_n 1, 1) := by decide +kernel
theorem dX7_markStretch_2 : decode cX7_markStretch 2 = .ok (.invokevirtual 68, 3) := by decide +kernel
theorem dX7_markStretch_5 : decode cX7_markStretch 5 = .ok (.astore 5, 2) := by decide +kernel
theorem dX7_markStretch_7 : decode cX7_markStretch 7 = .ok (.aload 5, 2) := by decide +kernel
theorem dX7_markStretch_9 : decode cX7_markStretch 9 = .ok (.ifnull 17, 3) := by decide +kernel
theorem dX7_markStretch_12 : decode cX7_markStretch 12 = .ok (.iload_n 2, 1) := by decide +kernel
theorem dX7_markStretch_13 : decode cX7_markStretch 13 = .ok (.invokestatic 72, 3) := by decide +kernel
theorem dX7_markStretch_16 : decode cX7_markStretch 16 = .ok (.ifCond .eq 10, 3) := by decide +kernel
theorem dX7_markStretch_19 : decode cX7_markStretch 19 = .ok (.iload_n 3, 1) := by decide +kernel
theorem dX7_markStretch_20 : decode cX7_markStretch 20 = .ok (.invokestatic 72, 3) := by decide +kernel
theorem dX7_markStretch_23 : decode cX7_markStretch 23 = .ok (.ifCond .ne 5, 3) := by decide +kernel
theorem dX7_markStretch_26 : decode cX7_markStretch 26 = .ok (.iconst (-1), 1) := by decide +kernel
theorem dX7_markStretch_27 : decode cX7_markStretch 27 = .ok (.ireturn, 1) := by decide +kernel
theorem dX7_markStretch_28 : decode cX7_markStretch 28 = .ok (.aload 5, 2) := by decide +kernel
theorem dX7_markStretch_30 : decode cX7_markStretch 30 = .ok (.iload_n 2, 1) := by decide +kernel
theorem dX7_markStretch_31 : decode cX7_markStretch 31 = .ok (.iload_n 3, 1) := by decide +kernel
theorem dX7_markStretch_32 : decode cX7_markStretch 32 = .ok (.iload 4, 2) := by decide +kernel
theorem dX7_markStretch_34 : decode cX7_markStretch 34 = .ok (.ifCond .eq 7, 3) := by decide +kernel
theorem dX7_markStretch_37 : decode cX7_markStretch 37 = .ok (.iconst 1, 1) := by decide +kernel
theorem dX7_markStretch_38 : decode cX7_markStretch 38 = .ok (.goto 4, 3) := by decide +kernel
theorem dX7_markStretch_41 : decode cX7_markStretch 41 = .ok (.iconst 0, 1) := by decide +kernel
theorem dX7_markStretch_42 : decode cX7_markStretch 42 = .ok (.invokevirtual 130, 3) := by decide +kernel
theorem dX7_markStretch_45 : decode cX7_markStretch 45 = .ok (.istore 6, 2) := by decide +kernel
theorem dX7_markStretch_47 : decode cX7_markStretch 47 = .ok (.iload 6, 2) := by decide +kernel
theorem dX7_markStretch_49 : decode cX7_markStretch 49 = .ok (.ifCond .ne 8, 3) := by decide +kernel
theorem dX7_markStretch_52 : decode cX7_markStretch 52 = .ok (.bipush (-2), 2) := by decide +kernel
theorem dX7_markStretch_54 : decode cX7_markStretch 54 = .ok (.goto 5, 3) := by decide +kernel
theorem dX7_markStretch_57 : decode cX7_markStretch 57 = .ok (.iload 6, 2) := by decide +kernel
theorem dX7_markStretch_59 : decode cX7_markStretch 59 = .ok (.ireturn, 1) := by decide +kernel
theorem dX7_seekFrom_0 : decode cX7_seekFrom 0 = .ok (.aload_n 0, 1) := by decide +kernel
theorem dX7_seekFrom_1 : decode cX7_seekFrom 1 = .ok (.iload_n 1, 1) := by decide +kernel
theorem dX7_seekFrom_2 : decode cX7_seekFrom 2 = .ok (.invokevirtual 68, 3) := by decide +kernel
theorem dX7_seekFrom_5 : decode cX7_seekFrom 5 = .ok (.astore_n 3, 1) := by decide +kernel
theorem dX7_seekFrom_6 : decode cX7_seekFrom 6 = .ok (.aload_n 3, 1) := by decide +kernel
theorem dX7_seekFrom_7 : decode cX7_seekFrom 7 = .ok (.ifnull 10, 3) := by decide +kernel
theorem dX7_seekFrom_10 : decode cX7_seekFrom 10 = .ok (.iload_n 2, 1) := by decide +kernel
theorem dX7_seekFrom_11 : decode cX7_seekFrom 11 = .ok (.invokestatic 72, 3) := by decide +kernel
theorem dX7_seekFrom_14 : decode cX7_seekFrom 14 = .ok (.ifCond .ne 5, 3) := by decide +kernel
theorem dX7_seekFrom_17 : decode cX7_seekFrom 17 = .ok (.iconst (-1), 1) := by decide +kernel
theorem dX7_seekFrom_18 : decode cX7_seekFrom 18 = .ok (.ireturn, 1) := by decide +kernel
theorem dX7_seekFrom_19 : decode cX7_seekFrom 19 = .ok (.aload_n 3, 1) := by decide +kernel
theorem dX7_seekFrom_20 : decode cX7_seekFrom 20 = .ok (.getfield 65, 3) := by decide +kernel
theorem dX7_seekFrom_23 : decode cX7_seekFrom 23 = .ok (.ifCond .ne 6, 3) := by decide +kernel
theorem dX7_seekFrom_26 : decode cX7_seekFrom 26 = .ok (.bipush (-2), 2) := by decide +kernel
theorem dX7_seekFrom_28 : decode cX7_seekFrom 28 = .ok (.ireturn, 1) := by decide +kernel
theorem dX7_seekFrom_29 : decode cX7_seekFrom 29 = .ok (.iconst 0, 1) := by decide +kernel
theorem dX7_seekFrom_30 : decode cX7_seekFrom 30 = .ok (.aload_n 3, 1) := by decide +kernel
theorem dX7_seekFrom_31 : decode cX7_seekFrom 31 = .ok (.iload_n 2, 1) := by decide +kernel
theorem dX7_seekFrom_32 : decode cX7_seekFrom 32 = .ok (.invokevirtual 91, 3) := by decide +kernel
theorem dX7_seekFrom_35 : decode cX7_seekFrom 35 = .ok (.iconst 1, 1) := by decide +kernel
theorem dX7_seekFrom_36 : decode cX7_seekFrom 36 = .ok (.isub, 1) := by decide +kernel
theorem dX7_seekFrom_37 : decode cX7_seekFrom 37 = .ok (.invokestatic 134, 3) := by decide +kernel
theorem dX7_seekFrom_40 : decode cX7_seekFrom 40 = .ok (.istore 4, 2) := by decide +kernel
theorem dX7_seekFrom_42 : decode cX7_seekFrom 42 = .ok (.aload_n 3, 1) := by decide +kernel
theorem dX7_seekFrom_43 : decode cX7_seekFrom 43 = .ok (.getfield 139, 3) := by decide +kernel
theorem dX7_seekFrom_46 : decode cX7_seekFrom 46 = .ok (.iconst (-1), 1) := by decide +kernel
theorem dX7_seekFrom_47 : decode cX7_seekFrom 47 = .ok (.if_icmp .ne 7, 3) := by decide +kernel
theorem dX7_seekFrom_50 : decode cX7_seekFrom 50 = .ok (.iconst 0, 1) := by decide +kernel
theorem dX7_seekFrom_51 : decode cX7_seekFrom 51 = .ok (.goto 21, 3) := by decide +kernel
theorem dX7_seekFrom_54 : decode cX7_seekFrom 54 = .ok (.aload_n 0, 1) := by decide +kernel
theorem dX7_seekFrom_55 : decode cX7_seekFrom 55 = .ok (.aload_n 3, 1) := by decide +kernel
theorem dX7_seekFrom_56 : decode cX7_seekFrom 56 = .ok (.invokevirtual 142, 3) := by decide +kernel
theorem dX7_seekFrom_59 : decode cX7_seekFrom 59 = .ok (.aload_n 3, 1) := by decide +kernel
theorem dX7_seekFrom_60 : decode cX7_seekFrom 60 = .ok (.aload_n 3, 1) := by decide +kernel
theorem dX7_seekFrom_61 : decode cX7_seekFrom 61 = .ok (.getfield 139, 3) := by decide +kernel
theorem dX7_seekFrom_64 : decode cX7_seekFrom 64 = .ok (.invokevirtual 76, 3) := by decide +kernel
theorem dX7_seekFrom_67 : decode cX7_seekFrom 67 = .ok (.iload 4, 2) := by decide +kernel
theorem dX7_seekFrom_69 : decode cX7_seekFrom 69 = .ok (.invokevirtual 146, 3) := by decide +kernel
theorem dX7_seekFrom_72 : decode cX7_seekFrom 72 = .ok (.istore 5, 2) := by decide +kernel
theorem dX7_seekFrom_74 : decode cX7_seekFrom 74 = .ok (.aload_n 3, 1) := by decide +kernel
theorem dX7_seekFrom_75 : decode cX7_seekFrom 75 = .ok (.aload_n 3, 1) := by decide +kernel
theorem dX7_seekFrom_76 : decode cX7_seekFrom 76 = .ok (.iload 4, 2) := by decide +kernel
theorem dX7_seekFrom_78 : decode cX7_seekFrom 78 = .ok (.invokevirtual 102, 3) := by decide +kernel
theorem dX7_seekFrom_81 : decode cX7_seekFrom 81 = .ok (.putfield 139, 3) := by decide +kernel
theorem dX7_seekFrom_84 : decode cX7_seekFrom 84 = .ok (.iload 5, 2) := by decide +kernel
theorem dX7_seekFrom_86 : decode cX7_seekFrom 86 = .ok (.ireturn, 1) := by decide +kernel
theorem dX7_notEmpty_0 : decode cX7_notEmpty 0 = .ok (.iconst 0, 1) := by decide +kernel
theorem dX7_notEmpty_1 : decode cX7_notEmpty 1 = .ok (.istore_n 1, 1) := by decide +kernel
theorem dX7_notEmpty_2 : decode cX7_notEmpty 2 = .ok (.iconst 0, 1) := by decide +kernel
theorem dX7_notEmpty_3 : decode cX7_notEmpty 3 = .ok (.istore_n 2, 1) := by decide +kernel
theorem dX7_notEmpty_4 : decode cX7_notEmpty 4 = .ok (.iload_n 2, 1) := by decide +kernel
theorem dX7_notEmpty_5 : decode cX7_notEmpty 5 = .ok (.bipush 8, 2) := by decide +kernel
theorem dX7_notEmpty_7 : decode cX7_notEmpty 7 = .ok (.if_icmp .ge 29, 3) := by decide +kernel
theorem dX7_notEmpty_10 : decode cX7_notEmpty 10 = .ok (.iload_n 1, 1) := by decide +kernel
theorem dX7_notEmpty_11 : decode cX7_notEmpty 11 = .ok (.aload_n 0, 1) := by decide +kernel
theorem dX7_notEmpty_12 : decode cX7_notEmpty 12 = .ok (.getfield 11, 3) := by decide +kernel
theorem dX7_notEmpty_15 : decode cX7_notEmpty 15 = .ok (.iload_n 2, 1) := by decide +kernel
theorem dX7_notEmpty_16 : decode cX7_notEmpty 16 = .ok (.aaload, 1) := by decide +kernel
theorem dX7_notEmpty_17 : decode cX7_notEmpty 17 = .ok (.getfield 65, 3) := by decide +kernel
theorem dX7_notEmpty_20 : decode cX7_notEmpty 20 = .ok (.ifCond .le 7, 3) := by decide +kernel
theorem dX7_notEmpty_23 : decode cX7_notEmpty 23 = .ok (.iconst 1, 1) := by decide +kernel
theorem dX7_notEmpty_24 : decode cX7_notEmpty 24 = .ok (.goto 4, 3) := by decide +kernel
theorem dX7_notEmpty_27 : decode cX7_notEmpty 27 = .ok (.iconst 0, 1) := by decide +kernel
theorem dX7_notEmpty_28 : decode cX7_notEmpty 28 = .ok (.iadd, 1) := by decide +kernel
theorem dX7_notEmpty_29 : decode cX7_notEmpty 29 = .ok (.istore_n 1, 1) := by decide +kernel
theorem dX7_notEmpty_30 : decode cX7_notEmpty 30 = .ok (.iinc 2 1, 3) := by decide +kernel
theorem dX7_notEmpty_33 : decode cX7_notEmpty 33 = .ok (.goto (-29), 3) := by decide +kernel
theorem dX7_notEmpty_36 : decode cX7_notEmpty 36 = .ok (.iload_n 1, 1) := by decide +kernel
theorem dX7_notEmpty_37 : decode cX7_notEmpty 37 = .ok (.ireturn, 1) := by decide +kernel
theorem dX7_allMarked_0 : decode cX7_allMarked 0 = .ok (.iconst 0, 1) := by decide +kernel
theorem dX7_allMarked_1 : decode cX7_allMarked 1 = .ok (.istore_n 1, 1) := by decide +kernel
theorem dX7_allMarked_2 : decode cX7_allMarked 2 = .ok (.iconst 0, 1) := by decide +kernel
theorem dX7_allMarked_3 : decode cX7_allMarked 3 = .ok (.istore_n 2, 1) := by decide +kernel
theorem dX7_allMarked_4 : decode cX7_allMarked 4 = .ok (.iload_n 2, 1) := by decide +kernel
theorem dX7_allMarked_5 : decode cX7_allMarked 5 = .ok (.bipush 8, 2) := by decide +kernel
theorem dX7_allMarked_7 : decode cX7_allMarked 7 = .ok (.if_icmp .ge 25, 3) := by decide +kernel
theorem dX7_allMarked_10 : decode cX7_allMarked 10 = .ok (.iload_n 1, 1) := by decide +kernel
theorem dX7_allMarked_11 : decode cX7_allMarked 11 = .ok (.aload_n 0, 1) := by decide +kernel
theorem dX7_allMarked_12 : decode cX7_allMarked 12 = .ok (.getfield 11, 3) := by decide +kernel
theorem dX7_allMarked_15 : decode cX7_allMarked 15 = .ok (.iload_n 2, 1) := by decide +kernel
theorem dX7_allMarked_16 : decode cX7_allMarked 16 = .ok (.aaload, 1) := by decide +kernel
theorem dX7_allMarked_17 : decode cX7_allMarked 17 = .ok (.iconst 0, 1) := by decide +kernel
theorem dX7_allMarked_18 : decode cX7_allMarked 18 = .ok (.sipush 9999, 3) := by decide +kernel
theorem dX7_allMarked_21 : decode cX7_allMarked 21 = .ok (.invokevirtual 149, 3) := by decide +kernel
theorem dX7_allMarked_24 : decode cX7_allMarked 24 = .ok (.iadd, 1) := by decide +kernel
theorem dX7_allMarked_25 : decode cX7_allMarked 25 = .ok (.istore_n 1, 1) := by decide +kernel
theorem dX7_allMarked_26 : decode cX7_allMarked 26 = .ok (.iinc 2 1, 3) := by decide +kernel
theorem dX7_allMarked_29 : decode cX7_allMarked 29 = .ok (.goto (-25), 3) := by decide +kernel
theorem dX7_allMarked_32 : decode cX7_allMarked 32 = .ok (.iload_n 1, 1) := by decide +kernel
theorem dX7_allMarked_33 : decode cX7_allMarked 33 = .ok (.ireturn, 1) := by decide +kernel
theorem dX7_unlike_0 : decode cX7_unlike 0 = .ok (.aload_n 0, 1) := by decide +kernel
theorem dX7_unlike_1 : decode cX7_unlike 1 = .ok (.invokevirtual 80, 3) := by decide +kernel
theorem dX7_unlike_4 : decode cX7_unlike 4 = .ok (.istore_n 1, 1) := by decide +kernel
theorem dX7_unlike_5 : decode cX7_unlike 5 = .ok (.iconst 0, 1) := by decide +kernel
theorem dX7_unlike_6 : decode cX7_unlike 6 = .ok (.istore_n 2, 1) := by decide +kernel
theorem dX7_unlike_7 : decode cX7_unlike 7 = .ok (.iconst (-1), 1) := by decide +kernel
theorem dX7_unlike_8 : decode cX7_unlike 8 = .ok (.istore_n 3, 1) := by decide +kernel
theorem dX7_unlike_9 : decode cX7_unlike 9 = .ok (.aload_n 0, 1) := by decide +kernel
theorem dX7_unlike_10 : decode cX7_unlike 10 = .ok (.getfield 51, 3) := by decide +kernel
theorem dX7_unlike_13 : decode cX7_unlike 13 = .ok (.invokevirtual 152, 3) := by decide +kernel
theorem dX7_unlike_16 : decode cX7_unlike 16 = .ok (.iconst 0, 1) := by decide +kernel
theorem dX7_unlike_17 : decode cX7_unlike 17 = .ok (.istore 4, 2) := by decide +kernel
theorem dX7_unlike_19 : decode cX7_unlike 19 = .ok (.iload 4, 2) := by decide +kernel
theorem dX7_unlike_21 : decode cX7_unlike 21 = .ok (.iload_n 1, 1) := by decide +kernel
theorem dX7_unlike_22 : decode cX7_unlike 22 = .ok (.if_icmp .ge 35, 3) := by decide +kernel
theorem dX7_unlike_25 : decode cX7_unlike 25 = .ok (.aload_n 0, 1) := by decide +kernel
theorem dX7_unlike_26 : decode cX7_unlike 26 = .ok (.getfield 51, 3) := by decide +kernel
theorem dX7_unlike_29 : decode cX7_unlike 29 = .ok (.invokevirtual 155, 3) := by decide +kernel
theorem dX7_unlike_32 : decode cX7_unlike 32 = .ok (.istore 5, 2) := by decide +kernel
theorem dX7_unlike_34 : decode cX7_unlike 34 = .ok (.iload_n 2, 1) := by decide +kernel
theorem dX7_unlike_35 : decode cX7_unlike 35 = .ok (.iload 5, 2) := by decide +kernel
theorem dX7_unlike_37 : decode cX7_unlike 37 = .ok (.iload_n 3, 1) := by decide +kernel
theorem dX7_unlike_38 : decode cX7_unlike 38 = .ok (.if_icmp .eq 7, 3) := by decide +kernel
theorem dX7_unlike_41 : decode cX7_unlike 41 = .ok (.iconst 1, 1) := by decide +kernel
theorem dX7_unlike_42 : decode cX7_unlike 42 = .ok (.goto 4, 3) := by decide +kernel
theorem dX7_unlike_45 : decode cX7_unlike 45 = .ok (.iconst 0, 1) := by decide +kernel
theorem dX7_unlike_46 : decode cX7_unlike 46 = .ok (.iadd, 1) := by decide +kernel
theorem dX7_unlike_47 : decode cX7_unlike 47 = .ok (.istore_n 2, 1) := by decide +kernel
theorem dX7_unlike_48 : decode cX7_unlike 48 = .ok (.iload 5, 2) := by decide +kernel
theorem dX7_unlike_50 : decode cX7_unlike 50 = .ok (.istore_n 3, 1) := by decide +kernel
theorem dX7_unlike_51 : decode cX7_unlike 51 = .ok (.iinc 4 1, 3) := by decide +kernel
theorem dX7_unlike_54 : decode cX7_unlike 54 = .ok (.goto (-35), 3) := by decide +kernel
theorem dX7_unlike_57 : decode cX7_unlike 57 = .ok (.iload_n 2, 1) := by decide +kernel
theorem dX7_unlike_58 : decode cX7_unlike 58 = .ok (.ireturn, 1) := by decide +kernel
theorem dX7_huffman_0 : decode cX7_huffman 0 = .ok (.iconst 0, 1) := by decide +kernel
theorem dX7_huffman_1 : decode cX7_huffman 1 = .ok (.istore_n 1, 1) := by decide +kernel
theorem dX7_huffman_2 : decode cX7_huffman 2 = .ok (.iload_n 1, 1) := by decide +kernel
theorem dX7_huffman_3 : decode cX7_huffman 3 = .ok (.bipush 8, 2) := by decide +kernel
theorem dX7_huffman_5 : decode cX7_huffman 5 = .ok (.if_icmp .ge 24, 3) := by decide +kernel
theorem dX7_huffman_8 : decode cX7_huffman 8 = .ok (.aload_n 0, 1) := by decide +kernel
theorem dX7_huffman_9 : decode cX7_huffman 9 = .ok (.getfield 31, 3) := by decide +kernel
theorem dX7_huffman_12 : decode cX7_huffman 12 = .ok (.iload_n 1, 1) := by decide +kernel
theorem dX7_huffman_13 : decode cX7_huffman 13 = .ok (.aload_n 0, 1) := by decide +kernel
theorem dX7_huffman_14 : decode cX7_huffman 14 = .ok (.getfield 11, 3) := by decide +kernel
theorem dX7_huffman_17 : decode cX7_huffman 17 = .ok (.iload_n 1, 1) := by decide +kernel
theorem dX7_huffman_18 : decode cX7_huffman 18 = .ok (.aaload, 1) := by decide +kernel
theorem dX7_huffman_19 : decode cX7_huffman 19 = .ok (.getfield 65, 3) := by decide +kernel
theorem dX7_huffman_22 : decode cX7_huffman 22 = .ok (.iastore, 1) := by decide +kernel
theorem dX7_huffman_23 : decode cX7_huffman 23 = .ok (.iinc 1 1, 3) := by decide +kernel
theorem dX7_huffman_26 : decode cX7_huffman 26 = .ok (.goto (-24), 3) := by decide +kernel
theorem dX7_huffman_29 : decode cX7_huffman 29 = .ok (.iconst 0, 1) := by decide +kernel
theorem dX7_huffman_30 : decode cX7_huffman 30 = .ok (.istore_n 1, 1) := by decide +kernel
theorem dX7_huffman_31 : decode cX7_huffman 31 = .ok (.aload_n 0, 1) := by decide +kernel
theorem dX7_huffman_32 : decode cX7_huffman 32 = .ok (.invokevirtual 158, 3) := by decide +kernel
theorem dX7_huffman_35 : decode cX7_huffman 35 = .ok (.istore_n 2, 1) := by decide +kernel
theorem dX7_huffman_36 : decode cX7_huffman 36 = .ok (.iload_n 2, 1) := by decide +kernel
theorem dX7_huffman_37 : decode cX7_huffman 37 = .ok (.iconst 1, 1) := by decide +kernel
theorem dX7_huffman_38 : decode cX7_huffman 38 = .ok (.if_icmp .le 82, 3) := by decide +kernel
theorem dX7_huffman_41 : decode cX7_huffman 41 = .ok (.aload_n 0, 1) := by decide +kernel
theorem dX7_huffman_42 : decode cX7_huffman 42 = .ok (.iconst (-1), 1) := by decide +kernel
theorem dX7_huffman_43 : decode cX7_huffman 43 = .ok (.invokevirtual 161, 3) := by decide +kernel
theorem dX7_huffman_46 : decode cX7_huffman 46 = .ok (.istore_n 3, 1) := by decide +kernel
theorem dX7_huffman_47 : decode cX7_huffman 47 = .ok (.aload_n 0, 1) := by decide +kernel
theorem dX7_huffman_48 : decode cX7_huffman 48 = .ok (.iload_n 3, 1) := by decide +kernel
theorem dX7_huffman_49 : decode cX7_huffman 49 = .ok (.invokevirtual 161, 3) := by decide +kernel
theorem dX7_huffman_52 : decode cX7_huffman 52 = .ok (.istore 4, 2) := by decide +kernel
theorem dX7_huffman_54 : decode cX7_huffman 54 = .ok (.iload_n 3, 1) := by decide +kernel
theorem dX7_huffman_55 : decode cX7_huffman 55 = .ok (.iconst (-1), 1) := by decide +kernel
theorem dX7_huffman_56 : decode cX7_huffman 56 = .ok (.if_icmp .eq 64, 3) := by decide +kernel
theorem dX7_huffman_59 : decode cX7_huffman 59 = .ok (.iload 4, 2) := by decide +kernel
theorem dX7_huffman_61 : decode cX7_huffman 61 = .ok (.iconst (-1), 1) := by decide +kernel
theorem dX7_huffman_62 : decode cX7_huffman 62 = .ok (.if_icmp .ne 6, 3) := by decide +kernel
theorem dX7_huffman_65 : decode cX7_huffman 65 = .ok (.goto 55, 3) := by decide +kernel
theorem dX7_huffman_68 : decode cX7_huffman 68 = .ok (.aload_n 0, 1) := by decide +kernel
theorem dX7_huffman_69 : decode cX7_huffman 69 = .ok (.getfield 31, 3) := by decide +kernel
theorem dX7_huffman_72 : decode cX7_huffman 72 = .ok (.iload_n 3, 1) := by decide +kernel
theorem dX7_huffman_73 : decode cX7_huffman 73 = .ok (.iaload, 1) := by decide +kernel
theorem dX7_huffman_74 : decode cX7_huffman 74 = .ok (.aload_n 0, 1) := by decide +kernel
theorem dX7_huffman_75 : decode cX7_huffman 75 = .ok (.getfield 31, 3) := by decide +kernel
theorem dX7_huffman_78 : decode cX7_huffman 78 = .ok (.iload 4, 2) := by decide +kernel
theorem dX7_huffman_80 : decode cX7_huffman 80 = .ok (.iaload, 1) := by decide +kernel
theorem dX7_huffman_81 : decode cX7_huffman 81 = .ok (.iadd, 1) := by decide +kernel
theorem dX7_huffman_82 : decode cX7_huffman 82 = .ok (.istore 5, 2) := by decide +kernel
theorem dX7_huffman_84 : decode cX7_huffman 84 = .ok (.aload_n 0, 1) := by decide +kernel
theorem dX7_huffman_85 : decode cX7_huffman 85 = .ok (.getfield 31, 3) := by decide +kernel
theorem dX7_huffman_88 : decode cX7_huffman 88 = .ok (.iload_n 3, 1) := by decide +kernel
theorem dX7_huffman_89 : decode cX7_huffman 89 = .ok (.iload 4, 2) := by decide +kernel
theorem dX7_huffman_91 : decode cX7_huffman 91 = .ok (.invokestatic 134, 3) := by decide +kernel
theorem dX7_huffman_94 : decode cX7_huffman 94 = .ok (.iconst 0, 1) := by decide +kernel
theorem dX7_huffman_95 : decode cX7_huffman 95 = .ok (.iastore, 1) := by decide +kernel
theorem dX7_huffman_96 : decode cX7_huffman 96 = .ok (.aload_n 0, 1) := by decide +kernel
theorem dX7_huffman_97 : decode cX7_huffman 97 = .ok (.getfield 31, 3) := by decide +kernel
theorem dX7_huffman_100 : decode cX7_huffman 100 = .ok (.iload_n 3, 1) := by decide +kernel
theorem dX7_huffman_101 : decode cX7_huffman 101 = .ok (.iload 4, 2) := by decide +kernel
theorem dX7_huffman_103 : decode cX7_huffman 103 = .ok (.invokestatic 164, 3) := by decide +kernel
theorem dX7_huffman_106 : decode cX7_huffman 106 = .ok (.iload 5, 2) := by decide +kernel
theorem dX7_huffman_108 : decode cX7_huffman 108 = .ok (.iastore, 1) := by decide +kernel
theorem dX7_huffman_109 : decode cX7_huffman 109 = .ok (.iload_n 1, 1) := by decide +kernel
theorem dX7_huffman_110 : decode cX7_huffman 110 = .ok (.iload 5, 2) := by decide +kernel
theorem dX7_huffman_112 : decode cX7_huffman 112 = .ok (.iadd, 1) := by decide +kernel
theorem dX7_huffman_113 : decode cX7_huffman 113 = .ok (.istore_n 1, 1) := by decide +kernel
theorem dX7_huffman_114 : decode cX7_huffman 114 = .ok (.iinc 2 (-1), 3) := by decide +kernel
theorem dX7_huffman_117 : decode cX7_huffman 117 = .ok (.goto (-81), 3) := by decide +kernel
theorem dX7_huffman_120 : decode cX7_huffman 120 = .ok (.iload_n 1, 1) := by decide +kernel
theorem dX7_huffman_121 : decode cX7_huffman 121 = .ok (.ireturn, 1) := by decide +kernel
theorem dX7_lightest_0 : decode cX7_lightest 0 = .ok (.iconst (-1), 1) := by decide +kernel
theorem dX7_lightest_1 : decode cX7_lightest 1 = .ok (.istore_n 2, 1) := by decide +kernel
theorem dX7_lightest_2 : decode cX7_lightest 2 = .ok (.iconst 0, 1) := by decide +kernel
theorem dX7_lightest_3 : decode cX7_lightest 3 = .ok (.istore_n 3, 1) := by decide +kernel
theorem dX7_lightest_4 : decode cX7_lightest 4 = .ok (.iload_n 3, 1) := by decide +kernel
theorem dX7_lightest_5 : decode cX7_lightest 5 = .ok (.bipush 8, 2) := by decide +kernel
theorem dX7_lightest_7 : decode cX7_lightest 7 = .ok (.if_icmp .ge 45, 3) := by decide +kernel
theorem dX7_lightest_10 : decode cX7_lightest 10 = .ok (.iload_n 3, 1) := by decide +kernel
theorem dX7_lightest_11 : decode cX7_lightest 11 = .ok (.iload_n 1, 1) := by decide +kernel
theorem dX7_lightest_12 : decode cX7_lightest 12 = .ok (.if_icmp .eq 34, 3) := by decide +kernel
theorem dX7_lightest_15 : decode cX7_lightest 15 = .ok (.aload_n 0, 1) := by decide +kernel
theorem dX7_lightest_16 : decode cX7_lightest 16 = .ok (.getfield 31, 3) := by decide +kernel
theorem dX7_lightest_19 : decode cX7_lightest 19 = .ok (.iload_n 3, 1) := by decide +kernel
theorem dX7_lightest_20 : decode cX7_lightest 20 = .ok (.iaload, 1) := by decide +kernel
theorem dX7_lightest_21 : decode cX7_lightest 21 = .ok (.ifCond .le 25, 3) := by decide +kernel
theorem dX7_lightest_24 : decode cX7_lightest 24 = .ok (.iload_n 2, 1) := by decide +kernel
theorem dX7_lightest_25 : decode cX7_lightest 25 = .ok (.iconst (-1), 1) := by decide +kernel
theorem dX7_lightest_26 : decode cX7_lightest 26 = .ok (.if_icmp .eq 18, 3) := by decide +kernel
theorem dX7_lightest_29 : decode cX7_lightest 29 = .ok (.aload_n 0, 1) := by decide +kernel
theorem dX7_lightest_30 : decode cX7_lightest 30 = .ok (.getfield 31, 3) := by decide +kernel
theorem dX7_lightest_33 : decode cX7_lightest 33 = .ok (.iload_n 3, 1) := by decide +kernel
theorem dX7_lightest_34 : decode cX7_lightest 34 = .ok (.iaload, 1) := by decide +kernel
theorem dX7_lightest_35 : decode cX7_lightest 35 = .ok (.aload_n 0, 1) := by decide +kernel
theorem dX7_lightest_36 : decode cX7_lightest 36 = .ok (.getfield 31, 3) := by decide +kernel
theorem dX7_lightest_39 : decode cX7_lightest 39 = .ok (.iload_n 2, 1) := by decide +kernel
theorem dX7_lightest_40 : decode cX7_lightest 40 = .ok (.iaload, 1) := by decide +kernel
theorem dX7_lightest_41 : decode cX7_lightest 41 = .ok (.if_icmp .ge 5, 3) := by decide +kernel
theorem dX7_lightest_44 : decode cX7_lightest 44 = .ok (.iload_n 3, 1) := by decide +kernel
theorem dX7_lightest_45 : decode cX7_lightest 45 = .ok (.istore_n 2, 1) := by decide +kernel
theorem dX7_lightest_46 : decode cX7_lightest 46 = .ok (.iinc 3 1, 3) := by decide +kernel
theorem dX7_lightest_49 : decode cX7_lightest 49 = .ok (.goto (-45), 3) := by decide +kernel
theorem dX7_lightest_52 : decode cX7_lightest 52 = .ok (.iload_n 2, 1) := by decide +kernel
theorem dX7_lightest_53 : decode cX7_lightest 53 = .ok (.ireturn, 1) := by decide +kernel
theorem dX7_findCheapest_0 : decode cX7_findCheapest 0 = .ok (.aload_n 0, 1) := by decide +kernel
theorem dX7_findCheapest_1 : decode cX7_findCheapest 1 = .ok (.iconst (-1), 1) := by decide +kernel
theorem dX7_findCheapest_2 : decode cX7_findCheapest 2 = .ok (.putfield 35, 3) := by decide +kernel
theorem dX7_findCheapest_5 : decode cX7_findCheapest 5 = .ok (.aload_n 0, 1) := by decide +kernel
theorem dX7_findCheapest_6 : decode cX7_findCheapest 6 = .ok (.iconst (-1), 1) := by decide +kernel
theorem dX7_findCheapest_7 : decode cX7_findCheapest 7 = .ok (.putfield 39, 3) := by decide +kernel
theorem dX7_findCheapest_10 : decode cX7_findCheapest 10 = .ok (.aload_n 0, 1) := by decide +kernel
theorem dX7_findCheapest_11 : decode cX7_findCheapest 11 = .ok (.iconst (-1), 1) := by decide +kernel
theorem dX7_findCheapest_12 : decode cX7_findCheapest 12 = .ok (.putfield 42, 3) := by decide +kernel
theorem dX7_findCheapest_15 : decode cX7_findCheapest 15 = .ok (.iconst 0, 1) := by decide +kernel
theorem dX7_findCheapest_16 : decode cX7_findCheapest 16 = .ok (.istore_n 1, 1) := by decide +kernel
theorem dX7_findCheapest_17 : decode cX7_findCheapest 17 = .ok (.iload_n 1, 1) := by decide +kernel
theorem dX7_findCheapest_18 : decode cX7_findCheapest 18 = .ok (.bipush 8, 2) := by decide +kernel
theorem dX7_findCheapest_20 : decode cX7_findCheapest 20 = .ok (.if_icmp .ge 74, 3) := by decide +kernel
theorem dX7_findCheapest_23 : decode cX7_findCheapest 23 = .ok (.iload_n 1, 1) := by decide +kernel
theorem dX7_findCheapest_24 : decode cX7_findCheapest 24 = .ok (.iconst 1, 1) := by decide +kernel
theorem dX7_findCheapest_25 : decode cX7_findCheapest 25 = .ok (.iadd, 1) := by decide +kernel
theorem dX7_findCheapest_26 : decode cX7_findCheapest 26 = .ok (.istore_n 2, 1) := by decide +kernel
theorem dX7_findCheapest_27 : decode cX7_findCheapest 27 = .ok (.iload_n 2, 1) := by decide +kernel
theorem dX7_findCheapest_28 : decode cX7_findCheapest 28 = .ok (.bipush 8, 2) := by decide +kernel
theorem dX7_findCheapest_30 : decode cX7_findCheapest 30 = .ok (.if_icmp .ge 58, 3) := by decide +kernel
theorem dX7_findCheapest_33 : decode cX7_findCheapest 33 = .ok (.aload_n 0, 1) := by decide +kernel
theorem dX7_findCheapest_34 : decode cX7_findCheapest 34 = .ok (.getfield 11, 3) := by decide +kernel
theorem dX7_findCheapest_37 : decode cX7_findCheapest 37 = .ok (.iload_n 1, 1) := by decide +kernel
theorem dX7_findCheapest_38 : decode cX7_findCheapest 38 = .ok (.aaload, 1) := by decide +kernel
theorem dX7_findCheapest_39 : decode cX7_findCheapest 39 = .ok (.getfield 65, 3) := by decide +kernel
theorem dX7_findCheapest_42 : decode cX7_findCheapest 42 = .ok (.ifCond .le 40, 3) := by decide +kernel
theorem dX7_findCheapest_45 : decode cX7_findCheapest 45 = .ok (.aload_n 0, 1) := by decide +kernel
theorem dX7_findCheapest_46 : decode cX7_findCheapest 46 = .ok (.getfield 11, 3) := by decide +kernel
theorem dX7_findCheapest_49 : decode cX7_findCheapest 49 = .ok (.iload_n 2, 1) := by decide +kernel
theorem dX7_findCheapest_50 : decode cX7_findCheapest 50 = .ok (.aaload, 1) := by decide +kernel
theorem dX7_findCheapest_51 : decode cX7_findCheapest 51 = .ok (.getfield 65, 3) := by decide +kernel
theorem dX7_findCheapest_54 : decode cX7_findCheapest 54 = .ok (.ifCond .le 28, 3) := by decide +kernel
theorem dX7_findCheapest_57 : decode cX7_findCheapest 57 = .ok (.aload_n 0, 1) := by decide +kernel
theorem dX7_findCheapest_58 : decode cX7_findCheapest 58 = .ok (.getfield 27, 3) := by decide +kernel
theorem dX7_findCheapest_61 : decode cX7_findCheapest 61 = .ok (.aload_n 0, 1) := by decide +kernel
theorem dX7_findCheapest_62 : decode cX7_findCheapest 62 = .ok (.getfield 11, 3) := by decide +kernel
theorem dX7_findCheapest_65 : decode cX7_findCheapest 65 = .ok (.iload_n 1, 1) := by decide +kernel
theorem dX7_findCheapest_66 : decode cX7_findCheapest 66 = .ok (.aaload, 1) := by decide +kernel
theorem dX7_findCheapest_67 : decode cX7_findCheapest 67 = .ok (.aload_n 0, 1) := by decide +kernel
theorem dX7_findCheapest_68 : decode cX7_findCheapest 68 = .ok (.getfield 11, 3) := by decide +kernel
theorem dX7_findCheapest_71 : decode cX7_findCheapest 71 = .ok (.iload_n 2, 1) := by decide +kernel
theorem dX7_findCheapest_72 : decode cX7_findCheapest 72 = .ok (.aaload, 1) := by decide +kernel
theorem dX7_findCheapest_73 : decode cX7_findCheapest 73 = .ok (.invokevirtual 62, 3) := by decide +kernel
theorem dX7_findCheapest_76 : decode cX7_findCheapest 76 = .ok (.aload_n 0, 1) := by decide +kernel
theorem dX7_findCheapest_77 : decode cX7_findCheapest 77 = .ok (.iload_n 1, 1) := by decide +kernel
theorem dX7_findCheapest_78 : decode cX7_findCheapest 78 = .ok (.iload_n 2, 1) := by decide +kernel
theorem dX7_findCheapest_79 : decode cX7_findCheapest 79 = .ok (.invokevirtual 167, 3) := by decide +kernel
theorem dX7_findCheapest_82 : decode cX7_findCheapest 82 = .ok (.iinc 2 1, 3) := by decide +kernel
theorem dX7_findCheapest_85 : decode cX7_findCheapest 85 = .ok (.goto (-58), 3) := by decide +kernel
theorem dX7_findCheapest_88 : decode cX7_findCheapest 88 = .ok (.iinc 1 1, 3) := by decide +kernel
theorem dX7_findCheapest_91 : decode cX7_findCheapest 91 = .ok (.goto (-74), 3) := by decide +kernel
theorem dX7_findCheapest_94 : decode cX7_findCheapest 94 = .ok (.return_, 1) := by decide +kernel
theorem dX7_takeIfCheaper_0 : decode cX7_takeIfCheaper 0 = .ok (.aload_n 0, 1) := by decide +kernel
theorem dX7_takeIfCheaper_1 : decode cX7_takeIfCheaper 1 = .ok (.getfield 42, 3) := by decide +kernel
theorem dX7_takeIfCheaper_4 : decode cX7_takeIfCheaper 4 = .ok (.iconst (-1), 1) := by decide +kernel
theorem dX7_takeIfCheaper_5 : decode cX7_takeIfCheaper 5 = .ok (.if_icmp .eq 17, 3) := by decide +kernel
theorem dX7_takeIfCheaper_8 : decode cX7_takeIfCheaper 8 = .ok (.aload_n 0, 1) := by decide +kernel
theorem dX7_takeIfCheaper_9 : decode cX7_takeIfCheaper 9 = .ok (.getfield 27, 3) := by decide +kernel
theorem dX7_takeIfCheaper_12 : decode cX7_takeIfCheaper 12 = .ok (.getfield 116, 3) := by decide +kernel
theorem dX7_takeIfCheaper_15 : decode cX7_takeIfCheaper 15 = .ok (.aload_n 0, 1) := by decide +kernel
theorem dX7_takeIfCheaper_16 : decode cX7_takeIfCheaper 16 = .ok (.getfield 42, 3) := by decide +kernel
theorem dX7_takeIfCheaper_19 : decode cX7_takeIfCheaper 19 = .ok (.if_icmp .ge 7, 3) := by decide +kernel
theorem dX7_takeIfCheaper_22 : decode cX7_takeIfCheaper 22 = .ok (.iconst 1, 1) := by decide +kernel
theorem dX7_takeIfCheaper_23 : decode cX7_takeIfCheaper 23 = .ok (.goto 4, 3) := by decide +kernel
theorem dX7_takeIfCheaper_26 : decode cX7_takeIfCheaper 26 = .ok (.iconst 0, 1) := by decide +kernel
theorem dX7_takeIfCheaper_27 : decode cX7_takeIfCheaper 27 = .ok (.istore_n 3, 1) := by decide +kernel
theorem dX7_takeIfCheaper_28 : decode cX7_takeIfCheaper 28 = .ok (.iload_n 3, 1) := by decide +kernel
theorem dX7_takeIfCheaper_29 : decode cX7_takeIfCheaper 29 = .ok (.ifCond .eq 41, 3) := by decide +kernel
theorem dX7_takeIfCheaper_32 : decode cX7_takeIfCheaper 32 = .ok (.aload_n 0, 1) := by decide +kernel
theorem dX7_takeIfCheaper_33 : decode cX7_takeIfCheaper 33 = .ok (.aload_n 0, 1) := by decide +kernel
theorem dX7_takeIfCheaper_34 : decode cX7_takeIfCheaper 34 = .ok (.getfield 11, 3) := by decide +kernel
theorem dX7_takeIfCheaper_37 : decode cX7_takeIfCheaper 37 = .ok (.iload_n 2, 1) := by decide +kernel
theorem dX7_takeIfCheaper_38 : decode cX7_takeIfCheaper 38 = .ok (.aaload, 1) := by decide +kernel
theorem dX7_takeIfCheaper_39 : decode cX7_takeIfCheaper 39 = .ok (.aload_n 0, 1) := by decide +kernel
theorem dX7_takeIfCheaper_40 : decode cX7_takeIfCheaper 40 = .ok (.getfield 27, 3) := by decide +kernel
theorem dX7_takeIfCheaper_43 : decode cX7_takeIfCheaper 43 = .ok (.invokevirtual 105, 3) := by decide +kernel
theorem dX7_takeIfCheaper_46 : decode cX7_takeIfCheaper 46 = .ok (.ifCond .ne 24, 3) := by decide +kernel
theorem dX7_takeIfCheaper_49 : decode cX7_takeIfCheaper 49 = .ok (.aload_n 0, 1) := by decide +kernel
theorem dX7_takeIfCheaper_50 : decode cX7_takeIfCheaper 50 = .ok (.iload_n 1, 1) := by decide +kernel
theorem dX7_takeIfCheaper_51 : decode cX7_takeIfCheaper 51 = .ok (.putfield 35, 3) := by decide +kernel
theorem dX7_takeIfCheaper_54 : decode cX7_takeIfCheaper 54 = .ok (.aload_n 0, 1) := by decide +kernel
theorem dX7_takeIfCheaper_55 : decode cX7_takeIfCheaper 55 = .ok (.iload_n 2, 1) := by decide +kernel
theorem dX7_takeIfCheaper_56 : decode cX7_takeIfCheaper 56 = .ok (.putfield 39, 3) := by decide +kernel
theorem dX7_takeIfCheaper_59 : decode cX7_takeIfCheaper 59 = .ok (.aload_n 0, 1) := by decide +kernel
theorem dX7_takeIfCheaper_60 : decode cX7_takeIfCheaper 60 = .ok (.aload_n 0, 1) := by decide +kernel
theorem dX7_takeIfCheaper_61 : decode cX7_takeIfCheaper 61 = .ok (.getfield 27, 3) := by decide +kernel
theorem dX7_takeIfCheaper_64 : decode cX7_takeIfCheaper 64 = .ok (.getfield 116, 3) := by decide +kernel
theorem dX7_takeIfCheaper_67 : decode cX7_takeIfCheaper 67 = .ok (.putfield 42, 3) := by decide +kernel
theorem dX7_takeIfCheaper_70 : decode cX7_takeIfCheaper 70 = .ok (.return_, 1) := by decide +kernel
theorem dX8_init_0 : decode cX8_init 0 = .ok (.aload_n 0, 1) := by decide +kernel
theorem dX8_init_1 : decode cX8_init 1 = .ok (.invokespecial 3, 3) := by decide +kernel
theorem dX8_init_4 : decode cX8_init 4 = .ok (.aload_n 0, 1) := by decide +kernel
theorem dX8_init_5 : decode cX8_init 5 = .ok (.bipush 61, 2) := by decide +kernel
theorem dX8_init_7 : decode cX8_init 7 = .ok (.newarray .int, 2) := by decide +kernel
theorem dX8_init_9 : decode cX8_init 9 = .ok (.putfield 11, 3) := by decide +kernel
theorem dX8_init_12 : decode cX8_init 12 = .ok (.aload_n 0, 1) := by decide +kernel
theorem dX8_init_13 : decode cX8_init 13 = .ok (.bipush 61, 2) := by decide +kernel
theorem dX8_init_15 : decode cX8_init 15 = .ok (.newarray .int, 2) := by decide +kernel
theorem dX8_init_17 : decode cX8_init 17 = .ok (.putfield 15, 3) := by decide +kernel
theorem dX8_init_20 : decode cX8_init 20 = .ok (.aload_n 0, 1) := by decide +kernel
theorem dX8_init_21 : decode cX8_init 21 = .ok (.bipush 61, 2) := by decide +kernel
theorem dX8_init_23 : decode cX8_init 23 = .ok (.newarray .int, 2) := by decide +kernel
theorem dX8_init_25 : decode cX8_init 25 = .ok (.putfield 18, 3) := by decide +kernel
theorem dX8_init_28 : decode cX8_init 28 = .ok (.aload_n 0, 1) := by decide +kernel
theorem dX8_init_29 : decode cX8_init 29 = .ok (.bipush 61, 2) := by decide +kernel
theorem dX8_init_31 : decode cX8_init 31 = .ok (.newarray .int, 2) := by decide +kernel
theorem dX8_init_33 : decode cX8_init 33 = .ok (.putfield 21, 3) := by decide +kernel
theorem dX8_init_36 : decode cX8_init 36 = .ok (.aload_n 0, 1) := by decide +kernel
theorem dX8_init_37 : decode cX8_init 37 = .ok (.bipush 61, 2) := by decide +kernel
theorem dX8_init_39 : decode cX8_init 39 = .ok (.newarray .int, 2) := by decide +kernel
theorem dX8_init_41 : decode cX8_init 41 = .ok (.putfield 24, 3) := by decide +kernel
theorem dX8_init_44 : decode cX8_init 44 = .ok (.aload_n 0, 1) := by decide +kernel
theorem dX8_init_45 : decode cX8_init 45 = .ok (.bipush 61, 2) := by decide +kernel
theorem dX8_init_47 : decode cX8_init 47 = .ok (.newarray .int, 2) := by decide +kernel
theorem dX8_init_49 : decode cX8_init 49 = .ok (.putfield 27, 3) := by decide +kernel
theorem dX8_init_52 : decode cX8_init 52 = .ok (.aload_n 0, 1) := by decide +kernel
theorem dX8_init_53 : decode cX8_init 53 = .ok (.bipush 61, 2) := by decide +kernel
theorem dX8_init_55 : decode cX8_init 55 = .ok (.newarray .int, 2) := by decide +kernel
theorem dX8_init_57 : decode cX8_init 57 = .ok (.putfield 30, 3) := by decide +kernel
theorem dX8_init_60 : decode cX8_init 60 = .ok (.aload_n 0, 1) := by decide +kernel
theorem dX8_init_61 : decode cX8_init 61 = .ok (.iconst 0, 1) := by decide +kernel
theorem dX8_init_62 : decode cX8_init 62 = .ok (.putfield 33, 3) := by decide +kernel
theorem dX8_init_65 : decode cX8_init 65 = .ok (.aload_n 0, 1) := by decide +kernel
theorem dX8_init_66 : decode cX8_init 66 = .ok (.iconst (-1), 1) := by decide +kernel
theorem dX8_init_67 : decode cX8_init 67 = .ok (.putfield 37, 3) := by decide +kernel
theorem dX8_init_70 : decode cX8_init 70 = .ok (.return_, 1) := by decide +kernel
theorem dX8_grow_0 : decode cX8_grow 0 = .ok (.aload_n 0, 1) := by decide +kernel
theorem dX8_grow_1 : decode cX8_grow 1 = .ok (.iconst 0, 1) := by decide +kernel
theorem dX8_grow_2 : decode cX8_grow 2 = .ok (.putfield 33, 3) := by decide +kernel
theorem dX8_grow_5 : decode cX8_grow 5 = .ok (.iload_n 2, 1) := by decide +kernel
theorem dX8_grow_6 : decode cX8_grow 6 = .ok (.iconst (-1), 1) := by decide +kernel
theorem dX8_grow_7 : decode cX8_grow 7 = .ok (.if_icmp .eq 7, 3) := by decide +kernel
theorem dX8_grow_10 : decode cX8_grow 10 = .ok (.iconst 1, 1) := by decide +kernel
theorem dX8_grow_11 : decode cX8_grow 11 = .ok (.goto 4, 3) := by decide +kernel
theorem dX8_grow_14 : decode cX8_grow 14 = .ok (.iconst 0, 1) := by decide +kernel
theorem dX8_grow_15 : decode cX8_grow 15 = .ok (.istore 4, 2) := by decide +kernel
theorem dX8_grow_17 : decode cX8_grow 17 = .ok (.iconst 0, 1) := by decide +kernel
theorem dX8_grow_18 : decode cX8_grow 18 = .ok (.istore 5, 2) := by decide +kernel
theorem dX8_grow_20 : decode cX8_grow 20 = .ok (.iload 5, 2) := by decide +kernel
theorem dX8_grow_22 : decode cX8_grow 22 = .ok (.aload_n 1, 1) := by decide +kernel
theorem dX8_grow_23 : decode cX8_grow 23 = .ok (.getfield 40, 3) := by decide +kernel
theorem dX8_grow_26 : decode cX8_grow 26 = .ok (.if_icmp .ge 48, 3) := by decide +kernel
theorem dX8_grow_29 : decode cX8_grow 29 = .ok (.aload_n 1, 1) := by decide +kernel
theorem dX8_grow_30 : decode cX8_grow 30 = .ok (.iload 5, 2) := by decide +kernel
theorem dX8_grow_32 : decode cX8_grow 32 = .ok (.invokevirtual 43, 3) := by decide +kernel
theorem dX8_grow_35 : decode cX8_grow 35 = .ok (.istore 6, 2) := by decide +kernel
theorem dX8_grow_37 : decode cX8_grow 37 = .ok (.iload 4, 2) := by decide +kernel
theorem dX8_grow_39 : decode cX8_grow 39 = .ok (.ifCond .eq 17, 3) := by decide +kernel
theorem dX8_grow_42 : decode cX8_grow 42 = .ok (.iload_n 2, 1) := by decide +kernel
theorem dX8_grow_43 : decode cX8_grow 43 = .ok (.iload 6, 2) := by decide +kernel
theorem dX8_grow_45 : decode cX8_grow 45 = .ok (.if_icmp .ge 11, 3) := by decide +kernel
theorem dX8_grow_48 : decode cX8_grow 48 = .ok (.aload_n 0, 1) := by decide +kernel
theorem dX8_grow_49 : decode cX8_grow 49 = .ok (.iload_n 2, 1) := by decide +kernel
theorem dX8_grow_50 : decode cX8_grow 50 = .ok (.invokevirtual 47, 3) := by decide +kernel
theorem dX8_grow_53 : decode cX8_grow 53 = .ok (.iconst 0, 1) := by decide +kernel
theorem dX8_grow_54 : decode cX8_grow 54 = .ok (.istore 4, 2) := by decide +kernel
theorem dX8_grow_56 : decode cX8_grow 56 = .ok (.iload 6, 2) := by decide +kernel
theorem dX8_grow_58 : decode cX8_grow 58 = .ok (.iload_n 3, 1) := by decide +kernel
theorem dX8_grow_59 : decode cX8_grow 59 = .ok (.if_icmp .eq 9, 3) := by decide +kernel
theorem dX8_grow_62 : decode cX8_grow 62 = .ok (.aload_n 0, 1) := by decide +kernel
theorem dX8_grow_63 : decode cX8_grow 63 = .ok (.iload 6, 2) := by decide +kernel
theorem dX8_grow_65 : decode cX8_grow 65 = .ok (.invokevirtual 47, 3) := by decide +kernel
theorem dX8_grow_68 : decode cX8_grow 68 = .ok (.iinc 5 1, 3) := by decide +kernel
theorem dX8_grow_71 : decode cX8_grow 71 = .ok (.goto (-51), 3) := by decide +kernel
theorem dX8_grow_74 : decode cX8_grow 74 = .ok (.iload 4, 2) := by decide +kernel
theorem dX8_grow_76 : decode cX8_grow 76 = .ok (.ifCond .eq 8, 3) := by decide +kernel
theorem dX8_grow_79 : decode cX8_grow 79 = .ok (.aload_n 0, 1) := by decide +kernel
theorem dX8_grow_80 : decode cX8_grow 80 = .ok (.iload_n 2, 1) := by decide +kernel
theorem dX8_grow_81 : decode cX8_grow 81 = .ok (.invokevirtual 47, 3) := by decide +kernel
theorem dX8_grow_84 : decode cX8_grow 84 = .ok (.aload_n 0, 1) := by decide +kernel
theorem dX8_grow_85 : decode cX8_grow 85 = .ok (.invokevirtual 51, 3) := by decide +kernel
theorem dX8_grow_88 : decode cX8_grow 88 = .ok (.aload_n 0, 1) := by decide +kernel
theorem dX8_grow_89 : decode cX8_grow 89 = .ok (.invokevirtual 54, 3) := by decide +kernel
theorem dX8_grow_92 : decode cX8_grow 92 = .ok (.return_, 1) := by decide +kernel
theorem dX8_addKey_0 : decode cX8_addKey 0 = .ok (.aload_n 0, 1) := by decide +kernel
theorem dX8_addKey_1 : decode cX8_addKey 1 = .ok (.getfield 33, 3) := by decide +kernel
theorem dX8_addKey_4 : decode cX8_addKey 4 = .ok (.ifCond .lt 32, 3) := by decide +kernel
theorem dX8_addKey_7 : decode cX8_addKey 7 = .ok (.aload_n 0, 1) := by decide +kernel
theorem dX8_addKey_8 : decode cX8_addKey 8 = .ok (.getfield 33, 3) := by decide +kernel
theorem dX8_addKey_11 : decode cX8_addKey 11 = .ok (.bipush 61, 2) := by decide +kernel
theorem dX8_addKey_13 : decode cX8_addKey 13 = .ok (.if_icmp .ge 23, 3) := by decide +kernel
theorem dX8_addKey_16 : decode cX8_addKey 16 = .ok (.aload_n 0, 1) := by decide +kernel
theorem dX8_addKey_17 : decode cX8_addKey 17 = .ok (.getfield 11, 3) := by decide +kernel
theorem dX8_addKey_20 : decode cX8_addKey 20 = .ok (.aload_n 0, 1) := by decide +kernel
theorem dX8_addKey_21 : decode cX8_addKey 21 = .ok (.getfield 33, 3) := by decide +kernel
theorem dX8_addKey_24 : decode cX8_addKey 24 = .ok (.iload_n 1, 1) := by decide +kernel
theorem dX8_addKey_25 : decode cX8_addKey 25 = .ok (.iastore, 1) := by decide +kernel
theorem dX8_addKey_26 : decode cX8_addKey 26 = .ok (.aload_n 0, 1) := by decide +kernel
theorem dX8_addKey_27 : decode cX8_addKey 27 = .ok (.dup, 1) := by decide +kernel
theorem dX8_addKey_28 : decode cX8_addKey 28 = .ok (.getfield 33, 3) := by decide +kernel
theorem dX8_addKey_31 : decode cX8_addKey 31 = .ok (.iconst 1, 1) := by decide +kernel
theorem dX8_addKey_32 : decode cX8_addKey 32 = .ok (.iadd, 1) := by decide +kernel
theorem dX8_addKey_33 : decode cX8_addKey 33 = .ok (.putfield 33, 3) := by decide +kernel
theorem dX8_addKey_36 : decode cX8_addKey 36 = .ok (.return_, 1) := by decide +kernel
theorem dX8_link_0 : decode cX8_link 0 = .ok (.iconst 0, 1) := by decide +kernel
theorem dX8_link_1 : decode cX8_link 1 = .ok (.istore_n 1, 1) := by decide +kernel
theorem dX8_link_2 : decode cX8_link 2 = .ok (.iconst 0, 1) := by decide +kernel
theorem dX8_link_3 : decode cX8_link 3 = .ok (.istore_n 2, 1) := by decide +kernel
theorem dX8_link_4 : decode cX8_link 4 = .ok (.iload_n 2, 1) := by decide +kernel
theorem dX8_link_5 : decode cX8_link 5 = .ok (.aload_n 0, 1) := by decide +kernel
theorem dX8_link_6 : decode cX8_link 6 = .ok (.getfield 33, 3) := by decide +kernel
theorem dX8_link_9 : decode cX8_link 9 = .ok (.if_icmp .ge 132, 3) := by decide +kernel
theorem dX8_link_12 : decode cX8_link 12 = .ok (.iconst (-1), 1) := by decide +kernel
theorem dX8_link_13 : decode cX8_link 13 = .ok (.istore_n 3, 1) := by decide +kernel
theorem dX8_link_14 : decode cX8_link 14 = .ok (.iload_n 1, 1) := by decide +kernel
theorem dX8_link_15 : decode cX8_link 15 = .ok (.ifCond .le 44, 3) := by decide +kernel
theorem dX8_link_18 : decode cX8_link 18 = .ok (.aload_n 0, 1) := by decide +kernel
theorem dX8_link_19 : decode cX8_link 19 = .ok (.getfield 11, 3) := by decide +kernel
theorem dX8_link_22 : decode cX8_link 22 = .ok (.aload_n 0, 1) := by decide +kernel
theorem dX8_link_23 : decode cX8_link 23 = .ok (.getfield 30, 3) := by decide +kernel
theorem dX8_link_26 : decode cX8_link 26 = .ok (.iload_n 1, 1) := by decide +kernel
theorem dX8_link_27 : decode cX8_link 27 = .ok (.iconst 1, 1) := by decide +kernel
theorem dX8_link_28 : decode cX8_link 28 = .ok (.isub, 1) := by decide +kernel
theorem dX8_link_29 : decode cX8_link 29 = .ok (.iaload, 1) := by decide +kernel
theorem dX8_link_30 : decode cX8_link 30 = .ok (.iaload, 1) := by decide +kernel
theorem dX8_link_31 : decode cX8_link 31 = .ok (.invokestatic 57, 3) := by decide +kernel
theorem dX8_link_34 : decode cX8_link 34 = .ok (.aload_n 0, 1) := by decide +kernel
theorem dX8_link_35 : decode cX8_link 35 = .ok (.getfield 11, 3) := by decide +kernel
theorem dX8_link_38 : decode cX8_link 38 = .ok (.iload_n 2, 1) := by decide +kernel
theorem dX8_link_39 : decode cX8_link 39 = .ok (.iaload, 1) := by decide +kernel
theorem dX8_link_40 : decode cX8_link 40 = .ok (.invokestatic 57, 3) := by decide +kernel
theorem dX8_link_43 : decode cX8_link 43 = .ok (.if_icmp .ge 16, 3) := by decide +kernel
theorem dX8_link_46 : decode cX8_link 46 = .ok (.iinc 1 (-1), 3) := by decide +kernel
theorem dX8_link_49 : decode cX8_link 49 = .ok (.aload_n 0, 1) := by decide +kernel
theorem dX8_link_50 : decode cX8_link 50 = .ok (.getfield 30, 3) := by decide +kernel
theorem dX8_link_53 : decode cX8_link 53 = .ok (.iload_n 1, 1) := by decide +kernel
theorem dX8_link_54 : decode cX8_link 54 = .ok (.iaload, 1) := by decide +kernel
theorem dX8_link_55 : decode cX8_link 55 = .ok (.istore_n 3, 1) := by decide +kernel
theorem dX8_link_56 : decode cX8_link 56 = .ok (.goto (-42), 3) := by decide +kernel
theorem dX8_link_59 : decode cX8_link 59 = .ok (.aload_n 0, 1) := by decide +kernel
theorem dX8_link_60 : decode cX8_link 60 = .ok (.getfield 18, 3) := by decide +kernel
theorem dX8_link_63 : decode cX8_link 63 = .ok (.iload_n 2, 1) := by decide +kernel
theorem dX8_link_64 : decode cX8_link 64 = .ok (.iload_n 3, 1) := by decide +kernel
theorem dX8_link_65 : decode cX8_link 65 = .ok (.iastore, 1) := by decide +kernel
theorem dX8_link_66 : decode cX8_link 66 = .ok (.aload_n 0, 1) := by decide +kernel
theorem dX8_link_67 : decode cX8_link 67 = .ok (.getfield 21, 3) := by decide +kernel
theorem dX8_link_70 : decode cX8_link 70 = .ok (.iload_n 2, 1) := by decide +kernel
theorem dX8_link_71 : decode cX8_link 71 = .ok (.iconst (-1), 1) := by decide +kernel
theorem dX8_link_72 : decode cX8_link 72 = .ok (.iastore, 1) := by decide +kernel
theorem dX8_link_73 : decode cX8_link 73 = .ok (.aload_n 0, 1) := by decide +kernel
theorem dX8_link_74 : decode cX8_link 74 = .ok (.getfield 15, 3) := by decide +kernel
theorem dX8_link_77 : decode cX8_link 77 = .ok (.iload_n 2, 1) := by decide +kernel
theorem dX8_link_78 : decode cX8_link 78 = .ok (.iload_n 1, 1) := by decide +kernel
theorem dX8_link_79 : decode cX8_link 79 = .ok (.ifCond .le 14, 3) := by decide +kernel
theorem dX8_link_82 : decode cX8_link 82 = .ok (.aload_n 0, 1) := by decide +kernel
theorem dX8_link_83 : decode cX8_link 83 = .ok (.getfield 30, 3) := by decide +kernel
theorem dX8_link_86 : decode cX8_link 86 = .ok (.iload_n 1, 1) := by decide +kernel
theorem dX8_link_87 : decode cX8_link 87 = .ok (.iconst 1, 1) := by decide +kernel
theorem dX8_link_88 : decode cX8_link 88 = .ok (.isub, 1) := by decide +kernel
theorem dX8_link_89 : decode cX8_link 89 = .ok (.iaload, 1) := by decide +kernel
theorem dX8_link_90 : decode cX8_link 90 = .ok (.goto 4, 3) := by decide +kernel
theorem dX8_link_93 : decode cX8_link 93 = .ok (.iconst (-1), 1) := by decide +kernel
theorem dX8_link_94 : decode cX8_link 94 = .ok (.iastore, 1) := by decide +kernel
theorem dX8_link_95 : decode cX8_link 95 = .ok (.iload_n 3, 1) := by decide +kernel
theorem dX8_link_96 : decode cX8_link 96 = .ok (.iconst (-1), 1) := by decide +kernel
theorem dX8_link_97 : decode cX8_link 97 = .ok (.if_icmp .eq 10, 3) := by decide +kernel
theorem dX8_link_100 : decode cX8_link 100 = .ok (.aload_n 0, 1) := by decide +kernel
theorem dX8_link_101 : decode cX8_link 101 = .ok (.getfield 15, 3) := by decide +kernel
theorem dX8_link_104 : decode cX8_link 104 = .ok (.iload_n 3, 1) := by decide +kernel
theorem dX8_link_105 : decode cX8_link 105 = .ok (.iload_n 2, 1) := by decide +kernel
theorem dX8_link_106 : decode cX8_link 106 = .ok (.iastore, 1) := by decide +kernel
theorem dX8_link_107 : decode cX8_link 107 = .ok (.iload_n 1, 1) := by decide +kernel
theorem dX8_link_108 : decode cX8_link 108 = .ok (.ifCond .le 17, 3) := by decide +kernel
theorem dX8_link_111 : decode cX8_link 111 = .ok (.aload_n 0, 1) := by decide +kernel
theorem dX8_link_112 : decode cX8_link 112 = .ok (.getfield 21, 3) := by decide +kernel
theorem dX8_link_115 : decode cX8_link 115 = .ok (.aload_n 0, 1) := by decide +kernel
theorem dX8_link_116 : decode cX8_link 116 = .ok (.getfield 30, 3) := by decide +kernel
theorem dX8_link_119 : decode cX8_link 119 = .ok (.iload_n 1, 1) := by decide +kernel
theorem dX8_link_120 : decode cX8_link 120 = .ok (.iconst 1, 1) := by decide +kernel
theorem dX8_link_121 : decode cX8_link 121 = .ok (.isub, 1) := by decide +kernel
theorem dX8_link_122 : decode cX8_link 122 = .ok (.iaload, 1) := by decide +kernel
theorem dX8_link_123 : decode cX8_link 123 = .ok (.iload_n 2, 1) := by decide +kernel
theorem dX8_link_124 : decode cX8_link 124 = .ok (.iastore, 1) := by decide +kernel
theorem dX8_link_125 : decode cX8_link 125 = .ok (.aload_n 0, 1) := by decide +kernel
theorem dX8_link_126 : decode cX8_link 126 = .ok (.getfield 30, 3) := by decide +kernel
theorem dX8_link_129 : decode cX8_link 129 = .ok (.iload_n 1, 1) := by decide +kernel
theorem dX8_link_130 : decode cX8_link 130 = .ok (.iload_n 2, 1) := by decide +kernel
theorem dX8_link_131 : decode cX8_link 131 = .ok (.iastore, 1) := by decide +kernel
theorem dX8_link_132 : decode cX8_link 132 = .ok (.iinc 1 1, 3) := by decide +kernel
theorem dX8_link_135 : decode cX8_link 135 = .ok (.iinc 2 1, 3) := by decide +kernel
theorem dX8_link_138 : decode cX8_link 138 = .ok (.goto (-134), 3) := by decide +kernel
theorem dX8_link_141 : decode cX8_link 141 = .ok (.aload_n 0, 1) := by decide +kernel
theorem dX8_link_142 : decode cX8_link 142 = .ok (.aload_n 0, 1) := by decide +kernel
theorem dX8_link_143 : decode cX8_link 143 = .ok (.getfield 33, 3) := by decide +kernel
theorem dX8_link_146 : decode cX8_link 146 = .ok (.ifCond .le 12, 3) := by decide +kernel
theorem dX8_link_149 : decode cX8_link 149 = .ok (.aload_n 0, 1) := by decide +kernel
theorem dX8_link_150 : decode cX8_link 150 = .ok (.getfield 30, 3) := by decide +kernel
theorem dX8_link_153 : decode cX8_link 153 = .ok (.iconst 0, 1) := by decide +kernel
theorem dX8_link_154 : decode cX8_link 154 = .ok (.iaload, 1) := by decide +kernel
theorem dX8_link_155 : decode cX8_link 155 = .ok (.goto 4, 3) := by decide +kernel
theorem dX8_link_158 : decode cX8_link 158 = .ok (.iconst (-1), 1) := by decide +kernel
theorem dX8_link_159 : decode cX8_link 159 = .ok (.putfield 37, 3) := by decide +kernel
theorem dX8_link_162 : decode cX8_link 162 = .ok (.return_, 1) := by decide +kernel
theorem dX8_climb_0 : decode cX8_climb 0 = .ok (.iconst 0, 1) := by decide +kernel
theorem dX8_climb_1 : decode cX8_climb 1 = .ok (.istore_n 1, 1) := by decide +kernel
theorem dX8_climb_2 : decode cX8_climb 2 = .ok (.iload_n 1, 1) := by decide +kernel
theorem dX8_climb_3 : decode cX8_climb 3 = .ok (.aload_n 0, 1) := by decide +kernel
theorem dX8_climb_4 : decode cX8_climb 4 = .ok (.getfield 33, 3) := by decide +kernel
theorem dX8_climb_7 : decode cX8_climb 7 = .ok (.if_icmp .ge 23, 3) := by decide +kernel
theorem dX8_climb_10 : decode cX8_climb 10 = .ok (.aload_n 0, 1) := by decide +kernel
theorem dX8_climb_11 : decode cX8_climb 11 = .ok (.getfield 24, 3) := by decide +kernel
theorem dX8_climb_14 : decode cX8_climb 14 = .ok (.iload_n 1, 1) := by decide +kernel
theorem dX8_climb_15 : decode cX8_climb 15 = .ok (.iconst 0, 1) := by decide +kernel
theorem dX8_climb_16 : decode cX8_climb 16 = .ok (.iastore, 1) := by decide +kernel
theorem dX8_climb_17 : decode cX8_climb 17 = .ok (.aload_n 0, 1) := by decide +kernel
theorem dX8_climb_18 : decode cX8_climb 18 = .ok (.getfield 27, 3) := by decide +kernel
theorem dX8_climb_21 : decode cX8_climb 21 = .ok (.iload_n 1, 1) := by decide +kernel
theorem dX8_climb_22 : decode cX8_climb 22 = .ok (.iconst 0, 1) := by decide +kernel
theorem dX8_climb_23 : decode cX8_climb 23 = .ok (.iastore, 1) := by decide +kernel
theorem dX8_climb_24 : decode cX8_climb 24 = .ok (.iinc 1 1, 3) := by decide +kernel
theorem dX8_climb_27 : decode cX8_climb 27 = .ok (.goto (-25), 3) := by decide +kernel
theorem dX8_climb_30 : decode cX8_climb 30 = .ok (.iconst 0, 1) := by decide +kernel
theorem dX8_climb_31 : decode cX8_climb 31 = .ok (.istore_n 1, 1) := by decide +kernel
theorem dX8_climb_32 : decode cX8_climb 32 = .ok (.iload_n 1, 1) := by decide +kernel
theorem dX8_climb_33 : decode cX8_climb 33 = .ok (.aload_n 0, 1) := by decide +kernel
theorem dX8_climb_34 : decode cX8_climb 34 = .ok (.getfield 33, 3) := by decide +kernel
theorem dX8_climb_37 : decode cX8_climb 37 = .ok (.if_icmp .ge 64, 3) := by decide +kernel
theorem dX8_climb_40 : decode cX8_climb 40 = .ok (.aload_n 0, 1) := by decide +kernel
theorem dX8_climb_41 : decode cX8_climb 41 = .ok (.getfield 15, 3) := by decide +kernel
theorem dX8_climb_44 : decode cX8_climb 44 = .ok (.iload_n 1, 1) := by decide +kernel
theorem dX8_climb_45 : decode cX8_climb 45 = .ok (.iaload, 1) := by decide +kernel
theorem dX8_climb_46 : decode cX8_climb 46 = .ok (.istore_n 2, 1) := by decide +kernel
theorem dX8_climb_47 : decode cX8_climb 47 = .ok (.iconst 0, 1) := by decide +kernel
theorem dX8_climb_48 : decode cX8_climb 48 = .ok (.istore_n 3, 1) := by decide +kernel
theorem dX8_climb_49 : decode cX8_climb 49 = .ok (.iload_n 3, 1) := by decide +kernel
theorem dX8_climb_50 : decode cX8_climb 50 = .ok (.aload_n 0, 1) := by decide +kernel
theorem dX8_climb_51 : decode cX8_climb 51 = .ok (.getfield 33, 3) := by decide +kernel
theorem dX8_climb_54 : decode cX8_climb 54 = .ok (.if_icmp .ge 41, 3) := by decide +kernel
theorem dX8_climb_57 : decode cX8_climb 57 = .ok (.iload_n 2, 1) := by decide +kernel
theorem dX8_climb_58 : decode cX8_climb 58 = .ok (.iconst (-1), 1) := by decide +kernel
theorem dX8_climb_59 : decode cX8_climb 59 = .ok (.if_icmp .eq 36, 3) := by decide +kernel
theorem dX8_climb_62 : decode cX8_climb 62 = .ok (.aload_n 0, 1) := by decide +kernel
theorem dX8_climb_63 : decode cX8_climb 63 = .ok (.getfield 24, 3) := by decide +kernel
theorem dX8_climb_66 : decode cX8_climb 66 = .ok (.iload_n 1, 1) := by decide +kernel
theorem dX8_climb_67 : decode cX8_climb 67 = .ok (.dup2, 1) := by decide +kernel
theorem dX8_climb_68 : decode cX8_climb 68 = .ok (.iaload, 1) := by decide +kernel
theorem dX8_climb_69 : decode cX8_climb 69 = .ok (.iconst 1, 1) := by decide +kernel
theorem dX8_climb_70 : decode cX8_climb 70 = .ok (.iadd, 1) := by decide +kernel
theorem dX8_climb_71 : decode cX8_climb 71 = .ok (.iastore, 1) := by decide +kernel
theorem dX8_climb_72 : decode cX8_climb 72 = .ok (.aload_n 0, 1) := by decide +kernel
theorem dX8_climb_73 : decode cX8_climb 73 = .ok (.getfield 27, 3) := by decide +kernel
theorem dX8_climb_76 : decode cX8_climb 76 = .ok (.iload_n 2, 1) := by decide +kernel
theorem dX8_climb_77 : decode cX8_climb 77 = .ok (.dup2, 1) := by decide +kernel
theorem dX8_climb_78 : decode cX8_climb 78 = .ok (.iaload, 1) := by decide +kernel
theorem dX8_climb_79 : decode cX8_climb 79 = .ok (.iconst 1, 1) := by decide +kernel
theorem dX8_climb_80 : decode cX8_climb 80 = .ok (.iadd, 1) := by decide +kernel
theorem dX8_climb_81 : decode cX8_climb 81 = .ok (.iastore, 1) := by decide +kernel
theorem dX8_climb_82 : decode cX8_climb 82 = .ok (.aload_n 0, 1) := by decide +kernel
theorem dX8_climb_83 : decode cX8_climb 83 = .ok (.getfield 15, 3) := by decide +kernel
theorem dX8_climb_86 : decode cX8_climb 86 = .ok (.iload_n 2, 1) := by decide +kernel
theorem dX8_climb_87 : decode cX8_climb 87 = .ok (.iaload, 1) := by decide +kernel
theorem dX8_climb_88 : decode cX8_climb 88 = .ok (.istore_n 2, 1) := by decide +kernel
theorem dX8_climb_89 : decode cX8_climb 89 = .ok (.iinc 3 1, 3) := by decide +kernel
theorem dX8_climb_92 : decode cX8_climb 92 = .ok (.goto (-43), 3) := by decide +kernel
theorem dX8_climb_95 : decode cX8_climb 95 = .ok (.iinc 1 1, 3) := by decide +kernel
theorem dX8_climb_98 : decode cX8_climb 98 = .ok (.goto (-66), 3) := by decide +kernel
theorem dX8_climb_101 : decode cX8_climb 101 = .ok (.return_, 1) := by decide +kernel
theorem dX8_isNode_0 : decode cX8_isNode 0 = .ok (.iload_n 1, 1) := by decide +kernel
theorem dX8_isNode_1 : decode cX8_isNode 1 = .ok (.ifCond .lt 15, 3) := by decide +kernel
theorem dX8_isNode_4 : decode cX8_isNode 4 = .ok (.iload_n 1, 1) := by decide +kernel
theorem dX8_isNode_5 : decode cX8_isNode 5 = .ok (.aload_n 0, 1) := by decide +kernel
theorem dX8_isNode_6 : decode cX8_isNode 6 = .ok (.getfield 33, 3) := by decide +kernel
theorem dX8_isNode_9 : decode cX8_isNode 9 = .ok (.if_icmp .ge 7, 3) := by decide +kernel
theorem dX8_isNode_12 : decode cX8_isNode 12 = .ok (.iconst 1, 1) := by decide +kernel
theorem dX8_isNode_13 : decode cX8_isNode 13 = .ok (.goto 4, 3) := by decide +kernel
theorem dX8_isNode_16 : decode cX8_isNode 16 = .ok (.iconst 0, 1) := by decide +kernel
theorem dX8_isNode_17 : decode cX8_isNode 17 = .ok (.ireturn, 1) := by decide +kernel
theorem dX8_keyOf_0 : decode cX8_keyOf 0 = .ok (.aload_n 0, 1) := by decide +kernel
theorem dX8_keyOf_1 : decode cX8_keyOf 1 = .ok (.iload_n 1, 1) := by decide +kernel
theorem dX8_keyOf_2 : decode cX8_keyOf 2 = .ok (.invokevirtual 60, 3) := by decide +kernel
theorem dX8_keyOf_5 : decode cX8_keyOf 5 = .ok (.ifCond .eq 12, 3) := by decide +kernel
theorem dX8_keyOf_8 : decode cX8_keyOf 8 = .ok (.aload_n 0, 1) := by decide +kernel
theorem dX8_keyOf_9 : decode cX8_keyOf 9 = .ok (.getfield 11, 3) := by decide +kernel
theorem dX8_keyOf_12 : decode cX8_keyOf 12 = .ok (.iload_n 1, 1) := by decide +kernel
theorem dX8_keyOf_13 : decode cX8_keyOf 13 = .ok (.iaload, 1) := by decide +kernel
theorem dX8_keyOf_14 : decode cX8_keyOf 14 = .ok (.goto 4, 3) := by decide +kernel
theorem dX8_keyOf_17 : decode cX8_keyOf 17 = .ok (.iconst (-1), 1) := by decide +kernel
theorem dX8_keyOf_18 : decode cX8_keyOf 18 = .ok (.ireturn, 1) := by decide +kernel
theorem dX8_rootKey_0 : decode cX8_rootKey 0 = .ok (.aload_n 0, 1) := by decide +kernel
theorem dX8_rootKey_1 : decode cX8_rootKey 1 = .ok (.aload_n 0, 1) := by decide +kernel
theorem dX8_rootKey_2 : decode cX8_rootKey 2 = .ok (.getfield 37, 3) := by decide +kernel
theorem dX8_rootKey_5 : decode cX8_rootKey 5 = .ok (.invokevirtual 64, 3) := by decide +kernel
theorem dX8_rootKey_8 : decode cX8_rootKey 8 = .ok (.ireturn, 1) := by decide +kernel
theorem dX8_depthAt_0 : decode cX8_depthAt 0 = .ok (.aload_n 0, 1) := by decide +kernel
theorem dX8_depthAt_1 : decode cX8_depthAt 1 = .ok (.iload_n 1, 1) := by decide +kernel
theorem dX8_depthAt_2 : decode cX8_depthAt 2 = .ok (.invokevirtual 60, 3) := by decide +kernel
theorem dX8_depthAt_5 : decode cX8_depthAt 5 = .ok (.ifCond .eq 12, 3) := by decide +kernel
theorem dX8_depthAt_8 : decode cX8_depthAt 8 = .ok (.aload_n 0, 1) := by decide +kernel
theorem dX8_depthAt_9 : decode cX8_depthAt 9 = .ok (.getfield 24, 3) := by decide +kernel
theorem dX8_depthAt_12 : decode cX8_depthAt 12 = .ok (.iload_n 1, 1) := by decide +kernel
theorem dX8_depthAt_13 : decode cX8_depthAt 13 = .ok (.iaload, 1) := by decide +kernel
theorem dX8_depthAt_14 : decode cX8_depthAt 14 = .ok (.goto 4, 3) := by decide +kernel
theorem dX8_depthAt_17 : decode cX8_depthAt 17 = .ok (.iconst (-1), 1) := by decide +kernel
theorem dX8_depthAt_18 : decode cX8_depthAt 18 = .ok (.ireturn, 1) := by decide +kernel
theorem dX8_keyAbove_0 : decode cX8_keyAbove 0 = .ok (.aload_n 0, 1) := by decide +kernel
theorem dX8_keyAbove_1 : decode cX8_keyAbove 1 = .ok (.iload_n 1, 1) := by decide +kernel
theorem dX8_keyAbove_2 : decode cX8_keyAbove 2 = .ok (.invokevirtual 60, 3) := by decide +kernel
theorem dX8_keyAbove_5 : decode cX8_keyAbove 5 = .ok (.ifCond .eq 16, 3) := by decide +kernel
theorem dX8_keyAbove_8 : decode cX8_keyAbove 8 = .ok (.aload_n 0, 1) := by decide +kernel
theorem dX8_keyAbove_9 : decode cX8_keyAbove 9 = .ok (.aload_n 0, 1) := by decide +kernel
theorem dX8_keyAbove_10 : decode cX8_keyAbove 10 = .ok (.getfield 15, 3) := by decide +kernel
theorem dX8_keyAbove_13 : decode cX8_keyAbove 13 = .ok (.iload_n 1, 1) := by decide +kernel
theorem dX8_keyAbove_14 : decode cX8_keyAbove 14 = .ok (.iaload, 1) := by decide +kernel
theorem dX8_keyAbove_15 : decode cX8_keyAbove 15 = .ok (.invokevirtual 64, 3) := by decide +kernel
theorem dX8_keyAbove_18 : decode cX8_keyAbove 18 = .ok (.goto 4, 3) := by decide +kernel
theorem dX8_keyAbove_21 : decode cX8_keyAbove 21 = .ok (.iconst (-1), 1) := by decide +kernel
theorem dX8_keyAbove_22 : decode cX8_keyAbove 22 = .ok (.ireturn, 1) := by decide +kernel
theorem dX8_keyAtLeft_0 : decode cX8_keyAtLeft 0 = .ok (.aload_n 0, 1) := by decide +kernel
theorem dX8_keyAtLeft_1 : decode cX8_keyAtLeft 1 = .ok (.iload_n 1, 1) := by decide +kernel
theorem dX8_keyAtLeft_2 : decode cX8_keyAtLeft 2 = .ok (.invokevirtual 60, 3) := by decide +kernel
theorem dX8_keyAtLeft_5 : decode cX8_keyAtLeft 5 = .ok (.ifCond .eq 16, 3) := by decide +kernel
theorem dX8_keyAtLeft_8 : decode cX8_keyAtLeft 8 = .ok (.aload_n 0, 1) := by decide +kernel
theorem dX8_keyAtLeft_9 : decode cX8_keyAtLeft 9 = .ok (.aload_n 0, 1) := by decide +kernel
theorem dX8_keyAtLeft_10 : decode cX8_keyAtLeft 10 = .ok (.getfield 18, 3) := by decide +kernel
theorem dX8_keyAtLeft_13 : decode cX8_keyAtLeft 13 = .ok (.iload_n 1, 1) := by decide +kernel
theorem dX8_keyAtLeft_14 : decode cX8_keyAtLeft 14 = .ok (.iaload, 1) := by decide +kernel
theorem dX8_keyAtLeft_15 : decode cX8_keyAtLeft 15 = .ok (.invokevirtual 64, 3) := by decide +kernel
theorem dX8_keyAtLeft_18 : decode cX8_keyAtLeft 18 = .ok (.goto 4, 3) := by decide +kernel
theorem dX8_keyAtLeft_21 : decode cX8_keyAtLeft 21 = .ok (.iconst (-1), 1) := by decide +kernel
theorem dX8_keyAtLeft_22 : decode cX8_keyAtLeft 22 = .ok (.ireturn, 1) := by decide +kernel
theorem dX8_keyAtRight_0 : decode cX8_keyAtRight 0 = .ok (.aload_n 0, 1) := by decide +kernel
theorem dX8_keyAtRight_1 : decode cX8_keyAtRight 1 = .ok (.iload_n 1, 1) := by decide +kernel
theorem dX8_keyAtRight_2 : decode cX8_keyAtRight 2 = .ok (.invokevirtual 60, 3) := by decide +kernel
theorem dX8_keyAtRight_5 : decode cX8_keyAtRight 5 = .ok (.ifCond .eq 16, 3) := by decide +kernel
theorem dX8_keyAtRight_8 : decode cX8_keyAtRight 8 = .ok (.aload_n 0, 1) := by decide +kernel
theorem dX8_keyAtRight_9 : decode cX8_keyAtRight 9 = .ok (.aload_n 0, 1) := by decide +kernel
theorem dX8_keyAtRight_10 : decode cX8_keyAtRight 10 = .ok (.getfield 21, 3) := by decide +kernel
theorem dX8_keyAtRight_13 : decode cX8_keyAtRight 13 = .ok (.iload_n 1, 1) := by decide +kernel
theorem dX8_keyAtRight_14 : decode cX8_keyAtRight 14 = .ok (.iaload, 1) := by decide +kernel
theorem dX8_keyAtRight_15 : decode cX8_keyAtRight 15 = .ok (.invokevirtual 64, 3) := by decide +kernel
theorem dX8_keyAtRight_18 : decode cX8_keyAtRight 18 = .ok (.goto 4, 3) := by decide +kernel
theorem dX8_keyAtRight_21 : decode cX8_keyAtRight 21 = .ok (.iconst (-1), 1) := by decide +kernel
theorem dX8_keyAtRight_22 : decode cX8_keyAtRight 22 = .ok (.ireturn, 1) := by decide +kernel
theorem dX8_howManyBelow_0 : decode cX8_howManyBelow 0 = .ok (.aload_n 0, 1) := by decide +kernel
theorem dX8_howManyBelow_1 : decode cX8_howManyBelow 1 = .ok (.iload_n 1, 1) := by decide +kernel
theorem dX8_howManyBelow_2 : decode cX8_howManyBelow 2 = .ok (.invokevirtual 60, 3) := by decide +kernel
theorem dX8_howManyBelow_5 : decode cX8_howManyBelow 5 = .ok (.ifCond .eq 12, 3) := by decide +kernel
theorem dX8_howManyBelow_8 : decode cX8_howManyBelow 8 = .ok (.aload_n 0, 1) := by decide +kernel
theorem dX8_howManyBelow_9 : decode cX8_howManyBelow 9 = .ok (.getfield 27, 3) := by decide +kernel
theorem dX8_howManyBelow_12 : decode cX8_howManyBelow 12 = .ok (.iload_n 1, 1) := by decide +kernel
theorem dX8_howManyBelow_13 : decode cX8_howManyBelow 13 = .ok (.iaload, 1) := by decide +kernel
theorem dX8_howManyBelow_14 : decode cX8_howManyBelow 14 = .ok (.goto 4, 3) := by decide +kernel
theorem dX8_howManyBelow_17 : decode cX8_howManyBelow 17 = .ok (.iconst (-1), 1) := by decide +kernel
theorem dX8_howManyBelow_18 : decode cX8_howManyBelow 18 = .ok (.ireturn, 1) := by decide +kernel
theorem dX8_high_0 : decode cX8_high 0 = .ok (.iconst 0, 1) := by decide +kernel
theorem dX8_high_1 : decode cX8_high 1 = .ok (.istore_n 1, 1) := by decide +kernel
theorem dX8_high_2 : decode cX8_high 2 = .ok (.iconst 0, 1) := by decide +kernel
theorem dX8_high_3 : decode cX8_high 3 = .ok (.istore_n 2, 1) := by decide +kernel
theorem dX8_high_4 : decode cX8_high 4 = .ok (.iload_n 2, 1) := by decide +kernel
theorem dX8_high_5 : decode cX8_high 5 = .ok (.aload_n 0, 1) := by decide +kernel
theorem dX8_high_6 : decode cX8_high 6 = .ok (.getfield 33, 3) := by decide +kernel
theorem dX8_high_9 : decode cX8_high 9 = .ok (.if_icmp .ge 22, 3) := by decide +kernel
theorem dX8_high_12 : decode cX8_high 12 = .ok (.iload_n 1, 1) := by decide +kernel
theorem dX8_high_13 : decode cX8_high 13 = .ok (.aload_n 0, 1) := by decide +kernel
theorem dX8_high_14 : decode cX8_high 14 = .ok (.getfield 24, 3) := by decide +kernel
theorem dX8_high_17 : decode cX8_high 17 = .ok (.iload_n 2, 1) := by decide +kernel
theorem dX8_high_18 : decode cX8_high 18 = .ok (.iaload, 1) := by decide +kernel
theorem dX8_high_19 : decode cX8_high 19 = .ok (.iconst 1, 1) := by decide +kernel
theorem dX8_high_20 : decode cX8_high 20 = .ok (.iadd, 1) := by decide +kernel
theorem dX8_high_21 : decode cX8_high 21 = .ok (.invokestatic 67, 3) := by decide +kernel
theorem dX8_high_24 : decode cX8_high 24 = .ok (.istore_n 1, 1) := by decide +kernel
theorem dX8_high_25 : decode cX8_high 25 = .ok (.iinc 2 1, 3) := by decide +kernel
theorem dX8_high_28 : decode cX8_high 28 = .ok (.goto (-24), 3) := by decide +kernel
theorem dX8_high_31 : decode cX8_high 31 = .ok (.iload_n 1, 1) := by decide +kernel
theorem dX8_high_32 : decode cX8_high 32 = .ok (.ireturn, 1) := by decide +kernel
theorem dX8_allDepths_0 : decode cX8_allDepths 0 = .ok (.iconst 0, 1) := by decide +kernel
theorem dX8_allDepths_1 : decode cX8_allDepths 1 = .ok (.istore_n 1, 1) := by decide +kernel
theorem dX8_allDepths_2 : decode cX8_allDepths 2 = .ok (.iconst 0, 1) := by decide +kernel
theorem dX8_allDepths_3 : decode cX8_allDepths 3 = .ok (.istore_n 2, 1) := by decide +kernel
theorem dX8_allDepths_4 : decode cX8_allDepths 4 = .ok (.iload_n 2, 1) := by decide +kernel
theorem dX8_allDepths_5 : decode cX8_allDepths 5 = .ok (.aload_n 0, 1) := by decide +kernel
theorem dX8_allDepths_6 : decode cX8_allDepths 6 = .ok (.getfield 33, 3) := by decide +kernel
theorem dX8_allDepths_9 : decode cX8_allDepths 9 = .ok (.if_icmp .ge 18, 3) := by decide +kernel
theorem dX8_allDepths_12 : decode cX8_allDepths 12 = .ok (.iload_n 1, 1) := by decide +kernel
theorem dX8_allDepths_13 : decode cX8_allDepths 13 = .ok (.aload_n 0, 1) := by decide +kernel
theorem dX8_allDepths_14 : decode cX8_allDepths 14 = .ok (.getfield 24, 3) := by decide +kernel
theorem dX8_allDepths_17 : decode cX8_allDepths 17 = .ok (.iload_n 2, 1) := by decide +kernel
theorem dX8_allDepths_18 : decode cX8_allDepths 18 = .ok (.iaload, 1) := by decide +kernel
theorem dX8_allDepths_19 : decode cX8_allDepths 19 = .ok (.iadd, 1) := by decide +kernel
theorem dX8_allDepths_20 : decode cX8_allDepths 20 = .ok (.istore_n 1, 1) := by decide +kernel
theorem dX8_allDepths_21 : decode cX8_allDepths 21 = .ok (.iinc 2 1, 3) := by decide +kernel
theorem dX8_allDepths_24 : decode cX8_allDepths 24 = .ok (.goto (-20), 3) := by decide +kernel
theorem dX8_allDepths_27 : decode cX8_allDepths 27 = .ok (.iload_n 1, 1) := by decide +kernel
theorem dX8_allDepths_28 : decode cX8_allDepths 28 = .ok (.ireturn, 1) := by decide +kernel
theorem dX8_steps_0 : decode cX8_steps 0 = .ok (.aload_n 0, 1) := by decide +kernel
theorem dX8_steps_1 : decode cX8_steps 1 = .ok (.iload_n 1, 1) := by decide +kernel
theorem dX8_steps_2 : decode cX8_steps 2 = .ok (.invokevirtual 60, 3) := by decide +kernel
theorem dX8_steps_5 : decode cX8_steps 5 = .ok (.ifCond .eq 11, 3) := by decide +kernel
theorem dX8_steps_8 : decode cX8_steps 8 = .ok (.aload_n 0, 1) := by decide +kernel
theorem dX8_steps_9 : decode cX8_steps 9 = .ok (.iload_n 2, 1) := by decide +kernel
theorem dX8_steps_10 : decode cX8_steps 10 = .ok (.invokevirtual 60, 3) := by decide +kernel
theorem dX8_steps_13 : decode cX8_steps 13 = .ok (.ifCond .ne 5, 3) := by decide +kernel
theorem dX8_steps_16 : decode cX8_steps 16 = .ok (.iconst (-1), 1) := by decide +kernel
theorem dX8_steps_17 : decode cX8_steps 17 = .ok (.ireturn, 1) := by decide +kernel
theorem dX8_steps_18 : decode cX8_steps 18 = .ok (.aload_n 0, 1) := by decide +kernel
theorem dX8_steps_19 : decode cX8_steps 19 = .ok (.getfield 24, 3) := by decide +kernel
theorem dX8_steps_22 : decode cX8_steps 22 = .ok (.iload_n 1, 1) := by decide +kernel
theorem dX8_steps_23 : decode cX8_steps 23 = .ok (.iaload, 1) := by decide +kernel
theorem dX8_steps_24 : decode cX8_steps 24 = .ok (.istore_n 3, 1) := by decide +kernel
theorem dX8_steps_25 : decode cX8_steps 25 = .ok (.iload_n 1, 1) := by decide +kernel
theorem dX8_steps_26 : decode cX8_steps 26 = .ok (.iload_n 2, 1) := by decide +kernel
theorem dX8_steps_27 : decode cX8_steps 27 = .ok (.invokestatic 67, 3) := by decide +kernel
theorem dX8_steps_30 : decode cX8_steps 30 = .ok (.istore 4, 2) := by decide +kernel
theorem dX8_steps_32 : decode cX8_steps 32 = .ok (.iload_n 1, 1) := by decide +kernel
theorem dX8_steps_33 : decode cX8_steps 33 = .ok (.iload_n 2, 1) := by decide +kernel
theorem dX8_steps_34 : decode cX8_steps 34 = .ok (.invokestatic 73, 3) := by decide +kernel
theorem dX8_steps_37 : decode cX8_steps 37 = .ok (.istore 5, 2) := by decide +kernel
theorem dX8_steps_39 : decode cX8_steps 39 = .ok (.iload 5, 2) := by decide +kernel
theorem dX8_steps_41 : decode cX8_steps 41 = .ok (.iload 4, 2) := by decide +kernel
theorem dX8_steps_43 : decode cX8_steps 43 = .ok (.if_icmp .gt 21, 3) := by decide +kernel
theorem dX8_steps_46 : decode cX8_steps 46 = .ok (.iload_n 3, 1) := by decide +kernel
theorem dX8_steps_47 : decode cX8_steps 47 = .ok (.aload_n 0, 1) := by decide +kernel
theorem dX8_steps_48 : decode cX8_steps 48 = .ok (.getfield 24, 3) := by decide +kernel
theorem dX8_steps_51 : decode cX8_steps 51 = .ok (.iload 5, 2) := by decide +kernel
theorem dX8_steps_53 : decode cX8_steps 53 = .ok (.iaload, 1) := by decide +kernel
theorem dX8_steps_54 : decode cX8_steps 54 = .ok (.invokestatic 73, 3) := by decide +kernel
theorem dX8_steps_57 : decode cX8_steps 57 = .ok (.istore_n 3, 1) := by decide +kernel
theorem dX8_steps_58 : decode cX8_steps 58 = .ok (.iinc 5 1, 3) := by decide +kernel
theorem dX8_steps_61 : decode cX8_steps 61 = .ok (.goto (-22), 3) := by decide +kernel
theorem dX8_steps_64 : decode cX8_steps 64 = .ok (.aload_n 0, 1) := by decide +kernel
theorem dX8_steps_65 : decode cX8_steps 65 = .ok (.getfield 24, 3) := by decide +kernel
theorem dX8_steps_68 : decode cX8_steps 68 = .ok (.iload_n 1, 1) := by decide +kernel
theorem dX8_steps_69 : decode cX8_steps 69 = .ok (.iaload, 1) := by decide +kernel
theorem dX8_steps_70 : decode cX8_steps 70 = .ok (.aload_n 0, 1) := by decide +kernel
theorem dX8_steps_71 : decode cX8_steps 71 = .ok (.getfield 24, 3) := by decide +kernel
theorem dX8_steps_74 : decode cX8_steps 74 = .ok (.iload_n 2, 1) := by decide +kernel
theorem dX8_steps_75 : decode cX8_steps 75 = .ok (.iaload, 1) := by decide +kernel
theorem dX8_steps_76 : decode cX8_steps 76 = .ok (.iadd, 1) := by decide +kernel
theorem dX8_steps_77 : decode cX8_steps 77 = .ok (.iconst 2, 1) := by decide +kernel
theorem dX8_steps_78 : decode cX8_steps 78 = .ok (.iload_n 3, 1) := by decide +kernel
theorem dX8_steps_79 : decode cX8_steps 79 = .ok (.imul, 1) := by decide +kernel
theorem dX8_steps_80 : decode cX8_steps 80 = .ok (.isub, 1) := by decide +kernel
theorem dX8_steps_81 : decode cX8_steps 81 = .ok (.ireturn, 1) := by decide +kernel
theorem dX9_init_0 : decode cX9_init 0 = .ok (.aload_n 0, 1) := by decide +kernel
theorem dX9_init_1 : decode cX9_init 1 = .ok (.invokespecial 1, 3) := by decide +kernel
theorem dX9_init_4 : decode cX9_init 4 = .ok (.return_, 1) := by decide +kernel
theorem dX9_weave_0 : decode cX9_weave 0 = .ok (.aload_n 0, 1) := by decide +kernel
theorem dX9_weave_1 : decode cX9_weave 1 = .ok (.iconst 0, 1) := by decide +kernel
theorem dX9_weave_2 : decode cX9_weave 2 = .ok (.putfield 7, 3) := by decide +kernel
theorem dX9_weave_5 : decode cX9_weave 5 = .ok (.aload_n 0, 1) := by decide +kernel
theorem dX9_weave_6 : decode cX9_weave 6 = .ok (.iconst 0, 1) := by decide +kernel
theorem dX9_weave_7 : decode cX9_weave 7 = .ok (.putfield 13, 3) := by decide +kernel
theorem dX9_weave_10 : decode cX9_weave 10 = .ok (.aload_n 0, 1) := by decide +kernel
theorem dX9_weave_11 : decode cX9_weave 11 = .ok (.iconst 0, 1) := by decide +kernel
theorem dX9_weave_12 : decode cX9_weave 12 = .ok (.putfield 16, 3) := by decide +kernel
theorem dX9_weave_15 : decode cX9_weave 15 = .ok (.aload_n 0, 1) := by decide +kernel
theorem dX9_weave_16 : decode cX9_weave 16 = .ok (.iconst 0, 1) := by decide +kernel
theorem dX9_weave_17 : decode cX9_weave 17 = .ok (.putfield 19, 3) := by decide +kernel
theorem dX9_weave_20 : decode cX9_weave 20 = .ok (.aload_n 0, 1) := by decide +kernel
theorem dX9_weave_21 : decode cX9_weave 21 = .ok (.iconst 0, 1) := by decide +kernel
theorem dX9_weave_22 : decode cX9_weave 22 = .ok (.putfield 22, 3) := by decide +kernel
theorem dX9_weave_25 : decode cX9_weave 25 = .ok (.iconst 0, 1) := by decide +kernel
theorem dX9_weave_26 : decode cX9_weave 26 = .ok (.istore_n 3, 1) := by decide +kernel
theorem dX9_weave_27 : decode cX9_weave 27 = .ok (.iconst 0, 1) := by decide +kernel
theorem dX9_weave_28 : decode cX9_weave 28 = .ok (.istore 4, 2) := by decide +kernel
theorem dX9_weave_30 : decode cX9_weave 30 = .ok (.iconst 0, 1) := by decide +kernel
theorem dX9_weave_31 : decode cX9_weave 31 = .ok (.istore 5, 2) := by decide +kernel
theorem dX9_weave_33 : decode cX9_weave 33 = .ok (.iconst 1, 1) := by decide +kernel
theorem dX9_weave_34 : decode cX9_weave 34 = .ok (.istore 6, 2) := by decide +kernel
theorem dX9_weave_36 : decode cX9_weave 36 = .ok (.aload_n 1, 1) := by decide +kernel
theorem dX9_weave_37 : decode cX9_weave 37 = .ok (.getfield 25, 3) := by decide +kernel
theorem dX9_weave_40 : decode cX9_weave 40 = .ok (.aload_n 2, 1) := by decide +kernel
theorem dX9_weave_41 : decode cX9_weave 41 = .ok (.getfield 25, 3) := by decide +kernel
theorem dX9_weave_44 : decode cX9_weave 44 = .ok (.iadd, 1) := by decide +kernel
theorem dX9_weave_45 : decode cX9_weave 45 = .ok (.istore 7, 2) := by decide +kernel
theorem dX9_weave_47 : decode cX9_weave 47 = .ok (.iload 7, 2) := by decide +kernel
theorem dX9_weave_49 : decode cX9_weave 49 = .ok (.ifCond .le 158, 3) := by decide +kernel
theorem dX9_weave_52 : decode cX9_weave 52 = .ok (.iload_n 3, 1) := by decide +kernel
theorem dX9_weave_53 : decode cX9_weave 53 = .ok (.aload_n 1, 1) := by decide +kernel
theorem dX9_weave_54 : decode cX9_weave 54 = .ok (.getfield 25, 3) := by decide +kernel
theorem dX9_weave_57 : decode cX9_weave 57 = .ok (.if_icmp .lt 7, 3) := by decide +kernel
theorem dX9_weave_60 : decode cX9_weave 60 = .ok (.iconst 1, 1) := by decide +kernel
theorem dX9_weave_61 : decode cX9_weave 61 = .ok (.goto 30, 3) := by decide +kernel
theorem dX9_weave_64 : decode cX9_weave 64 = .ok (.iload 4, 2) := by decide +kernel
theorem dX9_weave_66 : decode cX9_weave 66 = .ok (.aload_n 2, 1) := by decide +kernel
theorem dX9_weave_67 : decode cX9_weave 67 = .ok (.getfield 25, 3) := by decide +kernel
theorem dX9_weave_70 : decode cX9_weave 70 = .ok (.if_icmp .lt 7, 3) := by decide +kernel
theorem dX9_weave_73 : decode cX9_weave 73 = .ok (.iconst (-1), 1) := by decide +kernel
theorem dX9_weave_74 : decode cX9_weave 74 = .ok (.goto 17, 3) := by decide +kernel
theorem dX9_weave_77 : decode cX9_weave 77 = .ok (.aload_n 1, 1) := by decide +kernel
theorem dX9_weave_78 : decode cX9_weave 78 = .ok (.iload_n 3, 1) := by decide +kernel
theorem dX9_weave_79 : decode cX9_weave 79 = .ok (.invokevirtual 30, 3) := by decide +kernel
theorem dX9_weave_82 : decode cX9_weave 82 = .ok (.aload_n 2, 1) := by decide +kernel
theorem dX9_weave_83 : decode cX9_weave 83 = .ok (.iload 4, 2) := by decide +kernel
theorem dX9_weave_85 : decode cX9_weave 85 = .ok (.invokevirtual 30, 3) := by decide +kernel
theorem dX9_weave_88 : decode cX9_weave 88 = .ok (.invokestatic 34, 3) := by decide +kernel
theorem dX9_weave_91 : decode cX9_weave 91 = .ok (.istore 8, 2) := by decide +kernel
theorem dX9_weave_93 : decode cX9_weave 93 = .ok (.iload 6, 2) := by decide +kernel
theorem dX9_weave_95 : decode cX9_weave 95 = .ok (.iload 8, 2) := by decide +kernel
theorem dX9_weave_97 : decode cX9_weave 97 = .ok (.ifCond .gt 7, 3) := by decide +kernel
theorem dX9_weave_100 : decode cX9_weave 100 = .ok (.iconst 1, 1) := by decide +kernel
theorem dX9_weave_101 : decode cX9_weave 101 = .ok (.goto 4, 3) := by decide +kernel
theorem dX9_weave_104 : decode cX9_weave 104 = .ok (.iconst 0, 1) := by decide +kernel
theorem dX9_weave_105 : decode cX9_weave 105 = .ok (.if_icmp .eq 24, 3) := by decide +kernel
theorem dX9_weave_108 : decode cX9_weave 108 = .ok (.aload_n 0, 1) := by decide +kernel
theorem dX9_weave_109 : decode cX9_weave 109 = .ok (.iload 5, 2) := by decide +kernel
theorem dX9_weave_111 : decode cX9_weave 111 = .ok (.invokevirtual 40, 3) := by decide +kernel
theorem dX9_weave_114 : decode cX9_weave 114 = .ok (.iconst 0, 1) := by decide +kernel
theorem dX9_weave_115 : decode cX9_weave 115 = .ok (.istore 5, 2) := by decide +kernel
theorem dX9_weave_117 : decode cX9_weave 117 = .ok (.iload 8, 2) := by decide +kernel
theorem dX9_weave_119 : decode cX9_weave 119 = .ok (.ifCond .gt 7, 3) := by decide +kernel
theorem dX9_weave_122 : decode cX9_weave 122 = .ok (.iconst 1, 1) := by decide +kernel
theorem dX9_weave_123 : decode cX9_weave 123 = .ok (.goto 4, 3) := by decide +kernel
theorem dX9_weave_126 : decode cX9_weave 126 = .ok (.iconst 0, 1) := by decide +kernel
theorem dX9_weave_127 : decode cX9_weave 127 = .ok (.istore 6, 2) := by decide +kernel
theorem dX9_weave_129 : decode cX9_weave 129 = .ok (.iinc 5 1, 3) := by decide +kernel
theorem dX9_weave_132 : decode cX9_weave 132 = .ok (.aload_n 0, 1) := by decide +kernel
theorem dX9_weave_133 : decode cX9_weave 133 = .ok (.dup, 1) := by decide +kernel
theorem dX9_weave_134 : decode cX9_weave 134 = .ok (.getfield 22, 3) := by decide +kernel
theorem dX9_weave_137 : decode cX9_weave 137 = .ok (.iconst 1, 1) := by decide +kernel
theorem dX9_weave_138 : decode cX9_weave 138 = .ok (.iadd, 1) := by decide +kernel
theorem dX9_weave_139 : decode cX9_weave 139 = .ok (.putfield 22, 3) := by decide +kernel
theorem dX9_weave_142 : decode cX9_weave 142 = .ok (.aload_n 0, 1) := by decide +kernel
theorem dX9_weave_143 : decode cX9_weave 143 = .ok (.dup, 1) := by decide +kernel
theorem dX9_weave_144 : decode cX9_weave 144 = .ok (.getfield 13, 3) := by decide +kernel
theorem dX9_weave_147 : decode cX9_weave 147 = .ok (.iload 8, 2) := by decide +kernel
theorem dX9_weave_149 : decode cX9_weave 149 = .ok (.ifCond .ne 7, 3) := by decide +kernel
theorem dX9_weave_152 : decode cX9_weave 152 = .ok (.iconst 1, 1) := by decide +kernel
theorem dX9_weave_153 : decode cX9_weave 153 = .ok (.goto 4, 3) := by decide +kernel
theorem dX9_weave_156 : decode cX9_weave 156 = .ok (.iconst 0, 1) := by decide +kernel
theorem dX9_weave_157 : decode cX9_weave 157 = .ok (.iadd, 1) := by decide +kernel
theorem dX9_weave_158 : decode cX9_weave 158 = .ok (.putfield 13, 3) := by decide +kernel
theorem dX9_weave_161 : decode cX9_weave 161 = .ok (.iload_n 3, 1) := by decide +kernel
theorem dX9_weave_162 : decode cX9_weave 162 = .ok (.iload 8, 2) := by decide +kernel
theorem dX9_weave_164 : decode cX9_weave 164 = .ok (.ifCond .gt 7, 3) := by decide +kernel
theorem dX9_weave_167 : decode cX9_weave 167 = .ok (.iconst 1, 1) := by decide +kernel
theorem dX9_weave_168 : decode cX9_weave 168 = .ok (.goto 4, 3) := by decide +kernel
theorem dX9_weave_171 : decode cX9_weave 171 = .ok (.iconst 0, 1) := by decide +kernel
theorem dX9_weave_172 : decode cX9_weave 172 = .ok (.iadd, 1) := by decide +kernel
theorem dX9_weave_173 : decode cX9_weave 173 = .ok (.istore_n 3, 1) := by decide +kernel
theorem dX9_weave_174 : decode cX9_weave 174 = .ok (.iload 4, 2) := by decide +kernel
theorem dX9_weave_176 : decode cX9_weave 176 = .ok (.iload 8, 2) := by decide +kernel
theorem dX9_weave_178 : decode cX9_weave 178 = .ok (.ifCond .lt 7, 3) := by decide +kernel
theorem dX9_weave_181 : decode cX9_weave 181 = .ok (.iconst 1, 1) := by decide +kernel
theorem dX9_weave_182 : decode cX9_weave 182 = .ok (.goto 4, 3) := by decide +kernel
theorem dX9_weave_185 : decode cX9_weave 185 = .ok (.iconst 0, 1) := by decide +kernel
theorem dX9_weave_186 : decode cX9_weave 186 = .ok (.iadd, 1) := by decide +kernel
theorem dX9_weave_187 : decode cX9_weave 187 = .ok (.istore 4, 2) := by decide +kernel
theorem dX9_weave_189 : decode cX9_weave 189 = .ok (.iload 7, 2) := by decide +kernel
theorem dX9_weave_191 : decode cX9_weave 191 = .ok (.iload 8, 2) := by decide +kernel
theorem dX9_weave_193 : decode cX9_weave 193 = .ok (.ifCond .ne 7, 3) := by decide +kernel
theorem dX9_weave_196 : decode cX9_weave 196 = .ok (.iconst 2, 1) := by decide +kernel
theorem dX9_weave_197 : decode cX9_weave 197 = .ok (.goto 4, 3) := by decide +kernel
theorem dX9_weave_200 : decode cX9_weave 200 = .ok (.iconst 1, 1) := by decide +kernel
theorem dX9_weave_201 : decode cX9_weave 201 = .ok (.isub, 1) := by decide +kernel
theorem dX9_weave_202 : decode cX9_weave 202 = .ok (.istore 7, 2) := by decide +kernel
theorem dX9_weave_204 : decode cX9_weave 204 = .ok (.goto (-157), 3) := by decide +kernel
theorem dX9_weave_207 : decode cX9_weave 207 = .ok (.aload_n 0, 1) := by decide +kernel
theorem dX9_weave_208 : decode cX9_weave 208 = .ok (.iload 5, 2) := by decide +kernel
theorem dX9_weave_210 : decode cX9_weave 210 = .ok (.invokevirtual 40, 3) := by decide +kernel
theorem dX9_weave_213 : decode cX9_weave 213 = .ok (.return_, 1) := by decide +kernel
theorem dX9_endRun_0 : decode cX9_endRun 0 = .ok (.iload_n 1, 1) := by decide +kernel
theorem dX9_endRun_1 : decode cX9_endRun 1 = .ok (.iconst 1, 1) := by decide +kernel
theorem dX9_endRun_2 : decode cX9_endRun 2 = .ok (.if_icmp .ge 4, 3) := by decide +kernel
theorem dX9_endRun_5 : decode cX9_endRun 5 = .ok (.return_, 1) := by decide +kernel
theorem dX9_endRun_6 : decode cX9_endRun 6 = .ok (.aload_n 0, 1) := by decide +kernel
theorem dX9_endRun_7 : decode cX9_endRun 7 = .ok (.dup, 1) := by decide +kernel
theorem dX9_endRun_8 : decode cX9_endRun 8 = .ok (.getfield 7, 3) := by decide +kernel
theorem dX9_endRun_11 : decode cX9_endRun 11 = .ok (.iconst 1, 1) := by decide +kernel
theorem dX9_endRun_12 : decode cX9_endRun 12 = .ok (.iadd, 1) := by decide +kernel
theorem dX9_endRun_13 : decode cX9_endRun 13 = .ok (.putfield 7, 3) := by decide +kernel
theorem dX9_endRun_16 : decode cX9_endRun 16 = .ok (.aload_n 0, 1) := by decide +kernel
theorem dX9_endRun_17 : decode cX9_endRun 17 = .ok (.aload_n 0, 1) := by decide +kernel
theorem dX9_endRun_18 : decode cX9_endRun 18 = .ok (.getfield 19, 3) := by decide +kernel
theorem dX9_endRun_21 : decode cX9_endRun 21 = .ok (.iload_n 1, 1) := by decide +kernel
theorem dX9_endRun_22 : decode cX9_endRun 22 = .ok (.invokestatic 44, 3) := by decide +kernel
theorem dX9_endRun_25 : decode cX9_endRun 25 = .ok (.putfield 19, 3) := by decide +kernel
theorem dX9_endRun_28 : decode cX9_endRun 28 = .ok (.aload_n 0, 1) := by decide +kernel
theorem dX9_endRun_29 : decode cX9_endRun 29 = .ok (.dup, 1) := by decide +kernel
theorem dX9_endRun_30 : decode cX9_endRun 30 = .ok (.getfield 16, 3) := by decide +kernel
theorem dX9_endRun_33 : decode cX9_endRun 33 = .ok (.iconst 1, 1) := by decide +kernel
theorem dX9_endRun_34 : decode cX9_endRun 34 = .ok (.iadd, 1) := by decide +kernel
theorem dX9_endRun_35 : decode cX9_endRun 35 = .ok (.putfield 16, 3) := by decide +kernel
theorem dX9_endRun_38 : decode cX9_endRun 38 = .ok (.iload_n 1, 1) := by decide +kernel
theorem dX9_endRun_39 : decode cX9_endRun 39 = .ok (.istore_n 2, 1) := by decide +kernel
theorem dX9_endRun_40 : decode cX9_endRun 40 = .ok (.iload_n 2, 1) := by decide +kernel
theorem dX9_endRun_41 : decode cX9_endRun 41 = .ok (.iconst 1, 1) := by decide +kernel
theorem dX9_endRun_42 : decode cX9_endRun 42 = .ok (.if_icmp .le 20, 3) := by decide +kernel
theorem dX9_endRun_45 : decode cX9_endRun 45 = .ok (.aload_n 0, 1) := by decide +kernel
theorem dX9_endRun_46 : decode cX9_endRun 46 = .ok (.dup, 1) := by decide +kernel
theorem dX9_endRun_47 : decode cX9_endRun 47 = .ok (.getfield 16, 3) := by decide +kernel
theorem dX9_endRun_50 : decode cX9_endRun 50 = .ok (.iconst 1, 1) := by decide +kernel
theorem dX9_endRun_51 : decode cX9_endRun 51 = .ok (.iadd, 1) := by decide +kernel
theorem dX9_endRun_52 : decode cX9_endRun 52 = .ok (.putfield 16, 3) := by decide +kernel
theorem dX9_endRun_55 : decode cX9_endRun 55 = .ok (.iload_n 2, 1) := by decide +kernel
theorem dX9_endRun_56 : decode cX9_endRun 56 = .ok (.iconst 1, 1) := by decide +kernel
theorem dX9_endRun_57 : decode cX9_endRun 57 = .ok (.ishr, 1) := by decide +kernel
theorem dX9_endRun_58 : decode cX9_endRun 58 = .ok (.istore_n 2, 1) := by decide +kernel
theorem dX9_endRun_59 : decode cX9_endRun 59 = .ok (.goto (-19), 3) := by decide +kernel
theorem dX9_endRun_62 : decode cX9_endRun 62 = .ok (.return_, 1) := by decide +kernel
theorem dX10_init_0 : decode cX10_init 0 = .ok (.aload_n 0, 1) := by decide +kernel
theorem dX10_init_1 : decode cX10_init 1 = .ok (.invokespecial 1, 3) := by decide +kernel
theorem dX10_init_4 : decode cX10_init 4 = .ok (.aload_n 0, 1) := by decide +kernel
theorem dX10_init_5 : decode cX10_init 5 = .ok (.new 7, 3) := by decide +kernel
theorem dX10_init_8 : decode cX10_init 8 = .ok (.dup, 1) := by decide +kernel
theorem dX10_init_9 : decode cX10_init 9 = .ok (.invokespecial 9, 3) := by decide +kernel
theorem dX10_init_12 : decode cX10_init 12 = .ok (.putfield 10, 3) := by decide +kernel
theorem dX10_init_15 : decode cX10_init 15 = .ok (.aload_n 0, 1) := by decide +kernel
theorem dX10_init_16 : decode cX10_init 16 = .ok (.new 16, 3) := by decide +kernel
theorem dX10_init_19 : decode cX10_init 19 = .ok (.dup, 1) := by decide +kernel
theorem dX10_init_20 : decode cX10_init 20 = .ok (.invokespecial 18, 3) := by decide +kernel
theorem dX10_init_23 : decode cX10_init 23 = .ok (.putfield 19, 3) := by decide +kernel
theorem dX10_init_26 : decode cX10_init 26 = .ok (.aload_n 0, 1) := by decide +kernel
theorem dX10_init_27 : decode cX10_init 27 = .ok (.new 23, 3) := by decide +kernel
theorem dX10_init_30 : decode cX10_init 30 = .ok (.dup, 1) := by decide +kernel
theorem dX10_init_31 : decode cX10_init 31 = .ok (.sipush 800, 3) := by decide +kernel
theorem dX10_init_34 : decode cX10_init 34 = .ok (.newarray .byte, 2) := by decide +kernel
theorem dX10_init_36 : decode cX10_init 36 = .ok (.invokespecial 25, 3) := by decide +kernel
theorem dX10_init_39 : decode cX10_init 39 = .ok (.putfield 28, 3) := by decide +kernel
theorem dX10_init_42 : decode cX10_init 42 = .ok (.aload_n 0, 1) := by decide +kernel
theorem dX10_init_43 : decode cX10_init 43 = .ok (.new 23, 3) := by decide +kernel
theorem dX10_init_46 : decode cX10_init 46 = .ok (.dup, 1) := by decide +kernel
theorem dX10_init_47 : decode cX10_init 47 = .ok (.sipush 360, 3) := by decide +kernel
theorem dX10_init_50 : decode cX10_init 50 = .ok (.newarray .byte, 2) := by decide +kernel
theorem dX10_init_52 : decode cX10_init 52 = .ok (.invokespecial 25, 3) := by decide +kernel
theorem dX10_init_55 : decode cX10_init 55 = .ok (.putfield 32, 3) := by decide +kernel
theorem dX10_init_58 : decode cX10_init 58 = .ok (.aload_n 0, 1) := by decide +kernel
theorem dX10_init_59 : decode cX10_init 59 = .ok (.new 35, 3) := by decide +kernel
theorem dX10_init_62 : decode cX10_init 62 = .ok (.dup, 1) := by decide +kernel
theorem dX10_init_63 : decode cX10_init 63 = .ok (.aload_n 0, 1) := by decide +kernel
theorem dX10_init_64 : decode cX10_init 64 = .ok (.getfield 28, 3) := by decide +kernel
theorem dX10_init_67 : decode cX10_init 67 = .ok (.aload_n 0, 1) := by decide +kernel
theorem dX10_init_68 : decode cX10_init 68 = .ok (.getfield 10, 3) := by decide +kernel
theorem dX10_init_71 : decode cX10_init 71 = .ok (.invokespecial 37, 3) := by decide +kernel
theorem dX10_init_74 : decode cX10_init 74 = .ok (.putfield 40, 3) := by decide +kernel
theorem dX10_init_77 : decode cX10_init 77 = .ok (.aload_n 0, 1) := by decide +kernel
theorem dX10_init_78 : decode cX10_init 78 = .ok (.new 44, 3) := by decide +kernel
theorem dX10_init_81 : decode cX10_init 81 = .ok (.dup, 1) := by decide +kernel
theorem dX10_init_82 : decode cX10_init 82 = .ok (.invokespecial 46, 3) := by decide +kernel
theorem dX10_init_85 : decode cX10_init 85 = .ok (.putfield 47, 3) := by decide +kernel
theorem dX10_init_88 : decode cX10_init 88 = .ok (.aload_n 0, 1) := by decide +kernel
theorem dX10_init_89 : decode cX10_init 89 = .ok (.iconst 3, 1) := by decide +kernel
theorem dX10_init_90 : decode cX10_init 90 = .ok (.anewarray 51, 3) := by decide +kernel
theorem dX10_init_93 : decode cX10_init 93 = .ok (.putfield 53, 3) := by decide +kernel
theorem dX10_init_96 : decode cX10_init 96 = .ok (.iconst 0, 1) := by decide +kernel
theorem dX10_init_97 : decode cX10_init 97 = .ok (.istore_n 1, 1) := by decide +kernel
theorem dX10_init_98 : decode cX10_init 98 = .ok (.iload_n 1, 1) := by decide +kernel
theorem dX10_init_99 : decode cX10_init 99 = .ok (.iconst 3, 1) := by decide +kernel
theorem dX10_init_100 : decode cX10_init 100 = .ok (.if_icmp .ge 22, 3) := by decide +kernel
theorem dX10_init_103 : decode cX10_init 103 = .ok (.aload_n 0, 1) := by decide +kernel
theorem dX10_init_104 : decode cX10_init 104 = .ok (.getfield 53, 3) := by decide +kernel
theorem dX10_init_107 : decode cX10_init 107 = .ok (.iload_n 1, 1) := by decide +kernel
theorem dX10_init_108 : decode cX10_init 108 = .ok (.new 51, 3) := by decide +kernel
theorem dX10_init_111 : decode cX10_init 111 = .ok (.dup, 1) := by decide +kernel
theorem dX10_init_112 : decode cX10_init 112 = .ok (.invokespecial 57, 3) := by decide +kernel
theorem dX10_init_115 : decode cX10_init 115 = .ok (.aastore, 1) := by decide +kernel
theorem dX10_init_116 : decode cX10_init 116 = .ok (.iinc 1 1, 3) := by decide +kernel
theorem dX10_init_119 : decode cX10_init 119 = .ok (.goto (-21), 3) := by decide +kernel
theorem dX10_init_122 : decode cX10_init 122 = .ok (.aload_n 0, 1) := by decide +kernel
theorem dX10_init_123 : decode cX10_init 123 = .ok (.iconst 0, 1) := by decide +kernel
theorem dX10_init_124 : decode cX10_init 124 = .ok (.putfield 58, 3) := by decide +kernel
theorem dX10_init_127 : decode cX10_init 127 = .ok (.aload_n 0, 1) := by decide +kernel
theorem dX10_init_128 : decode cX10_init 128 = .ok (.iconst (-1), 1) := by decide +kernel
theorem dX10_init_129 : decode cX10_init 129 = .ok (.putfield 62, 3) := by decide +kernel
theorem dX10_init_132 : decode cX10_init 132 = .ok (.return_, 1) := by decide +kernel
theorem dX10_feed_0 : decode cX10_feed 0 = .ok (.aload_n 0, 1) := by decide +kernel
theorem dX10_feed_1 : decode cX10_feed 1 = .ok (.getfield 28, 3) := by decide +kernel
theorem dX10_feed_4 : decode cX10_feed 4 = .ok (.getfield 65, 3) := by decide +kernel
theorem dX10_feed_7 : decode cX10_feed 7 = .ok (.sipush 780, 3) := by decide +kernel
theorem dX10_feed_10 : decode cX10_feed 10 = .ok (.if_icmp .le 5, 3) := by decide +kernel
theorem dX10_feed_13 : decode cX10_feed 13 = .ok (.iconst (-1), 1) := by decide +kernel
theorem dX10_feed_14 : decode cX10_feed 14 = .ok (.ireturn, 1) := by decide +kernel
theorem dX10_feed_15 : decode cX10_feed 15 = .ok (.aload_n 0, 1) := by decide +kernel
theorem dX10_feed_16 : decode cX10_feed 16 = .ok (.getfield 28, 3) := by decide +kernel
theorem dX10_feed_19 : decode cX10_feed 19 = .ok (.iload_n 1, 1) := by decide +kernel
theorem dX10_feed_20 : decode cX10_feed 20 = .ok (.invokevirtual 68, 3) := by decide +kernel
theorem dX10_feed_23 : decode cX10_feed 23 = .ok (.aload_n 0, 1) := by decide +kernel
theorem dX10_feed_24 : decode cX10_feed 24 = .ok (.getfield 28, 3) := by decide +kernel
theorem dX10_feed_27 : decode cX10_feed 27 = .ok (.iload_n 2, 1) := by decide +kernel
theorem dX10_feed_28 : decode cX10_feed 28 = .ok (.invokevirtual 68, 3) := by decide +kernel
theorem dX10_feed_31 : decode cX10_feed 31 = .ok (.aload_n 0, 1) := by decide +kernel
theorem dX10_feed_32 : decode cX10_feed 32 = .ok (.getfield 28, 3) := by decide +kernel
theorem dX10_feed_35 : decode cX10_feed 35 = .ok (.iload_n 3, 1) := by decide +kernel
theorem dX10_feed_36 : decode cX10_feed 36 = .ok (.invokevirtual 68, 3) := by decide +kernel
theorem dX10_feed_39 : decode cX10_feed 39 = .ok (.aload_n 0, 1) := by decide +kernel
theorem dX10_feed_40 : decode cX10_feed 40 = .ok (.getfield 28, 3) := by decide +kernel
theorem dX10_feed_43 : decode cX10_feed 43 = .ok (.iload 4, 2) := by decide +kernel
theorem dX10_feed_45 : decode cX10_feed 45 = .ok (.invokevirtual 68, 3) := by decide +kernel
theorem dX10_feed_48 : decode cX10_feed 48 = .ok (.aload_n 0, 1) := by decide +kernel
theorem dX10_feed_49 : decode cX10_feed 49 = .ok (.getfield 28, 3) := by decide +kernel
theorem dX10_feed_52 : decode cX10_feed 52 = .ok (.iload 5, 2) := by decide +kernel
theorem dX10_feed_54 : decode cX10_feed 54 = .ok (.invokevirtual 68, 3) := by decide +kernel
theorem dX10_feed_57 : decode cX10_feed 57 = .ok (.aload_n 0, 1) := by decide +kernel
theorem dX10_feed_58 : decode cX10_feed 58 = .ok (.getfield 28, 3) := by decide +kernel
theorem dX10_feed_61 : decode cX10_feed 61 = .ok (.getfield 65, 3) := by decide +kernel
theorem dX10_feed_64 : decode cX10_feed 64 = .ok (.ireturn, 1) := by decide +kernel
theorem dX10_end_0 : decode cX10_end 0 = .ok (.iload_n 1, 1) := by decide +kernel
theorem dX10_end_1 : decode cX10_end 1 = .ok (.ifCond .lt 14, 3) := by decide +kernel
theorem dX10_end_4 : decode cX10_end 4 = .ok (.iload_n 1, 1) := by decide +kernel
theorem dX10_end_5 : decode cX10_end 5 = .ok (.aload_n 0, 1) := by decide +kernel
theorem dX10_end_6 : decode cX10_end 6 = .ok (.getfield 28, 3) := by decide +kernel
theorem dX10_end_9 : decode cX10_end 9 = .ok (.getfield 65, 3) := by decide +kernel
theorem dX10_end_12 : decode cX10_end 12 = .ok (.if_icmp .le 5, 3) := by decide +kernel
theorem dX10_end_15 : decode cX10_end 15 = .ok (.iconst (-1), 1) := by decide +kernel
theorem dX10_end_16 : decode cX10_end 16 = .ok (.ireturn, 1) := by decide +kernel
theorem dX10_end_17 : decode cX10_end 17 = .ok (.aload_n 0, 1) := by decide +kernel
theorem dX10_end_18 : decode cX10_end 18 = .ok (.getfield 28, 3) := by decide +kernel
theorem dX10_end_21 : decode cX10_end 21 = .ok (.iload_n 1, 1) := by decide +kernel
theorem dX10_end_22 : decode cX10_end 22 = .ok (.putfield 65, 3) := by decide +kernel
theorem dX10_end_25 : decode cX10_end 25 = .ok (.iload_n 1, 1) := by decide +kernel
theorem dX10_end_26 : decode cX10_end 26 = .ok (.ireturn, 1) := by decide +kernel
theorem dX10_text_0 : decode cX10_text 0 = .ok (.aload_n 0, 1) := by decide +kernel
theorem dX10_text_1 : decode cX10_text 1 = .ok (.getfield 47, 3) := by decide +kernel
theorem dX10_text_4 : decode cX10_text 4 = .ok (.aload_n 0, 1) := by decide +kernel
theorem dX10_text_5 : decode cX10_text 5 = .ok (.getfield 10, 3) := by decide +kernel
theorem dX10_text_8 : decode cX10_text 8 = .ok (.invokevirtual 72, 3) := by decide +kernel
theorem dX10_text_11 : decode cX10_text 11 = .ok (.aload_n 0, 1) := by decide +kernel
theorem dX10_text_12 : decode cX10_text 12 = .ok (.getfield 10, 3) := by decide +kernel
theorem dX10_text_15 : decode cX10_text 15 = .ok (.invokevirtual 76, 3) := by decide +kernel
theorem dX10_text_18 : decode cX10_text 18 = .ok (.aload_n 0, 1) := by decide +kernel
theorem dX10_text_19 : decode cX10_text 19 = .ok (.getfield 40, 3) := by decide +kernel
theorem dX10_text_22 : decode cX10_text 22 = .ok (.invokevirtual 79, 3) := by decide +kernel
theorem dX10_text_25 : decode cX10_text 25 = .ok (.aload_n 0, 1) := by decide +kernel
theorem dX10_text_26 : decode cX10_text 26 = .ok (.getfield 28, 3) := by decide +kernel
theorem dX10_text_29 : decode cX10_text 29 = .ok (.iconst 0, 1) := by decide +kernel
theorem dX10_text_30 : decode cX10_text 30 = .ok (.putfield 65, 3) := by decide +kernel
theorem dX10_text_33 : decode cX10_text 33 = .ok (.aload_n 0, 1) := by decide +kernel
theorem dX10_text_34 : decode cX10_text 34 = .ok (.aload_n 0, 1) := by decide +kernel
theorem dX10_text_35 : decode cX10_text 35 = .ok (.getfield 40, 3) := by decide +kernel
theorem dX10_text_38 : decode cX10_text 38 = .ok (.getfield 82, 3) := by decide +kernel
theorem dX10_text_41 : decode cX10_text 41 = .ok (.putfield 58, 3) := by decide +kernel
theorem dX10_text_44 : decode cX10_text 44 = .ok (.aload_n 0, 1) := by decide +kernel
theorem dX10_text_45 : decode cX10_text 45 = .ok (.aload_n 0, 1) := by decide +kernel
theorem dX10_text_46 : decode cX10_text 46 = .ok (.getfield 40, 3) := by decide +kernel
theorem dX10_text_49 : decode cX10_text 49 = .ok (.getfield 83, 3) := by decide +kernel
theorem dX10_text_52 : decode cX10_text 52 = .ok (.putfield 62, 3) := by decide +kernel
theorem dX10_text_55 : decode cX10_text 55 = .ok (.aload_n 0, 1) := by decide +kernel
theorem dX10_text_56 : decode cX10_text 56 = .ok (.getfield 58, 3) := by decide +kernel
theorem dX10_text_59 : decode cX10_text 59 = .ok (.ifCond .eq 16, 3) := by decide +kernel
theorem dX10_text_62 : decode cX10_text 62 = .ok (.aload_n 0, 1) := by decide +kernel
theorem dX10_text_63 : decode cX10_text 63 = .ok (.getfield 47, 3) := by decide +kernel
theorem dX10_text_66 : decode cX10_text 66 = .ok (.aload_n 0, 1) := by decide +kernel
theorem dX10_text_67 : decode cX10_text 67 = .ok (.getfield 10, 3) := by decide +kernel
theorem dX10_text_70 : decode cX10_text 70 = .ok (.invokevirtual 84, 3) := by decide +kernel
theorem dX10_text_73 : decode cX10_text 73 = .ok (.iconst (-1), 1) := by decide +kernel
theorem dX10_text_74 : decode cX10_text 74 = .ok (.ireturn, 1) := by decide +kernel
theorem dX10_text_75 : decode cX10_text 75 = .ok (.aload_n 0, 1) := by decide +kernel
theorem dX10_text_76 : decode cX10_text 76 = .ok (.getfield 19, 3) := by decide +kernel
theorem dX10_text_79 : decode cX10_text 79 = .ok (.invokevirtual 87, 3) := by decide +kernel
theorem dX10_text_82 : decode cX10_text 82 = .ok (.aload_n 0, 1) := by decide +kernel
theorem dX10_text_83 : decode cX10_text 83 = .ok (.getfield 10, 3) := by decide +kernel
theorem dX10_text_86 : decode cX10_text 86 = .ok (.invokevirtual 90, 3) := by decide +kernel
theorem dX10_text_89 : decode cX10_text 89 = .ok (.ireturn, 1) := by decide +kernel
theorem dX10_fault_0 : decode cX10_fault 0 = .ok (.iload_n 1, 1) := by decide +kernel
theorem dX10_fault_1 : decode cX10_fault 1 = .ok (.lookupswitch 37 #[(0, 27), (1, 32)], 27) := by decide +kernel
theorem dX10_fault_28 : decode cX10_fault 28 = .ok (.aload_n 0, 1) := by decide +kernel
theorem dX10_fault_29 : decode cX10_fault 29 = .ok (.getfield 58, 3) := by decide +kernel
theorem dX10_fault_32 : decode cX10_fault 32 = .ok (.ireturn, 1) := by decide +kernel
theorem dX10_fault_33 : decode cX10_fault 33 = .ok (.aload_n 0, 1) := by decide +kernel
theorem dX10_fault_34 : decode cX10_fault 34 = .ok (.getfield 62, 3) := by decide +kernel
theorem dX10_fault_37 : decode cX10_fault 37 = .ok (.ireturn, 1) := by decide +kernel
theorem dX10_fault_38 : decode cX10_fault 38 = .ok (.iconst (-1), 1) := by decide +kernel
theorem dX10_fault_39 : decode cX10_fault 39 = .ok (.ireturn, 1) := by decide +kernel
theorem dX10_put_0 : decode cX10_put 0 = .ok (.aload_n 0, 1) := by decide +kernel
theorem dX10_put_1 : decode cX10_put 1 = .ok (.getfield 19, 3) := by decide +kernel
theorem dX10_put_4 : decode cX10_put 4 = .ok (.aload_n 0, 1) := by decide +kernel
theorem dX10_put_5 : decode cX10_put 5 = .ok (.getfield 10, 3) := by decide +kernel
theorem dX10_put_8 : decode cX10_put 8 = .ok (.invokevirtual 94, 3) := by decide +kernel
theorem dX10_put_11 : decode cX10_put 11 = .ok (.aload_n 0, 1) := by decide +kernel
theorem dX10_put_12 : decode cX10_put 12 = .ok (.getfield 19, 3) := by decide +kernel
theorem dX10_put_15 : decode cX10_put 15 = .ok (.aload_n 0, 1) := by decide +kernel
theorem dX10_put_16 : decode cX10_put 16 = .ok (.getfield 10, 3) := by decide +kernel
theorem dX10_put_19 : decode cX10_put 19 = .ok (.iload_n 1, 1) := by decide +kernel
theorem dX10_put_20 : decode cX10_put 20 = .ok (.iload_n 2, 1) := by decide +kernel
theorem dX10_put_21 : decode cX10_put 21 = .ok (.invokevirtual 97, 3) := by decide +kernel
theorem dX10_put_24 : decode cX10_put 24 = .ok (.invokevirtual 101, 3) := by decide +kernel
theorem dX10_put_27 : decode cX10_put 27 = .ok (.ireturn, 1) := by decide +kernel
theorem dX10_drop_0 : decode cX10_drop 0 = .ok (.aload_n 0, 1) := by decide +kernel
theorem dX10_drop_1 : decode cX10_drop 1 = .ok (.getfield 19, 3) := by decide +kernel
theorem dX10_drop_4 : decode cX10_drop 4 = .ok (.aload_n 0, 1) := by decide +kernel
theorem dX10_drop_5 : decode cX10_drop 5 = .ok (.getfield 10, 3) := by decide +kernel
theorem dX10_drop_8 : decode cX10_drop 8 = .ok (.invokevirtual 94, 3) := by decide +kernel
theorem dX10_drop_11 : decode cX10_drop 11 = .ok (.aload_n 0, 1) := by decide +kernel
theorem dX10_drop_12 : decode cX10_drop 12 = .ok (.getfield 19, 3) := by decide +kernel
theorem dX10_drop_15 : decode cX10_drop 15 = .ok (.aload_n 0, 1) := by decide +kernel
theorem dX10_drop_16 : decode cX10_drop 16 = .ok (.getfield 10, 3) := by decide +kernel
theorem dX10_drop_19 : decode cX10_drop 19 = .ok (.iload_n 1, 1) := by decide +kernel
theorem dX10_drop_20 : decode cX10_drop 20 = .ok (.iload_n 2, 1) := by decide +kernel
theorem dX10_drop_21 : decode cX10_drop 21 = .ok (.invokevirtual 105, 3) := by decide +kernel
theorem dX10_drop_24 : decode cX10_drop 24 = .ok (.invokevirtual 101, 3) := by decide +kernel
theorem dX10_drop_27 : decode cX10_drop 27 = .ok (.ireturn, 1) := by decide +kernel
theorem dX10_cut_0 : decode cX10_cut 0 = .ok (.aload_n 0, 1) := by decide +kernel
theorem dX10_cut_1 : decode cX10_cut 1 = .ok (.getfield 19, 3) := by decide +kernel
theorem dX10_cut_4 : decode cX10_cut 4 = .ok (.aload_n 0, 1) := by decide +kernel
theorem dX10_cut_5 : decode cX10_cut 5 = .ok (.getfield 10, 3) := by decide +kernel
theorem dX10_cut_8 : decode cX10_cut 8 = .ok (.invokevirtual 94, 3) := by decide +kernel
theorem dX10_cut_11 : decode cX10_cut 11 = .ok (.aload_n 0, 1) := by decide +kernel
theorem dX10_cut_12 : decode cX10_cut 12 = .ok (.getfield 19, 3) := by decide +kernel
theorem dX10_cut_15 : decode cX10_cut 15 = .ok (.aload_n 0, 1) := by decide +kernel
theorem dX10_cut_16 : decode cX10_cut 16 = .ok (.getfield 10, 3) := by decide +kernel
theorem dX10_cut_19 : decode cX10_cut 19 = .ok (.iload_n 1, 1) := by decide +kernel
theorem dX10_cut_20 : decode cX10_cut 20 = .ok (.iload_n 2, 1) := by decide +kernel
theorem dX10_cut_21 : decode cX10_cut 21 = .ok (.iload_n 3, 1) := by decide +kernel
theorem dX10_cut_22 : decode cX10_cut 22 = .ok (.invokevirtual 108, 3) := by decide +kernel
theorem dX10_cut_25 : decode cX10_cut 25 = .ok (.invokevirtual 101, 3) := by decide +kernel
theorem dX10_cut_28 : decode cX10_cut 28 = .ok (.ireturn, 1) := by decide +kernel
theorem dX10_join_0 : decode cX10_join 0 = .ok (.aload_n 0, 1) := by decide +kernel
theorem dX10_join_1 : decode cX10_join 1 = .ok (.getfield 19, 3) := by decide +kernel
theorem dX10_join_4 : decode cX10_join 4 = .ok (.aload_n 0, 1) := by decide +kernel
theorem dX10_join_5 : decode cX10_join 5 = .ok (.getfield 10, 3) := by decide +kernel
theorem dX10_join_8 : decode cX10_join 8 = .ok (.invokevirtual 94, 3) := by decide +kernel
theorem dX10_join_11 : decode cX10_join 11 = .ok (.aload_n 0, 1) := by decide +kernel
theorem dX10_join_12 : decode cX10_join 12 = .ok (.getfield 19, 3) := by decide +kernel
theorem dX10_join_15 : decode cX10_join 15 = .ok (.aload_n 0, 1) := by decide +kernel
theorem dX10_join_16 : decode cX10_join 16 = .ok (.getfield 10, 3) := by decide +kernel
theorem dX10_join_19 : decode cX10_join 19 = .ok (.iload_n 1, 1) := by decide +kernel
theorem dX10_join_20 : decode cX10_join 20 = .ok (.iload_n 2, 1) := by decide +kernel
theorem dX10_join_21 : decode cX10_join 21 = .ok (.invokevirtual 112, 3) := by decide +kernel
theorem dX10_join_24 : decode cX10_join 24 = .ok (.invokevirtual 101, 3) := by decide +kernel
theorem dX10_join_27 : decode cX10_join 27 = .ok (.ireturn, 1) := by decide +kernel
theorem dX10_melt_0 : decode cX10_melt 0 = .ok (.aload_n 0, 1) := by decide +kernel
theorem dX10_melt_1 : decode cX10_melt 1 = .ok (.getfield 19, 3) := by decide +kernel
theorem dX10_melt_4 : decode cX10_melt 4 = .ok (.aload_n 0, 1) := by decide +kernel
theorem dX10_melt_5 : decode cX10_melt 5 = .ok (.getfield 10, 3) := by decide +kernel
theorem dX10_melt_8 : decode cX10_melt 8 = .ok (.invokevirtual 94, 3) := by decide +kernel
theorem dX10_melt_11 : decode cX10_melt 11 = .ok (.aload_n 0, 1) := by decide +kernel
theorem dX10_melt_12 : decode cX10_melt 12 = .ok (.getfield 19, 3) := by decide +kernel
theorem dX10_melt_15 : decode cX10_melt 15 = .ok (.aload_n 0, 1) := by decide +kernel
theorem dX10_melt_16 : decode cX10_melt 16 = .ok (.getfield 10, 3) := by decide +kernel
theorem dX10_melt_19 : decode cX10_melt 19 = .ok (.iload_n 1, 1) := by decide +kernel
theorem dX10_melt_20 : decode cX10_melt 20 = .ok (.iload_n 2, 1) := by decide +kernel
theorem dX10_melt_21 : decode cX10_melt 21 = .ok (.invokevirtual 115, 3) := by decide +kernel
theorem dX10_melt_24 : decode cX10_melt 24 = .ok (.invokevirtual 101, 3) := by decide +kernel
theorem dX10_melt_27 : decode cX10_melt 27 = .ok (.ireturn, 1) := by decide +kernel
theorem dX10_shift_0 : decode cX10_shift 0 = .ok (.aload_n 0, 1) := by decide +kernel
theorem dX10_shift_1 : decode cX10_shift 1 = .ok (.getfield 19, 3) := by decide +kernel
theorem dX10_shift_4 : decode cX10_shift 4 = .ok (.aload_n 0, 1) := by decide +kernel
theorem dX10_shift_5 : decode cX10_shift 5 = .ok (.getfield 10, 3) := by decide +kernel
theorem dX10_shift_8 : decode cX10_shift 8 = .ok (.invokevirtual 94, 3) := by decide +kernel
theorem dX10_shift_11 : decode cX10_shift 11 = .ok (.aload_n 0, 1) := by decide +kernel
theorem dX10_shift_12 : decode cX10_shift 12 = .ok (.getfield 19, 3) := by decide +kernel
theorem dX10_shift_15 : decode cX10_shift 15 = .ok (.aload_n 0, 1) := by decide +kernel
theorem dX10_shift_16 : decode cX10_shift 16 = .ok (.getfield 10, 3) := by decide +kernel
theorem dX10_shift_19 : decode cX10_shift 19 = .ok (.iload_n 1, 1) := by decide +kernel
theorem dX10_shift_20 : decode cX10_shift 20 = .ok (.iload_n 2, 1) := by decide +kernel
theorem dX10_shift_21 : decode cX10_shift 21 = .ok (.invokevirtual 118, 3) := by decide +kernel
theorem dX10_shift_24 : decode cX10_shift 24 = .ok (.invokevirtual 101, 3) := by decide +kernel
theorem dX10_shift_27 : decode cX10_shift 27 = .ok (.ireturn, 1) := by decide +kernel
theorem dX10_move_0 : decode cX10_move 0 = .ok (.aload_n 0, 1) := by decide +kernel
theorem dX10_move_1 : decode cX10_move 1 = .ok (.getfield 19, 3) := by decide +kernel
theorem dX10_move_4 : decode cX10_move 4 = .ok (.aload_n 0, 1) := by decide +kernel
theorem dX10_move_5 : decode cX10_move 5 = .ok (.getfield 10, 3) := by decide +kernel
theorem dX10_move_8 : decode cX10_move 8 = .ok (.invokevirtual 94, 3) := by decide +kernel
theorem dX10_move_11 : decode cX10_move 11 = .ok (.aload_n 0, 1) := by decide +kernel
theorem dX10_move_12 : decode cX10_move 12 = .ok (.getfield 19, 3) := by decide +kernel
theorem dX10_move_15 : decode cX10_move 15 = .ok (.aload_n 0, 1) := by decide +kernel
theorem dX10_move_16 : decode cX10_move 16 = .ok (.getfield 10, 3) := by decide +kernel
theorem dX10_move_19 : decode cX10_move 19 = .ok (.iload_n 1, 1) := by decide +kernel
theorem dX10_move_20 : decode cX10_move 20 = .ok (.iload_n 2, 1) := by decide +kernel
theorem dX10_move_21 : decode cX10_move 21 = .ok (.iload_n 3, 1) := by decide +kernel
theorem dX10_move_22 : decode cX10_move 22 = .ok (.iload 4, 2) := by decide +kernel
theorem dX10_move_24 : decode cX10_move 24 = .ok (.invokevirtual 121, 3) := by decide +kernel
theorem dX10_move_27 : decode cX10_move 27 = .ok (.invokevirtual 101, 3) := by decide +kernel
theorem dX10_move_30 : decode cX10_move 30 = .ok (.ireturn, 1) := by decide +kernel
theorem dX10_mark_0 : decode cX10_mark 0 = .ok (.aload_n 0, 1) := by decide +kernel
theorem dX10_mark_1 : decode cX10_mark 1 = .ok (.getfield 19, 3) := by decide +kernel
theorem dX10_mark_4 : decode cX10_mark 4 = .ok (.aload_n 0, 1) := by decide +kernel
theorem dX10_mark_5 : decode cX10_mark 5 = .ok (.getfield 10, 3) := by decide +kernel
theorem dX10_mark_8 : decode cX10_mark 8 = .ok (.invokevirtual 94, 3) := by decide +kernel
theorem dX10_mark_11 : decode cX10_mark 11 = .ok (.aload_n 0, 1) := by decide +kernel
theorem dX10_mark_12 : decode cX10_mark 12 = .ok (.getfield 19, 3) := by decide +kernel
theorem dX10_mark_15 : decode cX10_mark 15 = .ok (.aload_n 0, 1) := by decide +kernel
theorem dX10_mark_16 : decode cX10_mark 16 = .ok (.getfield 10, 3) := by decide +kernel
theorem dX10_mark_19 : decode cX10_mark 19 = .ok (.iload_n 1, 1) := by decide +kernel
theorem dX10_mark_20 : decode cX10_mark 20 = .ok (.iload_n 2, 1) := by decide +kernel
theorem dX10_mark_21 : decode cX10_mark 21 = .ok (.iload_n 3, 1) := by decide +kernel
theorem dX10_mark_22 : decode cX10_mark 22 = .ok (.iload 4, 2) := by decide +kernel
theorem dX10_mark_24 : decode cX10_mark 24 = .ok (.ifCond .ne 7, 3) := by decide +kernel
theorem dX10_mark_27 : decode cX10_mark 27 = .ok (.iconst 1, 1) := by decide +kernel
theorem dX10_mark_28 : decode cX10_mark 28 = .ok (.goto 4, 3) := by decide +kernel
theorem dX10_mark_31 : decode cX10_mark 31 = .ok (.iconst 0, 1) := by decide +kernel
theorem dX10_mark_32 : decode cX10_mark 32 = .ok (.invokevirtual 125, 3) := by decide +kernel
theorem dX10_mark_35 : decode cX10_mark 35 = .ok (.invokevirtual 101, 3) := by decide +kernel
theorem dX10_mark_38 : decode cX10_mark 38 = .ok (.ireturn, 1) := by decide +kernel
theorem dX10_seek_0 : decode cX10_seek 0 = .ok (.aload_n 0, 1) := by decide +kernel
theorem dX10_seek_1 : decode cX10_seek 1 = .ok (.getfield 19, 3) := by decide +kernel
theorem dX10_seek_4 : decode cX10_seek 4 = .ok (.aload_n 0, 1) := by decide +kernel
theorem dX10_seek_5 : decode cX10_seek 5 = .ok (.getfield 10, 3) := by decide +kernel
theorem dX10_seek_8 : decode cX10_seek 8 = .ok (.invokevirtual 94, 3) := by decide +kernel
theorem dX10_seek_11 : decode cX10_seek 11 = .ok (.aload_n 0, 1) := by decide +kernel
theorem dX10_seek_12 : decode cX10_seek 12 = .ok (.getfield 19, 3) := by decide +kernel
theorem dX10_seek_15 : decode cX10_seek 15 = .ok (.aload_n 0, 1) := by decide +kernel
theorem dX10_seek_16 : decode cX10_seek 16 = .ok (.getfield 10, 3) := by decide +kernel
theorem dX10_seek_19 : decode cX10_seek 19 = .ok (.iload_n 1, 1) := by decide +kernel
theorem dX10_seek_20 : decode cX10_seek 20 = .ok (.iload_n 2, 1) := by decide +kernel
theorem dX10_seek_21 : decode cX10_seek 21 = .ok (.invokevirtual 129, 3) := by decide +kernel
theorem dX10_seek_24 : decode cX10_seek 24 = .ok (.invokevirtual 101, 3) := by decide +kernel
theorem dX10_seek_27 : decode cX10_seek 27 = .ok (.ireturn, 1) := by decide +kernel
theorem dX10_undo_0 : decode cX10_undo 0 = .ok (.aload_n 0, 1) := by decide +kernel
theorem dX10_undo_1 : decode cX10_undo 1 = .ok (.getfield 19, 3) := by decide +kernel
theorem dX10_undo_4 : decode cX10_undo 4 = .ok (.getfield 132, 3) := by decide +kernel
theorem dX10_undo_7 : decode cX10_undo 7 = .ok (.ifCond .ne 5, 3) := by decide +kernel
theorem dX10_undo_10 : decode cX10_undo 10 = .ok (.iconst (-1), 1) := by decide +kernel
theorem dX10_undo_11 : decode cX10_undo 11 = .ok (.ireturn, 1) := by decide +kernel
theorem dX10_undo_12 : decode cX10_undo 12 = .ok (.aload_n 0, 1) := by decide +kernel
theorem dX10_undo_13 : decode cX10_undo 13 = .ok (.getfield 19, 3) := by decide +kernel
theorem dX10_undo_16 : decode cX10_undo 16 = .ok (.aload_n 0, 1) := by decide +kernel
theorem dX10_undo_17 : decode cX10_undo 17 = .ok (.getfield 10, 3) := by decide +kernel
theorem dX10_undo_20 : decode cX10_undo 20 = .ok (.invokevirtual 135, 3) := by decide +kernel
theorem dX10_undo_23 : decode cX10_undo 23 = .ok (.aload_n 0, 1) := by decide +kernel
theorem dX10_undo_24 : decode cX10_undo 24 = .ok (.getfield 19, 3) := by decide +kernel
theorem dX10_undo_27 : decode cX10_undo 27 = .ok (.getfield 132, 3) := by decide +kernel
theorem dX10_undo_30 : decode cX10_undo 30 = .ok (.ireturn, 1) := by decide +kernel
theorem dX10_set_0 : decode cX10_set 0 = .ok (.aload_n 0, 1) := by decide +kernel
theorem dX10_set_1 : decode cX10_set 1 = .ok (.getfield 10, 3) := by decide +kernel
theorem dX10_set_4 : decode cX10_set 4 = .ok (.iload_n 1, 1) := by decide +kernel
theorem dX10_set_5 : decode cX10_set 5 = .ok (.invokevirtual 138, 3) := by decide +kernel
theorem dX10_set_8 : decode cX10_set 8 = .ok (.astore_n 3, 1) := by decide +kernel
theorem dX10_set_9 : decode cX10_set 9 = .ok (.aload_n 3, 1) := by decide +kernel
theorem dX10_set_10 : decode cX10_set 10 = .ok (.ifnonnull 5, 3) := by decide +kernel
theorem dX10_set_13 : decode cX10_set 13 = .ok (.iconst (-1), 1) := by decide +kernel
theorem dX10_set_14 : decode cX10_set 14 = .ok (.ireturn, 1) := by decide +kernel
theorem dX10_set_15 : decode cX10_set 15 = .ok (.iload_n 2, 1) := by decide +kernel
theorem dX10_set_16 : decode cX10_set 16 = .ok (.tableswitch 147 0 10 #[60, 65, 71, 82, 91, 103, 115, 120, 125, 137, 142], 60) := by decide +kernel
theorem dX10_set_76 : decode cX10_set 76 = .ok (.aload_n 3, 1) := by decide +kernel
theorem dX10_set_77 : decode cX10_set 77 = .ok (.getfield 142, 3) := by decide +kernel
theorem dX10_set_80 : decode cX10_set 80 = .ok (.ireturn, 1) := by decide +kernel
theorem dX10_set_81 : decode cX10_set 81 = .ok (.aload_n 3, 1) := by decide +kernel
theorem dX10_set_82 : decode cX10_set 82 = .ok (.iconst 0, 1) := by decide +kernel
theorem dX10_set_83 : decode cX10_set 83 = .ok (.invokevirtual 147, 3) := by decide +kernel
theorem dX10_set_86 : decode cX10_set 86 = .ok (.ireturn, 1) := by decide +kernel
theorem dX10_set_87 : decode cX10_set 87 = .ok (.aload_n 3, 1) := by decide +kernel
theorem dX10_set_88 : decode cX10_set 88 = .ok (.aload_n 3, 1) := by decide +kernel
theorem dX10_set_89 : decode cX10_set 89 = .ok (.getfield 142, 3) := by decide +kernel
theorem dX10_set_92 : decode cX10_set 92 = .ok (.iconst 1, 1) := by decide +kernel
theorem dX10_set_93 : decode cX10_set 93 = .ok (.isub, 1) := by decide +kernel
theorem dX10_set_94 : decode cX10_set 94 = .ok (.invokevirtual 147, 3) := by decide +kernel
theorem dX10_set_97 : decode cX10_set 97 = .ok (.ireturn, 1) := by decide +kernel
theorem dX10_set_98 : decode cX10_set 98 = .ok (.aload_n 3, 1) := by decide +kernel
theorem dX10_set_99 : decode cX10_set 99 = .ok (.iconst 0, 1) := by decide +kernel
theorem dX10_set_100 : decode cX10_set 100 = .ok (.sipush 9999, 3) := by decide +kernel
theorem dX10_set_103 : decode cX10_set 103 = .ok (.invokevirtual 150, 3) := by decide +kernel
theorem dX10_set_106 : decode cX10_set 106 = .ok (.ireturn, 1) := by decide +kernel
theorem dX10_set_107 : decode cX10_set 107 = .ok (.aload_n 0, 1) := by decide +kernel
theorem dX10_set_108 : decode cX10_set 108 = .ok (.getfield 10, 3) := by decide +kernel
theorem dX10_set_111 : decode cX10_set 111 = .ok (.aload_n 3, 1) := by decide +kernel
theorem dX10_set_112 : decode cX10_set 112 = .ok (.invokevirtual 153, 3) := by decide +kernel
theorem dX10_set_115 : decode cX10_set 115 = .ok (.invokevirtual 157, 3) := by decide +kernel
theorem dX10_set_118 : decode cX10_set 118 = .ok (.ireturn, 1) := by decide +kernel
theorem dX10_set_119 : decode cX10_set 119 = .ok (.aload_n 0, 1) := by decide +kernel
theorem dX10_set_120 : decode cX10_set 120 = .ok (.getfield 10, 3) := by decide +kernel
theorem dX10_set_123 : decode cX10_set 123 = .ok (.aload_n 3, 1) := by decide +kernel
theorem dX10_set_124 : decode cX10_set 124 = .ok (.invokevirtual 153, 3) := by decide +kernel
theorem dX10_set_127 : decode cX10_set 127 = .ok (.invokevirtual 162, 3) := by decide +kernel
theorem dX10_set_130 : decode cX10_set 130 = .ok (.ireturn, 1) := by decide +kernel
theorem dX10_set_131 : decode cX10_set 131 = .ok (.aload_n 3, 1) := by decide +kernel
theorem dX10_set_132 : decode cX10_set 132 = .ok (.getfield 165, 3) := by decide +kernel
theorem dX10_set_135 : decode cX10_set 135 = .ok (.ireturn, 1) := by decide +kernel
theorem dX10_set_136 : decode cX10_set 136 = .ok (.aload_n 3, 1) := by decide +kernel
theorem dX10_set_137 : decode cX10_set 137 = .ok (.invokevirtual 168, 3) := by decide +kernel
theorem dX10_set_140 : decode cX10_set 140 = .ok (.ireturn, 1) := by decide +kernel
theorem dX10_set_141 : decode cX10_set 141 = .ok (.aload_n 0, 1) := by decide +kernel
theorem dX10_set_142 : decode cX10_set 142 = .ok (.getfield 10, 3) := by decide +kernel
theorem dX10_set_145 : decode cX10_set 145 = .ok (.aload_n 3, 1) := by decide +kernel
theorem dX10_set_146 : decode cX10_set 146 = .ok (.invokevirtual 153, 3) := by decide +kernel
theorem dX10_set_149 : decode cX10_set 149 = .ok (.invokevirtual 171, 3) := by decide +kernel
theorem dX10_set_152 : decode cX10_set 152 = .ok (.ireturn, 1) := by decide +kernel
theorem dX10_set_153 : decode cX10_set 153 = .ok (.aload_n 3, 1) := by decide +kernel
theorem dX10_set_154 : decode cX10_set 154 = .ok (.invokevirtual 174, 3) := by decide +kernel
theorem dX10_set_157 : decode cX10_set 157 = .ok (.ireturn, 1) := by decide +kernel
theorem dX10_set_158 : decode cX10_set 158 = .ok (.aload_n 3, 1) := by decide +kernel
theorem dX10_set_159 : decode cX10_set 159 = .ok (.invokevirtual 177, 3) := by decide +kernel
theorem dX10_set_162 : decode cX10_set 162 = .ok (.ireturn, 1) := by decide +kernel
theorem dX10_set_163 : decode cX10_set 163 = .ok (.iconst (-1), 1) := by decide +kernel
theorem dX10_set_164 : decode cX10_set 164 = .ok (.ireturn, 1) := by decide +kernel
theorem dX10_key_0 : decode cX10_key 0 = .ok (.aload_n 0, 1) := by decide +kernel
theorem dX10_key_1 : decode cX10_key 1 = .ok (.getfield 10, 3) := by decide +kernel
theorem dX10_key_4 : decode cX10_key 4 = .ok (.iload_n 1, 1) := by decide +kernel
theorem dX10_key_5 : decode cX10_key 5 = .ok (.invokevirtual 138, 3) := by decide +kernel
theorem dX10_key_8 : decode cX10_key 8 = .ok (.astore_n 3, 1) := by decide +kernel
theorem dX10_key_9 : decode cX10_key 9 = .ok (.aload_n 3, 1) := by decide +kernel
theorem dX10_key_10 : decode cX10_key 10 = .ok (.ifnonnull 7, 3) := by decide +kernel
theorem dX10_key_13 : decode cX10_key 13 = .ok (.iconst (-1), 1) := by decide +kernel
theorem dX10_key_14 : decode cX10_key 14 = .ok (.goto 8, 3) := by decide +kernel
theorem dX10_key_17 : decode cX10_key 17 = .ok (.aload_n 3, 1) := by decide +kernel
theorem dX10_key_18 : decode cX10_key 18 = .ok (.iload_n 2, 1) := by decide +kernel
theorem dX10_key_19 : decode cX10_key 19 = .ok (.invokevirtual 147, 3) := by decide +kernel
theorem dX10_key_22 : decode cX10_key 22 = .ok (.ireturn, 1) := by decide +kernel
theorem dX10_of_0 : decode cX10_of 0 = .ok (.aload_n 0, 1) := by decide +kernel
theorem dX10_of_1 : decode cX10_of 1 = .ok (.getfield 10, 3) := by decide +kernel
theorem dX10_of_4 : decode cX10_of 4 = .ok (.iload_n 1, 1) := by decide +kernel
theorem dX10_of_5 : decode cX10_of 5 = .ok (.invokevirtual 138, 3) := by decide +kernel
theorem dX10_of_8 : decode cX10_of 8 = .ok (.astore 4, 2) := by decide +kernel
theorem dX10_of_10 : decode cX10_of 10 = .ok (.aload 4, 2) := by decide +kernel
theorem dX10_of_12 : decode cX10_of 12 = .ok (.ifnonnull 7, 3) := by decide +kernel
theorem dX10_of_15 : decode cX10_of 15 = .ok (.iconst (-1), 1) := by decide +kernel
theorem dX10_of_16 : decode cX10_of 16 = .ok (.goto 9, 3) := by decide +kernel
theorem dX10_of_19 : decode cX10_of 19 = .ok (.aload 4, 2) := by decide +kernel
theorem dX10_of_21 : decode cX10_of 21 = .ok (.iload_n 2, 1) := by decide +kernel
theorem dX10_of_22 : decode cX10_of 22 = .ok (.invokevirtual 180, 3) := by decide +kernel
theorem dX10_of_25 : decode cX10_of 25 = .ok (.istore 5, 2) := by decide +kernel
theorem dX10_of_27 : decode cX10_of 27 = .ok (.aload 4, 2) := by decide +kernel
theorem dX10_of_29 : decode cX10_of 29 = .ok (.ifnull 9, 3) := by decide +kernel
theorem dX10_of_32 : decode cX10_of 32 = .ok (.iload 5, 2) := by decide +kernel
theorem dX10_of_34 : decode cX10_of 34 = .ok (.iconst (-1), 1) := by decide +kernel
theorem dX10_of_35 : decode cX10_of 35 = .ok (.if_icmp .ne 5, 3) := by decide +kernel
theorem dX10_of_38 : decode cX10_of 38 = .ok (.iconst (-1), 1) := by decide +kernel
theorem dX10_of_39 : decode cX10_of 39 = .ok (.ireturn, 1) := by decide +kernel
theorem dX10_of_40 : decode cX10_of 40 = .ok (.iload_n 3, 1) := by decide +kernel
theorem dX10_of_41 : decode cX10_of 41 = .ok (.tableswitch 138 0 7 #[47, 50, 58, 73, 88, 103, 118, 123], 47) := by decide +kernel
theorem dX10_of_88 : decode cX10_of 88 = .ok (.iload 5, 2) := by decide +kernel
theorem dX10_of_90 : decode cX10_of 90 = .ok (.ireturn, 1) := by decide +kernel
theorem dX10_of_91 : decode cX10_of 91 = .ok (.aload 4, 2) := by decide +kernel
theorem dX10_of_93 : decode cX10_of 93 = .ok (.iload 5, 2) := by decide +kernel
theorem dX10_of_95 : decode cX10_of 95 = .ok (.invokevirtual 183, 3) := by decide +kernel
theorem dX10_of_98 : decode cX10_of 98 = .ok (.ireturn, 1) := by decide +kernel
theorem dX10_of_99 : decode cX10_of 99 = .ok (.aload_n 0, 1) := by decide +kernel
theorem dX10_of_100 : decode cX10_of 100 = .ok (.getfield 10, 3) := by decide +kernel
theorem dX10_of_103 : decode cX10_of 103 = .ok (.aload 4, 2) := by decide +kernel
theorem dX10_of_105 : decode cX10_of 105 = .ok (.invokevirtual 153, 3) := by decide +kernel
theorem dX10_of_108 : decode cX10_of 108 = .ok (.iload 5, 2) := by decide +kernel
theorem dX10_of_110 : decode cX10_of 110 = .ok (.invokevirtual 186, 3) := by decide +kernel
theorem dX10_of_113 : decode cX10_of 113 = .ok (.ireturn, 1) := by decide +kernel
theorem dX10_of_114 : decode cX10_of 114 = .ok (.aload_n 0, 1) := by decide +kernel
theorem dX10_of_115 : decode cX10_of 115 = .ok (.getfield 10, 3) := by decide +kernel
theorem dX10_of_118 : decode cX10_of 118 = .ok (.aload 4, 2) := by decide +kernel
theorem dX10_of_120 : decode cX10_of 120 = .ok (.invokevirtual 153, 3) := by decide +kernel
theorem dX10_of_123 : decode cX10_of 123 = .ok (.iload 5, 2) := by decide +kernel
theorem dX10_of_125 : decode cX10_of 125 = .ok (.invokevirtual 189, 3) := by decide +kernel
theorem dX10_of_128 : decode cX10_of 128 = .ok (.ireturn, 1) := by decide +kernel
theorem dX10_of_129 : decode cX10_of 129 = .ok (.aload_n 0, 1) := by decide +kernel
theorem dX10_of_130 : decode cX10_of 130 = .ok (.getfield 10, 3) := by decide +kernel
theorem dX10_of_133 : decode cX10_of 133 = .ok (.aload 4, 2) := by decide +kernel
theorem dX10_of_135 : decode cX10_of 135 = .ok (.invokevirtual 153, 3) := by decide +kernel
theorem dX10_of_138 : decode cX10_of 138 = .ok (.iload 5, 2) := by decide +kernel
theorem dX10_of_140 : decode cX10_of 140 = .ok (.invokevirtual 192, 3) := by decide +kernel
theorem dX10_of_143 : decode cX10_of 143 = .ok (.ireturn, 1) := by decide +kernel
theorem dX10_of_144 : decode cX10_of 144 = .ok (.aload_n 0, 1) := by decide +kernel
theorem dX10_of_145 : decode cX10_of 145 = .ok (.getfield 10, 3) := by decide +kernel
theorem dX10_of_148 : decode cX10_of 148 = .ok (.aload 4, 2) := by decide +kernel
theorem dX10_of_150 : decode cX10_of 150 = .ok (.invokevirtual 153, 3) := by decide +kernel
theorem dX10_of_153 : decode cX10_of 153 = .ok (.iload 5, 2) := by decide +kernel
theorem dX10_of_155 : decode cX10_of 155 = .ok (.invokevirtual 195, 3) := by decide +kernel
theorem dX10_of_158 : decode cX10_of 158 = .ok (.ireturn, 1) := by decide +kernel
theorem dX10_of_159 : decode cX10_of 159 = .ok (.iload_n 2, 1) := by decide +kernel
theorem dX10_of_160 : decode cX10_of 160 = .ok (.invokestatic 198, 3) := by decide +kernel
theorem dX10_of_163 : decode cX10_of 163 = .ok (.ireturn, 1) := by decide +kernel
theorem dX10_of_164 : decode cX10_of 164 = .ok (.aload_n 0, 1) := by decide +kernel
theorem dX10_of_165 : decode cX10_of 165 = .ok (.getfield 10, 3) := by decide +kernel
theorem dX10_of_168 : decode cX10_of 168 = .ok (.aload 4, 2) := by decide +kernel
theorem dX10_of_170 : decode cX10_of 170 = .ok (.invokevirtual 153, 3) := by decide +kernel
theorem dX10_of_173 : decode cX10_of 173 = .ok (.iload 5, 2) := by decide +kernel
theorem dX10_of_175 : decode cX10_of 175 = .ok (.invokevirtual 201, 3) := by decide +kernel
theorem dX10_of_178 : decode cX10_of 178 = .ok (.ireturn, 1) := by decide +kernel
theorem dX10_of_179 : decode cX10_of 179 = .ok (.iconst (-1), 1) := by decide +kernel
theorem dX10_of_180 : decode cX10_of 180 = .ok (.ireturn, 1) := by decide +kernel
theorem dX10_within_0 : decode cX10_within 0 = .ok (.aload_n 0, 1) := by decide +kernel
theorem dX10_within_1 : decode cX10_within 1 = .ok (.getfield 10, 3) := by decide +kernel
theorem dX10_within_4 : decode cX10_within 4 = .ok (.iload_n 1, 1) := by decide +kernel
theorem dX10_within_5 : decode cX10_within 5 = .ok (.invokevirtual 138, 3) := by decide +kernel
theorem dX10_within_8 : decode cX10_within 8 = .ok (.astore 5, 2) := by decide +kernel
theorem dX10_within_10 : decode cX10_within 10 = .ok (.aload 5, 2) := by decide +kernel
theorem dX10_within_12 : decode cX10_within 12 = .ok (.ifnonnull 5, 3) := by decide +kernel
theorem dX10_within_15 : decode cX10_within 15 = .ok (.iconst (-1), 1) := by decide +kernel
theorem dX10_within_16 : decode cX10_within 16 = .ok (.ireturn, 1) := by decide +kernel
theorem dX10_within_17 : decode cX10_within 17 = .ok (.iload 4, 2) := by decide +kernel
theorem dX10_within_19 : decode cX10_within 19 = .ok (.ifCond .eq 13, 3) := by decide +kernel
theorem dX10_within_22 : decode cX10_within 22 = .ok (.aload 5, 2) := by decide +kernel
theorem dX10_within_24 : decode cX10_within 24 = .ok (.iload_n 2, 1) := by decide +kernel
theorem dX10_within_25 : decode cX10_within 25 = .ok (.iload_n 3, 1) := by decide +kernel
theorem dX10_within_26 : decode cX10_within 26 = .ok (.invokevirtual 150, 3) := by decide +kernel
theorem dX10_within_29 : decode cX10_within 29 = .ok (.goto 10, 3) := by decide +kernel
theorem dX10_within_32 : decode cX10_within 32 = .ok (.aload 5, 2) := by decide +kernel
theorem dX10_within_34 : decode cX10_within 34 = .ok (.iload_n 2, 1) := by decide +kernel
theorem dX10_within_35 : decode cX10_within 35 = .ok (.iload_n 3, 1) := by decide +kernel
theorem dX10_within_36 : decode cX10_within 36 = .ok (.invokevirtual 204, 3) := by decide +kernel
theorem dX10_within_39 : decode cX10_within 39 = .ok (.ireturn, 1) := by decide +kernel
theorem dX10_far_0 : decode cX10_far 0 = .ok (.aload_n 0, 1) := by decide +kernel
theorem dX10_far_1 : decode cX10_far 1 = .ok (.getfield 10, 3) := by decide +kernel
theorem dX10_far_4 : decode cX10_far 4 = .ok (.iload_n 1, 1) := by decide +kernel
theorem dX10_far_5 : decode cX10_far 5 = .ok (.invokevirtual 138, 3) := by decide +kernel
theorem dX10_far_8 : decode cX10_far 8 = .ok (.astore 4, 2) := by decide +kernel
theorem dX10_far_10 : decode cX10_far 10 = .ok (.aload 4, 2) := by decide +kernel
theorem dX10_far_12 : decode cX10_far 12 = .ok (.ifnonnull 7, 3) := by decide +kernel
theorem dX10_far_15 : decode cX10_far 15 = .ok (.iconst (-1), 1) := by decide +kernel
theorem dX10_far_16 : decode cX10_far 16 = .ok (.goto 27, 3) := by decide +kernel
theorem dX10_far_19 : decode cX10_far 19 = .ok (.aload_n 0, 1) := by decide +kernel
theorem dX10_far_20 : decode cX10_far 20 = .ok (.getfield 10, 3) := by decide +kernel
theorem dX10_far_23 : decode cX10_far 23 = .ok (.aload 4, 2) := by decide +kernel
theorem dX10_far_25 : decode cX10_far 25 = .ok (.invokevirtual 153, 3) := by decide +kernel
theorem dX10_far_28 : decode cX10_far 28 = .ok (.aload 4, 2) := by decide +kernel
theorem dX10_far_30 : decode cX10_far 30 = .ok (.iload_n 2, 1) := by decide +kernel
theorem dX10_far_31 : decode cX10_far 31 = .ok (.invokevirtual 180, 3) := by decide +kernel
theorem dX10_far_34 : decode cX10_far 34 = .ok (.aload 4, 2) := by decide +kernel
theorem dX10_far_36 : decode cX10_far 36 = .ok (.iload_n 3, 1) := by decide +kernel
theorem dX10_far_37 : decode cX10_far 37 = .ok (.invokevirtual 180, 3) := by decide +kernel
theorem dX10_far_40 : decode cX10_far 40 = .ok (.invokevirtual 207, 3) := by decide +kernel
theorem dX10_far_43 : decode cX10_far 43 = .ok (.ireturn, 1) := by decide +kernel
theorem dX10_where_0 : decode cX10_where 0 = .ok (.iconst 0, 1) := by decide +kernel
theorem dX10_where_1 : decode cX10_where 1 = .ok (.istore_n 2, 1) := by decide +kernel
theorem dX10_where_2 : decode cX10_where 2 = .ok (.iconst 0, 1) := by decide +kernel
theorem dX10_where_3 : decode cX10_where 3 = .ok (.istore_n 3, 1) := by decide +kernel
theorem dX10_where_4 : decode cX10_where 4 = .ok (.iload_n 3, 1) := by decide +kernel
theorem dX10_where_5 : decode cX10_where 5 = .ok (.bipush 8, 2) := by decide +kernel
theorem dX10_where_7 : decode cX10_where 7 = .ok (.if_icmp .ge 32, 3) := by decide +kernel
theorem dX10_where_10 : decode cX10_where 10 = .ok (.aload_n 0, 1) := by decide +kernel
theorem dX10_where_11 : decode cX10_where 11 = .ok (.getfield 10, 3) := by decide +kernel
theorem dX10_where_14 : decode cX10_where 14 = .ok (.getfield 210, 3) := by decide +kernel
theorem dX10_where_17 : decode cX10_where 17 = .ok (.iload_n 3, 1) := by decide +kernel
theorem dX10_where_18 : decode cX10_where 18 = .ok (.aaload, 1) := by decide +kernel
theorem dX10_where_19 : decode cX10_where 19 = .ok (.iload_n 1, 1) := by decide +kernel
theorem dX10_where_20 : decode cX10_where 20 = .ok (.invokevirtual 180, 3) := by decide +kernel
theorem dX10_where_23 : decode cX10_where 23 = .ok (.iconst (-1), 1) := by decide +kernel
theorem dX10_where_24 : decode cX10_where 24 = .ok (.if_icmp .eq 9, 3) := by decide +kernel
theorem dX10_where_27 : decode cX10_where 27 = .ok (.iload_n 2, 1) := by decide +kernel
theorem dX10_where_28 : decode cX10_where 28 = .ok (.iconst 1, 1) := by decide +kernel
theorem dX10_where_29 : decode cX10_where 29 = .ok (.iload_n 3, 1) := by decide +kernel
theorem dX10_where_30 : decode cX10_where 30 = .ok (.ishl, 1) := by decide +kernel
theorem dX10_where_31 : decode cX10_where 31 = .ok (.ior, 1) := by decide +kernel
theorem dX10_where_32 : decode cX10_where 32 = .ok (.istore_n 2, 1) := by decide +kernel
theorem dX10_where_33 : decode cX10_where 33 = .ok (.iinc 3 1, 3) := by decide +kernel
theorem dX10_where_36 : decode cX10_where 36 = .ok (.goto (-32), 3) := by decide +kernel
theorem dX10_where_39 : decode cX10_where 39 = .ok (.iload_n 2, 1) := by decide +kernel
theorem dX10_where_40 : decode cX10_where 40 = .ok (.ireturn, 1) := by decide +kernel
theorem dX10_count_0 : decode cX10_count 0 = .ok (.iload_n 1, 1) := by decide +kernel
theorem dX10_count_1 : decode cX10_count 1 = .ok (.tableswitch 111 0 7 #[47, 55, 63, 71, 79, 87, 95, 103], 47) := by decide +kernel
theorem dX10_count_48 : decode cX10_count 48 = .ok (.aload_n 0, 1) := by decide +kernel
theorem dX10_count_49 : decode cX10_count 49 = .ok (.getfield 10, 3) := by decide +kernel
theorem dX10_count_52 : decode cX10_count 52 = .ok (.invokevirtual 90, 3) := by decide +kernel
theorem dX10_count_55 : decode cX10_count 55 = .ok (.ireturn, 1) := by decide +kernel
theorem dX10_count_56 : decode cX10_count 56 = .ok (.aload_n 0, 1) := by decide +kernel
theorem dX10_count_57 : decode cX10_count 57 = .ok (.getfield 10, 3) := by decide +kernel
theorem dX10_count_60 : decode cX10_count 60 = .ok (.invokevirtual 214, 3) := by decide +kernel
theorem dX10_count_63 : decode cX10_count 63 = .ok (.ireturn, 1) := by decide +kernel
theorem dX10_count_64 : decode cX10_count 64 = .ok (.aload_n 0, 1) := by decide +kernel
theorem dX10_count_65 : decode cX10_count 65 = .ok (.getfield 10, 3) := by decide +kernel
theorem dX10_count_68 : decode cX10_count 68 = .ok (.invokevirtual 217, 3) := by decide +kernel
theorem dX10_count_71 : decode cX10_count 71 = .ok (.ireturn, 1) := by decide +kernel
theorem dX10_count_72 : decode cX10_count 72 = .ok (.aload_n 0, 1) := by decide +kernel
theorem dX10_count_73 : decode cX10_count 73 = .ok (.getfield 10, 3) := by decide +kernel
theorem dX10_count_76 : decode cX10_count 76 = .ok (.invokevirtual 220, 3) := by decide +kernel
theorem dX10_count_79 : decode cX10_count 79 = .ok (.ireturn, 1) := by decide +kernel
theorem dX10_count_80 : decode cX10_count 80 = .ok (.aload_n 0, 1) := by decide +kernel
theorem dX10_count_81 : decode cX10_count 81 = .ok (.getfield 19, 3) := by decide +kernel
theorem dX10_count_84 : decode cX10_count 84 = .ok (.getfield 132, 3) := by decide +kernel
theorem dX10_count_87 : decode cX10_count 87 = .ok (.ireturn, 1) := by decide +kernel
theorem dX10_count_88 : decode cX10_count 88 = .ok (.aload_n 0, 1) := by decide +kernel
theorem dX10_count_89 : decode cX10_count 89 = .ok (.getfield 28, 3) := by decide +kernel
theorem dX10_count_92 : decode cX10_count 92 = .ok (.getfield 65, 3) := by decide +kernel
theorem dX10_count_95 : decode cX10_count 95 = .ok (.ireturn, 1) := by decide +kernel
theorem dX10_count_96 : decode cX10_count 96 = .ok (.aload_n 0, 1) := by decide +kernel
theorem dX10_count_97 : decode cX10_count 97 = .ok (.getfield 10, 3) := by decide +kernel
theorem dX10_count_100 : decode cX10_count 100 = .ok (.invokevirtual 223, 3) := by decide +kernel
theorem dX10_count_103 : decode cX10_count 103 = .ok (.ireturn, 1) := by decide +kernel
theorem dX10_count_104 : decode cX10_count 104 = .ok (.aload_n 0, 1) := by decide +kernel
theorem dX10_count_105 : decode cX10_count 105 = .ok (.getfield 32, 3) := by decide +kernel
theorem dX10_count_108 : decode cX10_count 108 = .ok (.getfield 65, 3) := by decide +kernel
theorem dX10_count_111 : decode cX10_count 111 = .ok (.ireturn, 1) := by decide +kernel
theorem dX10_count_112 : decode cX10_count 112 = .ok (.iconst (-1), 1) := by decide +kernel
theorem dX10_count_113 : decode cX10_count 113 = .ok (.ireturn, 1) := by decide +kernel
theorem dX10_pair_0 : decode cX10_pair 0 = .ok (.aload_n 0, 1) := by decide +kernel
theorem dX10_pair_1 : decode cX10_pair 1 = .ok (.getfield 10, 3) := by decide +kernel
theorem dX10_pair_4 : decode cX10_pair 4 = .ok (.iload_n 1, 1) := by decide +kernel
theorem dX10_pair_5 : decode cX10_pair 5 = .ok (.invokevirtual 138, 3) := by decide +kernel
theorem dX10_pair_8 : decode cX10_pair 8 = .ok (.astore 4, 2) := by decide +kernel
theorem dX10_pair_10 : decode cX10_pair 10 = .ok (.aload_n 0, 1) := by decide +kernel
theorem dX10_pair_11 : decode cX10_pair 11 = .ok (.getfield 10, 3) := by decide +kernel
theorem dX10_pair_14 : decode cX10_pair 14 = .ok (.iload_n 2, 1) := by decide +kernel
theorem dX10_pair_15 : decode cX10_pair 15 = .ok (.invokevirtual 138, 3) := by decide +kernel
theorem dX10_pair_18 : decode cX10_pair 18 = .ok (.astore 5, 2) := by decide +kernel
theorem dX10_pair_20 : decode cX10_pair 20 = .ok (.aload 4, 2) := by decide +kernel
theorem dX10_pair_22 : decode cX10_pair 22 = .ok (.ifnull 13, 3) := by decide +kernel
theorem dX10_pair_25 : decode cX10_pair 25 = .ok (.aload 5, 2) := by decide +kernel
theorem dX10_pair_27 : decode cX10_pair 27 = .ok (.ifnull 8, 3) := by decide +kernel
theorem dX10_pair_30 : decode cX10_pair 30 = .ok (.iload_n 1, 1) := by decide +kernel
theorem dX10_pair_31 : decode cX10_pair 31 = .ok (.iload_n 2, 1) := by decide +kernel
theorem dX10_pair_32 : decode cX10_pair 32 = .ok (.if_icmp .ne 5, 3) := by decide +kernel
theorem dX10_pair_35 : decode cX10_pair 35 = .ok (.iconst (-1), 1) := by decide +kernel
theorem dX10_pair_36 : decode cX10_pair 36 = .ok (.ireturn, 1) := by decide +kernel
theorem dX10_pair_37 : decode cX10_pair 37 = .ok (.aload_n 0, 1) := by decide +kernel
theorem dX10_pair_38 : decode cX10_pair 38 = .ok (.getfield 10, 3) := by decide +kernel
theorem dX10_pair_41 : decode cX10_pair 41 = .ok (.aload 4, 2) := by decide +kernel
theorem dX10_pair_43 : decode cX10_pair 43 = .ok (.aload 5, 2) := by decide +kernel
theorem dX10_pair_45 : decode cX10_pair 45 = .ok (.invokevirtual 226, 3) := by decide +kernel
theorem dX10_pair_48 : decode cX10_pair 48 = .ok (.astore 6, 2) := by decide +kernel
theorem dX10_pair_50 : decode cX10_pair 50 = .ok (.iload_n 3, 1) := by decide +kernel
theorem dX10_pair_51 : decode cX10_pair 51 = .ok (.tableswitch 117 0 6 #[41, 47, 53, 59, 71, 77, 97], 41) := by decide +kernel
theorem dX10_pair_92 : decode cX10_pair 92 = .ok (.aload 6, 2) := by decide +kernel
theorem dX10_pair_94 : decode cX10_pair 94 = .ok (.getfield 230, 3) := by decide +kernel
theorem dX10_pair_97 : decode cX10_pair 97 = .ok (.ireturn, 1) := by decide +kernel
theorem dX10_pair_98 : decode cX10_pair 98 = .ok (.aload 6, 2) := by decide +kernel
theorem dX10_pair_100 : decode cX10_pair 100 = .ok (.getfield 235, 3) := by decide +kernel
theorem dX10_pair_103 : decode cX10_pair 103 = .ok (.ireturn, 1) := by decide +kernel
theorem dX10_pair_104 : decode cX10_pair 104 = .ok (.aload 6, 2) := by decide +kernel
theorem dX10_pair_106 : decode cX10_pair 106 = .ok (.getfield 238, 3) := by decide +kernel
theorem dX10_pair_109 : decode cX10_pair 109 = .ok (.ireturn, 1) := by decide +kernel
theorem dX10_pair_110 : decode cX10_pair 110 = .ok (.aload 6, 2) := by decide +kernel
theorem dX10_pair_112 : decode cX10_pair 112 = .ok (.getfield 241, 3) := by decide +kernel
theorem dX10_pair_115 : decode cX10_pair 115 = .ok (.aload 6, 2) := by decide +kernel
theorem dX10_pair_117 : decode cX10_pair 117 = .ok (.getfield 235, 3) := by decide +kernel
theorem dX10_pair_120 : decode cX10_pair 120 = .ok (.isub, 1) := by decide +kernel
theorem dX10_pair_121 : decode cX10_pair 121 = .ok (.ireturn, 1) := by decide +kernel
theorem dX10_pair_122 : decode cX10_pair 122 = .ok (.aload 6, 2) := by decide +kernel
theorem dX10_pair_124 : decode cX10_pair 124 = .ok (.getfield 244, 3) := by decide +kernel
theorem dX10_pair_127 : decode cX10_pair 127 = .ok (.ireturn, 1) := by decide +kernel
theorem dX10_pair_128 : decode cX10_pair 128 = .ok (.aload_n 0, 1) := by decide +kernel
theorem dX10_pair_129 : decode cX10_pair 129 = .ok (.getfield 10, 3) := by decide +kernel
theorem dX10_pair_132 : decode cX10_pair 132 = .ok (.aload 4, 2) := by decide +kernel
theorem dX10_pair_134 : decode cX10_pair 134 = .ok (.aload 5, 2) := by decide +kernel
theorem dX10_pair_136 : decode cX10_pair 136 = .ok (.invokevirtual 247, 3) := by decide +kernel
theorem dX10_pair_139 : decode cX10_pair 139 = .ok (.ifCond .ne 7, 3) := by decide +kernel
theorem dX10_pair_142 : decode cX10_pair 142 = .ok (.iconst 1, 1) := by decide +kernel
theorem dX10_pair_143 : decode cX10_pair 143 = .ok (.goto 4, 3) := by decide +kernel
theorem dX10_pair_146 : decode cX10_pair 146 = .ok (.iconst 0, 1) := by decide +kernel
theorem dX10_pair_147 : decode cX10_pair 147 = .ok (.ireturn, 1) := by decide +kernel
theorem dX10_pair_148 : decode cX10_pair 148 = .ok (.aload_n 0, 1) := by decide +kernel
theorem dX10_pair_149 : decode cX10_pair 149 = .ok (.getfield 10, 3) := by decide +kernel
theorem dX10_pair_152 : decode cX10_pair 152 = .ok (.aload 5, 2) := by decide +kernel
theorem dX10_pair_154 : decode cX10_pair 154 = .ok (.aload 6, 2) := by decide +kernel
theorem dX10_pair_156 : decode cX10_pair 156 = .ok (.invokevirtual 251, 3) := by decide +kernel
theorem dX10_pair_159 : decode cX10_pair 159 = .ok (.ifCond .ne 7, 3) := by decide +kernel
theorem dX10_pair_162 : decode cX10_pair 162 = .ok (.iconst 1, 1) := by decide +kernel
theorem dX10_pair_163 : decode cX10_pair 163 = .ok (.goto 4, 3) := by decide +kernel
theorem dX10_pair_166 : decode cX10_pair 166 = .ok (.iconst 0, 1) := by decide +kernel
theorem dX10_pair_167 : decode cX10_pair 167 = .ok (.ireturn, 1) := by decide +kernel
theorem dX10_pair_168 : decode cX10_pair 168 = .ok (.iconst (-1), 1) := by decide +kernel
theorem dX10_pair_169 : decode cX10_pair 169 = .ok (.ireturn, 1) := by decide +kernel
theorem dX10_cheapest_0 : decode cX10_cheapest 0 = .ok (.aload_n 0, 1) := by decide +kernel
theorem dX10_cheapest_1 : decode cX10_cheapest 1 = .ok (.getfield 10, 3) := by decide +kernel
theorem dX10_cheapest_4 : decode cX10_cheapest 4 = .ok (.invokevirtual 255, 3) := by decide +kernel
theorem dX10_cheapest_7 : decode cX10_cheapest 7 = .ok (.iload_n 1, 1) := by decide +kernel
theorem dX10_cheapest_8 : decode cX10_cheapest 8 = .ok (.tableswitch 52 0 2 #[28, 36, 44], 28) := by decide +kernel
theorem dX10_cheapest_36 : decode cX10_cheapest 36 = .ok (.aload_n 0, 1) := by decide +kernel
theorem dX10_cheapest_37 : decode cX10_cheapest 37 = .ok (.getfield 10, 3) := by decide +kernel
theorem dX10_cheapest_40 : decode cX10_cheapest 40 = .ok (.getfield 258, 3) := by decide +kernel
theorem dX10_cheapest_43 : decode cX10_cheapest 43 = .ok (.ireturn, 1) := by decide +kernel
theorem dX10_cheapest_44 : decode cX10_cheapest 44 = .ok (.aload_n 0, 1) := by decide +kernel
theorem dX10_cheapest_45 : decode cX10_cheapest 45 = .ok (.getfield 10, 3) := by decide +kernel
theorem dX10_cheapest_48 : decode cX10_cheapest 48 = .ok (.getfield 261, 3) := by decide +kernel
theorem dX10_cheapest_51 : decode cX10_cheapest 51 = .ok (.ireturn, 1) := by decide +kernel
theorem dX10_cheapest_52 : decode cX10_cheapest 52 = .ok (.aload_n 0, 1) := by decide +kernel
theorem dX10_cheapest_53 : decode cX10_cheapest 53 = .ok (.getfield 10, 3) := by decide +kernel
theorem dX10_cheapest_56 : decode cX10_cheapest 56 = .ok (.getfield 264, 3) := by decide +kernel
theorem dX10_cheapest_59 : decode cX10_cheapest 59 = .ok (.ireturn, 1) := by decide +kernel
theorem dX10_cheapest_60 : decode cX10_cheapest 60 = .ok (.iconst (-1), 1) := by decide +kernel
theorem dX10_cheapest_61 : decode cX10_cheapest 61 = .ok (.ireturn, 1) := by decide +kernel
theorem dX10_merged_0 : decode cX10_merged 0 = .ok (.iload_n 1, 1) := by decide +kernel
theorem dX10_merged_1 : decode cX10_merged 1 = .ok (.ifCond .lt 14, 3) := by decide +kernel
theorem dX10_merged_4 : decode cX10_merged 4 = .ok (.iload_n 1, 1) := by decide +kernel
theorem dX10_merged_5 : decode cX10_merged 5 = .ok (.aload_n 0, 1) := by decide +kernel
theorem dX10_merged_6 : decode cX10_merged 6 = .ok (.getfield 10, 3) := by decide +kernel
theorem dX10_merged_9 : decode cX10_merged 9 = .ok (.invokevirtual 90, 3) := by decide +kernel
theorem dX10_merged_12 : decode cX10_merged 12 = .ok (.if_icmp .lt 5, 3) := by decide +kernel
theorem dX10_merged_15 : decode cX10_merged 15 = .ok (.iconst (-1), 1) := by decide +kernel
theorem dX10_merged_16 : decode cX10_merged 16 = .ok (.ireturn, 1) := by decide +kernel
theorem dX10_merged_17 : decode cX10_merged 17 = .ok (.aload_n 0, 1) := by decide +kernel
theorem dX10_merged_18 : decode cX10_merged 18 = .ok (.getfield 10, 3) := by decide +kernel
theorem dX10_merged_21 : decode cX10_merged 21 = .ok (.getfield 267, 3) := by decide +kernel
theorem dX10_merged_24 : decode cX10_merged 24 = .ok (.invokevirtual 271, 3) := by decide +kernel
theorem dX10_merged_27 : decode cX10_merged 27 = .ok (.iconst (-1), 1) := by decide +kernel
theorem dX10_merged_28 : decode cX10_merged 28 = .ok (.istore_n 2, 1) := by decide +kernel
theorem dX10_merged_29 : decode cX10_merged 29 = .ok (.iconst 0, 1) := by decide +kernel
theorem dX10_merged_30 : decode cX10_merged 30 = .ok (.istore_n 3, 1) := by decide +kernel
theorem dX10_merged_31 : decode cX10_merged 31 = .ok (.iload_n 3, 1) := by decide +kernel
theorem dX10_merged_32 : decode cX10_merged 32 = .ok (.iload_n 1, 1) := by decide +kernel
theorem dX10_merged_33 : decode cX10_merged 33 = .ok (.if_icmp .gt 20, 3) := by decide +kernel
theorem dX10_merged_36 : decode cX10_merged 36 = .ok (.aload_n 0, 1) := by decide +kernel
theorem dX10_merged_37 : decode cX10_merged 37 = .ok (.getfield 10, 3) := by decide +kernel
theorem dX10_merged_40 : decode cX10_merged 40 = .ok (.getfield 267, 3) := by decide +kernel
theorem dX10_merged_43 : decode cX10_merged 43 = .ok (.invokevirtual 276, 3) := by decide +kernel
theorem dX10_merged_46 : decode cX10_merged 46 = .ok (.istore_n 2, 1) := by decide +kernel
theorem dX10_merged_47 : decode cX10_merged 47 = .ok (.iinc 3 1, 3) := by decide +kernel
theorem dX10_merged_50 : decode cX10_merged 50 = .ok (.goto (-19), 3) := by decide +kernel
theorem dX10_merged_53 : decode cX10_merged 53 = .ok (.iload_n 2, 1) := by decide +kernel
theorem dX10_merged_54 : decode cX10_merged 54 = .ok (.ireturn, 1) := by decide +kernel
theorem dX10_would_0 : decode cX10_would 0 = .ok (.aload_n 0, 1) := by decide +kernel
theorem dX10_would_1 : decode cX10_would 1 = .ok (.getfield 10, 3) := by decide +kernel
theorem dX10_would_4 : decode cX10_would 4 = .ok (.iload_n 1, 1) := by decide +kernel
theorem dX10_would_5 : decode cX10_would 5 = .ok (.invokevirtual 138, 3) := by decide +kernel
theorem dX10_would_8 : decode cX10_would 8 = .ok (.astore 4, 2) := by decide +kernel
theorem dX10_would_10 : decode cX10_would 10 = .ok (.aload 4, 2) := by decide +kernel
theorem dX10_would_12 : decode cX10_would 12 = .ok (.ifnull 10, 3) := by decide +kernel
theorem dX10_would_15 : decode cX10_would 15 = .ok (.iload_n 2, 1) := by decide +kernel
theorem dX10_would_16 : decode cX10_would 16 = .ok (.invokestatic 279, 3) := by decide +kernel
theorem dX10_would_19 : decode cX10_would 19 = .ok (.ifCond .ne 5, 3) := by decide +kernel
theorem dX10_would_22 : decode cX10_would 22 = .ok (.iconst (-1), 1) := by decide +kernel
theorem dX10_would_23 : decode cX10_would 23 = .ok (.ireturn, 1) := by decide +kernel
theorem dX10_would_24 : decode cX10_would 24 = .ok (.aload 4, 2) := by decide +kernel
theorem dX10_would_26 : decode cX10_would 26 = .ok (.iload_n 2, 1) := by decide +kernel
theorem dX10_would_27 : decode cX10_would 27 = .ok (.invokevirtual 180, 3) := by decide +kernel
theorem dX10_would_30 : decode cX10_would 30 = .ok (.iconst (-1), 1) := by decide +kernel
theorem dX10_would_31 : decode cX10_would 31 = .ok (.if_icmp .eq 7, 3) := by decide +kernel
theorem dX10_would_34 : decode cX10_would 34 = .ok (.iconst 1, 1) := by decide +kernel
theorem dX10_would_35 : decode cX10_would 35 = .ok (.goto 4, 3) := by decide +kernel
theorem dX10_would_38 : decode cX10_would 38 = .ok (.iconst 0, 1) := by decide +kernel
theorem dX10_would_39 : decode cX10_would 39 = .ok (.istore 5, 2) := by decide +kernel
theorem dX10_would_41 : decode cX10_would 41 = .ok (.iload 5, 2) := by decide +kernel
theorem dX10_would_43 : decode cX10_would 43 = .ok (.iload_n 3, 1) := by decide +kernel
theorem dX10_would_44 : decode cX10_would 44 = .ok (.if_icmp .eq 5, 3) := by decide +kernel
theorem dX10_would_47 : decode cX10_would 47 = .ok (.iconst (-1), 1) := by decide +kernel
theorem dX10_would_48 : decode cX10_would 48 = .ok (.ireturn, 1) := by decide +kernel
theorem dX10_would_49 : decode cX10_would 49 = .ok (.aload_n 0, 1) := by decide +kernel
theorem dX10_would_50 : decode cX10_would 50 = .ok (.getfield 10, 3) := by decide +kernel
theorem dX10_would_53 : decode cX10_would 53 = .ok (.getfield 283, 3) := by decide +kernel
theorem dX10_would_56 : decode cX10_would 56 = .ok (.aload 4, 2) := by decide +kernel
theorem dX10_would_58 : decode cX10_would 58 = .ok (.iload_n 3, 1) := by decide +kernel
theorem dX10_would_59 : decode cX10_would 59 = .ok (.ifCond .eq 7, 3) := by decide +kernel
theorem dX10_would_62 : decode cX10_would 62 = .ok (.iconst (-1), 1) := by decide +kernel
theorem dX10_would_63 : decode cX10_would 63 = .ok (.goto 4, 3) := by decide +kernel
theorem dX10_would_66 : decode cX10_would 66 = .ok (.iload_n 2, 1) := by decide +kernel
theorem dX10_would_67 : decode cX10_would 67 = .ok (.iload_n 3, 1) := by decide +kernel
theorem dX10_would_68 : decode cX10_would 68 = .ok (.ifCond .eq 7, 3) := by decide +kernel
theorem dX10_would_71 : decode cX10_would 71 = .ok (.iload_n 2, 1) := by decide +kernel
theorem dX10_would_72 : decode cX10_would 72 = .ok (.goto 4, 3) := by decide +kernel
theorem dX10_would_75 : decode cX10_would 75 = .ok (.iconst (-1), 1) := by decide +kernel
theorem dX10_would_76 : decode cX10_would 76 = .ok (.invokevirtual 287, 3) := by decide +kernel
theorem dX10_would_79 : decode cX10_would 79 = .ok (.aload_n 0, 1) := by decide +kernel
theorem dX10_would_80 : decode cX10_would 80 = .ok (.getfield 10, 3) := by decide +kernel
theorem dX10_would_83 : decode cX10_would 83 = .ok (.getfield 283, 3) := by decide +kernel
theorem dX10_would_86 : decode cX10_would 86 = .ok (.invokevirtual 162, 3) := by decide +kernel
theorem dX10_would_89 : decode cX10_would 89 = .ok (.ireturn, 1) := by decide +kernel
theorem dX10_halves_0 : decode cX10_halves 0 = .ok (.aload_n 0, 1) := by decide +kernel
theorem dX10_halves_1 : decode cX10_halves 1 = .ok (.getfield 10, 3) := by decide +kernel
theorem dX10_halves_4 : decode cX10_halves 4 = .ok (.iload_n 1, 1) := by decide +kernel
theorem dX10_halves_5 : decode cX10_halves 5 = .ok (.invokevirtual 138, 3) := by decide +kernel
theorem dX10_halves_8 : decode cX10_halves 8 = .ok (.astore_n 2, 1) := by decide +kernel
theorem dX10_halves_9 : decode cX10_halves 9 = .ok (.aload_n 2, 1) := by decide +kernel
theorem dX10_halves_10 : decode cX10_halves 10 = .ok (.ifnull 11, 3) := by decide +kernel
theorem dX10_halves_13 : decode cX10_halves 13 = .ok (.aload_n 2, 1) := by decide +kernel
theorem dX10_halves_14 : decode cX10_halves 14 = .ok (.getfield 142, 3) := by decide +kernel
theorem dX10_halves_17 : decode cX10_halves 17 = .ok (.iconst 2, 1) := by decide +kernel
theorem dX10_halves_18 : decode cX10_halves 18 = .ok (.if_icmp .ge 5, 3) := by decide +kernel
theorem dX10_halves_21 : decode cX10_halves 21 = .ok (.iconst (-1), 1) := by decide +kernel
theorem dX10_halves_22 : decode cX10_halves 22 = .ok (.ireturn, 1) := by decide +kernel
theorem dX10_halves_23 : decode cX10_halves 23 = .ok (.aload_n 2, 1) := by decide +kernel
theorem dX10_halves_24 : decode cX10_halves 24 = .ok (.aload_n 2, 1) := by decide +kernel
theorem dX10_halves_25 : decode cX10_halves 25 = .ok (.getfield 142, 3) := by decide +kernel
theorem dX10_halves_28 : decode cX10_halves 28 = .ok (.iconst 1, 1) := by decide +kernel
theorem dX10_halves_29 : decode cX10_halves 29 = .ok (.iadd, 1) := by decide +kernel
theorem dX10_halves_30 : decode cX10_halves 30 = .ok (.iconst 2, 1) := by decide +kernel
theorem dX10_halves_31 : decode cX10_halves 31 = .ok (.idiv, 1) := by decide +kernel
theorem dX10_halves_32 : decode cX10_halves 32 = .ok (.iconst 1, 1) := by decide +kernel
theorem dX10_halves_33 : decode cX10_halves 33 = .ok (.isub, 1) := by decide +kernel
theorem dX10_halves_34 : decode cX10_halves 34 = .ok (.invokevirtual 147, 3) := by decide +kernel
theorem dX10_halves_37 : decode cX10_halves 37 = .ok (.ireturn, 1) := by decide +kernel
theorem dX10_tell_0 : decode cX10_tell 0 = .ok (.aload_n 0, 1) := by decide +kernel
theorem dX10_tell_1 : decode cX10_tell 1 = .ok (.getfield 10, 3) := by decide +kernel
theorem dX10_tell_4 : decode cX10_tell 4 = .ok (.iload_n 1, 1) := by decide +kernel
theorem dX10_tell_5 : decode cX10_tell 5 = .ok (.invokevirtual 138, 3) := by decide +kernel
theorem dX10_tell_8 : decode cX10_tell 8 = .ok (.astore_n 2, 1) := by decide +kernel
theorem dX10_tell_9 : decode cX10_tell 9 = .ok (.aload_n 2, 1) := by decide +kernel
theorem dX10_tell_10 : decode cX10_tell 10 = .ok (.ifnonnull 5, 3) := by decide +kernel
theorem dX10_tell_13 : decode cX10_tell 13 = .ok (.iconst (-1), 1) := by decide +kernel
theorem dX10_tell_14 : decode cX10_tell 14 = .ok (.ireturn, 1) := by decide +kernel
theorem dX10_tell_15 : decode cX10_tell 15 = .ok (.aload_n 0, 1) := by decide +kernel
theorem dX10_tell_16 : decode cX10_tell 16 = .ok (.getfield 32, 3) := by decide +kernel
theorem dX10_tell_19 : decode cX10_tell 19 = .ok (.iconst 0, 1) := by decide +kernel
theorem dX10_tell_20 : decode cX10_tell 20 = .ok (.putfield 65, 3) := by decide +kernel
theorem dX10_tell_23 : decode cX10_tell 23 = .ok (.iconst 0, 1) := by decide +kernel
theorem dX10_tell_24 : decode cX10_tell 24 = .ok (.istore_n 3, 1) := by decide +kernel
theorem dX10_tell_25 : decode cX10_tell 25 = .ok (.iload_n 3, 1) := by decide +kernel
theorem dX10_tell_26 : decode cX10_tell 26 = .ok (.aload_n 2, 1) := by decide +kernel
theorem dX10_tell_27 : decode cX10_tell 27 = .ok (.getfield 142, 3) := by decide +kernel
theorem dX10_tell_30 : decode cX10_tell 30 = .ok (.if_icmp .ge 93, 3) := by decide +kernel
theorem dX10_tell_33 : decode cX10_tell 33 = .ok (.aload_n 2, 1) := by decide +kernel
theorem dX10_tell_34 : decode cX10_tell 34 = .ok (.iload_n 3, 1) := by decide +kernel
theorem dX10_tell_35 : decode cX10_tell 35 = .ok (.invokevirtual 291, 3) := by decide +kernel
theorem dX10_tell_38 : decode cX10_tell 38 = .ok (.istore 4, 2) := by decide +kernel
theorem dX10_tell_40 : decode cX10_tell 40 = .ok (.iload_n 3, 1) := by decide +kernel
theorem dX10_tell_41 : decode cX10_tell 41 = .ok (.ifCond .le 12, 3) := by decide +kernel
theorem dX10_tell_44 : decode cX10_tell 44 = .ok (.aload_n 0, 1) := by decide +kernel
theorem dX10_tell_45 : decode cX10_tell 45 = .ok (.getfield 32, 3) := by decide +kernel
theorem dX10_tell_48 : decode cX10_tell 48 = .ok (.bipush 32, 2) := by decide +kernel
theorem dX10_tell_50 : decode cX10_tell 50 = .ok (.invokevirtual 294, 3) := by decide +kernel
theorem dX10_tell_53 : decode cX10_tell 53 = .ok (.aload_n 0, 1) := by decide +kernel
theorem dX10_tell_54 : decode cX10_tell 54 = .ok (.getfield 32, 3) := by decide +kernel
theorem dX10_tell_57 : decode cX10_tell 57 = .ok (.aload_n 2, 1) := by decide +kernel
theorem dX10_tell_58 : decode cX10_tell 58 = .ok (.iload_n 3, 1) := by decide +kernel
theorem dX10_tell_59 : decode cX10_tell 59 = .ok (.invokevirtual 147, 3) := by decide +kernel
theorem dX10_tell_62 : decode cX10_tell 62 = .ok (.invokevirtual 297, 3) := by decide +kernel
theorem dX10_tell_65 : decode cX10_tell 65 = .ok (.iload 4, 2) := by decide +kernel
theorem dX10_tell_67 : decode cX10_tell 67 = .ok (.iload_n 3, 1) := by decide +kernel
theorem dX10_tell_68 : decode cX10_tell 68 = .ok (.if_icmp .le 25, 3) := by decide +kernel
theorem dX10_tell_71 : decode cX10_tell 71 = .ok (.aload_n 0, 1) := by decide +kernel
theorem dX10_tell_72 : decode cX10_tell 72 = .ok (.getfield 32, 3) := by decide +kernel
theorem dX10_tell_75 : decode cX10_tell 75 = .ok (.bipush 45, 2) := by decide +kernel
theorem dX10_tell_77 : decode cX10_tell 77 = .ok (.invokevirtual 294, 3) := by decide +kernel
theorem dX10_tell_80 : decode cX10_tell 80 = .ok (.aload_n 0, 1) := by decide +kernel
theorem dX10_tell_81 : decode cX10_tell 81 = .ok (.getfield 32, 3) := by decide +kernel
theorem dX10_tell_84 : decode cX10_tell 84 = .ok (.aload_n 2, 1) := by decide +kernel
theorem dX10_tell_85 : decode cX10_tell 85 = .ok (.iload 4, 2) := by decide +kernel
theorem dX10_tell_87 : decode cX10_tell 87 = .ok (.invokevirtual 147, 3) := by decide +kernel
theorem dX10_tell_90 : decode cX10_tell 90 = .ok (.invokevirtual 297, 3) := by decide +kernel
theorem dX10_tell_93 : decode cX10_tell 93 = .ok (.aload_n 2, 1) := by decide +kernel
theorem dX10_tell_94 : decode cX10_tell 94 = .ok (.iload_n 3, 1) := by decide +kernel
theorem dX10_tell_95 : decode cX10_tell 95 = .ok (.invokevirtual 183, 3) := by decide +kernel
theorem dX10_tell_98 : decode cX10_tell 98 = .ok (.iconst 1, 1) := by decide +kernel
theorem dX10_tell_99 : decode cX10_tell 99 = .ok (.if_icmp .ne 12, 3) := by decide +kernel
theorem dX10_tell_102 : decode cX10_tell 102 = .ok (.aload_n 0, 1) := by decide +kernel
theorem dX10_tell_103 : decode cX10_tell 103 = .ok (.getfield 32, 3) := by decide +kernel
theorem dX10_tell_106 : decode cX10_tell 106 = .ok (.bipush 42, 2) := by decide +kernel
theorem dX10_tell_108 : decode cX10_tell 108 = .ok (.invokevirtual 294, 3) := by decide +kernel
theorem dX10_tell_111 : decode cX10_tell 111 = .ok (.iload_n 3, 1) := by decide +kernel
theorem dX10_tell_112 : decode cX10_tell 112 = .ok (.iload 4, 2) := by decide +kernel
theorem dX10_tell_114 : decode cX10_tell 114 = .ok (.invokestatic 300, 3) := by decide +kernel
theorem dX10_tell_117 : decode cX10_tell 117 = .ok (.iconst 1, 1) := by decide +kernel
theorem dX10_tell_118 : decode cX10_tell 118 = .ok (.iadd, 1) := by decide +kernel
theorem dX10_tell_119 : decode cX10_tell 119 = .ok (.istore_n 3, 1) := by decide +kernel
theorem dX10_tell_120 : decode cX10_tell 120 = .ok (.goto (-95), 3) := by decide +kernel
theorem dX10_tell_123 : decode cX10_tell 123 = .ok (.aload_n 0, 1) := by decide +kernel
theorem dX10_tell_124 : decode cX10_tell 124 = .ok (.getfield 32, 3) := by decide +kernel
theorem dX10_tell_127 : decode cX10_tell 127 = .ok (.getfield 65, 3) := by decide +kernel
theorem dX10_tell_130 : decode cX10_tell 130 = .ok (.ireturn, 1) := by decide +kernel
theorem dX10_octet_0 : decode cX10_octet 0 = .ok (.aload_n 0, 1) := by decide +kernel
theorem dX10_octet_1 : decode cX10_octet 1 = .ok (.getfield 32, 3) := by decide +kernel
theorem dX10_octet_4 : decode cX10_octet 4 = .ok (.iload_n 1, 1) := by decide +kernel
theorem dX10_octet_5 : decode cX10_octet 5 = .ok (.invokevirtual 305, 3) := by decide +kernel
theorem dX10_octet_8 : decode cX10_octet 8 = .ok (.ireturn, 1) := by decide +kernel
theorem dX10_image_0 : decode cX10_image 0 = .ok (.iload_n 1, 1) := by decide +kernel
theorem dX10_image_1 : decode cX10_image 1 = .ok (.ifCond .lt 8, 3) := by decide +kernel
theorem dX10_image_4 : decode cX10_image 4 = .ok (.iload_n 1, 1) := by decide +kernel
theorem dX10_image_5 : decode cX10_image 5 = .ok (.iconst 3, 1) := by decide +kernel
theorem dX10_image_6 : decode cX10_image 6 = .ok (.if_icmp .lt 5, 3) := by decide +kernel
theorem dX10_image_9 : decode cX10_image 9 = .ok (.iconst 0, 1) := by decide +kernel
theorem dX10_image_10 : decode cX10_image 10 = .ok (.ireturn, 1) := by decide +kernel
theorem dX10_image_11 : decode cX10_image 11 = .ok (.aload_n 0, 1) := by decide +kernel
theorem dX10_image_12 : decode cX10_image 12 = .ok (.getfield 53, 3) := by decide +kernel
theorem dX10_image_15 : decode cX10_image 15 = .ok (.iload_n 1, 1) := by decide +kernel
theorem dX10_image_16 : decode cX10_image 16 = .ok (.aaload, 1) := by decide +kernel
theorem dX10_image_17 : decode cX10_image 17 = .ok (.astore_n 2, 1) := by decide +kernel
theorem dX10_image_18 : decode cX10_image 18 = .ok (.aload_n 2, 1) := by decide +kernel
theorem dX10_image_19 : decode cX10_image 19 = .ok (.iconst 1, 1) := by decide +kernel
theorem dX10_image_20 : decode cX10_image 20 = .ok (.putfield 308, 3) := by decide +kernel
theorem dX10_image_23 : decode cX10_image 23 = .ok (.aload_n 2, 1) := by decide +kernel
theorem dX10_image_24 : decode cX10_image 24 = .ok (.getfield 312, 3) := by decide +kernel
theorem dX10_image_27 : decode cX10_image 27 = .ok (.aload_n 0, 1) := by decide +kernel
theorem dX10_image_28 : decode cX10_image 28 = .ok (.getfield 10, 3) := by decide +kernel
theorem dX10_image_31 : decode cX10_image 31 = .ok (.invokevirtual 72, 3) := by decide +kernel
theorem dX10_image_34 : decode cX10_image 34 = .ok (.aload_n 2, 1) := by decide +kernel
theorem dX10_image_35 : decode cX10_image 35 = .ok (.getfield 314, 3) := by decide +kernel
theorem dX10_image_38 : decode cX10_image 38 = .ok (.aload_n 0, 1) := by decide +kernel
theorem dX10_image_39 : decode cX10_image 39 = .ok (.getfield 28, 3) := by decide +kernel
theorem dX10_image_42 : decode cX10_image 42 = .ok (.invokevirtual 315, 3) := by decide +kernel
theorem dX10_image_45 : decode cX10_image 45 = .ok (.aload_n 2, 1) := by decide +kernel
theorem dX10_image_46 : decode cX10_image 46 = .ok (.getfield 319, 3) := by decide +kernel
theorem dX10_image_49 : decode cX10_image 49 = .ok (.aload_n 0, 1) := by decide +kernel
theorem dX10_image_50 : decode cX10_image 50 = .ok (.getfield 32, 3) := by decide +kernel
theorem dX10_image_53 : decode cX10_image 53 = .ok (.invokevirtual 315, 3) := by decide +kernel
theorem dX10_image_56 : decode cX10_image 56 = .ok (.aload_n 2, 1) := by decide +kernel
theorem dX10_image_57 : decode cX10_image 57 = .ok (.aload_n 0, 1) := by decide +kernel
theorem dX10_image_58 : decode cX10_image 58 = .ok (.getfield 58, 3) := by decide +kernel
theorem dX10_image_61 : decode cX10_image 61 = .ok (.putfield 320, 3) := by decide +kernel
theorem dX10_image_64 : decode cX10_image 64 = .ok (.aload_n 2, 1) := by decide +kernel
theorem dX10_image_65 : decode cX10_image 65 = .ok (.aload_n 0, 1) := by decide +kernel
theorem dX10_image_66 : decode cX10_image 66 = .ok (.getfield 62, 3) := by decide +kernel
theorem dX10_image_69 : decode cX10_image 69 = .ok (.putfield 321, 3) := by decide +kernel
theorem dX10_image_72 : decode cX10_image 72 = .ok (.iconst 1, 1) := by decide +kernel
theorem dX10_image_73 : decode cX10_image 73 = .ok (.ireturn, 1) := by decide +kernel
theorem dX10_again_0 : decode cX10_again 0 = .ok (.iload_n 1, 1) := by decide +kernel
theorem dX10_again_1 : decode cX10_again 1 = .ok (.ifCond .lt 20, 3) := by decide +kernel
theorem dX10_again_4 : decode cX10_again 4 = .ok (.iload_n 1, 1) := by decide +kernel
theorem dX10_again_5 : decode cX10_again 5 = .ok (.iconst 3, 1) := by decide +kernel
theorem dX10_again_6 : decode cX10_again 6 = .ok (.if_icmp .ge 15, 3) := by decide +kernel
theorem dX10_again_9 : decode cX10_again 9 = .ok (.aload_n 0, 1) := by decide +kernel
theorem dX10_again_10 : decode cX10_again 10 = .ok (.getfield 53, 3) := by decide +kernel
theorem dX10_again_13 : decode cX10_again 13 = .ok (.iload_n 1, 1) := by decide +kernel
theorem dX10_again_14 : decode cX10_again 14 = .ok (.aaload, 1) := by decide +kernel
theorem dX10_again_15 : decode cX10_again 15 = .ok (.getfield 308, 3) := by decide +kernel
theorem dX10_again_18 : decode cX10_again 18 = .ok (.ifCond .ne 5, 3) := by decide +kernel
theorem dX10_again_21 : decode cX10_again 21 = .ok (.iconst 0, 1) := by decide +kernel
theorem dX10_again_22 : decode cX10_again 22 = .ok (.ireturn, 1) := by decide +kernel
theorem dX10_again_23 : decode cX10_again 23 = .ok (.aload_n 0, 1) := by decide +kernel
theorem dX10_again_24 : decode cX10_again 24 = .ok (.getfield 53, 3) := by decide +kernel
theorem dX10_again_27 : decode cX10_again 27 = .ok (.iload_n 1, 1) := by decide +kernel
theorem dX10_again_28 : decode cX10_again 28 = .ok (.aaload, 1) := by decide +kernel
theorem dX10_again_29 : decode cX10_again 29 = .ok (.astore_n 2, 1) := by decide +kernel
theorem dX10_again_30 : decode cX10_again 30 = .ok (.aload_n 2, 1) := by decide +kernel
theorem dX10_again_31 : decode cX10_again 31 = .ok (.getfield 312, 3) := by decide +kernel
theorem dX10_again_34 : decode cX10_again 34 = .ok (.aload_n 0, 1) := by decide +kernel
theorem dX10_again_35 : decode cX10_again 35 = .ok (.getfield 10, 3) := by decide +kernel
theorem dX10_again_38 : decode cX10_again 38 = .ok (.invokevirtual 84, 3) := by decide +kernel
theorem dX10_again_41 : decode cX10_again 41 = .ok (.aload_n 0, 1) := by decide +kernel
theorem dX10_again_42 : decode cX10_again 42 = .ok (.getfield 28, 3) := by decide +kernel
theorem dX10_again_45 : decode cX10_again 45 = .ok (.aload_n 2, 1) := by decide +kernel
theorem dX10_again_46 : decode cX10_again 46 = .ok (.getfield 314, 3) := by decide +kernel
theorem dX10_again_49 : decode cX10_again 49 = .ok (.invokevirtual 315, 3) := by decide +kernel
theorem dX10_again_52 : decode cX10_again 52 = .ok (.aload_n 0, 1) := by decide +kernel
theorem dX10_again_53 : decode cX10_again 53 = .ok (.getfield 32, 3) := by decide +kernel
theorem dX10_again_56 : decode cX10_again 56 = .ok (.aload_n 2, 1) := by decide +kernel
theorem dX10_again_57 : decode cX10_again 57 = .ok (.getfield 319, 3) := by decide +kernel
theorem dX10_again_60 : decode cX10_again 60 = .ok (.invokevirtual 315, 3) := by decide +kernel
theorem dX10_again_63 : decode cX10_again 63 = .ok (.aload_n 0, 1) := by decide +kernel
theorem dX10_again_64 : decode cX10_again 64 = .ok (.aload_n 2, 1) := by decide +kernel
theorem dX10_again_65 : decode cX10_again 65 = .ok (.getfield 320, 3) := by decide +kernel
theorem dX10_again_68 : decode cX10_again 68 = .ok (.putfield 58, 3) := by decide +kernel
theorem dX10_again_71 : decode cX10_again 71 = .ok (.aload_n 0, 1) := by decide +kernel
theorem dX10_again_72 : decode cX10_again 72 = .ok (.aload_n 2, 1) := by decide +kernel
theorem dX10_again_73 : decode cX10_again 73 = .ok (.getfield 321, 3) := by decide +kernel
theorem dX10_again_76 : decode cX10_again 76 = .ok (.putfield 62, 3) := by decide +kernel
theorem dX10_again_79 : decode cX10_again 79 = .ok (.aload_n 0, 1) := by decide +kernel
theorem dX10_again_80 : decode cX10_again 80 = .ok (.getfield 19, 3) := by decide +kernel
theorem dX10_again_83 : decode cX10_again 83 = .ok (.invokevirtual 87, 3) := by decide +kernel
theorem dX10_again_86 : decode cX10_again 86 = .ok (.iconst 1, 1) := by decide +kernel
theorem dX10_again_87 : decode cX10_again 87 = .ok (.ireturn, 1) := by decide +kernel
theorem dX10_isKey_0 : decode cX10_isKey 0 = .ok (.iload_n 0, 1) := by decide +kernel
theorem dX10_isKey_1 : decode cX10_isKey 1 = .ok (.ifCond .lt 14, 3) := by decide +kernel
theorem dX10_isKey_4 : decode cX10_isKey 4 = .ok (.iload_n 0, 1) := by decide +kernel
theorem dX10_isKey_5 : decode cX10_isKey 5 = .ok (.sipush 9999, 3) := by decide +kernel
theorem dX10_isKey_8 : decode cX10_isKey 8 = .ok (.if_icmp .gt 7, 3) := by decide +kernel
theorem dX10_isKey_11 : decode cX10_isKey 11 = .ok (.iconst 1, 1) := by decide +kernel
theorem dX10_isKey_12 : decode cX10_isKey 12 = .ok (.goto 4, 3) := by decide +kernel
theorem dX10_isKey_15 : decode cX10_isKey 15 = .ok (.iconst 0, 1) := by decide +kernel
theorem dX10_isKey_16 : decode cX10_isKey 16 = .ok (.ireturn, 1) := by decide +kernel
theorem dX10_priority_0 : decode cX10_priority 0 = .ok (.iload_n 0, 1) := by decide +kernel
theorem dX10_priority_1 : decode cX10_priority 1 = .ok (.ldc_w 322, 3) := by decide +kernel
theorem dX10_priority_4 : decode cX10_priority 4 = .ok (.imul, 1) := by decide +kernel
theorem dX10_priority_5 : decode cX10_priority 5 = .ok (.sipush 9973, 3) := by decide +kernel
theorem dX10_priority_8 : decode cX10_priority 8 = .ok (.iadd, 1) := by decide +kernel
theorem dX10_priority_9 : decode cX10_priority 9 = .ok (.ldc_w 323, 3) := by decide +kernel
theorem dX10_priority_12 : decode cX10_priority 12 = .ok (.iand, 1) := by decide +kernel
theorem dX10_priority_13 : decode cX10_priority 13 = .ok (.ireturn, 1) := by decide +kernel
theorem dJ6_compare_7cf53_0 : decode cJ6_compare_7cf53 0 = .ok (.iload_n 0, 1) := by decide +kernel
theorem dJ6_compare_7cf53_1 : decode cJ6_compare_7cf53 1 = .ok (.iload_n 1, 1) := by decide +kernel
theorem dJ6_compare_7cf53_2 : decode cJ6_compare_7cf53 2 = .ok (.if_icmp .ge 7, 3) := by decide +kernel
theorem dJ6_compare_7cf53_5 : decode cJ6_compare_7cf53 5 = .ok (.iconst (-1), 1) := by decide +kernel
theorem dJ6_compare_7cf53_6 : decode cJ6_compare_7cf53 6 = .ok (.goto 13, 3) := by decide +kernel
theorem dJ6_compare_7cf53_9 : decode cJ6_compare_7cf53 9 = .ok (.iload_n 0, 1) := by decide +kernel
theorem dJ6_compare_7cf53_10 : decode cJ6_compare_7cf53 10 = .ok (.iload_n 1, 1) := by decide +kernel
theorem dJ6_compare_7cf53_11 : decode cJ6_compare_7cf53 11 = .ok (.if_icmp .ne 7, 3) := by decide +kernel
theorem dJ6_compare_7cf53_14 : decode cJ6_compare_7cf53 14 = .ok (.iconst 0, 1) := by decide +kernel
theorem dJ6_compare_7cf53_15 : decode cJ6_compare_7cf53 15 = .ok (.goto 4, 3) := by decide +kernel
theorem dJ6_compare_7cf53_18 : decode cJ6_compare_7cf53 18 = .ok (.iconst 1, 1) := by decide +kernel
theorem dJ6_compare_7cf53_19 : decode cJ6_compare_7cf53 19 = .ok (.ireturn, 1) := by decide +kernel
theorem dJ9_max_7cf53_0 : decode cJ9_max_7cf53 0 = .ok (.iload_n 0, 1) := by decide +kernel
theorem dJ9_max_7cf53_1 : decode cJ9_max_7cf53 1 = .ok (.iload_n 1, 1) := by decide +kernel
theorem dJ9_max_7cf53_2 : decode cJ9_max_7cf53 2 = .ok (.if_icmp .lt 7, 3) := by decide +kernel
theorem dJ9_max_7cf53_5 : decode cJ9_max_7cf53 5 = .ok (.iload_n 0, 1) := by decide +kernel
theorem dJ9_max_7cf53_6 : decode cJ9_max_7cf53 6 = .ok (.goto 4, 3) := by decide +kernel
theorem dJ9_max_7cf53_9 : decode cJ9_max_7cf53 9 = .ok (.iload_n 1, 1) := by decide +kernel
theorem dJ9_max_7cf53_10 : decode cJ9_max_7cf53 10 = .ok (.ireturn, 1) := by decide +kernel
theorem dJ9_min_7cf53_0 : decode cJ9_min_7cf53 0 = .ok (.iload_n 0, 1) := by decide +kernel
theorem dJ9_min_7cf53_1 : decode cJ9_min_7cf53 1 = .ok (.iload_n 1, 1) := by decide +kernel
theorem dJ9_min_7cf53_2 : decode cJ9_min_7cf53 2 = .ok (.if_icmp .gt 7, 3) := by decide +kernel
theorem dJ9_min_7cf53_5 : decode cJ9_min_7cf53 5 = .ok (.iload_n 0, 1) := by decide +kernel
theorem dJ9_min_7cf53_6 : decode cJ9_min_7cf53 6 = .ok (.goto 4, 3) := by decide +kernel
theorem dJ9_min_7cf53_9 : decode cJ9_min_7cf53 9 = .ok (.iload_n 1, 1) := by decide +kernel
theorem dJ9_min_7cf53_10 : decode cJ9_min_7cf53 10 = .ok (.ireturn, 1) := by decide +kernel
theorem dJ0_length_8abf5_0 : decode cJ0_length_8abf5 0 = .ok (.aload_n 0, 1) := by decide +kernel
theorem dJ0_length_8abf5_1 : decode cJ0_length_8abf5 1 = .ok (.getfield 9, 3) := by decide +kernel
theorem dJ0_length_8abf5_4 : decode cJ0_length_8abf5 4 = .ok (.arraylength, 1) := by decide +kernel
theorem dJ0_length_8abf5_5 : decode cJ0_length_8abf5 5 = .ok (.aload_n 0, 1) := by decide +kernel
theorem dJ0_length_8abf5_6 : decode cJ0_length_8abf5 6 = .ok (.invokevirtual 335, 3) := by decide +kernel
theorem dJ0_length_8abf5_9 : decode cJ0_length_8abf5 9 = .ok (.ishr, 1) := by decide +kernel
theorem dJ0_length_8abf5_10 : decode cJ0_length_8abf5 10 = .ok (.ireturn, 1) := by decide +kernel
theorem dJ0_charAt_5068e_0 : decode cJ0_charAt_5068e 0 = .ok (.aload_n 0, 1) := by decide +kernel
theorem dJ0_charAt_5068e_1 : decode cJ0_charAt_5068e 1 = .ok (.invokevirtual 492, 3) := by decide +kernel
theorem dJ0_charAt_5068e_4 : decode cJ0_charAt_5068e 4 = .ok (.ifCond .eq 12, 3) := by decide +kernel
theorem dJ0_charAt_5068e_7 : decode cJ0_charAt_5068e 7 = .ok (.aload_n 0, 1) := by decide +kernel
theorem dJ0_charAt_5068e_8 : decode cJ0_charAt_5068e 8 = .ok (.getfield 9, 3) := by decide +kernel
theorem dJ0_charAt_5068e_11 : decode cJ0_charAt_5068e 11 = .ok (.iload_n 1, 1) := by decide +kernel
theorem dJ0_charAt_5068e_12 : decode cJ0_charAt_5068e 12 = .ok (.invokestatic 495, 3) := by decide +kernel
theorem dJ0_charAt_5068e_15 : decode cJ0_charAt_5068e 15 = .ok (.ireturn, 1) := by decide +kernel
theorem dJ0_charAt_5068e_16 : decode cJ0_charAt_5068e 16 = .ok (.aload_n 0, 1) := by decide +kernel
theorem dJ0_charAt_5068e_17 : decode cJ0_charAt_5068e 17 = .ok (.getfield 9, 3) := by decide +kernel
theorem dJ0_charAt_5068e_20 : decode cJ0_charAt_5068e 20 = .ok (.iload_n 1, 1) := by decide +kernel
theorem dJ0_charAt_5068e_21 : decode cJ0_charAt_5068e 21 = .ok (.invokestatic 498, 3) := by decide +kernel
theorem dJ0_charAt_5068e_24 : decode cJ0_charAt_5068e 24 = .ok (.ireturn, 1) := by decide +kernel
theorem dJ0_coder_7d493_0 : decode cJ0_coder_7d493 0 = .ok (.getstatic 38, 3) := by decide +kernel
theorem dJ0_coder_7d493_3 : decode cJ0_coder_7d493 3 = .ok (.ifCond .eq 10, 3) := by decide +kernel
theorem dJ0_coder_7d493_6 : decode cJ0_coder_7d493 6 = .ok (.aload_n 0, 1) := by decide +kernel
theorem dJ0_coder_7d493_7 : decode cJ0_coder_7d493 7 = .ok (.getfield 15, 3) := by decide +kernel
theorem dJ0_coder_7d493_10 : decode cJ0_coder_7d493 10 = .ok (.goto 4, 3) := by decide +kernel
theorem dJ0_coder_7d493_13 : decode cJ0_coder_7d493 13 = .ok (.iconst 1, 1) := by decide +kernel
theorem dJ0_coder_7d493_14 : decode cJ0_coder_7d493 14 = .ok (.ireturn, 1) := by decide +kernel
theorem dJ0_isLatin1_aae02_0 : decode cJ0_isLatin1_aae02 0 = .ok (.getstatic 38, 3) := by decide +kernel
theorem dJ0_isLatin1_aae02_3 : decode cJ0_isLatin1_aae02 3 = .ok (.ifCond .eq 14, 3) := by decide +kernel
theorem dJ0_isLatin1_aae02_6 : decode cJ0_isLatin1_aae02 6 = .ok (.aload_n 0, 1) := by decide +kernel
theorem dJ0_isLatin1_aae02_7 : decode cJ0_isLatin1_aae02 7 = .ok (.getfield 15, 3) := by decide +kernel
theorem dJ0_isLatin1_aae02_10 : decode cJ0_isLatin1_aae02 10 = .ok (.ifCond .ne 7, 3) := by decide +kernel
theorem dJ0_isLatin1_aae02_13 : decode cJ0_isLatin1_aae02 13 = .ok (.iconst 1, 1) := by decide +kernel
theorem dJ0_isLatin1_aae02_14 : decode cJ0_isLatin1_aae02 14 = .ok (.goto 4, 3) := by decide +kernel
theorem dJ0_isLatin1_aae02_17 : decode cJ0_isLatin1_aae02 17 = .ok (.iconst 0, 1) := by decide +kernel
theorem dJ0_isLatin1_aae02_18 : decode cJ0_isLatin1_aae02 18 = .ok (.ireturn, 1) := by decide +kernel
theorem dJ0_checkIndex_df160_0 : decode cJ0_checkIndex_df160 0 = .ok (.iload_n 0, 1) := by decide +kernel
theorem dJ0_checkIndex_df160_1 : decode cJ0_checkIndex_df160 1 = .ok (.iload_n 1, 1) := by decide +kernel
theorem dJ0_checkIndex_df160_2 : decode cJ0_checkIndex_df160 2 = .ok (.getstatic 1053, 3) := by decide +kernel
theorem dJ0_checkIndex_df160_5 : decode cJ0_checkIndex_df160 5 = .ok (.invokestatic 1059, 3) := by decide +kernel
theorem dJ0_checkIndex_df160_8 : decode cJ0_checkIndex_df160 8 = .ok (.pop, 1) := by decide +kernel
theorem dJ0_checkIndex_df160_9 : decode cJ0_checkIndex_df160 9 = .ok (.return_, 1) := by decide +kernel
theorem dJ1_charAt_3b067_0 : decode cJ1_charAt_3b067 0 = .ok (.iload_n 1, 1) := by decide +kernel
theorem dJ1_charAt_3b067_1 : decode cJ1_charAt_3b067 1 = .ok (.aload_n 0, 1) := by decide +kernel
theorem dJ1_charAt_3b067_2 : decode cJ1_charAt_3b067 2 = .ok (.arraylength, 1) := by decide +kernel
theorem dJ1_charAt_3b067_3 : decode cJ1_charAt_3b067 3 = .ok (.invokestatic 9, 3) := by decide +kernel
theorem dJ1_charAt_3b067_6 : decode cJ1_charAt_3b067 6 = .ok (.aload_n 0, 1) := by decide +kernel
theorem dJ1_charAt_3b067_7 : decode cJ1_charAt_3b067 7 = .ok (.iload_n 1, 1) := by decide +kernel
theorem dJ1_charAt_3b067_8 : decode cJ1_charAt_3b067 8 = .ok (.baload, 1) := by decide +kernel
theorem dJ1_charAt_3b067_9 : decode cJ1_charAt_3b067 9 = .ok (.sipush 255, 3) := by decide +kernel
theorem dJ1_charAt_3b067_12 : decode cJ1_charAt_3b067 12 = .ok (.iand, 1) := by decide +kernel
theorem dJ1_charAt_3b067_13 : decode cJ1_charAt_3b067 13 = .ok (.i2c, 1) := by decide +kernel
theorem dJ1_charAt_3b067_14 : decode cJ1_charAt_3b067 14 = .ok (.ireturn, 1) := by decide +kernel
theorem dJ2_getChar_3b067_0 : decode cJ2_getChar_3b067 0 = .ok (.getstatic 44, 3) := by decide +kernel
theorem dJ2_getChar_3b067_3 : decode cJ2_getChar_3b067 3 = .ok (.ifCond .ne 25, 3) := by decide +kernel
theorem dJ2_getChar_3b067_6 : decode cJ2_getChar_3b067 6 = .ok (.iload_n 1, 1) := by decide +kernel
theorem dJ2_getChar_3b067_7 : decode cJ2_getChar_3b067 7 = .ok (.ifCond .lt 11, 3) := by decide +kernel
theorem dJ2_getChar_3b067_10 : decode cJ2_getChar_3b067 10 = .ok (.iload_n 1, 1) := by decide +kernel
theorem dJ2_getChar_3b067_11 : decode cJ2_getChar_3b067 11 = .ok (.aload_n 0, 1) := by decide +kernel
theorem dJ2_getChar_3b067_12 : decode cJ2_getChar_3b067 12 = .ok (.invokestatic 48, 3) := by decide +kernel
theorem dJ2_getChar_3b067_15 : decode cJ2_getChar_3b067 15 = .ok (.if_icmp .lt 13, 3) := by decide +kernel
theorem dJ2_getChar_3b067_18 : decode cJ2_getChar_3b067 18 = .ok (.new 52, 3) := by decide +kernel
theorem dJ2_getChar_3b067_21 : decode cJ2_getChar_3b067 21 = .ok (.dup, 1) := by decide +kernel
theorem dJ2_getChar_3b067_22 : decode cJ2_getChar_3b067 22 = .ok (.ldc 54, 2) := by decide +kernel
theorem dJ2_getChar_3b067_24 : decode cJ2_getChar_3b067 24 = .ok (.invokespecial 56, 3) := by decide +kernel
theorem dJ2_getChar_3b067_27 : decode cJ2_getChar_3b067 27 = .ok (.athrow, 1) := by decide +kernel
theorem dJ2_getChar_3b067_28 : decode cJ2_getChar_3b067 28 = .ok (.iload_n 1, 1) := by decide +kernel
theorem dJ2_getChar_3b067_29 : decode cJ2_getChar_3b067 29 = .ok (.iconst 1, 1) := by decide +kernel
theorem dJ2_getChar_3b067_30 : decode cJ2_getChar_3b067 30 = .ok (.ishl, 1) := by decide +kernel
theorem dJ2_getChar_3b067_31 : decode cJ2_getChar_3b067 31 = .ok (.istore_n 1, 1) := by decide +kernel
theorem dJ2_getChar_3b067_32 : decode cJ2_getChar_3b067 32 = .ok (.aload_n 0, 1) := by decide +kernel
theorem dJ2_getChar_3b067_33 : decode cJ2_getChar_3b067 33 = .ok (.iload_n 1, 1) := by decide +kernel
theorem dJ2_getChar_3b067_34 : decode cJ2_getChar_3b067 34 = .ok (.iinc 1 1, 3) := by decide +kernel
theorem dJ2_getChar_3b067_37 : decode cJ2_getChar_3b067 37 = .ok (.baload, 1) := by decide +kernel
theorem dJ2_getChar_3b067_38 : decode cJ2_getChar_3b067 38 = .ok (.sipush 255, 3) := by decide +kernel
theorem dJ2_getChar_3b067_41 : decode cJ2_getChar_3b067 41 = .ok (.iand, 1) := by decide +kernel
theorem dJ2_getChar_3b067_42 : decode cJ2_getChar_3b067 42 = .ok (.getstatic 59, 3) := by decide +kernel
theorem dJ2_getChar_3b067_45 : decode cJ2_getChar_3b067 45 = .ok (.ishl, 1) := by decide +kernel
theorem dJ2_getChar_3b067_46 : decode cJ2_getChar_3b067 46 = .ok (.aload_n 0, 1) := by decide +kernel
theorem dJ2_getChar_3b067_47 : decode cJ2_getChar_3b067 47 = .ok (.iload_n 1, 1) := by decide +kernel
theorem dJ2_getChar_3b067_48 : decode cJ2_getChar_3b067 48 = .ok (.baload, 1) := by decide +kernel
theorem dJ2_getChar_3b067_49 : decode cJ2_getChar_3b067 49 = .ok (.sipush 255, 3) := by decide +kernel
theorem dJ2_getChar_3b067_52 : decode cJ2_getChar_3b067 52 = .ok (.iand, 1) := by decide +kernel
theorem dJ2_getChar_3b067_53 : decode cJ2_getChar_3b067 53 = .ok (.getstatic 63, 3) := by decide +kernel
theorem dJ2_getChar_3b067_56 : decode cJ2_getChar_3b067 56 = .ok (.ishl, 1) := by decide +kernel
theorem dJ2_getChar_3b067_57 : decode cJ2_getChar_3b067 57 = .ok (.ior, 1) := by decide +kernel
theorem dJ2_getChar_3b067_58 : decode cJ2_getChar_3b067 58 = .ok (.i2c, 1) := by decide +kernel
theorem dJ2_getChar_3b067_59 : decode cJ2_getChar_3b067 59 = .ok (.ireturn, 1) := by decide +kernel
theorem dJ2_length_9d52b_0 : decode cJ2_length_9d52b 0 = .ok (.aload_n 0, 1) := by decide +kernel
theorem dJ2_length_9d52b_1 : decode cJ2_length_9d52b 1 = .ok (.arraylength, 1) := by decide +kernel
theorem dJ2_length_9d52b_2 : decode cJ2_length_9d52b 2 = .ok (.iconst 1, 1) := by decide +kernel
theorem dJ2_length_9d52b_3 : decode cJ2_length_9d52b 3 = .ok (.ishr, 1) := by decide +kernel
theorem dJ2_length_9d52b_4 : decode cJ2_length_9d52b 4 = .ok (.ireturn, 1) := by decide +kernel
theorem dJ2_charAt_3b067_0 : decode cJ2_charAt_3b067 0 = .ok (.iload_n 1, 1) := by decide +kernel
theorem dJ2_charAt_3b067_1 : decode cJ2_charAt_3b067 1 = .ok (.aload_n 0, 1) := by decide +kernel
theorem dJ2_charAt_3b067_2 : decode cJ2_charAt_3b067 2 = .ok (.invokestatic 67, 3) := by decide +kernel
theorem dJ2_charAt_3b067_5 : decode cJ2_charAt_3b067 5 = .ok (.aload_n 0, 1) := by decide +kernel
theorem dJ2_charAt_3b067_6 : decode cJ2_charAt_3b067 6 = .ok (.iload_n 1, 1) := by decide +kernel
theorem dJ2_charAt_3b067_7 : decode cJ2_charAt_3b067 7 = .ok (.invokestatic 71, 3) := by decide +kernel
theorem dJ2_charAt_3b067_10 : decode cJ2_charAt_3b067 10 = .ok (.ireturn, 1) := by decide +kernel
theorem dJ2_checkIndex_2214a_0 : decode cJ2_checkIndex_2214a 0 = .ok (.iload_n 0, 1) := by decide +kernel
theorem dJ2_checkIndex_2214a_1 : decode cJ2_checkIndex_2214a 1 = .ok (.aload_n 1, 1) := by decide +kernel
theorem dJ2_checkIndex_2214a_2 : decode cJ2_checkIndex_2214a 2 = .ok (.invokestatic 48, 3) := by decide +kernel
theorem dJ2_checkIndex_2214a_5 : decode cJ2_checkIndex_2214a 5 = .ok (.invokestatic 414, 3) := by decide +kernel
theorem dJ2_checkIndex_2214a_8 : decode cJ2_checkIndex_2214a 8 = .ok (.return_, 1) := by decide +kernel
theorem dJ3_checkIndex_8e157_0 : decode cJ3_checkIndex_8e157 0 = .ok (.iload_n 0, 1) := by decide +kernel
theorem dJ3_checkIndex_8e157_1 : decode cJ3_checkIndex_8e157 1 = .ok (.ifCond .lt 8, 3) := by decide +kernel
theorem dJ3_checkIndex_8e157_4 : decode cJ3_checkIndex_8e157 4 = .ok (.iload_n 0, 1) := by decide +kernel
theorem dJ3_checkIndex_8e157_5 : decode cJ3_checkIndex_8e157 5 = .ok (.iload_n 1, 1) := by decide +kernel
theorem dJ3_checkIndex_8e157_6 : decode cJ3_checkIndex_8e157 6 = .ok (.if_icmp .lt 10, 3) := by decide +kernel
theorem dJ3_checkIndex_8e157_9 : decode cJ3_checkIndex_8e157 9 = .ok (.aload_n 2, 1) := by decide +kernel
theorem dJ3_checkIndex_8e157_10 : decode cJ3_checkIndex_8e157 10 = .ok (.iload_n 0, 1) := by decide +kernel
theorem dJ3_checkIndex_8e157_11 : decode cJ3_checkIndex_8e157 11 = .ok (.iload_n 1, 1) := by decide +kernel
theorem dJ3_checkIndex_8e157_12 : decode cJ3_checkIndex_8e157 12 = .ok (.invokestatic 95, 3) := by decide +kernel
theorem dJ3_checkIndex_8e157_15 : decode cJ3_checkIndex_8e157 15 = .ok (.athrow, 1) := by decide +kernel
theorem dJ3_checkIndex_8e157_16 : decode cJ3_checkIndex_8e157 16 = .ok (.iload_n 0, 1) := by decide +kernel
theorem dJ3_checkIndex_8e157_17 : decode cJ3_checkIndex_8e157 17 = .ok (.ireturn, 1) := by decide +kernel
