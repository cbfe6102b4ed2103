theorem dX6_readSign_24 : decode cX6_readSign 24 = .ok (.iadd, 1) := by decide +kernel
theorem dX6_readSign_25 : decode cX6_readSign 25 = .ok (.putfield 18, 3) := by decide +kernel
theorem dX6_readSign_28 : decode cX6_readSign 28 = .ok (.iconst 1, 1) := by decide +kernel
theorem dX6_readSign_29 : decode cX6_readSign 29 = .ok (.ireturn, 1) := by decide +kernel
theorem dX6_isNext_0 : decode cX6_isNext 0 = .ok (.aload_n 0, 1) := by decide +kernel
theorem dX6_isNext_1 : decode cX6_isNext 1 = .ok (.getfield 18, 3) := by decide +kernel
theorem dX6_isNext_4 : decode cX6_isNext 4 = .ok (.aload_n 0, 1) := by decide +kernel
theorem dX6_isNext_5 : decode cX6_isNext 5 = .ok (.getfield 15, 3) := by decide +kernel
theorem dX6_isNext_8 : decode cX6_isNext 8 = .ok (.if_icmp .ge 27, 3) := by decide +kernel
theorem dX6_isNext_11 : decode cX6_isNext 11 = .ok (.aload_n 0, 1) := by decide +kernel
theorem dX6_isNext_12 : decode cX6_isNext 12 = .ok (.getfield 24, 3) := by decide +kernel
theorem dX6_isNext_15 : decode cX6_isNext 15 = .ok (.aload_n 0, 1) := by decide +kernel
theorem dX6_isNext_16 : decode cX6_isNext 16 = .ok (.getfield 9, 3) := by decide +kernel
theorem dX6_isNext_19 : decode cX6_isNext 19 = .ok (.aload_n 0, 1) := by decide +kernel
theorem dX6_isNext_20 : decode cX6_isNext 20 = .ok (.getfield 18, 3) := by decide +kernel
theorem dX6_isNext_23 : decode cX6_isNext 23 = .ok (.iadd, 1) := by decide +kernel
theorem dX6_isNext_24 : decode cX6_isNext 24 = .ok (.invokestatic 74, 3) := by decide +kernel
theorem dX6_isNext_27 : decode cX6_isNext 27 = .ok (.iload_n 1, 1) := by decide +kernel
theorem dX6_isNext_28 : decode cX6_isNext 28 = .ok (.if_icmp .ne 7, 3) := by decide +kernel
theorem dX6_isNext_31 : decode cX6_isNext 31 = .ok (.iconst 1, 1) := by decide +kernel
theorem dX6_isNext_32 : decode cX6_isNext 32 = .ok (.goto 4, 3) := by decide +kernel
theorem dX6_isNext_35 : decode cX6_isNext 35 = .ok (.iconst 0, 1) := by decide +kernel
theorem dX6_isNext_36 : decode cX6_isNext 36 = .ok (.ireturn, 1) := by decide +kernel
theorem dX7_init_0 : decode cX7_init 0 = .ok (.aload_n 0, 1) := by decide +kernel
theorem dX7_init_1 : decode cX7_init 1 = .ok (.invokespecial 3, 3) := by decide +kernel
theorem dX7_init_4 : decode cX7_init 4 = .ok (.aload_n 0, 1) := by decide +kernel
theorem dX7_init_5 : decode cX7_init 5 = .ok (.iconst 4, 1) := by decide +kernel
theorem dX7_init_6 : decode cX7_init 6 = .ok (.newarray .int, 2) := by decide +kernel
theorem dX7_init_8 : decode cX7_init 8 = .ok (.putfield 11, 3) := by decide +kernel
theorem dX7_init_11 : decode cX7_init 11 = .ok (.aload_n 0, 1) := by decide +kernel
theorem dX7_init_12 : decode cX7_init 12 = .ok (.iconst 4, 1) := by decide +kernel
theorem dX7_init_13 : decode cX7_init 13 = .ok (.newarray .int, 2) := by decide +kernel
theorem dX7_init_15 : decode cX7_init 15 = .ok (.putfield 15, 3) := by decide +kernel
theorem dX7_init_18 : decode cX7_init 18 = .ok (.aload_n 0, 1) := by decide +kernel
theorem dX7_init_19 : decode cX7_init 19 = .ok (.sipush 400, 3) := by decide +kernel
theorem dX7_init_22 : decode cX7_init 22 = .ok (.newarray .int, 2) := by decide +kernel
theorem dX7_init_24 : decode cX7_init 24 = .ok (.putfield 18, 3) := by decide +kernel
theorem dX7_init_27 : decode cX7_init 27 = .ok (.iconst 0, 1) := by decide +kernel
theorem dX7_init_28 : decode cX7_init 28 = .ok (.istore_n 1, 1) := by decide +kernel
theorem dX7_init_29 : decode cX7_init 29 = .ok (.iload_n 1, 1) := by decide +kernel
theorem dX7_init_30 : decode cX7_init 30 = .ok (.iconst 4, 1) := by decide +kernel
theorem dX7_init_31 : decode cX7_init 31 = .ok (.if_icmp .ge 18, 3) := by decide +kernel
theorem dX7_init_34 : decode cX7_init 34 = .ok (.aload_n 0, 1) := by decide +kernel
theorem dX7_init_35 : decode cX7_init 35 = .ok (.getfield 11, 3) := by decide +kernel
theorem dX7_init_38 : decode cX7_init 38 = .ok (.iload_n 1, 1) := by decide +kernel
theorem dX7_init_39 : decode cX7_init 39 = .ok (.iconst (-1), 1) := by decide +kernel
theorem dX7_init_40 : decode cX7_init 40 = .ok (.invokestatic 21, 3) := by decide +kernel
theorem dX7_init_43 : decode cX7_init 43 = .ok (.iinc 1 1, 3) := by decide +kernel
theorem dX7_init_46 : decode cX7_init 46 = .ok (.goto (-17), 3) := by decide +kernel
theorem dX7_init_49 : decode cX7_init 49 = .ok (.return_, 1) := by decide +kernel
theorem dX7_isSheet_0 : decode cX7_isSheet 0 = .ok (.iload_n 0, 1) := by decide +kernel
theorem dX7_isSheet_1 : decode cX7_isSheet 1 = .ok (.ifCond .lt 12, 3) := by decide +kernel
theorem dX7_isSheet_4 : decode cX7_isSheet 4 = .ok (.iload_n 0, 1) := by decide +kernel
theorem dX7_isSheet_5 : decode cX7_isSheet 5 = .ok (.iconst 4, 1) := by decide +kernel
theorem dX7_isSheet_6 : decode cX7_isSheet 6 = .ok (.if_icmp .ge 7, 3) := by decide +kernel
theorem dX7_isSheet_9 : decode cX7_isSheet 9 = .ok (.iconst 1, 1) := by decide +kernel
theorem dX7_isSheet_10 : decode cX7_isSheet 10 = .ok (.goto 4, 3) := by decide +kernel
theorem dX7_isSheet_13 : decode cX7_isSheet 13 = .ok (.iconst 0, 1) := by decide +kernel
theorem dX7_isSheet_14 : decode cX7_isSheet 14 = .ok (.ireturn, 1) := by decide +kernel
theorem dX7_isLane_0 : decode cX7_isLane 0 = .ok (.iload_n 0, 1) := by decide +kernel
theorem dX7_isLane_1 : decode cX7_isLane 1 = .ok (.ifCond .lt 12, 3) := by decide +kernel
theorem dX7_isLane_4 : decode cX7_isLane 4 = .ok (.iload_n 0, 1) := by decide +kernel
theorem dX7_isLane_5 : decode cX7_isLane 5 = .ok (.iconst 3, 1) := by decide +kernel
theorem dX7_isLane_6 : decode cX7_isLane 6 = .ok (.if_icmp .ge 7, 3) := by decide +kernel
theorem dX7_isLane_9 : decode cX7_isLane 9 = .ok (.iconst 1, 1) := by decide +kernel
theorem dX7_isLane_10 : decode cX7_isLane 10 = .ok (.goto 4, 3) := by decide +kernel
theorem dX7_isLane_13 : decode cX7_isLane 13 = .ok (.iconst 0, 1) := by decide +kernel
theorem dX7_isLane_14 : decode cX7_isLane 14 = .ok (.ireturn, 1) := by decide +kernel
theorem dX7_laneOf_0 : decode cX7_laneOf 0 = .ok (.aload_n 0, 1) := by decide +kernel
theorem dX7_laneOf_1 : decode cX7_laneOf 1 = .ok (.getfield 11, 3) := by decide +kernel
theorem dX7_laneOf_4 : decode cX7_laneOf 4 = .ok (.iload_n 1, 1) := by decide +kernel
theorem dX7_laneOf_5 : decode cX7_laneOf 5 = .ok (.invokestatic 25, 3) := by decide +kernel
theorem dX7_laneOf_8 : decode cX7_laneOf 8 = .ok (.ireturn, 1) := by decide +kernel
theorem dX7_sizeOf_0 : decode cX7_sizeOf 0 = .ok (.aload_n 0, 1) := by decide +kernel
theorem dX7_sizeOf_1 : decode cX7_sizeOf 1 = .ok (.getfield 15, 3) := by decide +kernel
theorem dX7_sizeOf_4 : decode cX7_sizeOf 4 = .ok (.iload_n 1, 1) := by decide +kernel
theorem dX7_sizeOf_5 : decode cX7_sizeOf 5 = .ok (.invokestatic 25, 3) := by decide +kernel
theorem dX7_sizeOf_8 : decode cX7_sizeOf 8 = .ok (.ireturn, 1) := by decide +kernel
theorem dX7_isEmpty_0 : decode cX7_isEmpty 0 = .ok (.aload_n 0, 1) := by decide +kernel
theorem dX7_isEmpty_1 : decode cX7_isEmpty 1 = .ok (.iload_n 1, 1) := by decide +kernel
theorem dX7_isEmpty_2 : decode cX7_isEmpty 2 = .ok (.invokevirtual 29, 3) := by decide +kernel
theorem dX7_isEmpty_5 : decode cX7_isEmpty 5 = .ok (.iconst (-1), 1) := by decide +kernel
theorem dX7_isEmpty_6 : decode cX7_isEmpty 6 = .ok (.if_icmp .ne 7, 3) := by decide +kernel
theorem dX7_isEmpty_9 : decode cX7_isEmpty 9 = .ok (.iconst 1, 1) := by decide +kernel
theorem dX7_isEmpty_10 : decode cX7_isEmpty 10 = .ok (.goto 4, 3) := by decide +kernel
theorem dX7_isEmpty_13 : decode cX7_isEmpty 13 = .ok (.iconst 0, 1) := by decide +kernel
theorem dX7_isEmpty_14 : decode cX7_isEmpty 14 = .ok (.ireturn, 1) := by decide +kernel
theorem dX7_placeOf_0 : decode cX7_placeOf 0 = .ok (.iload_n 0, 1) := by decide +kernel
theorem dX7_placeOf_1 : decode cX7_placeOf 1 = .ok (.bipush 100, 2) := by decide +kernel
theorem dX7_placeOf_3 : decode cX7_placeOf 3 = .ok (.imul, 1) := by decide +kernel
theorem dX7_placeOf_4 : decode cX7_placeOf 4 = .ok (.iload_n 1, 1) := by decide +kernel
theorem dX7_placeOf_5 : decode cX7_placeOf 5 = .ok (.iadd, 1) := by decide +kernel
theorem dX7_placeOf_6 : decode cX7_placeOf 6 = .ok (.ireturn, 1) := by decide +kernel
theorem dX7_valueAt_0 : decode cX7_valueAt 0 = .ok (.aload_n 0, 1) := by decide +kernel
theorem dX7_valueAt_1 : decode cX7_valueAt 1 = .ok (.getfield 18, 3) := by decide +kernel
theorem dX7_valueAt_4 : decode cX7_valueAt 4 = .ok (.iload_n 1, 1) := by decide +kernel
theorem dX7_valueAt_5 : decode cX7_valueAt 5 = .ok (.iload_n 2, 1) := by decide +kernel
theorem dX7_valueAt_6 : decode cX7_valueAt 6 = .ok (.invokestatic 33, 3) := by decide +kernel
theorem dX7_valueAt_9 : decode cX7_valueAt 9 = .ok (.invokestatic 25, 3) := by decide +kernel
theorem dX7_valueAt_12 : decode cX7_valueAt 12 = .ok (.ireturn, 1) := by decide +kernel
theorem dX7_renew_0 : decode cX7_renew 0 = .ok (.aload_n 0, 1) := by decide +kernel
theorem dX7_renew_1 : decode cX7_renew 1 = .ok (.getfield 11, 3) := by decide +kernel
theorem dX7_renew_4 : decode cX7_renew 4 = .ok (.iload_n 1, 1) := by decide +kernel
theorem dX7_renew_5 : decode cX7_renew 5 = .ok (.iload_n 2, 1) := by decide +kernel
theorem dX7_renew_6 : decode cX7_renew 6 = .ok (.invokestatic 21, 3) := by decide +kernel
theorem dX7_renew_9 : decode cX7_renew 9 = .ok (.aload_n 0, 1) := by decide +kernel
theorem dX7_renew_10 : decode cX7_renew 10 = .ok (.getfield 15, 3) := by decide +kernel
theorem dX7_renew_13 : decode cX7_renew 13 = .ok (.iload_n 1, 1) := by decide +kernel
theorem dX7_renew_14 : decode cX7_renew 14 = .ok (.iload_n 3, 1) := by decide +kernel
theorem dX7_renew_15 : decode cX7_renew 15 = .ok (.invokestatic 21, 3) := by decide +kernel
theorem dX7_renew_18 : decode cX7_renew 18 = .ok (.iconst 0, 1) := by decide +kernel
theorem dX7_renew_19 : decode cX7_renew 19 = .ok (.istore 4, 2) := by decide +kernel
theorem dX7_renew_21 : decode cX7_renew 21 = .ok (.iload 4, 2) := by decide +kernel
theorem dX7_renew_23 : decode cX7_renew 23 = .ok (.bipush 100, 2) := by decide +kernel
theorem dX7_renew_25 : decode cX7_renew 25 = .ok (.if_icmp .ge 23, 3) := by decide +kernel
theorem dX7_renew_28 : decode cX7_renew 28 = .ok (.aload_n 0, 1) := by decide +kernel
theorem dX7_renew_29 : decode cX7_renew 29 = .ok (.getfield 18, 3) := by decide +kernel
theorem dX7_renew_32 : decode cX7_renew 32 = .ok (.iload_n 1, 1) := by decide +kernel
theorem dX7_renew_33 : decode cX7_renew 33 = .ok (.iload 4, 2) := by decide +kernel
theorem dX7_renew_35 : decode cX7_renew 35 = .ok (.invokestatic 33, 3) := by decide +kernel
theorem dX7_renew_38 : decode cX7_renew 38 = .ok (.iconst 0, 1) := by decide +kernel
theorem dX7_renew_39 : decode cX7_renew 39 = .ok (.invokestatic 21, 3) := by decide +kernel
theorem dX7_renew_42 : decode cX7_renew 42 = .ok (.iinc 4 1, 3) := by decide +kernel
theorem dX7_renew_45 : decode cX7_renew 45 = .ok (.goto (-24), 3) := by decide +kernel
theorem dX7_renew_48 : decode cX7_renew 48 = .ok (.return_, 1) := by decide +kernel
theorem dX7_drop_0 : decode cX7_drop 0 = .ok (.aload_n 0, 1) := by decide +kernel
theorem dX7_drop_1 : decode cX7_drop 1 = .ok (.iload_n 1, 1) := by decide +kernel
theorem dX7_drop_2 : decode cX7_drop 2 = .ok (.invokevirtual 37, 3) := by decide +kernel
theorem dX7_drop_5 : decode cX7_drop 5 = .ok (.ifCond .ne 7, 3) := by decide +kernel
theorem dX7_drop_8 : decode cX7_drop 8 = .ok (.iconst 1, 1) := by decide +kernel
theorem dX7_drop_9 : decode cX7_drop 9 = .ok (.goto 4, 3) := by decide +kernel
theorem dX7_drop_12 : decode cX7_drop 12 = .ok (.iconst 0, 1) := by decide +kernel
theorem dX7_drop_13 : decode cX7_drop 13 = .ok (.istore_n 2, 1) := by decide +kernel
theorem dX7_drop_14 : decode cX7_drop 14 = .ok (.aload_n 0, 1) := by decide +kernel
theorem dX7_drop_15 : decode cX7_drop 15 = .ok (.getfield 11, 3) := by decide +kernel
theorem dX7_drop_18 : decode cX7_drop 18 = .ok (.iload_n 1, 1) := by decide +kernel
theorem dX7_drop_19 : decode cX7_drop 19 = .ok (.iconst (-1), 1) := by decide +kernel
theorem dX7_drop_20 : decode cX7_drop 20 = .ok (.invokestatic 21, 3) := by decide +kernel
theorem dX7_drop_23 : decode cX7_drop 23 = .ok (.aload_n 0, 1) := by decide +kernel
theorem dX7_drop_24 : decode cX7_drop 24 = .ok (.getfield 15, 3) := by decide +kernel
theorem dX7_drop_27 : decode cX7_drop 27 = .ok (.iload_n 1, 1) := by decide +kernel
theorem dX7_drop_28 : decode cX7_drop 28 = .ok (.iconst 0, 1) := by decide +kernel
theorem dX7_drop_29 : decode cX7_drop 29 = .ok (.invokestatic 21, 3) := by decide +kernel
theorem dX7_drop_32 : decode cX7_drop 32 = .ok (.iload_n 2, 1) := by decide +kernel
theorem dX7_drop_33 : decode cX7_drop 33 = .ok (.ireturn, 1) := by decide +kernel
theorem dX7_store_0 : decode cX7_store 0 = .ok (.aload_n 0, 1) := by decide +kernel
theorem dX7_store_1 : decode cX7_store 1 = .ok (.getfield 18, 3) := by decide +kernel
theorem dX7_store_4 : decode cX7_store 4 = .ok (.iload_n 1, 1) := by decide +kernel
theorem dX7_store_5 : decode cX7_store 5 = .ok (.iload_n 2, 1) := by decide +kernel
theorem dX7_store_6 : decode cX7_store 6 = .ok (.invokestatic 33, 3) := by decide +kernel
theorem dX7_store_9 : decode cX7_store 9 = .ok (.aload_n 0, 1) := by decide +kernel
theorem dX7_store_10 : decode cX7_store 10 = .ok (.iload_n 1, 1) := by decide +kernel
theorem dX7_store_11 : decode cX7_store 11 = .ok (.invokevirtual 29, 3) := by decide +kernel
theorem dX7_store_14 : decode cX7_store 14 = .ok (.iload_n 3, 1) := by decide +kernel
theorem dX7_store_15 : decode cX7_store 15 = .ok (.invokestatic 41, 3) := by decide +kernel
theorem dX7_store_18 : decode cX7_store 18 = .ok (.invokestatic 21, 3) := by decide +kernel
theorem dX7_store_21 : decode cX7_store 21 = .ok (.return_, 1) := by decide +kernel
theorem dX7_cutTo_0 : decode cX7_cutTo 0 = .ok (.iload_n 0, 1) := by decide +kernel
theorem dX7_cutTo_1 : decode cX7_cutTo 1 = .ok (.ifCond .ne 6, 3) := by decide +kernel
theorem dX7_cutTo_4 : decode cX7_cutTo 4 = .ok (.iload_n 1, 1) := by decide +kernel
theorem dX7_cutTo_5 : decode cX7_cutTo 5 = .ok (.i2b, 1) := by decide +kernel
theorem dX7_cutTo_6 : decode cX7_cutTo 6 = .ok (.ireturn, 1) := by decide +kernel
theorem dX7_cutTo_7 : decode cX7_cutTo 7 = .ok (.iload_n 0, 1) := by decide +kernel
theorem dX7_cutTo_8 : decode cX7_cutTo 8 = .ok (.iconst 1, 1) := by decide +kernel
theorem dX7_cutTo_9 : decode cX7_cutTo 9 = .ok (.if_icmp .ne 8, 3) := by decide +kernel
theorem dX7_cutTo_12 : decode cX7_cutTo 12 = .ok (.iload_n 1, 1) := by decide +kernel
theorem dX7_cutTo_13 : decode cX7_cutTo 13 = .ok (.i2s, 1) := by decide +kernel
theorem dX7_cutTo_14 : decode cX7_cutTo 14 = .ok (.goto 4, 3) := by decide +kernel
theorem dX7_cutTo_17 : decode cX7_cutTo 17 = .ok (.iload_n 1, 1) := by decide +kernel
theorem dX7_cutTo_18 : decode cX7_cutTo 18 = .ok (.ireturn, 1) := by decide +kernel
theorem dX7_move_0 : decode cX7_move 0 = .ok (.iload 4, 2) := by decide +kernel
theorem dX7_move_2 : decode cX7_move 2 = .ok (.iload_n 2, 1) := by decide +kernel
theorem dX7_move_3 : decode cX7_move 3 = .ok (.if_icmp .le 7, 3) := by decide +kernel
theorem dX7_move_6 : decode cX7_move 6 = .ok (.iconst 1, 1) := by decide +kernel
theorem dX7_move_7 : decode cX7_move 7 = .ok (.goto 4, 3) := by decide +kernel
theorem dX7_move_10 : decode cX7_move 10 = .ok (.iconst 0, 1) := by decide +kernel
theorem dX7_move_11 : decode cX7_move 11 = .ok (.istore 6, 2) := by decide +kernel
theorem dX7_move_13 : decode cX7_move 13 = .ok (.iconst 0, 1) := by decide +kernel
theorem dX7_move_14 : decode cX7_move 14 = .ok (.istore 7, 2) := by decide +kernel
theorem dX7_move_16 : decode cX7_move 16 = .ok (.iload 7, 2) := by decide +kernel
theorem dX7_move_18 : decode cX7_move 18 = .ok (.iload 5, 2) := by decide +kernel
theorem dX7_move_20 : decode cX7_move 20 = .ok (.if_icmp .ge 60, 3) := by decide +kernel
theorem dX7_move_23 : decode cX7_move 23 = .ok (.iload 7, 2) := by decide +kernel
theorem dX7_move_25 : decode cX7_move 25 = .ok (.bipush 100, 2) := by decide +kernel
theorem dX7_move_27 : decode cX7_move 27 = .ok (.if_icmp .ge 53, 3) := by decide +kernel
theorem dX7_move_30 : decode cX7_move 30 = .ok (.iload 6, 2) := by decide +kernel
theorem dX7_move_32 : decode cX7_move 32 = .ok (.ifCond .eq 13, 3) := by decide +kernel
theorem dX7_move_35 : decode cX7_move 35 = .ok (.iload 5, 2) := by decide +kernel
theorem dX7_move_37 : decode cX7_move 37 = .ok (.iconst 1, 1) := by decide +kernel
theorem dX7_move_38 : decode cX7_move 38 = .ok (.isub, 1) := by decide +kernel
theorem dX7_move_39 : decode cX7_move 39 = .ok (.iload 7, 2) := by decide +kernel
theorem dX7_move_41 : decode cX7_move 41 = .ok (.isub, 1) := by decide +kernel
theorem dX7_move_42 : decode cX7_move 42 = .ok (.goto 5, 3) := by decide +kernel
theorem dX7_move_45 : decode cX7_move 45 = .ok (.iload 7, 2) := by decide +kernel
theorem dX7_move_47 : decode cX7_move 47 = .ok (.istore 8, 2) := by decide +kernel
theorem dX7_move_49 : decode cX7_move 49 = .ok (.aload_n 0, 1) := by decide +kernel
theorem dX7_move_50 : decode cX7_move 50 = .ok (.getfield 18, 3) := by decide +kernel
theorem dX7_move_53 : decode cX7_move 53 = .ok (.iload_n 3, 1) := by decide +kernel
theorem dX7_move_54 : decode cX7_move 54 = .ok (.iload 4, 2) := by decide +kernel
theorem dX7_move_56 : decode cX7_move 56 = .ok (.iload 8, 2) := by decide +kernel
theorem dX7_move_58 : decode cX7_move 58 = .ok (.iadd, 1) := by decide +kernel
theorem dX7_move_59 : decode cX7_move 59 = .ok (.invokestatic 33, 3) := by decide +kernel
theorem dX7_move_62 : decode cX7_move 62 = .ok (.aload_n 0, 1) := by decide +kernel
theorem dX7_move_63 : decode cX7_move 63 = .ok (.iload_n 1, 1) := by decide +kernel
theorem dX7_move_64 : decode cX7_move 64 = .ok (.iload_n 2, 1) := by decide +kernel
theorem dX7_move_65 : decode cX7_move 65 = .ok (.iload 8, 2) := by decide +kernel
theorem dX7_move_67 : decode cX7_move 67 = .ok (.iadd, 1) := by decide +kernel
theorem dX7_move_68 : decode cX7_move 68 = .ok (.invokevirtual 44, 3) := by decide +kernel
theorem dX7_move_71 : decode cX7_move 71 = .ok (.invokestatic 21, 3) := by decide +kernel
theorem dX7_move_74 : decode cX7_move 74 = .ok (.iinc 7 1, 3) := by decide +kernel
theorem dX7_move_77 : decode cX7_move 77 = .ok (.goto (-61), 3) := by decide +kernel
theorem dX7_move_80 : decode cX7_move 80 = .ok (.return_, 1) := by decide +kernel
theorem dX7_hasPart_0 : decode cX7_hasPart 0 = .ok (.iload_n 2, 1) := by decide +kernel
theorem dX7_hasPart_1 : decode cX7_hasPart 1 = .ok (.ifCond .lt 27, 3) := by decide +kernel
theorem dX7_hasPart_4 : decode cX7_hasPart 4 = .ok (.iload_n 2, 1) := by decide +kernel
theorem dX7_hasPart_5 : decode cX7_hasPart 5 = .ok (.aload_n 0, 1) := by decide +kernel
theorem dX7_hasPart_6 : decode cX7_hasPart 6 = .ok (.iload_n 1, 1) := by decide +kernel
theorem dX7_hasPart_7 : decode cX7_hasPart 7 = .ok (.invokevirtual 47, 3) := by decide +kernel
theorem dX7_hasPart_10 : decode cX7_hasPart 10 = .ok (.if_icmp .gt 18, 3) := by decide +kernel
theorem dX7_hasPart_13 : decode cX7_hasPart 13 = .ok (.iload_n 3, 1) := by decide +kernel
theorem dX7_hasPart_14 : decode cX7_hasPart 14 = .ok (.aload_n 0, 1) := by decide +kernel
theorem dX7_hasPart_15 : decode cX7_hasPart 15 = .ok (.iload_n 1, 1) := by decide +kernel
theorem dX7_hasPart_16 : decode cX7_hasPart 16 = .ok (.invokevirtual 47, 3) := by decide +kernel
theorem dX7_hasPart_19 : decode cX7_hasPart 19 = .ok (.iload_n 2, 1) := by decide +kernel
theorem dX7_hasPart_20 : decode cX7_hasPart 20 = .ok (.isub, 1) := by decide +kernel
theorem dX7_hasPart_21 : decode cX7_hasPart 21 = .ok (.if_icmp .gt 7, 3) := by decide +kernel
theorem dX7_hasPart_24 : decode cX7_hasPart 24 = .ok (.iconst 1, 1) := by decide +kernel
theorem dX7_hasPart_25 : decode cX7_hasPart 25 = .ok (.goto 4, 3) := by decide +kernel
theorem dX7_hasPart_28 : decode cX7_hasPart 28 = .ok (.iconst 0, 1) := by decide +kernel
theorem dX7_hasPart_29 : decode cX7_hasPart 29 = .ok (.ireturn, 1) := by decide +kernel
theorem dX7_rowRefusal_0 : decode cX7_rowRefusal 0 = .ok (.iload_n 1, 1) := by decide +kernel
theorem dX7_rowRefusal_1 : decode cX7_rowRefusal 1 = .ok (.invokestatic 50, 3) := by decide +kernel
theorem dX7_rowRefusal_4 : decode cX7_rowRefusal 4 = .ok (.ifCond .ne 5, 3) := by decide +kernel
theorem dX7_rowRefusal_7 : decode cX7_rowRefusal 7 = .ok (.iconst (-1), 1) := by decide +kernel
theorem dX7_rowRefusal_8 : decode cX7_rowRefusal 8 = .ok (.ireturn, 1) := by decide +kernel
theorem dX7_rowRefusal_9 : decode cX7_rowRefusal 9 = .ok (.iload_n 2, 1) := by decide +kernel
theorem dX7_rowRefusal_10 : decode cX7_rowRefusal 10 = .ok (.invokestatic 53, 3) := by decide +kernel
theorem dX7_rowRefusal_13 : decode cX7_rowRefusal 13 = .ok (.ifCond .ne 6, 3) := by decide +kernel
theorem dX7_rowRefusal_16 : decode cX7_rowRefusal 16 = .ok (.bipush (-2), 2) := by decide +kernel
theorem dX7_rowRefusal_18 : decode cX7_rowRefusal 18 = .ok (.ireturn, 1) := by decide +kernel
theorem dX7_rowRefusal_19 : decode cX7_rowRefusal 19 = .ok (.aload_n 0, 1) := by decide +kernel
theorem dX7_rowRefusal_20 : decode cX7_rowRefusal 20 = .ok (.iload_n 1, 1) := by decide +kernel
theorem dX7_rowRefusal_21 : decode cX7_rowRefusal 21 = .ok (.invokevirtual 37, 3) := by decide +kernel
theorem dX7_rowRefusal_24 : decode cX7_rowRefusal 24 = .ok (.ifCond .eq 6, 3) := by decide +kernel
theorem dX7_rowRefusal_27 : decode cX7_rowRefusal 27 = .ok (.bipush (-11), 2) := by decide +kernel
theorem dX7_rowRefusal_29 : decode cX7_rowRefusal 29 = .ok (.ireturn, 1) := by decide +kernel
theorem dX7_rowRefusal_30 : decode cX7_rowRefusal 30 = .ok (.aload_n 0, 1) := by decide +kernel
theorem dX7_rowRefusal_31 : decode cX7_rowRefusal 31 = .ok (.iload_n 1, 1) := by decide +kernel
theorem dX7_rowRefusal_32 : decode cX7_rowRefusal 32 = .ok (.invokevirtual 29, 3) := by decide +kernel
theorem dX7_rowRefusal_35 : decode cX7_rowRefusal 35 = .ok (.iload_n 2, 1) := by decide +kernel
theorem dX7_rowRefusal_36 : decode cX7_rowRefusal 36 = .ok (.if_icmp .ne 7, 3) := by decide +kernel
theorem dX7_rowRefusal_39 : decode cX7_rowRefusal 39 = .ok (.iconst 0, 1) := by decide +kernel
theorem dX7_rowRefusal_40 : decode cX7_rowRefusal 40 = .ok (.goto 5, 3) := by decide +kernel
theorem dX7_rowRefusal_43 : decode cX7_rowRefusal 43 = .ok (.bipush (-12), 2) := by decide +kernel
theorem dX7_rowRefusal_45 : decode cX7_rowRefusal 45 = .ok (.ireturn, 1) := by decide +kernel
theorem dX7_partRefusal_0 : decode cX7_partRefusal 0 = .ok (.aload_n 0, 1) := by decide +kernel
theorem dX7_partRefusal_1 : decode cX7_partRefusal 1 = .ok (.iload_n 1, 1) := by decide +kernel
theorem dX7_partRefusal_2 : decode cX7_partRefusal 2 = .ok (.iload_n 2, 1) := by decide +kernel
theorem dX7_partRefusal_3 : decode cX7_partRefusal 3 = .ok (.invokevirtual 56, 3) := by decide +kernel
theorem dX7_partRefusal_6 : decode cX7_partRefusal 6 = .ok (.istore 5, 2) := by decide +kernel
theorem dX7_partRefusal_8 : decode cX7_partRefusal 8 = .ok (.iload 5, 2) := by decide +kernel
theorem dX7_partRefusal_10 : decode cX7_partRefusal 10 = .ok (.ifCond .eq 6, 3) := by decide +kernel
theorem dX7_partRefusal_13 : decode cX7_partRefusal 13 = .ok (.iload 5, 2) := by decide +kernel
theorem dX7_partRefusal_15 : decode cX7_partRefusal 15 = .ok (.ireturn, 1) := by decide +kernel
theorem dX7_partRefusal_16 : decode cX7_partRefusal 16 = .ok (.iload 4, 2) := by decide +kernel
theorem dX7_partRefusal_18 : decode cX7_partRefusal 18 = .ok (.ifCond .ge 6, 3) := by decide +kernel
theorem dX7_partRefusal_21 : decode cX7_partRefusal 21 = .ok (.bipush (-14), 2) := by decide +kernel
theorem dX7_partRefusal_23 : decode cX7_partRefusal 23 = .ok (.ireturn, 1) := by decide +kernel
theorem dX7_partRefusal_24 : decode cX7_partRefusal 24 = .ok (.aload_n 0, 1) := by decide +kernel
theorem dX7_partRefusal_25 : decode cX7_partRefusal 25 = .ok (.iload_n 1, 1) := by decide +kernel
theorem dX7_partRefusal_26 : decode cX7_partRefusal 26 = .ok (.iload_n 3, 1) := by decide +kernel
theorem dX7_partRefusal_27 : decode cX7_partRefusal 27 = .ok (.iload 4, 2) := by decide +kernel
theorem dX7_partRefusal_29 : decode cX7_partRefusal 29 = .ok (.invokevirtual 59, 3) := by decide +kernel
theorem dX7_partRefusal_32 : decode cX7_partRefusal 32 = .ok (.ifCond .eq 7, 3) := by decide +kernel
theorem dX7_partRefusal_35 : decode cX7_partRefusal 35 = .ok (.iconst 0, 1) := by decide +kernel
theorem dX7_partRefusal_36 : decode cX7_partRefusal 36 = .ok (.goto 5, 3) := by decide +kernel
theorem dX7_partRefusal_39 : decode cX7_partRefusal 39 = .ok (.bipush (-13), 2) := by decide +kernel
theorem dX7_partRefusal_41 : decode cX7_partRefusal 41 = .ok (.ireturn, 1) := by decide +kernel
theorem dX8_init_0 : decode cX8_init 0 = .ok (.aload_n 0, 1) := by decide +kernel
theorem dX8_init_1 : decode cX8_init 1 = .ok (.invokespecial 5, 3) := by decide +kernel
theorem dX8_init_4 : decode cX8_init 4 = .ok (.aload_n 0, 1) := by decide +kernel
theorem dX8_init_5 : decode cX8_init 5 = .ok (.iconst 0, 1) := by decide +kernel
theorem dX8_init_6 : decode cX8_init 6 = .ok (.putfield 11, 3) := by decide +kernel
theorem dX8_init_9 : decode cX8_init 9 = .ok (.aload_n 0, 1) := by decide +kernel
theorem dX8_init_10 : decode cX8_init 10 = .ok (.iconst 0, 1) := by decide +kernel
theorem dX8_init_11 : decode cX8_init 11 = .ok (.putfield 15, 3) := by decide +kernel
theorem dX8_init_14 : decode cX8_init 14 = .ok (.aload_n 0, 1) := by decide +kernel
theorem dX8_init_15 : decode cX8_init 15 = .ok (.iconst 0, 1) := by decide +kernel
theorem dX8_init_16 : decode cX8_init 16 = .ok (.putfield 19, 3) := by decide +kernel
theorem dX8_init_19 : decode cX8_init 19 = .ok (.aload_n 0, 1) := by decide +kernel
theorem dX8_init_20 : decode cX8_init 20 = .ok (.new 22, 3) := by decide +kernel
theorem dX8_init_23 : decode cX8_init 23 = .ok (.dup, 1) := by decide +kernel
theorem dX8_init_24 : decode cX8_init 24 = .ok (.invokespecial 24, 3) := by decide +kernel
theorem dX8_init_27 : decode cX8_init 27 = .ok (.putfield 25, 3) := by decide +kernel
theorem dX8_init_30 : decode cX8_init 30 = .ok (.aload_n 0, 1) := by decide +kernel
theorem dX8_init_31 : decode cX8_init 31 = .ok (.new 29, 3) := by decide +kernel
theorem dX8_init_34 : decode cX8_init 34 = .ok (.dup, 1) := by decide +kernel
theorem dX8_init_35 : decode cX8_init 35 = .ok (.invokespecial 31, 3) := by decide +kernel
theorem dX8_init_38 : decode cX8_init 38 = .ok (.putfield 32, 3) := by decide +kernel
theorem dX8_init_41 : decode cX8_init 41 = .ok (.aload_n 0, 1) := by decide +kernel
theorem dX8_init_42 : decode cX8_init 42 = .ok (.new 36, 3) := by decide +kernel
theorem dX8_init_45 : decode cX8_init 45 = .ok (.dup, 1) := by decide +kernel
theorem dX8_init_46 : decode cX8_init 46 = .ok (.aload_n 0, 1) := by decide +kernel
theorem dX8_init_47 : decode cX8_init 47 = .ok (.getfield 25, 3) := by decide +kernel
theorem dX8_init_50 : decode cX8_init 50 = .ok (.getfield 38, 3) := by decide +kernel
theorem dX8_init_53 : decode cX8_init 53 = .ok (.new 29, 3) := by decide +kernel
theorem dX8_init_56 : decode cX8_init 56 = .ok (.dup, 1) := by decide +kernel
theorem dX8_init_57 : decode cX8_init 57 = .ok (.invokespecial 31, 3) := by decide +kernel
theorem dX8_init_60 : decode cX8_init 60 = .ok (.invokespecial 42, 3) := by decide +kernel
theorem dX8_init_63 : decode cX8_init 63 = .ok (.putfield 45, 3) := by decide +kernel
theorem dX8_init_66 : decode cX8_init 66 = .ok (.aload_n 0, 1) := by decide +kernel
theorem dX8_init_67 : decode cX8_init 67 = .ok (.new 49, 3) := by decide +kernel
theorem dX8_init_70 : decode cX8_init 70 = .ok (.dup, 1) := by decide +kernel
theorem dX8_init_71 : decode cX8_init 71 = .ok (.aload_n 0, 1) := by decide +kernel
theorem dX8_init_72 : decode cX8_init 72 = .ok (.getfield 32, 3) := by decide +kernel
theorem dX8_init_75 : decode cX8_init 75 = .ok (.invokespecial 51, 3) := by decide +kernel
theorem dX8_init_78 : decode cX8_init 78 = .ok (.putfield 54, 3) := by decide +kernel
theorem dX8_init_81 : decode cX8_init 81 = .ok (.aload_n 0, 1) := by decide +kernel
theorem dX8_init_82 : decode cX8_init 82 = .ok (.new 58, 3) := by decide +kernel
theorem dX8_init_85 : decode cX8_init 85 = .ok (.dup, 1) := by decide +kernel
theorem dX8_init_86 : decode cX8_init 86 = .ok (.aload_n 0, 1) := by decide +kernel
theorem dX8_init_87 : decode cX8_init 87 = .ok (.getfield 54, 3) := by decide +kernel
theorem dX8_init_90 : decode cX8_init 90 = .ok (.invokespecial 60, 3) := by decide +kernel
theorem dX8_init_93 : decode cX8_init 93 = .ok (.putfield 63, 3) := by decide +kernel
theorem dX8_init_96 : decode cX8_init 96 = .ok (.aload_n 0, 1) := by decide +kernel
theorem dX8_init_97 : decode cX8_init 97 = .ok (.new 67, 3) := by decide +kernel
theorem dX8_init_100 : decode cX8_init 100 = .ok (.dup, 1) := by decide +kernel
theorem dX8_init_101 : decode cX8_init 101 = .ok (.aload_n 0, 1) := by decide +kernel
theorem dX8_init_102 : decode cX8_init 102 = .ok (.getfield 63, 3) := by decide +kernel
theorem dX8_init_105 : decode cX8_init 105 = .ok (.invokespecial 69, 3) := by decide +kernel
theorem dX8_init_108 : decode cX8_init 108 = .ok (.putfield 72, 3) := by decide +kernel
theorem dX8_init_111 : decode cX8_init 111 = .ok (.aload_n 0, 1) := by decide +kernel
theorem dX8_init_112 : decode cX8_init 112 = .ok (.new 49, 3) := by decide +kernel
theorem dX8_init_115 : decode cX8_init 115 = .ok (.dup, 1) := by decide +kernel
theorem dX8_init_116 : decode cX8_init 116 = .ok (.aload_n 0, 1) := by decide +kernel
theorem dX8_init_117 : decode cX8_init 117 = .ok (.getfield 32, 3) := by decide +kernel
theorem dX8_init_120 : decode cX8_init 120 = .ok (.invokespecial 51, 3) := by decide +kernel
theorem dX8_init_123 : decode cX8_init 123 = .ok (.putfield 76, 3) := by decide +kernel
theorem dX8_init_126 : decode cX8_init 126 = .ok (.aload_n 0, 1) := by decide +kernel
theorem dX8_init_127 : decode cX8_init 127 = .ok (.new 58, 3) := by decide +kernel
theorem dX8_init_130 : decode cX8_init 130 = .ok (.dup, 1) := by decide +kernel
theorem dX8_init_131 : decode cX8_init 131 = .ok (.aload_n 0, 1) := by decide +kernel
theorem dX8_init_132 : decode cX8_init 132 = .ok (.getfield 76, 3) := by decide +kernel
theorem dX8_init_135 : decode cX8_init 135 = .ok (.invokespecial 60, 3) := by decide +kernel
theorem dX8_init_138 : decode cX8_init 138 = .ok (.putfield 79, 3) := by decide +kernel
theorem dX8_init_141 : decode cX8_init 141 = .ok (.aload_n 0, 1) := by decide +kernel
theorem dX8_init_142 : decode cX8_init 142 = .ok (.new 67, 3) := by decide +kernel
theorem dX8_init_145 : decode cX8_init 145 = .ok (.dup, 1) := by decide +kernel
theorem dX8_init_146 : decode cX8_init 146 = .ok (.aload_n 0, 1) := by decide +kernel
theorem dX8_init_147 : decode cX8_init 147 = .ok (.getfield 79, 3) := by decide +kernel
theorem dX8_init_150 : decode cX8_init 150 = .ok (.invokespecial 69, 3) := by decide +kernel
theorem dX8_init_153 : decode cX8_init 153 = .ok (.putfield 82, 3) := by decide +kernel
theorem dX8_init_156 : decode cX8_init 156 = .ok (.aload_n 0, 1) := by decide +kernel
theorem dX8_init_157 : decode cX8_init 157 = .ok (.new 85, 3) := by decide +kernel
theorem dX8_init_160 : decode cX8_init 160 = .ok (.dup, 1) := by decide +kernel
theorem dX8_init_161 : decode cX8_init 161 = .ok (.invokespecial 87, 3) := by decide +kernel
theorem dX8_init_164 : decode cX8_init 164 = .ok (.putfield 88, 3) := by decide +kernel
theorem dX8_init_167 : decode cX8_init 167 = .ok (.aload_n 0, 1) := by decide +kernel
theorem dX8_init_168 : decode cX8_init 168 = .ok (.new 92, 3) := by decide +kernel
theorem dX8_init_171 : decode cX8_init 171 = .ok (.dup, 1) := by decide +kernel
theorem dX8_init_172 : decode cX8_init 172 = .ok (.aload_n 0, 1) := by decide +kernel
theorem dX8_init_173 : decode cX8_init 173 = .ok (.getfield 54, 3) := by decide +kernel
theorem dX8_init_176 : decode cX8_init 176 = .ok (.aload_n 0, 1) := by decide +kernel
theorem dX8_init_177 : decode cX8_init 177 = .ok (.getfield 82, 3) := by decide +kernel
theorem dX8_init_180 : decode cX8_init 180 = .ok (.invokespecial 94, 3) := by decide +kernel
theorem dX8_init_183 : decode cX8_init 183 = .ok (.putfield 97, 3) := by decide +kernel
theorem dX8_init_186 : decode cX8_init 186 = .ok (.return_, 1) := by decide +kernel
theorem dX8_at_0 : decode cX8_at 0 = .ok (.aload_n 0, 1) := by decide +kernel
theorem dX8_at_1 : decode cX8_at 1 = .ok (.ifnull 19, 3) := by decide +kernel
theorem dX8_at_4 : decode cX8_at 4 = .ok (.iload_n 1, 1) := by decide +kernel
theorem dX8_at_5 : decode cX8_at 5 = .ok (.ifCond .lt 15, 3) := by decide +kernel
theorem dX8_at_8 : decode cX8_at 8 = .ok (.iload_n 1, 1) := by decide +kernel
theorem dX8_at_9 : decode cX8_at 9 = .ok (.aload_n 0, 1) := by decide +kernel
theorem dX8_at_10 : decode cX8_at 10 = .ok (.arraylength, 1) := by decide +kernel
theorem dX8_at_11 : decode cX8_at 11 = .ok (.if_icmp .ge 9, 3) := by decide +kernel
theorem dX8_at_14 : decode cX8_at 14 = .ok (.aload_n 0, 1) := by decide +kernel
theorem dX8_at_15 : decode cX8_at 15 = .ok (.iload_n 1, 1) := by decide +kernel
theorem dX8_at_16 : decode cX8_at 16 = .ok (.iaload, 1) := by decide +kernel
theorem dX8_at_17 : decode cX8_at 17 = .ok (.goto 4, 3) := by decide +kernel
theorem dX8_at_20 : decode cX8_at 20 = .ok (.iconst 0, 1) := by decide +kernel
theorem dX8_at_21 : decode cX8_at 21 = .ok (.ireturn, 1) := by decide +kernel
theorem dX8_set_0 : decode cX8_set 0 = .ok (.aload_n 0, 1) := by decide +kernel
theorem dX8_set_1 : decode cX8_set 1 = .ok (.ifnull 17, 3) := by decide +kernel
theorem dX8_set_4 : decode cX8_set 4 = .ok (.iload_n 1, 1) := by decide +kernel
theorem dX8_set_5 : decode cX8_set 5 = .ok (.ifCond .lt 13, 3) := by decide +kernel
theorem dX8_set_8 : decode cX8_set 8 = .ok (.iload_n 1, 1) := by decide +kernel
theorem dX8_set_9 : decode cX8_set 9 = .ok (.aload_n 0, 1) := by decide +kernel
theorem dX8_set_10 : decode cX8_set 10 = .ok (.arraylength, 1) := by decide +kernel
theorem dX8_set_11 : decode cX8_set 11 = .ok (.if_icmp .ge 7, 3) := by decide +kernel
theorem dX8_set_14 : decode cX8_set 14 = .ok (.aload_n 0, 1) := by decide +kernel
theorem dX8_set_15 : decode cX8_set 15 = .ok (.iload_n 1, 1) := by decide +kernel
theorem dX8_set_16 : decode cX8_set 16 = .ok (.iload_n 2, 1) := by decide +kernel
theorem dX8_set_17 : decode cX8_set 17 = .ok (.iastore, 1) := by decide +kernel
theorem dX8_set_18 : decode cX8_set 18 = .ok (.return_, 1) := by decide +kernel
theorem dX8_longAt_0 : decode cX8_longAt 0 = .ok (.aload_n 0, 1) := by decide +kernel
theorem dX8_longAt_1 : decode cX8_longAt 1 = .ok (.ifnull 19, 3) := by decide +kernel
theorem dX8_longAt_4 : decode cX8_longAt 4 = .ok (.iload_n 1, 1) := by decide +kernel
theorem dX8_longAt_5 : decode cX8_longAt 5 = .ok (.ifCond .lt 15, 3) := by decide +kernel
theorem dX8_longAt_8 : decode cX8_longAt 8 = .ok (.iload_n 1, 1) := by decide +kernel
theorem dX8_longAt_9 : decode cX8_longAt 9 = .ok (.aload_n 0, 1) := by decide +kernel
theorem dX8_longAt_10 : decode cX8_longAt 10 = .ok (.arraylength, 1) := by decide +kernel
theorem dX8_longAt_11 : decode cX8_longAt 11 = .ok (.if_icmp .ge 9, 3) := by decide +kernel
theorem dX8_longAt_14 : decode cX8_longAt 14 = .ok (.aload_n 0, 1) := by decide +kernel
theorem dX8_longAt_15 : decode cX8_longAt 15 = .ok (.iload_n 1, 1) := by decide +kernel
theorem dX8_longAt_16 : decode cX8_longAt 16 = .ok (.laload, 1) := by decide +kernel
theorem dX8_longAt_17 : decode cX8_longAt 17 = .ok (.goto 4, 3) := by decide +kernel
theorem dX8_longAt_20 : decode cX8_longAt 20 = .ok (.lconst 0, 1) := by decide +kernel
theorem dX8_longAt_21 : decode cX8_longAt 21 = .ok (.lreturn, 1) := by decide +kernel
theorem dX8_setLong_0 : decode cX8_setLong 0 = .ok (.aload_n 0, 1) := by decide +kernel
theorem dX8_setLong_1 : decode cX8_setLong 1 = .ok (.ifnull 17, 3) := by decide +kernel
theorem dX8_setLong_4 : decode cX8_setLong 4 = .ok (.iload_n 1, 1) := by decide +kernel
theorem dX8_setLong_5 : decode cX8_setLong 5 = .ok (.ifCond .lt 13, 3) := by decide +kernel
theorem dX8_setLong_8 : decode cX8_setLong 8 = .ok (.iload_n 1, 1) := by decide +kernel
theorem dX8_setLong_9 : decode cX8_setLong 9 = .ok (.aload_n 0, 1) := by decide +kernel
theorem dX8_setLong_10 : decode cX8_setLong 10 = .ok (.arraylength, 1) := by decide +kernel
theorem dX8_setLong_11 : decode cX8_setLong 11 = .ok (.if_icmp .ge 7, 3) := by decide +kernel
theorem dX8_setLong_14 : decode cX8_setLong 14 = .ok (.aload_n 0, 1) := by decide +kernel
theorem dX8_setLong_15 : decode cX8_setLong 15 = .ok (.iload_n 1, 1) := by decide +kernel
theorem dX8_setLong_16 : decode cX8_setLong 16 = .ok (.lload_n 2, 1) := by decide +kernel
theorem dX8_setLong_17 : decode cX8_setLong 17 = .ok (.lastore, 1) := by decide +kernel
theorem dX8_setLong_18 : decode cX8_setLong 18 = .ok (.return_, 1) := by decide +kernel
theorem dX8_worthIn_0 : decode cX8_worthIn 0 = .ok (.iload_n 2, 1) := by decide +kernel
theorem dX8_worthIn_1 : decode cX8_worthIn 1 = .ok (.ifCond .lt 22, 3) := by decide +kernel
theorem dX8_worthIn_4 : decode cX8_worthIn 4 = .ok (.iload_n 2, 1) := by decide +kernel
theorem dX8_worthIn_5 : decode cX8_worthIn 5 = .ok (.iconst 5, 1) := by decide +kernel
theorem dX8_worthIn_6 : decode cX8_worthIn 6 = .ok (.if_icmp .ge 17, 3) := by decide +kernel
theorem dX8_worthIn_9 : decode cX8_worthIn 9 = .ok (.lload_n 0, 1) := by decide +kernel
theorem dX8_worthIn_10 : decode cX8_worthIn 10 = .ok (.iload_n 2, 1) := by decide +kernel
theorem dX8_worthIn_11 : decode cX8_worthIn 11 = .ok (.bipush 8, 2) := by decide +kernel
theorem dX8_worthIn_13 : decode cX8_worthIn 13 = .ok (.imul, 1) := by decide +kernel
theorem dX8_worthIn_14 : decode cX8_worthIn 14 = .ok (.lshr, 1) := by decide +kernel
theorem dX8_worthIn_15 : decode cX8_worthIn 15 = .ok (.l2i, 1) := by decide +kernel
theorem dX8_worthIn_16 : decode cX8_worthIn 16 = .ok (.sipush 255, 3) := by decide +kernel
theorem dX8_worthIn_19 : decode cX8_worthIn 19 = .ok (.iand, 1) := by decide +kernel
theorem dX8_worthIn_20 : decode cX8_worthIn 20 = .ok (.goto 4, 3) := by decide +kernel
theorem dX8_worthIn_23 : decode cX8_worthIn 23 = .ok (.iconst 0, 1) := by decide +kernel
theorem dX8_worthIn_24 : decode cX8_worthIn 24 = .ok (.ireturn, 1) := by decide +kernel
theorem dX8_worthToAll_0 : decode cX8_worthToAll 0 = .ok (.iconst 0, 1) := by decide +kernel
theorem dX8_worthToAll_1 : decode cX8_worthToAll 1 = .ok (.istore_n 2, 1) := by decide +kernel
theorem dX8_worthToAll_2 : decode cX8_worthToAll 2 = .ok (.iconst 0, 1) := by decide +kernel
theorem dX8_worthToAll_3 : decode cX8_worthToAll 3 = .ok (.istore_n 3, 1) := by decide +kernel
theorem dX8_worthToAll_4 : decode cX8_worthToAll 4 = .ok (.iload_n 3, 1) := by decide +kernel
theorem dX8_worthToAll_5 : decode cX8_worthToAll 5 = .ok (.iconst 5, 1) := by decide +kernel
theorem dX8_worthToAll_6 : decode cX8_worthToAll 6 = .ok (.if_icmp .ge 17, 3) := by decide +kernel
theorem dX8_worthToAll_9 : decode cX8_worthToAll 9 = .ok (.iload_n 2, 1) := by decide +kernel
theorem dX8_worthToAll_10 : decode cX8_worthToAll 10 = .ok (.lload_n 0, 1) := by decide +kernel
theorem dX8_worthToAll_11 : decode cX8_worthToAll 11 = .ok (.iload_n 3, 1) := by decide +kernel
theorem dX8_worthToAll_12 : decode cX8_worthToAll 12 = .ok (.invokestatic 101, 3) := by decide +kernel
theorem dX8_worthToAll_15 : decode cX8_worthToAll 15 = .ok (.iadd, 1) := by decide +kernel
theorem dX8_worthToAll_16 : decode cX8_worthToAll 16 = .ok (.istore_n 2, 1) := by decide +kernel
theorem dX8_worthToAll_17 : decode cX8_worthToAll 17 = .ok (.iinc 3 1, 3) := by decide +kernel
theorem dX8_worthToAll_20 : decode cX8_worthToAll 20 = .ok (.goto (-16), 3) := by decide +kernel
theorem dX8_worthToAll_23 : decode cX8_worthToAll 23 = .ok (.iload_n 2, 1) := by decide +kernel
theorem dX8_worthToAll_24 : decode cX8_worthToAll 24 = .ok (.ireturn, 1) := by decide +kernel
theorem dX8_council_0 : decode cX8_council 0 = .ok (.aload_n 0, 1) := by decide +kernel
theorem dX8_council_1 : decode cX8_council 1 = .ok (.getfield 25, 3) := by decide +kernel
theorem dX8_council_4 : decode cX8_council 4 = .ok (.iload_n 1, 1) := by decide +kernel
theorem dX8_council_5 : decode cX8_council 5 = .ok (.iload_n 2, 1) := by decide +kernel
theorem dX8_council_6 : decode cX8_council 6 = .ok (.iload_n 3, 1) := by decide +kernel
theorem dX8_council_7 : decode cX8_council 7 = .ok (.iload 4, 2) := by decide +kernel
theorem dX8_council_9 : decode cX8_council 9 = .ok (.invokevirtual 105, 3) := by decide +kernel
theorem dX8_council_12 : decode cX8_council 12 = .ok (.istore 5, 2) := by decide +kernel
theorem dX8_council_14 : decode cX8_council 14 = .ok (.iload 5, 2) := by decide +kernel
theorem dX8_council_16 : decode cX8_council 16 = .ok (.ifCond .eq 10, 3) := by decide +kernel
theorem dX8_council_19 : decode cX8_council 19 = .ok (.aload_n 0, 1) := by decide +kernel
theorem dX8_council_20 : decode cX8_council 20 = .ok (.iload 5, 2) := by decide +kernel
theorem dX8_council_22 : decode cX8_council 22 = .ok (.invokevirtual 109, 3) := by decide +kernel
theorem dX8_council_25 : decode cX8_council 25 = .ok (.ireturn, 1) := by decide +kernel
theorem dX8_council_26 : decode cX8_council 26 = .ok (.aload_n 0, 1) := by decide +kernel
theorem dX8_council_27 : decode cX8_council 27 = .ok (.getfield 45, 3) := by decide +kernel
theorem dX8_council_30 : decode cX8_council 30 = .ok (.iload_n 1, 1) := by decide +kernel
theorem dX8_council_31 : decode cX8_council 31 = .ok (.iload_n 3, 1) := by decide +kernel
theorem dX8_council_32 : decode cX8_council 32 = .ok (.invokestatic 113, 3) := by decide +kernel
theorem dX8_council_35 : decode cX8_council 35 = .ok (.iload 4, 2) := by decide +kernel
theorem dX8_council_37 : decode cX8_council 37 = .ok (.invokevirtual 117, 3) := by decide +kernel
theorem dX8_council_40 : decode cX8_council 40 = .ok (.istore 6, 2) := by decide +kernel
theorem dX8_council_42 : decode cX8_council 42 = .ok (.iload 6, 2) := by decide +kernel
theorem dX8_council_44 : decode cX8_council 44 = .ok (.ifCond .lt 13, 3) := by decide +kernel
theorem dX8_council_47 : decode cX8_council 47 = .ok (.aload_n 0, 1) := by decide +kernel
theorem dX8_council_48 : decode cX8_council 48 = .ok (.bipush (-100), 2) := by decide +kernel
theorem dX8_council_50 : decode cX8_council 50 = .ok (.iload 6, 2) := by decide +kernel
theorem dX8_council_52 : decode cX8_council 52 = .ok (.isub, 1) := by decide +kernel
theorem dX8_council_53 : decode cX8_council 53 = .ok (.invokevirtual 109, 3) := by decide +kernel
theorem dX8_council_56 : decode cX8_council 56 = .ok (.ireturn, 1) := by decide +kernel
theorem dX8_council_57 : decode cX8_council 57 = .ok (.aload_n 0, 1) := by decide +kernel
theorem dX8_council_58 : decode cX8_council 58 = .ok (.getfield 32, 3) := by decide +kernel
theorem dX8_council_61 : decode cX8_council 61 = .ok (.aload_n 0, 1) := by decide +kernel
theorem dX8_council_62 : decode cX8_council 62 = .ok (.getfield 45, 3) := by decide +kernel
theorem dX8_council_65 : decode cX8_council 65 = .ok (.getfield 120, 3) := by decide +kernel
theorem dX8_council_68 : decode cX8_council 68 = .ok (.invokevirtual 123, 3) := by decide +kernel
theorem dX8_council_71 : decode cX8_council 71 = .ok (.aload_n 0, 1) := by decide +kernel
theorem dX8_council_72 : decode cX8_council 72 = .ok (.getfield 54, 3) := by decide +kernel
theorem dX8_council_75 : decode cX8_council 75 = .ok (.invokevirtual 126, 3) := by decide +kernel
theorem dX8_council_78 : decode cX8_council 78 = .ok (.aload_n 0, 1) := by decide +kernel
theorem dX8_council_79 : decode cX8_council 79 = .ok (.invokevirtual 129, 3) := by decide +kernel
theorem dX8_council_82 : decode cX8_council 82 = .ok (.aload_n 0, 1) := by decide +kernel
theorem dX8_council_83 : decode cX8_council 83 = .ok (.aload_n 0, 1) := by decide +kernel
theorem dX8_council_84 : decode cX8_council 84 = .ok (.getfield 32, 3) := by decide +kernel
theorem dX8_council_87 : decode cX8_council 87 = .ok (.getfield 132, 3) := by decide +kernel
theorem dX8_council_90 : decode cX8_council 90 = .ok (.invokevirtual 109, 3) := by decide +kernel
theorem dX8_council_93 : decode cX8_council 93 = .ok (.ireturn, 1) := by decide +kernel
theorem dX8_ofSpeaker_0 : decode cX8_ofSpeaker 0 = .ok (.aload_n 0, 1) := by decide +kernel
theorem dX8_ofSpeaker_1 : decode cX8_ofSpeaker 1 = .ok (.getfield 32, 3) := by decide +kernel
theorem dX8_ofSpeaker_4 : decode cX8_ofSpeaker 4 = .ok (.iload_n 1, 1) := by decide +kernel
theorem dX8_ofSpeaker_5 : decode cX8_ofSpeaker 5 = .ok (.invokevirtual 135, 3) := by decide +kernel
theorem dX8_ofSpeaker_8 : decode cX8_ofSpeaker 8 = .ok (.ifCond .ne 5, 3) := by decide +kernel
theorem dX8_ofSpeaker_11 : decode cX8_ofSpeaker 11 = .ok (.iconst (-1), 1) := by decide +kernel
theorem dX8_ofSpeaker_12 : decode cX8_ofSpeaker 12 = .ok (.ireturn, 1) := by decide +kernel
theorem dX8_ofSpeaker_13 : decode cX8_ofSpeaker 13 = .ok (.iload_n 2, 1) := by decide +kernel
theorem dX8_ofSpeaker_14 : decode cX8_ofSpeaker 14 = .ok (.tableswitch 53 0 2 #[26, 35, 44], 26) := by decide +kernel
theorem dX8_ofSpeaker_40 : decode cX8_ofSpeaker 40 = .ok (.aload_n 0, 1) := by decide +kernel
theorem dX8_ofSpeaker_41 : decode cX8_ofSpeaker 41 = .ok (.getfield 32, 3) := by decide +kernel
theorem dX8_ofSpeaker_44 : decode cX8_ofSpeaker 44 = .ok (.iload_n 1, 1) := by decide +kernel
theorem dX8_ofSpeaker_45 : decode cX8_ofSpeaker 45 = .ok (.invokevirtual 139, 3) := by decide +kernel
theorem dX8_ofSpeaker_48 : decode cX8_ofSpeaker 48 = .ok (.ireturn, 1) := by decide +kernel
theorem dX8_ofSpeaker_49 : decode cX8_ofSpeaker 49 = .ok (.aload_n 0, 1) := by decide +kernel
theorem dX8_ofSpeaker_50 : decode cX8_ofSpeaker 50 = .ok (.getfield 32, 3) := by decide +kernel
theorem dX8_ofSpeaker_53 : decode cX8_ofSpeaker 53 = .ok (.iload_n 1, 1) := by decide +kernel
theorem dX8_ofSpeaker_54 : decode cX8_ofSpeaker 54 = .ok (.invokevirtual 142, 3) := by decide +kernel
theorem dX8_ofSpeaker_57 : decode cX8_ofSpeaker 57 = .ok (.ireturn, 1) := by decide +kernel
theorem dX8_ofSpeaker_58 : decode cX8_ofSpeaker 58 = .ok (.aload_n 0, 1) := by decide +kernel
theorem dX8_ofSpeaker_59 : decode cX8_ofSpeaker 59 = .ok (.getfield 54, 3) := by decide +kernel
theorem dX8_ofSpeaker_62 : decode cX8_ofSpeaker 62 = .ok (.iload_n 1, 1) := by decide +kernel
theorem dX8_ofSpeaker_63 : decode cX8_ofSpeaker 63 = .ok (.invokevirtual 145, 3) := by decide +kernel
theorem dX8_ofSpeaker_66 : decode cX8_ofSpeaker 66 = .ok (.ireturn, 1) := by decide +kernel
theorem dX8_ofSpeaker_67 : decode cX8_ofSpeaker 67 = .ok (.bipush (-2), 2) := by decide +kernel
theorem dX8_ofSpeaker_69 : decode cX8_ofSpeaker 69 = .ok (.ireturn, 1) := by decide +kernel
theorem dX8_ofWord_0 : decode cX8_ofWord 0 = .ok (.aload_n 0, 1) := by decide +kernel
theorem dX8_ofWord_1 : decode cX8_ofWord 1 = .ok (.getfield 32, 3) := by decide +kernel
theorem dX8_ofWord_4 : decode cX8_ofWord 4 = .ok (.iload_n 1, 1) := by decide +kernel
theorem dX8_ofWord_5 : decode cX8_ofWord 5 = .ok (.iload_n 2, 1) := by decide +kernel
theorem dX8_ofWord_6 : decode cX8_ofWord 6 = .ok (.invokevirtual 147, 3) := by decide +kernel
theorem dX8_ofWord_9 : decode cX8_ofWord 9 = .ok (.ifCond .ne 5, 3) := by decide +kernel
theorem dX8_ofWord_12 : decode cX8_ofWord 12 = .ok (.iconst (-1), 1) := by decide +kernel
theorem dX8_ofWord_13 : decode cX8_ofWord 13 = .ok (.ireturn, 1) := by decide +kernel
theorem dX8_ofWord_14 : decode cX8_ofWord 14 = .ok (.iload_n 3, 1) := by decide +kernel
theorem dX8_ofWord_15 : decode cX8_ofWord 15 = .ok (.tableswitch 55 0 2 #[25, 35, 45], 25) := by decide +kernel
theorem dX8_ofWord_40 : decode cX8_ofWord 40 = .ok (.aload_n 0, 1) := by decide +kernel
theorem dX8_ofWord_41 : decode cX8_ofWord 41 = .ok (.getfield 32, 3) := by decide +kernel
theorem dX8_ofWord_44 : decode cX8_ofWord 44 = .ok (.iload_n 1, 1) := by decide +kernel
theorem dX8_ofWord_45 : decode cX8_ofWord 45 = .ok (.iload_n 2, 1) := by decide +kernel
theorem dX8_ofWord_46 : decode cX8_ofWord 46 = .ok (.invokevirtual 151, 3) := by decide +kernel
theorem dX8_ofWord_49 : decode cX8_ofWord 49 = .ok (.ireturn, 1) := by decide +kernel
theorem dX8_ofWord_50 : decode cX8_ofWord 50 = .ok (.aload_n 0, 1) := by decide +kernel
theorem dX8_ofWord_51 : decode cX8_ofWord 51 = .ok (.getfield 32, 3) := by decide +kernel
theorem dX8_ofWord_54 : decode cX8_ofWord 54 = .ok (.iload_n 1, 1) := by decide +kernel
theorem dX8_ofWord_55 : decode cX8_ofWord 55 = .ok (.iload_n 2, 1) := by decide +kernel
theorem dX8_ofWord_56 : decode cX8_ofWord 56 = .ok (.invokevirtual 154, 3) := by decide +kernel
theorem dX8_ofWord_59 : decode cX8_ofWord 59 = .ok (.ireturn, 1) := by decide +kernel
theorem dX8_ofWord_60 : decode cX8_ofWord 60 = .ok (.aload_n 0, 1) := by decide +kernel
theorem dX8_ofWord_61 : decode cX8_ofWord 61 = .ok (.getfield 32, 3) := by decide +kernel
theorem dX8_ofWord_64 : decode cX8_ofWord 64 = .ok (.iload_n 1, 1) := by decide +kernel
theorem dX8_ofWord_65 : decode cX8_ofWord 65 = .ok (.iload_n 2, 1) := by decide +kernel
theorem dX8_ofWord_66 : decode cX8_ofWord 66 = .ok (.invokevirtual 157, 3) := by decide +kernel
theorem dX8_ofWord_69 : decode cX8_ofWord 69 = .ok (.ireturn, 1) := by decide +kernel
theorem dX8_ofWord_70 : decode cX8_ofWord 70 = .ok (.bipush (-2), 2) := by decide +kernel
theorem dX8_ofWord_72 : decode cX8_ofWord 72 = .ok (.ireturn, 1) := by decide +kernel
theorem dX8_law_0 : decode cX8_law 0 = .ok (.iload_n 1, 1) := by decide +kernel
theorem dX8_law_1 : decode cX8_law 1 = .ok (.ifCond .lt 8, 3) := by decide +kernel
theorem dX8_law_4 : decode cX8_law 4 = .ok (.iload_n 1, 1) := by decide +kernel
theorem dX8_law_5 : decode cX8_law 5 = .ok (.iconst 4, 1) := by decide +kernel
theorem dX8_law_6 : decode cX8_law 6 = .ok (.if_icmp .lt 6, 3) := by decide +kernel
theorem dX8_law_9 : decode cX8_law 9 = .ok (.bipush (-2), 2) := by decide +kernel
theorem dX8_law_11 : decode cX8_law 11 = .ok (.ireturn, 1) := by decide +kernel
theorem dX8_law_12 : decode cX8_law 12 = .ok (.aload_n 0, 1) := by decide +kernel
theorem dX8_law_13 : decode cX8_law 13 = .ok (.getfield 32, 3) := by decide +kernel
theorem dX8_law_16 : decode cX8_law 16 = .ok (.getfield 132, 3) := by decide +kernel
theorem dX8_law_19 : decode cX8_law 19 = .ok (.ifCond .ne 6, 3) := by decide +kernel
theorem dX8_law_22 : decode cX8_law 22 = .ok (.bipush (-3), 2) := by decide +kernel
theorem dX8_law_24 : decode cX8_law 24 = .ok (.ireturn, 1) := by decide +kernel
theorem dX8_law_25 : decode cX8_law 25 = .ok (.aload_n 0, 1) := by decide +kernel
theorem dX8_law_26 : decode cX8_law 26 = .ok (.getfield 54, 3) := by decide +kernel
theorem dX8_law_29 : decode cX8_law 29 = .ok (.getfield 160, 3) := by decide +kernel
theorem dX8_law_32 : decode cX8_law 32 = .ok (.istore_n 2, 1) := by decide +kernel
theorem dX8_law_33 : decode cX8_law 33 = .ok (.aload_n 0, 1) := by decide +kernel
theorem dX8_law_34 : decode cX8_law 34 = .ok (.getfield 54, 3) := by decide +kernel
theorem dX8_law_37 : decode cX8_law 37 = .ok (.iload_n 1, 1) := by decide +kernel
theorem dX8_law_38 : decode cX8_law 38 = .ok (.putfield 160, 3) := by decide +kernel
theorem dX8_law_41 : decode cX8_law 41 = .ok (.aload_n 0, 1) := by decide +kernel
theorem dX8_law_42 : decode cX8_law 42 = .ok (.invokevirtual 129, 3) := by decide +kernel
theorem dX8_law_45 : decode cX8_law 45 = .ok (.iload_n 2, 1) := by decide +kernel
theorem dX8_law_46 : decode cX8_law 46 = .ok (.ireturn, 1) := by decide +kernel
theorem dX8_swap_0 : decode cX8_swap 0 = .ok (.aload_n 0, 1) := by decide +kernel
theorem dX8_swap_1 : decode cX8_swap 1 = .ok (.getfield 32, 3) := by decide +kernel
theorem dX8_swap_4 : decode cX8_swap 4 = .ok (.iload_n 1, 1) := by decide +kernel
theorem dX8_swap_5 : decode cX8_swap 5 = .ok (.invokevirtual 135, 3) := by decide +kernel
theorem dX8_swap_8 : decode cX8_swap 8 = .ok (.ifCond .eq 14, 3) := by decide +kernel
theorem dX8_swap_11 : decode cX8_swap 11 = .ok (.aload_n 0, 1) := by decide +kernel
theorem dX8_swap_12 : decode cX8_swap 12 = .ok (.getfield 32, 3) := by decide +kernel
theorem dX8_swap_15 : decode cX8_swap 15 = .ok (.iload_n 2, 1) := by decide +kernel
theorem dX8_swap_16 : decode cX8_swap 16 = .ok (.invokevirtual 135, 3) := by decide +kernel
theorem dX8_swap_19 : decode cX8_swap 19 = .ok (.ifCond .ne 5, 3) := by decide +kernel
theorem dX8_swap_22 : decode cX8_swap 22 = .ok (.iconst (-1), 1) := by decide +kernel
theorem dX8_swap_23 : decode cX8_swap 23 = .ok (.ireturn, 1) := by decide +kernel
theorem dX8_swap_24 : decode cX8_swap 24 = .ok (.aload_n 0, 1) := by decide +kernel
theorem dX8_swap_25 : decode cX8_swap 25 = .ok (.getfield 54, 3) := by decide +kernel
theorem dX8_swap_28 : decode cX8_swap 28 = .ok (.aload_n 0, 1) := by decide +kernel
theorem dX8_swap_29 : decode cX8_swap 29 = .ok (.getfield 54, 3) := by decide +kernel
theorem dX8_swap_32 : decode cX8_swap 32 = .ok (.iload_n 1, 1) := by decide +kernel
theorem dX8_swap_33 : decode cX8_swap 33 = .ok (.invokevirtual 145, 3) := by decide +kernel
theorem dX8_swap_36 : decode cX8_swap 36 = .ok (.aload_n 0, 1) := by decide +kernel
theorem dX8_swap_37 : decode cX8_swap 37 = .ok (.getfield 54, 3) := by decide +kernel
theorem dX8_swap_40 : decode cX8_swap 40 = .ok (.iload_n 2, 1) := by decide +kernel
theorem dX8_swap_41 : decode cX8_swap 41 = .ok (.invokevirtual 145, 3) := by decide +kernel
theorem dX8_swap_44 : decode cX8_swap 44 = .ok (.invokevirtual 163, 3) := by decide +kernel
theorem dX8_swap_47 : decode cX8_swap 47 = .ok (.aload_n 0, 1) := by decide +kernel
theorem dX8_swap_48 : decode cX8_swap 48 = .ok (.invokevirtual 129, 3) := by decide +kernel
theorem dX8_swap_51 : decode cX8_swap 51 = .ok (.iconst 1, 1) := by decide +kernel
theorem dX8_swap_52 : decode cX8_swap 52 = .ok (.ireturn, 1) := by decide +kernel
theorem dX8_forgetWhatWas_0 : decode cX8_forgetWhatWas 0 = .ok (.aload_n 0, 1) := by decide +kernel
theorem dX8_forgetWhatWas_1 : decode cX8_forgetWhatWas 1 = .ok (.iconst 0, 1) := by decide +kernel
theorem dX8_forgetWhatWas_2 : decode cX8_forgetWhatWas 2 = .ok (.putfield 11, 3) := by decide +kernel
theorem dX8_forgetWhatWas_5 : decode cX8_forgetWhatWas 5 = .ok (.aload_n 0, 1) := by decide +kernel
theorem dX8_forgetWhatWas_6 : decode cX8_forgetWhatWas 6 = .ok (.getfield 97, 3) := by decide +kernel
theorem dX8_forgetWhatWas_9 : decode cX8_forgetWhatWas 9 = .ok (.invokevirtual 167, 3) := by decide +kernel
theorem dX8_forgetWhatWas_12 : decode cX8_forgetWhatWas 12 = .ok (.aload_n 0, 1) := by decide +kernel
theorem dX8_forgetWhatWas_13 : decode cX8_forgetWhatWas 13 = .ok (.getfield 88, 3) := by decide +kernel
theorem dX8_forgetWhatWas_16 : decode cX8_forgetWhatWas 16 = .ok (.invokevirtual 170, 3) := by decide +kernel
theorem dX8_forgetWhatWas_19 : decode cX8_forgetWhatWas 19 = .ok (.return_, 1) := by decide +kernel
theorem dX8_judge_0 : decode cX8_judge 0 = .ok (.aload_n 0, 1) := by decide +kernel
theorem dX8_judge_1 : decode cX8_judge 1 = .ok (.iload_n 1, 1) := by decide +kernel
theorem dX8_judge_2 : decode cX8_judge 2 = .ok (.iload_n 2, 1) := by decide +kernel
theorem dX8_judge_3 : decode cX8_judge 3 = .ok (.iload_n 3, 1) := by decide +kernel
theorem dX8_judge_4 : decode cX8_judge 4 = .ok (.iload 4, 2) := by decide +kernel
theorem dX8_judge_6 : decode cX8_judge 6 = .ok (.invokevirtual 173, 3) := by decide +kernel
theorem dX8_judge_9 : decode cX8_judge 9 = .ok (.istore 6, 2) := by decide +kernel
theorem dX8_judge_11 : decode cX8_judge 11 = .ok (.iload 6, 2) := by decide +kernel
theorem dX8_judge_13 : decode cX8_judge 13 = .ok (.ifCond .eq 10, 3) := by decide +kernel
theorem dX8_judge_16 : decode cX8_judge 16 = .ok (.aload_n 0, 1) := by decide +kernel
theorem dX8_judge_17 : decode cX8_judge 17 = .ok (.iload 6, 2) := by decide +kernel
theorem dX8_judge_19 : decode cX8_judge 19 = .ok (.invokevirtual 109, 3) := by decide +kernel
theorem dX8_judge_22 : decode cX8_judge 22 = .ok (.ireturn, 1) := by decide +kernel
theorem dX8_judge_23 : decode cX8_judge 23 = .ok (.iload 5, 2) := by decide +kernel
theorem dX8_judge_25 : decode cX8_judge 25 = .ok (.tableswitch 63 0 2 #[27, 39, 51], 27) := by decide +kernel
theorem dX8_judge_52 : decode cX8_judge 52 = .ok (.aload_n 0, 1) := by decide +kernel
theorem dX8_judge_53 : decode cX8_judge 53 = .ok (.aload_n 0, 1) := by decide +kernel
theorem dX8_judge_54 : decode cX8_judge 54 = .ok (.getfield 72, 3) := by decide +kernel
theorem dX8_judge_57 : decode cX8_judge 57 = .ok (.getfield 176, 3) := by decide +kernel
theorem dX8_judge_60 : decode cX8_judge 60 = .ok (.invokevirtual 109, 3) := by decide +kernel
theorem dX8_judge_63 : decode cX8_judge 63 = .ok (.ireturn, 1) := by decide +kernel
theorem dX8_judge_64 : decode cX8_judge 64 = .ok (.aload_n 0, 1) := by decide +kernel
theorem dX8_judge_65 : decode cX8_judge 65 = .ok (.aload_n 0, 1) := by decide +kernel
theorem dX8_judge_66 : decode cX8_judge 66 = .ok (.getfield 72, 3) := by decide +kernel
theorem dX8_judge_69 : decode cX8_judge 69 = .ok (.getfield 179, 3) := by decide +kernel
theorem dX8_judge_72 : decode cX8_judge 72 = .ok (.invokevirtual 109, 3) := by decide +kernel
theorem dX8_judge_75 : decode cX8_judge 75 = .ok (.ireturn, 1) := by decide +kernel
theorem dX8_judge_76 : decode cX8_judge 76 = .ok (.aload_n 0, 1) := by decide +kernel
theorem dX8_judge_77 : decode cX8_judge 77 = .ok (.aload_n 0, 1) := by decide +kernel
theorem dX8_judge_78 : decode cX8_judge 78 = .ok (.getfield 72, 3) := by decide +kernel
theorem dX8_judge_81 : decode cX8_judge 81 = .ok (.getfield 182, 3) := by decide +kernel
theorem dX8_judge_84 : decode cX8_judge 84 = .ok (.invokevirtual 109, 3) := by decide +kernel
theorem dX8_judge_87 : decode cX8_judge 87 = .ok (.ireturn, 1) := by decide +kernel
theorem dX8_judge_88 : decode cX8_judge 88 = .ok (.aload_n 0, 1) := by decide +kernel
theorem dX8_judge_89 : decode cX8_judge 89 = .ok (.bipush (-2), 2) := by decide +kernel
theorem dX8_judge_91 : decode cX8_judge 91 = .ok (.invokevirtual 109, 3) := by decide +kernel
theorem dX8_judge_94 : decode cX8_judge 94 = .ok (.ireturn, 1) := by decide +kernel
theorem dX8_worthOf_0 : decode cX8_worthOf 0 = .ok (.aload_n 0, 1) := by decide +kernel
theorem dX8_worthOf_1 : decode cX8_worthOf 1 = .ok (.iload_n 1, 1) := by decide +kernel
theorem dX8_worthOf_2 : decode cX8_worthOf 2 = .ok (.iload_n 2, 1) := by decide +kernel
theorem dX8_worthOf_3 : decode cX8_worthOf 3 = .ok (.iload_n 3, 1) := by decide +kernel
theorem dX8_worthOf_4 : decode cX8_worthOf 4 = .ok (.iload 4, 2) := by decide +kernel
theorem dX8_worthOf_6 : decode cX8_worthOf 6 = .ok (.invokevirtual 173, 3) := by decide +kernel
theorem dX8_worthOf_9 : decode cX8_worthOf 9 = .ok (.istore 6, 2) := by decide +kernel
theorem dX8_worthOf_11 : decode cX8_worthOf 11 = .ok (.iload 6, 2) := by decide +kernel
theorem dX8_worthOf_13 : decode cX8_worthOf 13 = .ok (.ifCond .eq 10, 3) := by decide +kernel
theorem dX8_worthOf_16 : decode cX8_worthOf 16 = .ok (.aload_n 0, 1) := by decide +kernel
theorem dX8_worthOf_17 : decode cX8_worthOf 17 = .ok (.iload 6, 2) := by decide +kernel
theorem dX8_worthOf_19 : decode cX8_worthOf 19 = .ok (.invokevirtual 109, 3) := by decide +kernel
theorem dX8_worthOf_22 : decode cX8_worthOf 22 = .ok (.ireturn, 1) := by decide +kernel
theorem dX8_worthOf_23 : decode cX8_worthOf 23 = .ok (.aload_n 0, 1) := by decide +kernel
theorem dX8_worthOf_24 : decode cX8_worthOf 24 = .ok (.aload_n 0, 1) := by decide +kernel
theorem dX8_worthOf_25 : decode cX8_worthOf 25 = .ok (.getfield 32, 3) := by decide +kernel
theorem dX8_worthOf_28 : decode cX8_worthOf 28 = .ok (.iload 5, 2) := by decide +kernel
theorem dX8_worthOf_30 : decode cX8_worthOf 30 = .ok (.invokevirtual 135, 3) := by decide +kernel
theorem dX8_worthOf_33 : decode cX8_worthOf 33 = .ok (.ifCond .eq 18, 3) := by decide +kernel
theorem dX8_worthOf_36 : decode cX8_worthOf 36 = .ok (.aload_n 0, 1) := by decide +kernel
theorem dX8_worthOf_37 : decode cX8_worthOf 37 = .ok (.getfield 72, 3) := by decide +kernel
theorem dX8_worthOf_40 : decode cX8_worthOf 40 = .ok (.getfield 185, 3) := by decide +kernel
theorem dX8_worthOf_43 : decode cX8_worthOf 43 = .ok (.iload 5, 2) := by decide +kernel
theorem dX8_worthOf_45 : decode cX8_worthOf 45 = .ok (.invokestatic 101, 3) := by decide +kernel
theorem dX8_worthOf_48 : decode cX8_worthOf 48 = .ok (.goto 4, 3) := by decide +kernel
theorem dX8_worthOf_51 : decode cX8_worthOf 51 = .ok (.iconst (-1), 1) := by decide +kernel
theorem dX8_worthOf_52 : decode cX8_worthOf 52 = .ok (.invokevirtual 109, 3) := by decide +kernel
theorem dX8_worthOf_55 : decode cX8_worthOf 55 = .ok (.ireturn, 1) := by decide +kernel
theorem dX8_hear_0 : decode cX8_hear 0 = .ok (.aload_n 0, 1) := by decide +kernel
theorem dX8_hear_1 : decode cX8_hear 1 = .ok (.getfield 25, 3) := by decide +kernel
theorem dX8_hear_4 : decode cX8_hear 4 = .ok (.iload_n 1, 1) := by decide +kernel
theorem dX8_hear_5 : decode cX8_hear 5 = .ok (.iload_n 2, 1) := by decide +kernel
theorem dX8_hear_6 : decode cX8_hear 6 = .ok (.iload_n 3, 1) := by decide +kernel
theorem dX8_hear_7 : decode cX8_hear 7 = .ok (.iload 4, 2) := by decide +kernel
theorem dX8_hear_9 : decode cX8_hear 9 = .ok (.invokevirtual 105, 3) := by decide +kernel
theorem dX8_hear_12 : decode cX8_hear 12 = .ok (.istore 5, 2) := by decide +kernel
theorem dX8_hear_14 : decode cX8_hear 14 = .ok (.iload 5, 2) := by decide +kernel
theorem dX8_hear_16 : decode cX8_hear 16 = .ok (.ifCond .eq 6, 3) := by decide +kernel
theorem dX8_hear_19 : decode cX8_hear 19 = .ok (.iload 5, 2) := by decide +kernel
theorem dX8_hear_21 : decode cX8_hear 21 = .ok (.ireturn, 1) := by decide +kernel
theorem dX8_hear_22 : decode cX8_hear 22 = .ok (.aload_n 0, 1) := by decide +kernel
theorem dX8_hear_23 : decode cX8_hear 23 = .ok (.getfield 32, 3) := by decide +kernel
theorem dX8_hear_26 : decode cX8_hear 26 = .ok (.getfield 132, 3) := by decide +kernel
theorem dX8_hear_29 : decode cX8_hear 29 = .ok (.ifCond .ne 6, 3) := by decide +kernel
theorem dX8_hear_32 : decode cX8_hear 32 = .ok (.bipush (-3), 2) := by decide +kernel
theorem dX8_hear_34 : decode cX8_hear 34 = .ok (.ireturn, 1) := by decide +kernel
theorem dX8_hear_35 : decode cX8_hear 35 = .ok (.iload 4, 2) := by decide +kernel
theorem dX8_hear_37 : decode cX8_hear 37 = .ok (.aload_n 0, 1) := by decide +kernel
theorem dX8_hear_38 : decode cX8_hear 38 = .ok (.getfield 54, 3) := by decide +kernel
theorem dX8_hear_41 : decode cX8_hear 41 = .ok (.invokevirtual 189, 3) := by decide +kernel
theorem dX8_hear_44 : decode cX8_hear 44 = .ok (.if_icmp .le 6, 3) := by decide +kernel
theorem dX8_hear_47 : decode cX8_hear 47 = .ok (.bipush (-2), 2) := by decide +kernel
theorem dX8_hear_49 : decode cX8_hear 49 = .ok (.ireturn, 1) := by decide +kernel
theorem dX8_hear_50 : decode cX8_hear 50 = .ok (.aload_n 0, 1) := by decide +kernel
theorem dX8_hear_51 : decode cX8_hear 51 = .ok (.iload_n 1, 1) := by decide +kernel
theorem dX8_hear_52 : decode cX8_hear 52 = .ok (.iload_n 3, 1) := by decide +kernel
theorem dX8_hear_53 : decode cX8_hear 53 = .ok (.iload 4, 2) := by decide +kernel
theorem dX8_hear_55 : decode cX8_hear 55 = .ok (.invokevirtual 193, 3) := by decide +kernel
theorem dX8_hear_58 : decode cX8_hear 58 = .ok (.ifCond .ne 5, 3) := by decide +kernel
theorem dX8_hear_61 : decode cX8_hear 61 = .ok (.iconst (-1), 1) := by decide +kernel
theorem dX8_hear_62 : decode cX8_hear 62 = .ok (.ireturn, 1) := by decide +kernel
theorem dX8_hear_63 : decode cX8_hear 63 = .ok (.aload_n 0, 1) := by decide +kernel
theorem dX8_hear_64 : decode cX8_hear 64 = .ok (.getfield 72, 3) := by decide +kernel
theorem dX8_hear_67 : decode cX8_hear 67 = .ok (.invokevirtual 197, 3) := by decide +kernel
theorem dX8_hear_70 : decode cX8_hear 70 = .ok (.iconst 0, 1) := by decide +kernel
theorem dX8_hear_71 : decode cX8_hear 71 = .ok (.istore 6, 2) := by decide +kernel
theorem dX8_hear_73 : decode cX8_hear 73 = .ok (.iload 6, 2) := by decide +kernel
theorem dX8_hear_75 : decode cX8_hear 75 = .ok (.iload 4, 2) := by decide +kernel
theorem dX8_hear_77 : decode cX8_hear 77 = .ok (.if_icmp .ge 35, 3) := by decide +kernel
theorem dX8_hear_80 : decode cX8_hear 80 = .ok (.iload 6, 2) := by decide +kernel
theorem dX8_hear_82 : decode cX8_hear 82 = .ok (.bipush 6, 2) := by decide +kernel
theorem dX8_hear_84 : decode cX8_hear 84 = .ok (.if_icmp .ge 28, 3) := by decide +kernel
theorem dX8_hear_87 : decode cX8_hear 87 = .ok (.aload_n 0, 1) := by decide +kernel
theorem dX8_hear_88 : decode cX8_hear 88 = .ok (.getfield 72, 3) := by decide +kernel
theorem dX8_hear_91 : decode cX8_hear 91 = .ok (.aload_n 0, 1) := by decide +kernel
theorem dX8_hear_92 : decode cX8_hear 92 = .ok (.getfield 25, 3) := by decide +kernel
theorem dX8_hear_95 : decode cX8_hear 95 = .ok (.iload_n 1, 1) := by decide +kernel
theorem dX8_hear_96 : decode cX8_hear 96 = .ok (.iload_n 3, 1) := by decide +kernel
theorem dX8_hear_97 : decode cX8_hear 97 = .ok (.iload 6, 2) := by decide +kernel
theorem dX8_hear_99 : decode cX8_hear 99 = .ok (.iadd, 1) := by decide +kernel
theorem dX8_hear_100 : decode cX8_hear 100 = .ok (.invokevirtual 200, 3) := by decide +kernel
theorem dX8_hear_103 : decode cX8_hear 103 = .ok (.invokevirtual 203, 3) := by decide +kernel
theorem dX8_hear_106 : decode cX8_hear 106 = .ok (.iinc 6 1, 3) := by decide +kernel
theorem dX8_hear_109 : decode cX8_hear 109 = .ok (.goto (-36), 3) := by decide +kernel
theorem dX8_hear_112 : decode cX8_hear 112 = .ok (.iconst 0, 1) := by decide +kernel
theorem dX8_hear_113 : decode cX8_hear 113 = .ok (.ireturn, 1) := by decide +kernel
theorem dX8_areWords_0 : decode cX8_areWords 0 = .ok (.iconst 0, 1) := by decide +kernel
theorem dX8_areWords_1 : decode cX8_areWords 1 = .ok (.istore 4, 2) := by decide +kernel
theorem dX8_areWords_3 : decode cX8_areWords 3 = .ok (.iload 4, 2) := by decide +kernel
theorem dX8_areWords_5 : decode cX8_areWords 5 = .ok (.iload_n 3, 1) := by decide +kernel
theorem dX8_areWords_6 : decode cX8_areWords 6 = .ok (.if_icmp .ge 60, 3) := by decide +kernel
theorem dX8_areWords_9 : decode cX8_areWords 9 = .ok (.iload 4, 2) := by decide +kernel
theorem dX8_areWords_11 : decode cX8_areWords 11 = .ok (.bipush 6, 2) := by decide +kernel
theorem dX8_areWords_13 : decode cX8_areWords 13 = .ok (.if_icmp .ge 53, 3) := by decide +kernel
theorem dX8_areWords_16 : decode cX8_areWords 16 = .ok (.aload_n 0, 1) := by decide +kernel
theorem dX8_areWords_17 : decode cX8_areWords 17 = .ok (.getfield 25, 3) := by decide +kernel
theorem dX8_areWords_20 : decode cX8_areWords 20 = .ok (.iload_n 1, 1) := by decide +kernel
theorem dX8_areWords_21 : decode cX8_areWords 21 = .ok (.iload_n 2, 1) := by decide +kernel
theorem dX8_areWords_22 : decode cX8_areWords 22 = .ok (.iload 4, 2) := by decide +kernel
theorem dX8_areWords_24 : decode cX8_areWords 24 = .ok (.iadd, 1) := by decide +kernel
theorem dX8_areWords_25 : decode cX8_areWords 25 = .ok (.invokevirtual 200, 3) := by decide +kernel
theorem dX8_areWords_28 : decode cX8_areWords 28 = .ok (.istore 5, 2) := by decide +kernel
theorem dX8_areWords_30 : decode cX8_areWords 30 = .ok (.iload 5, 2) := by decide +kernel
theorem dX8_areWords_32 : decode cX8_areWords 32 = .ok (.bipush (-9), 2) := by decide +kernel
theorem dX8_areWords_34 : decode cX8_areWords 34 = .ok (.if_icmp .eq 26, 3) := by decide +kernel
theorem dX8_areWords_37 : decode cX8_areWords 37 = .ok (.aload_n 0, 1) := by decide +kernel
theorem dX8_areWords_38 : decode cX8_areWords 38 = .ok (.getfield 32, 3) := by decide +kernel
theorem dX8_areWords_41 : decode cX8_areWords 41 = .ok (.aload_n 0, 1) := by decide +kernel
theorem dX8_areWords_42 : decode cX8_areWords 42 = .ok (.getfield 54, 3) := by decide +kernel
theorem dX8_areWords_45 : decode cX8_areWords 45 = .ok (.iload 4, 2) := by decide +kernel
theorem dX8_areWords_47 : decode cX8_areWords 47 = .ok (.invokevirtual 207, 3) := by decide +kernel
theorem dX8_areWords_50 : decode cX8_areWords 50 = .ok (.iload 5, 2) := by decide +kernel
theorem dX8_areWords_52 : decode cX8_areWords 52 = .ok (.invokevirtual 147, 3) := by decide +kernel
theorem dX8_areWords_55 : decode cX8_areWords 55 = .ok (.ifCond .ne 5, 3) := by decide +kernel
theorem dX8_areWords_58 : decode cX8_areWords 58 = .ok (.iconst 0, 1) := by decide +kernel
theorem dX8_areWords_59 : decode cX8_areWords 59 = .ok (.ireturn, 1) := by decide +kernel
theorem dX8_areWords_60 : decode cX8_areWords 60 = .ok (.iinc 4 1, 3) := by decide +kernel
theorem dX8_areWords_63 : decode cX8_areWords 63 = .ok (.goto (-60), 3) := by decide +kernel
theorem dX8_areWords_66 : decode cX8_areWords 66 = .ok (.iconst 1, 1) := by decide +kernel
theorem dX8_areWords_67 : decode cX8_areWords 67 = .ok (.ireturn, 1) := by decide +kernel
theorem dX8_choice_0 : decode cX8_choice 0 = .ok (.aload_n 0, 1) := by decide +kernel
theorem dX8_choice_1 : decode cX8_choice 1 = .ok (.getfield 54, 3) := by decide +kernel
theorem dX8_choice_4 : decode cX8_choice 4 = .ok (.iload_n 1, 1) := by decide +kernel
theorem dX8_choice_5 : decode cX8_choice 5 = .ok (.invokevirtual 210, 3) := by decide +kernel
theorem dX8_choice_8 : decode cX8_choice 8 = .ok (.ifCond .ne 5, 3) := by decide +kernel
theorem dX8_choice_11 : decode cX8_choice 11 = .ok (.iconst (-1), 1) := by decide +kernel
theorem dX8_choice_12 : decode cX8_choice 12 = .ok (.ireturn, 1) := by decide +kernel
theorem dX8_choice_13 : decode cX8_choice 13 = .ok (.iload_n 2, 1) := by decide +kernel
theorem dX8_choice_14 : decode cX8_choice 14 = .ok (.ifCond .lt 14, 3) := by decide +kernel
theorem dX8_choice_17 : decode cX8_choice 17 = .ok (.iload_n 2, 1) := by decide +kernel
theorem dX8_choice_18 : decode cX8_choice 18 = .ok (.aload_n 0, 1) := by decide +kernel
theorem dX8_choice_19 : decode cX8_choice 19 = .ok (.getfield 32, 3) := by decide +kernel
theorem dX8_choice_22 : decode cX8_choice 22 = .ok (.getfield 213, 3) := by decide +kernel
theorem dX8_choice_25 : decode cX8_choice 25 = .ok (.if_icmp .le 6, 3) := by decide +kernel
theorem dX8_choice_28 : decode cX8_choice 28 = .ok (.bipush (-2), 2) := by decide +kernel
theorem dX8_choice_30 : decode cX8_choice 30 = .ok (.ireturn, 1) := by decide +kernel
theorem dX8_choice_31 : decode cX8_choice 31 = .ok (.aload_n 0, 1) := by decide +kernel
theorem dX8_choice_32 : decode cX8_choice 32 = .ok (.invokevirtual 216, 3) := by decide +kernel
theorem dX8_choice_35 : decode cX8_choice 35 = .ok (.aload_n 0, 1) := by decide +kernel
theorem dX8_choice_36 : decode cX8_choice 36 = .ok (.getfield 63, 3) := by decide +kernel
theorem dX8_choice_39 : decode cX8_choice 39 = .ok (.iload_n 1, 1) := by decide +kernel
theorem dX8_choice_40 : decode cX8_choice 40 = .ok (.iload_n 2, 1) := by decide +kernel
theorem dX8_choice_41 : decode cX8_choice 41 = .ok (.invokevirtual 219, 3) := by decide +kernel
theorem dX8_choice_44 : decode cX8_choice 44 = .ok (.ireturn, 1) := by decide +kernel
theorem dX8_says_0 : decode cX8_says 0 = .ok (.aload_n 0, 1) := by decide +kernel
theorem dX8_says_1 : decode cX8_says 1 = .ok (.getfield 54, 3) := by decide +kernel
theorem dX8_says_4 : decode cX8_says 4 = .ok (.iload_n 1, 1) := by decide +kernel
theorem dX8_says_5 : decode cX8_says 5 = .ok (.invokevirtual 210, 3) := by decide +kernel
theorem dX8_says_8 : decode cX8_says 8 = .ok (.ifCond .ne 5, 3) := by decide +kernel
theorem dX8_says_11 : decode cX8_says 11 = .ok (.iconst (-1), 1) := by decide +kernel
theorem dX8_says_12 : decode cX8_says 12 = .ok (.ireturn, 1) := by decide +kernel
theorem dX8_says_13 : decode cX8_says 13 = .ok (.aload_n 0, 1) := by decide +kernel
theorem dX8_says_14 : decode cX8_says 14 = .ok (.invokevirtual 216, 3) := by decide +kernel
theorem dX8_says_17 : decode cX8_says 17 = .ok (.aload_n 0, 1) := by decide +kernel
theorem dX8_says_18 : decode cX8_says 18 = .ok (.getfield 72, 3) := by decide +kernel
theorem dX8_says_21 : decode cX8_says 21 = .ok (.invokevirtual 222, 3) := by decide +kernel
theorem dX8_says_24 : decode cX8_says 24 = .ok (.aload_n 0, 1) := by decide +kernel
theorem dX8_says_25 : decode cX8_says 25 = .ok (.getfield 72, 3) := by decide +kernel
theorem dX8_says_28 : decode cX8_says 28 = .ok (.iload_n 1, 1) := by decide +kernel
theorem dX8_says_29 : decode cX8_says 29 = .ok (.invokevirtual 225, 3) := by decide +kernel
theorem dX8_says_32 : decode cX8_says 32 = .ok (.ireturn, 1) := by decide +kernel
theorem dX8_water_0 : decode cX8_water 0 = .ok (.aload_n 0, 1) := by decide +kernel
theorem dX8_water_1 : decode cX8_water 1 = .ok (.getfield 54, 3) := by decide +kernel
theorem dX8_water_4 : decode cX8_water 4 = .ok (.iload_n 1, 1) := by decide +kernel
theorem dX8_water_5 : decode cX8_water 5 = .ok (.invokevirtual 210, 3) := by decide +kernel
theorem dX8_water_8 : decode cX8_water 8 = .ok (.ifCond .ne 5, 3) := by decide +kernel
theorem dX8_water_11 : decode cX8_water 11 = .ok (.iconst (-1), 1) := by decide +kernel
theorem dX8_water_12 : decode cX8_water 12 = .ok (.ireturn, 1) := by decide +kernel
theorem dX8_water_13 : decode cX8_water 13 = .ok (.aload_n 0, 1) := by decide +kernel
theorem dX8_water_14 : decode cX8_water 14 = .ok (.invokevirtual 216, 3) := by decide +kernel
theorem dX8_water_17 : decode cX8_water 17 = .ok (.aload_n 0, 1) := by decide +kernel
theorem dX8_water_18 : decode cX8_water 18 = .ok (.getfield 72, 3) := by decide +kernel
theorem dX8_water_21 : decode cX8_water 21 = .ok (.invokevirtual 222, 3) := by decide +kernel
theorem dX8_water_24 : decode cX8_water 24 = .ok (.aload_n 0, 1) := by decide +kernel
theorem dX8_water_25 : decode cX8_water 25 = .ok (.getfield 72, 3) := by decide +kernel
theorem dX8_water_28 : decode cX8_water 28 = .ok (.iload_n 1, 1) := by decide +kernel
theorem dX8_water_29 : decode cX8_water 29 = .ok (.invokevirtual 228, 3) := by decide +kernel
theorem dX8_water_32 : decode cX8_water 32 = .ok (.ireturn, 1) := by decide +kernel
theorem dX8_worth_0 : decode cX8_worth 0 = .ok (.aload_n 0, 1) := by decide +kernel
theorem dX8_worth_1 : decode cX8_worth 1 = .ok (.getfield 32, 3) := by decide +kernel
theorem dX8_worth_4 : decode cX8_worth 4 = .ok (.iload_n 1, 1) := by decide +kernel
theorem dX8_worth_5 : decode cX8_worth 5 = .ok (.invokevirtual 135, 3) := by decide +kernel
theorem dX8_worth_8 : decode cX8_worth 8 = .ok (.ifCond .ne 5, 3) := by decide +kernel
theorem dX8_worth_11 : decode cX8_worth 11 = .ok (.iconst (-1), 1) := by decide +kernel
theorem dX8_worth_12 : decode cX8_worth 12 = .ok (.ireturn, 1) := by decide +kernel
theorem dX8_worth_13 : decode cX8_worth 13 = .ok (.aload_n 0, 1) := by decide +kernel
theorem dX8_worth_14 : decode cX8_worth 14 = .ok (.invokevirtual 216, 3) := by decide +kernel
theorem dX8_worth_17 : decode cX8_worth 17 = .ok (.aload_n 0, 1) := by decide +kernel
theorem dX8_worth_18 : decode cX8_worth 18 = .ok (.getfield 72, 3) := by decide +kernel
theorem dX8_worth_21 : decode cX8_worth 21 = .ok (.invokevirtual 222, 3) := by decide +kernel
theorem dX8_worth_24 : decode cX8_worth 24 = .ok (.aload_n 0, 1) := by decide +kernel
theorem dX8_worth_25 : decode cX8_worth 25 = .ok (.getfield 72, 3) := by decide +kernel
theorem dX8_worth_28 : decode cX8_worth 28 = .ok (.getfield 185, 3) := by decide +kernel
theorem dX8_worth_31 : decode cX8_worth 31 = .ok (.iload_n 1, 1) := by decide +kernel
theorem dX8_worth_32 : decode cX8_worth 32 = .ok (.invokestatic 101, 3) := by decide +kernel
theorem dX8_worth_35 : decode cX8_worth 35 = .ok (.ireturn, 1) := by decide +kernel
theorem dX8_together_0 : decode cX8_together 0 = .ok (.iload_n 1, 1) := by decide +kernel
theorem dX8_together_1 : decode cX8_together 1 = .ok (.iconst (-1), 1) := by decide +kernel
theorem dX8_together_2 : decode cX8_together 2 = .ok (.if_icmp .eq 16, 3) := by decide +kernel
theorem dX8_together_5 : decode cX8_together 5 = .ok (.aload_n 0, 1) := by decide +kernel
theorem dX8_together_6 : decode cX8_together 6 = .ok (.getfield 54, 3) := by decide +kernel
theorem dX8_together_9 : decode cX8_together 9 = .ok (.iload_n 1, 1) := by decide +kernel
theorem dX8_together_10 : decode cX8_together 10 = .ok (.invokevirtual 210, 3) := by decide +kernel
theorem dX8_together_13 : decode cX8_together 13 = .ok (.ifCond .ne 5, 3) := by decide +kernel
theorem dX8_together_16 : decode cX8_together 16 = .ok (.iconst (-1), 1) := by decide +kernel
theorem dX8_together_17 : decode cX8_together 17 = .ok (.ireturn, 1) := by decide +kernel
theorem dX8_together_18 : decode cX8_together 18 = .ok (.aload_n 0, 1) := by decide +kernel
theorem dX8_together_19 : decode cX8_together 19 = .ok (.getfield 32, 3) := by decide +kernel
theorem dX8_together_22 : decode cX8_together 22 = .ok (.getfield 132, 3) := by decide +kernel
theorem dX8_together_25 : decode cX8_together 25 = .ok (.ifCond .ne 6, 3) := by decide +kernel
theorem dX8_together_28 : decode cX8_together 28 = .ok (.bipush (-3), 2) := by decide +kernel
theorem dX8_together_30 : decode cX8_together 30 = .ok (.ireturn, 1) := by decide +kernel
theorem dX8_together_31 : decode cX8_together 31 = .ok (.aload_n 0, 1) := by decide +kernel
theorem dX8_together_32 : decode cX8_together 32 = .ok (.getfield 76, 3) := by decide +kernel
theorem dX8_together_35 : decode cX8_together 35 = .ok (.aload_n 0, 1) := by decide +kernel
theorem dX8_together_36 : decode cX8_together 36 = .ok (.getfield 54, 3) := by decide +kernel
theorem dX8_together_39 : decode cX8_together 39 = .ok (.invokevirtual 231, 3) := by decide +kernel
theorem dX8_together_42 : decode cX8_together 42 = .ok (.aload_n 0, 1) := by decide +kernel
theorem dX8_together_43 : decode cX8_together 43 = .ok (.getfield 79, 3) := by decide +kernel
theorem dX8_together_46 : decode cX8_together 46 = .ok (.invokevirtual 234, 3) := by decide +kernel
theorem dX8_together_49 : decode cX8_together 49 = .ok (.aload_n 0, 1) := by decide +kernel
theorem dX8_together_50 : decode cX8_together 50 = .ok (.getfield 82, 3) := by decide +kernel
theorem dX8_together_53 : decode cX8_together 53 = .ok (.invokevirtual 222, 3) := by decide +kernel
theorem dX8_together_56 : decode cX8_together 56 = .ok (.iload_n 1, 1) := by decide +kernel
theorem dX8_together_57 : decode cX8_together 57 = .ok (.iconst (-1), 1) := by decide +kernel
theorem dX8_together_58 : decode cX8_together 58 = .ok (.if_icmp .ne 16, 3) := by decide +kernel
theorem dX8_together_61 : decode cX8_together 61 = .ok (.aload_n 0, 1) := by decide +kernel
theorem dX8_together_62 : decode cX8_together 62 = .ok (.getfield 82, 3) := by decide +kernel
theorem dX8_together_65 : decode cX8_together 65 = .ok (.getfield 185, 3) := by decide +kernel
theorem dX8_together_68 : decode cX8_together 68 = .ok (.invokestatic 237, 3) := by decide +kernel
theorem dX8_together_71 : decode cX8_together 71 = .ok (.goto 11, 3) := by decide +kernel
theorem dX8_together_74 : decode cX8_together 74 = .ok (.aload_n 0, 1) := by decide +kernel
theorem dX8_together_75 : decode cX8_together 75 = .ok (.getfield 82, 3) := by decide +kernel
theorem dX8_together_78 : decode cX8_together 78 = .ok (.iload_n 1, 1) := by decide +kernel
theorem dX8_together_79 : decode cX8_together 79 = .ok (.invokevirtual 225, 3) := by decide +kernel
theorem dX8_together_82 : decode cX8_together 82 = .ok (.ireturn, 1) := by decide +kernel
theorem dX8_planAhead_0 : decode cX8_planAhead 0 = .ok (.aload_n 0, 1) := by decide +kernel
theorem dX8_planAhead_1 : decode cX8_planAhead 1 = .ok (.getfield 11, 3) := by decide +kernel
theorem dX8_planAhead_4 : decode cX8_planAhead 4 = .ok (.ifCond .ne 15, 3) := by decide +kernel
theorem dX8_planAhead_7 : decode cX8_planAhead 7 = .ok (.aload_n 0, 1) := by decide +kernel
theorem dX8_planAhead_8 : decode cX8_planAhead 8 = .ok (.getfield 63, 3) := by decide +kernel
theorem dX8_planAhead_11 : decode cX8_planAhead 11 = .ok (.invokevirtual 241, 3) := by decide +kernel
theorem dX8_planAhead_14 : decode cX8_planAhead 14 = .ok (.aload_n 0, 1) := by decide +kernel
theorem dX8_planAhead_15 : decode cX8_planAhead 15 = .ok (.iconst 1, 1) := by decide +kernel
theorem dX8_planAhead_16 : decode cX8_planAhead 16 = .ok (.putfield 11, 3) := by decide +kernel
theorem dX8_planAhead_19 : decode cX8_planAhead 19 = .ok (.return_, 1) := by decide +kernel
theorem dX8_owed_0 : decode cX8_owed 0 = .ok (.aload_n 0, 1) := by decide +kernel
theorem dX8_owed_1 : decode cX8_owed 1 = .ok (.iload_n 1, 1) := by decide +kernel
theorem dX8_owed_2 : decode cX8_owed 2 = .ok (.iload_n 2, 1) := by decide +kernel
theorem dX8_owed_3 : decode cX8_owed 3 = .ok (.invokevirtual 244, 3) := by decide +kernel
theorem dX8_owed_6 : decode cX8_owed 6 = .ok (.ifCond .ne 7, 3) := by decide +kernel
theorem dX8_owed_9 : decode cX8_owed 9 = .ok (.ldc2_w 247, 3) := by decide +kernel
theorem dX8_owed_12 : decode cX8_owed 12 = .ok (.lreturn, 1) := by decide +kernel
theorem dX8_owed_13 : decode cX8_owed 13 = .ok (.aload_n 0, 1) := by decide +kernel
theorem dX8_owed_14 : decode cX8_owed 14 = .ok (.getfield 54, 3) := by decide +kernel
theorem dX8_owed_17 : decode cX8_owed 17 = .ok (.iload_n 1, 1) := by decide +kernel
theorem dX8_owed_18 : decode cX8_owed 18 = .ok (.invokevirtual 145, 3) := by decide +kernel
theorem dX8_owed_21 : decode cX8_owed 21 = .ok (.istore_n 3, 1) := by decide +kernel
theorem dX8_owed_22 : decode cX8_owed 22 = .ok (.aload_n 0, 1) := by decide +kernel
theorem dX8_owed_23 : decode cX8_owed 23 = .ok (.invokevirtual 216, 3) := by decide +kernel
theorem dX8_owed_26 : decode cX8_owed 26 = .ok (.aload_n 0, 1) := by decide +kernel
theorem dX8_owed_27 : decode cX8_owed 27 = .ok (.getfield 72, 3) := by decide +kernel
theorem dX8_owed_30 : decode cX8_owed 30 = .ok (.iload_n 3, 1) := by decide +kernel
theorem dX8_owed_31 : decode cX8_owed 31 = .ok (.bipush (-9), 2) := by decide +kernel
theorem dX8_owed_33 : decode cX8_owed 33 = .ok (.invokevirtual 249, 3) := by decide +kernel
theorem dX8_owed_36 : decode cX8_owed 36 = .ok (.aload_n 0, 1) := by decide +kernel
theorem dX8_owed_37 : decode cX8_owed 37 = .ok (.getfield 72, 3) := by decide +kernel
theorem dX8_owed_40 : decode cX8_owed 40 = .ok (.getfield 185, 3) := by decide +kernel
theorem dX8_owed_43 : decode cX8_owed 43 = .ok (.iload_n 2, 1) := by decide +kernel
theorem dX8_owed_44 : decode cX8_owed 44 = .ok (.invokestatic 101, 3) := by decide +kernel
theorem dX8_owed_47 : decode cX8_owed 47 = .ok (.istore 4, 2) := by decide +kernel
theorem dX8_owed_49 : decode cX8_owed 49 = .ok (.aload_n 0, 1) := by decide +kernel
theorem dX8_owed_50 : decode cX8_owed 50 = .ok (.getfield 72, 3) := by decide +kernel
theorem dX8_owed_53 : decode cX8_owed 53 = .ok (.iload_n 3, 1) := by decide +kernel
theorem dX8_owed_54 : decode cX8_owed 54 = .ok (.aload_n 0, 1) := by decide +kernel
theorem dX8_owed_55 : decode cX8_owed 55 = .ok (.getfield 32, 3) := by decide +kernel
theorem dX8_owed_58 : decode cX8_owed 58 = .ok (.iload_n 1, 1) := by decide +kernel
theorem dX8_owed_59 : decode cX8_owed 59 = .ok (.aload_n 0, 1) := by decide +kernel
theorem dX8_owed_60 : decode cX8_owed 60 = .ok (.getfield 72, 3) := by decide +kernel
theorem dX8_owed_63 : decode cX8_owed 63 = .ok (.iload_n 3, 1) := by decide +kernel
theorem dX8_owed_64 : decode cX8_owed 64 = .ok (.invokevirtual 228, 3) := by decide +kernel
theorem dX8_owed_67 : decode cX8_owed 67 = .ok (.invokevirtual 252, 3) := by decide +kernel
theorem dX8_owed_70 : decode cX8_owed 70 = .ok (.invokevirtual 249, 3) := by decide +kernel
theorem dX8_owed_73 : decode cX8_owed 73 = .ok (.iload 4, 2) := by decide +kernel
theorem dX8_owed_75 : decode cX8_owed 75 = .ok (.aload_n 0, 1) := by decide +kernel
theorem dX8_owed_76 : decode cX8_owed 76 = .ok (.getfield 72, 3) := by decide +kernel
theorem dX8_owed_79 : decode cX8_owed 79 = .ok (.getfield 185, 3) := by decide +kernel
theorem dX8_owed_82 : decode cX8_owed 82 = .ok (.iload_n 2, 1) := by decide +kernel
theorem dX8_owed_83 : decode cX8_owed 83 = .ok (.invokestatic 101, 3) := by decide +kernel
theorem dX8_owed_86 : decode cX8_owed 86 = .ok (.isub, 1) := by decide +kernel
theorem dX8_owed_87 : decode cX8_owed 87 = .ok (.i2l, 1) := by decide +kernel
theorem dX8_owed_88 : decode cX8_owed 88 = .ok (.lreturn, 1) := by decide +kernel
theorem dX8_bargain_0 : decode cX8_bargain 0 = .ok (.aload_n 0, 1) := by decide +kernel
theorem dX8_bargain_1 : decode cX8_bargain 1 = .ok (.iload_n 1, 1) := by decide +kernel
theorem dX8_bargain_2 : decode cX8_bargain 2 = .ok (.iload_n 2, 1) := by decide +kernel
theorem dX8_bargain_3 : decode cX8_bargain 3 = .ok (.invokevirtual 244, 3) := by decide +kernel
theorem dX8_bargain_6 : decode cX8_bargain 6 = .ok (.ifCond .ne 7, 3) := by decide +kernel
theorem dX8_bargain_9 : decode cX8_bargain 9 = .ok (.ldc2_w 247, 3) := by decide +kernel
theorem dX8_bargain_12 : decode cX8_bargain 12 = .ok (.lreturn, 1) := by decide +kernel
theorem dX8_bargain_13 : decode cX8_bargain 13 = .ok (.aload_n 0, 1) := by decide +kernel
theorem dX8_bargain_14 : decode cX8_bargain 14 = .ok (.invokevirtual 216, 3) := by decide +kernel
theorem dX8_bargain_17 : decode cX8_bargain 17 = .ok (.aload_n 0, 1) := by decide +kernel
theorem dX8_bargain_18 : decode cX8_bargain 18 = .ok (.getfield 72, 3) := by decide +kernel
theorem dX8_bargain_21 : decode cX8_bargain 21 = .ok (.aload_n 0, 1) := by decide +kernel
theorem dX8_bargain_22 : decode cX8_bargain 22 = .ok (.getfield 54, 3) := by decide +kernel
theorem dX8_bargain_25 : decode cX8_bargain 25 = .ok (.iload_n 1, 1) := by decide +kernel
theorem dX8_bargain_26 : decode cX8_bargain 26 = .ok (.invokevirtual 145, 3) := by decide +kernel
theorem dX8_bargain_29 : decode cX8_bargain 29 = .ok (.bipush (-9), 2) := by decide +kernel
theorem dX8_bargain_31 : decode cX8_bargain 31 = .ok (.invokevirtual 249, 3) := by decide +kernel
theorem dX8_bargain_34 : decode cX8_bargain 34 = .ok (.aload_n 0, 1) := by decide +kernel
theorem dX8_bargain_35 : decode cX8_bargain 35 = .ok (.getfield 72, 3) := by decide +kernel
theorem dX8_bargain_38 : decode cX8_bargain 38 = .ok (.getfield 185, 3) := by decide +kernel
theorem dX8_bargain_41 : decode cX8_bargain 41 = .ok (.iload_n 1, 1) := by decide +kernel
theorem dX8_bargain_42 : decode cX8_bargain 42 = .ok (.invokestatic 101, 3) := by decide +kernel
theorem dX8_bargain_45 : decode cX8_bargain 45 = .ok (.aload_n 0, 1) := by decide +kernel
theorem dX8_bargain_46 : decode cX8_bargain 46 = .ok (.getfield 72, 3) := by decide +kernel
theorem dX8_bargain_49 : decode cX8_bargain 49 = .ok (.getfield 185, 3) := by decide +kernel
theorem dX8_bargain_52 : decode cX8_bargain 52 = .ok (.iload_n 2, 1) := by decide +kernel
theorem dX8_bargain_53 : decode cX8_bargain 53 = .ok (.invokestatic 101, 3) := by decide +kernel
theorem dX8_bargain_56 : decode cX8_bargain 56 = .ok (.iadd, 1) := by decide +kernel
theorem dX8_bargain_57 : decode cX8_bargain 57 = .ok (.istore_n 3, 1) := by decide +kernel
theorem dX8_bargain_58 : decode cX8_bargain 58 = .ok (.aload_n 0, 1) := by decide +kernel
theorem dX8_bargain_59 : decode cX8_bargain 59 = .ok (.getfield 72, 3) := by decide +kernel
theorem dX8_bargain_62 : decode cX8_bargain 62 = .ok (.invokevirtual 222, 3) := by decide +kernel
theorem dX8_bargain_65 : decode cX8_bargain 65 = .ok (.iload_n 3, 1) := by decide +kernel
theorem dX8_bargain_66 : decode cX8_bargain 66 = .ok (.aload_n 0, 1) := by decide +kernel
theorem dX8_bargain_67 : decode cX8_bargain 67 = .ok (.getfield 72, 3) := by decide +kernel
theorem dX8_bargain_70 : decode cX8_bargain 70 = .ok (.getfield 185, 3) := by decide +kernel
theorem dX8_bargain_73 : decode cX8_bargain 73 = .ok (.iload_n 1, 1) := by decide +kernel
theorem dX8_bargain_74 : decode cX8_bargain 74 = .ok (.invokestatic 101, 3) := by decide +kernel
theorem dX8_bargain_77 : decode cX8_bargain 77 = .ok (.isub, 1) := by decide +kernel
theorem dX8_bargain_78 : decode cX8_bargain 78 = .ok (.aload_n 0, 1) := by decide +kernel
theorem dX8_bargain_79 : decode cX8_bargain 79 = .ok (.getfield 72, 3) := by decide +kernel
theorem dX8_bargain_82 : decode cX8_bargain 82 = .ok (.getfield 185, 3) := by decide +kernel
theorem dX8_bargain_85 : decode cX8_bargain 85 = .ok (.iload_n 2, 1) := by decide +kernel
theorem dX8_bargain_86 : decode cX8_bargain 86 = .ok (.invokestatic 101, 3) := by decide +kernel
theorem dX8_bargain_89 : decode cX8_bargain 89 = .ok (.isub, 1) := by decide +kernel
theorem dX8_bargain_90 : decode cX8_bargain 90 = .ok (.i2l, 1) := by decide +kernel
theorem dX8_bargain_91 : decode cX8_bargain 91 = .ok (.lreturn, 1) := by decide +kernel
theorem dX8_areTwo_0 : decode cX8_areTwo 0 = .ok (.aload_n 0, 1) := by decide +kernel
theorem dX8_areTwo_1 : decode cX8_areTwo 1 = .ok (.getfield 32, 3) := by decide +kernel
theorem dX8_areTwo_4 : decode cX8_areTwo 4 = .ok (.iload_n 1, 1) := by decide +kernel
theorem dX8_areTwo_5 : decode cX8_areTwo 5 = .ok (.invokevirtual 135, 3) := by decide +kernel
theorem dX8_areTwo_8 : decode cX8_areTwo 8 = .ok (.ifCond .eq 23, 3) := by decide +kernel
theorem dX8_areTwo_11 : decode cX8_areTwo 11 = .ok (.aload_n 0, 1) := by decide +kernel
theorem dX8_areTwo_12 : decode cX8_areTwo 12 = .ok (.getfield 32, 3) := by decide +kernel
theorem dX8_areTwo_15 : decode cX8_areTwo 15 = .ok (.iload_n 2, 1) := by decide +kernel
theorem dX8_areTwo_16 : decode cX8_areTwo 16 = .ok (.invokevirtual 135, 3) := by decide +kernel
theorem dX8_areTwo_19 : decode cX8_areTwo 19 = .ok (.ifCond .eq 12, 3) := by decide +kernel
theorem dX8_areTwo_22 : decode cX8_areTwo 22 = .ok (.iload_n 1, 1) := by decide +kernel
theorem dX8_areTwo_23 : decode cX8_areTwo 23 = .ok (.iload_n 2, 1) := by decide +kernel
theorem dX8_areTwo_24 : decode cX8_areTwo 24 = .ok (.if_icmp .eq 7, 3) := by decide +kernel
theorem dX8_areTwo_27 : decode cX8_areTwo 27 = .ok (.iconst 1, 1) := by decide +kernel
theorem dX8_areTwo_28 : decode cX8_areTwo 28 = .ok (.goto 4, 3) := by decide +kernel
theorem dX8_areTwo_31 : decode cX8_areTwo 31 = .ok (.iconst 0, 1) := by decide +kernel
theorem dX8_areTwo_32 : decode cX8_areTwo 32 = .ok (.ireturn, 1) := by decide +kernel
theorem dX8_motion_0 : decode cX8_motion 0 = .ok (.aload_n 0, 1) := by decide +kernel
theorem dX8_motion_1 : decode cX8_motion 1 = .ok (.getfield 32, 3) := by decide +kernel
theorem dX8_motion_4 : decode cX8_motion 4 = .ok (.iload_n 1, 1) := by decide +kernel
theorem dX8_motion_5 : decode cX8_motion 5 = .ok (.iload_n 2, 1) := by decide +kernel
theorem dX8_motion_6 : decode cX8_motion 6 = .ok (.invokevirtual 147, 3) := by decide +kernel
theorem dX8_motion_9 : decode cX8_motion 9 = .ok (.ifCond .eq 19, 3) := by decide +kernel
theorem dX8_motion_12 : decode cX8_motion 12 = .ok (.iload_n 3, 1) := by decide +kernel
theorem dX8_motion_13 : decode cX8_motion 13 = .ok (.iconst (-1), 1) := by decide +kernel
theorem dX8_motion_14 : decode cX8_motion 14 = .ok (.if_icmp .lt 14, 3) := by decide +kernel
theorem dX8_motion_17 : decode cX8_motion 17 = .ok (.iload_n 3, 1) := by decide +kernel
theorem dX8_motion_18 : decode cX8_motion 18 = .ok (.aload_n 0, 1) := by decide +kernel
theorem dX8_motion_19 : decode cX8_motion 19 = .ok (.getfield 32, 3) := by decide +kernel
theorem dX8_motion_22 : decode cX8_motion 22 = .ok (.getfield 132, 3) := by decide +kernel
theorem dX8_motion_25 : decode cX8_motion 25 = .ok (.if_icmp .lt 5, 3) := by decide +kernel
theorem dX8_motion_28 : decode cX8_motion 28 = .ok (.iconst (-1), 1) := by decide +kernel
theorem dX8_motion_29 : decode cX8_motion 29 = .ok (.ireturn, 1) := by decide +kernel
theorem dX8_motion_30 : decode cX8_motion 30 = .ok (.aload_n 0, 1) := by decide +kernel
theorem dX8_motion_31 : decode cX8_motion 31 = .ok (.getfield 97, 3) := by decide +kernel
theorem dX8_motion_34 : decode cX8_motion 34 = .ok (.invokevirtual 255, 3) := by decide +kernel
theorem dX8_motion_37 : decode cX8_motion 37 = .ok (.aload_n 0, 1) := by decide +kernel
theorem dX8_motion_38 : decode cX8_motion 38 = .ok (.getfield 97, 3) := by decide +kernel
theorem dX8_motion_41 : decode cX8_motion 41 = .ok (.iload_n 1, 1) := by decide +kernel
theorem dX8_motion_42 : decode cX8_motion 42 = .ok (.iload_n 2, 1) := by decide +kernel
theorem dX8_motion_43 : decode cX8_motion 43 = .ok (.invokevirtual 258, 3) := by decide +kernel
theorem dX8_motion_46 : decode cX8_motion 46 = .ok (.ifCond .ne 6, 3) := by decide +kernel
theorem dX8_motion_49 : decode cX8_motion 49 = .ok (.bipush (-9), 2) := by decide +kernel
theorem dX8_motion_51 : decode cX8_motion 51 = .ok (.ireturn, 1) := by decide +kernel
theorem dX8_motion_52 : decode cX8_motion 52 = .ok (.iload_n 3, 1) := by decide +kernel
theorem dX8_motion_53 : decode cX8_motion 53 = .ok (.iconst (-1), 1) := by decide +kernel
theorem dX8_motion_54 : decode cX8_motion 54 = .ok (.if_icmp .ne 15, 3) := by decide +kernel
theorem dX8_motion_57 : decode cX8_motion 57 = .ok (.aload_n 0, 1) := by decide +kernel
theorem dX8_motion_58 : decode cX8_motion 58 = .ok (.getfield 97, 3) := by decide +kernel
theorem dX8_motion_61 : decode cX8_motion 61 = .ok (.iload_n 1, 1) := by decide +kernel
theorem dX8_motion_62 : decode cX8_motion 62 = .ok (.iload_n 2, 1) := by decide +kernel
theorem dX8_motion_63 : decode cX8_motion 63 = .ok (.invokevirtual 261, 3) := by decide +kernel
theorem dX8_motion_66 : decode cX8_motion 66 = .ok (.goto 13, 3) := by decide +kernel
theorem dX8_motion_69 : decode cX8_motion 69 = .ok (.aload_n 0, 1) := by decide +kernel
theorem dX8_motion_70 : decode cX8_motion 70 = .ok (.getfield 97, 3) := by decide +kernel
theorem dX8_motion_73 : decode cX8_motion 73 = .ok (.iload_n 1, 1) := by decide +kernel
theorem dX8_motion_74 : decode cX8_motion 74 = .ok (.iload_n 2, 1) := by decide +kernel
theorem dX8_motion_75 : decode cX8_motion 75 = .ok (.iload_n 3, 1) := by decide +kernel
theorem dX8_motion_76 : decode cX8_motion 76 = .ok (.invokevirtual 264, 3) := by decide +kernel
theorem dX8_motion_79 : decode cX8_motion 79 = .ok (.ireturn, 1) := by decide +kernel
theorem dX8_dry_0 : decode cX8_dry 0 = .ok (.aload_n 0, 1) := by decide +kernel
theorem dX8_dry_1 : decode cX8_dry 1 = .ok (.getfield 32, 3) := by decide +kernel
theorem dX8_dry_4 : decode cX8_dry 4 = .ok (.iload_n 1, 1) := by decide +kernel
theorem dX8_dry_5 : decode cX8_dry 5 = .ok (.iload_n 2, 1) := by decide +kernel
theorem dX8_dry_6 : decode cX8_dry 6 = .ok (.invokevirtual 147, 3) := by decide +kernel
theorem dX8_dry_9 : decode cX8_dry 9 = .ok (.ifCond .ne 5, 3) := by decide +kernel
theorem dX8_dry_12 : decode cX8_dry 12 = .ok (.iconst (-1), 1) := by decide +kernel
theorem dX8_dry_13 : decode cX8_dry 13 = .ok (.ireturn, 1) := by decide +kernel
theorem dX8_dry_14 : decode cX8_dry 14 = .ok (.aload_n 0, 1) := by decide +kernel
theorem dX8_dry_15 : decode cX8_dry 15 = .ok (.invokevirtual 216, 3) := by decide +kernel
theorem dX8_dry_18 : decode cX8_dry 18 = .ok (.iconst 0, 1) := by decide +kernel
theorem dX8_dry_19 : decode cX8_dry 19 = .ok (.istore_n 3, 1) := by decide +kernel
theorem dX8_dry_20 : decode cX8_dry 20 = .ok (.iconst 0, 1) := by decide +kernel
theorem dX8_dry_21 : decode cX8_dry 21 = .ok (.istore 4, 2) := by decide +kernel
theorem dX8_dry_23 : decode cX8_dry 23 = .ok (.iload 4, 2) := by decide +kernel
theorem dX8_dry_25 : decode cX8_dry 25 = .ok (.aload_n 0, 1) := by decide +kernel
theorem dX8_dry_26 : decode cX8_dry 26 = .ok (.getfield 32, 3) := by decide +kernel
theorem dX8_dry_29 : decode cX8_dry 29 = .ok (.getfield 132, 3) := by decide +kernel
theorem dX8_dry_32 : decode cX8_dry 32 = .ok (.if_icmp .ge 39, 3) := by decide +kernel
theorem dX8_dry_35 : decode cX8_dry 35 = .ok (.iload 4, 2) := by decide +kernel
theorem dX8_dry_37 : decode cX8_dry 37 = .ok (.iconst 5, 1) := by decide +kernel
theorem dX8_dry_38 : decode cX8_dry 38 = .ok (.if_icmp .ge 33, 3) := by decide +kernel
theorem dX8_dry_41 : decode cX8_dry 41 = .ok (.iload 4, 2) := by decide +kernel
theorem dX8_dry_43 : decode cX8_dry 43 = .ok (.iload_n 1, 1) := by decide +kernel
theorem dX8_dry_44 : decode cX8_dry 44 = .ok (.if_icmp .eq 21, 3) := by decide +kernel
theorem dX8_dry_47 : decode cX8_dry 47 = .ok (.aload_n 0, 1) := by decide +kernel
theorem dX8_dry_48 : decode cX8_dry 48 = .ok (.iload 4, 2) := by decide +kernel
theorem dX8_dry_50 : decode cX8_dry 50 = .ok (.iload_n 1, 1) := by decide +kernel
theorem dX8_dry_51 : decode cX8_dry 51 = .ok (.iload_n 2, 1) := by decide +kernel
theorem dX8_dry_52 : decode cX8_dry 52 = .ok (.invokevirtual 268, 3) := by decide +kernel
theorem dX8_dry_55 : decode cX8_dry 55 = .ok (.ifCond .eq 10, 3) := by decide +kernel
theorem dX8_dry_58 : decode cX8_dry 58 = .ok (.iload_n 3, 1) := by decide +kernel
theorem dX8_dry_59 : decode cX8_dry 59 = .ok (.iconst 1, 1) := by decide +kernel
theorem dX8_dry_60 : decode cX8_dry 60 = .ok (.iload 4, 2) := by decide +kernel
theorem dX8_dry_62 : decode cX8_dry 62 = .ok (.ishl, 1) := by decide +kernel
theorem dX8_dry_63 : decode cX8_dry 63 = .ok (.ior, 1) := by decide +kernel
theorem dX8_dry_64 : decode cX8_dry 64 = .ok (.istore_n 3, 1) := by decide +kernel
theorem dX8_dry_65 : decode cX8_dry 65 = .ok (.iinc 4 1, 3) := by decide +kernel
theorem dX8_dry_68 : decode cX8_dry 68 = .ok (.goto (-45), 3) := by decide +kernel
theorem dX8_dry_71 : decode cX8_dry 71 = .ok (.iload_n 3, 1) := by decide +kernel
theorem dX8_dry_72 : decode cX8_dry 72 = .ok (.ireturn, 1) := by decide +kernel
theorem dX8_canSilence_0 : decode cX8_canSilence 0 = .ok (.aload_n 0, 1) := by decide +kernel
theorem dX8_canSilence_1 : decode cX8_canSilence 1 = .ok (.getfield 54, 3) := by decide +kernel
theorem dX8_canSilence_4 : decode cX8_canSilence 4 = .ok (.iload_n 1, 1) := by decide +kernel
theorem dX8_canSilence_5 : decode cX8_canSilence 5 = .ok (.invokevirtual 145, 3) := by decide +kernel
theorem dX8_canSilence_8 : decode cX8_canSilence 8 = .ok (.istore 4, 2) := by decide +kernel
theorem dX8_canSilence_10 : decode cX8_canSilence 10 = .ok (.aload_n 0, 1) := by decide +kernel
theorem dX8_canSilence_11 : decode cX8_canSilence 11 = .ok (.getfield 72, 3) := by decide +kernel
theorem dX8_canSilence_14 : decode cX8_canSilence 14 = .ok (.iload 4, 2) := by decide +kernel
theorem dX8_canSilence_16 : decode cX8_canSilence 16 = .ok (.bipush (-9), 2) := by decide +kernel
theorem dX8_canSilence_18 : decode cX8_canSilence 18 = .ok (.invokevirtual 249, 3) := by decide +kernel
theorem dX8_canSilence_21 : decode cX8_canSilence 21 = .ok (.aload_n 0, 1) := by decide +kernel
theorem dX8_canSilence_22 : decode cX8_canSilence 22 = .ok (.getfield 72, 3) := by decide +kernel
theorem dX8_canSilence_25 : decode cX8_canSilence 25 = .ok (.iload_n 2, 1) := by decide +kernel
theorem dX8_canSilence_26 : decode cX8_canSilence 26 = .ok (.iload_n 3, 1) := by decide +kernel
theorem dX8_canSilence_27 : decode cX8_canSilence 27 = .ok (.invokevirtual 271, 3) := by decide +kernel
theorem dX8_canSilence_30 : decode cX8_canSilence 30 = .ok (.ifCond .ne 7, 3) := by decide +kernel
theorem dX8_canSilence_33 : decode cX8_canSilence 33 = .ok (.iconst 1, 1) := by decide +kernel
theorem dX8_canSilence_34 : decode cX8_canSilence 34 = .ok (.goto 4, 3) := by decide +kernel
theorem dX8_canSilence_37 : decode cX8_canSilence 37 = .ok (.iconst 0, 1) := by decide +kernel
theorem dX8_canSilence_38 : decode cX8_canSilence 38 = .ok (.istore 5, 2) := by decide +kernel
theorem dX8_canSilence_40 : decode cX8_canSilence 40 = .ok (.iconst 0, 1) := by decide +kernel
theorem dX8_canSilence_41 : decode cX8_canSilence 41 = .ok (.istore 6, 2) := by decide +kernel
theorem dX8_canSilence_43 : decode cX8_canSilence 43 = .ok (.iload 6, 2) := by decide +kernel
theorem dX8_canSilence_45 : decode cX8_canSilence 45 = .ok (.aload_n 0, 1) := by decide +kernel
theorem dX8_canSilence_46 : decode cX8_canSilence 46 = .ok (.getfield 32, 3) := by decide +kernel
theorem dX8_canSilence_49 : decode cX8_canSilence 49 = .ok (.iload_n 1, 1) := by decide +kernel
theorem dX8_canSilence_50 : decode cX8_canSilence 50 = .ok (.invokevirtual 142, 3) := by decide +kernel
theorem dX8_canSilence_53 : decode cX8_canSilence 53 = .ok (.if_icmp .ge 50, 3) := by decide +kernel
theorem dX8_canSilence_56 : decode cX8_canSilence 56 = .ok (.iload 6, 2) := by decide +kernel
theorem dX8_canSilence_58 : decode cX8_canSilence 58 = .ok (.iconst 3, 1) := by decide +kernel
theorem dX8_canSilence_59 : decode cX8_canSilence 59 = .ok (.if_icmp .ge 44, 3) := by decide +kernel
theorem dX8_canSilence_62 : decode cX8_canSilence 62 = .ok (.iload 5, 2) := by decide +kernel
theorem dX8_canSilence_64 : decode cX8_canSilence 64 = .ok (.ifCond .ne 39, 3) := by decide +kernel
theorem dX8_canSilence_67 : decode cX8_canSilence 67 = .ok (.aload_n 0, 1) := by decide +kernel
theorem dX8_canSilence_68 : decode cX8_canSilence 68 = .ok (.getfield 72, 3) := by decide +kernel
theorem dX8_canSilence_71 : decode cX8_canSilence 71 = .ok (.iload 4, 2) := by decide +kernel
theorem dX8_canSilence_73 : decode cX8_canSilence 73 = .ok (.iload 6, 2) := by decide +kernel
theorem dX8_canSilence_75 : decode cX8_canSilence 75 = .ok (.invokevirtual 249, 3) := by decide +kernel
theorem dX8_canSilence_78 : decode cX8_canSilence 78 = .ok (.aload_n 0, 1) := by decide +kernel
theorem dX8_canSilence_79 : decode cX8_canSilence 79 = .ok (.getfield 72, 3) := by decide +kernel
theorem dX8_canSilence_82 : decode cX8_canSilence 82 = .ok (.iload_n 2, 1) := by decide +kernel
theorem dX8_canSilence_83 : decode cX8_canSilence 83 = .ok (.iload_n 3, 1) := by decide +kernel
theorem dX8_canSilence_84 : decode cX8_canSilence 84 = .ok (.invokevirtual 271, 3) := by decide +kernel
theorem dX8_canSilence_87 : decode cX8_canSilence 87 = .ok (.ifCond .ne 7, 3) := by decide +kernel
theorem dX8_canSilence_90 : decode cX8_canSilence 90 = .ok (.iconst 1, 1) := by decide +kernel
theorem dX8_canSilence_91 : decode cX8_canSilence 91 = .ok (.goto 4, 3) := by decide +kernel
theorem dX8_canSilence_94 : decode cX8_canSilence 94 = .ok (.iconst 0, 1) := by decide +kernel
theorem dX8_canSilence_95 : decode cX8_canSilence 95 = .ok (.istore 5, 2) := by decide +kernel
theorem dX8_canSilence_97 : decode cX8_canSilence 97 = .ok (.iinc 6 1, 3) := by decide +kernel
theorem dX8_canSilence_100 : decode cX8_canSilence 100 = .ok (.goto (-57), 3) := by decide +kernel
theorem dX8_canSilence_103 : decode cX8_canSilence 103 = .ok (.iload 5, 2) := by decide +kernel
theorem dX8_canSilence_105 : decode cX8_canSilence 105 = .ok (.ireturn, 1) := by decide +kernel
theorem dX8_day_0 : decode cX8_day 0 = .ok (.aload_n 0, 1) := by decide +kernel
theorem dX8_day_1 : decode cX8_day 1 = .ok (.getfield 54, 3) := by decide +kernel
theorem dX8_day_4 : decode cX8_day 4 = .ok (.invokevirtual 189, 3) := by decide +kernel
theorem dX8_day_7 : decode cX8_day 7 = .ok (.istore 5, 2) := by decide +kernel
theorem dX8_day_9 : decode cX8_day 9 = .ok (.aload_n 0, 1) := by decide +kernel
theorem dX8_day_10 : decode cX8_day 10 = .ok (.getfield 25, 3) := by decide +kernel
theorem dX8_day_13 : decode cX8_day 13 = .ok (.iload_n 1, 1) := by decide +kernel
theorem dX8_day_14 : decode cX8_day 14 = .ok (.iload_n 2, 1) := by decide +kernel
theorem dX8_day_15 : decode cX8_day 15 = .ok (.iload_n 3, 1) := by decide +kernel
theorem dX8_day_16 : decode cX8_day 16 = .ok (.iload 5, 2) := by decide +kernel
theorem dX8_day_18 : decode cX8_day 18 = .ok (.invokevirtual 105, 3) := by decide +kernel
theorem dX8_day_21 : decode cX8_day 21 = .ok (.istore 6, 2) := by decide +kernel
theorem dX8_day_23 : decode cX8_day 23 = .ok (.iload 6, 2) := by decide +kernel
theorem dX8_day_25 : decode cX8_day 25 = .ok (.ifCond .eq 10, 3) := by decide +kernel
theorem dX8_day_28 : decode cX8_day 28 = .ok (.aload_n 0, 1) := by decide +kernel
theorem dX8_day_29 : decode cX8_day 29 = .ok (.iload 6, 2) := by decide +kernel
theorem dX8_day_31 : decode cX8_day 31 = .ok (.invokevirtual 109, 3) := by decide +kernel
theorem dX8_day_34 : decode cX8_day 34 = .ok (.ireturn, 1) := by decide +kernel
theorem dX8_day_35 : decode cX8_day 35 = .ok (.aload_n 0, 1) := by decide +kernel
theorem dX8_day_36 : decode cX8_day 36 = .ok (.getfield 32, 3) := by decide +kernel
theorem dX8_day_39 : decode cX8_day 39 = .ok (.getfield 132, 3) := by decide +kernel
theorem dX8_day_42 : decode cX8_day 42 = .ok (.ifCond .ne 10, 3) := by decide +kernel
theorem dX8_day_45 : decode cX8_day 45 = .ok (.aload_n 0, 1) := by decide +kernel
theorem dX8_day_46 : decode cX8_day 46 = .ok (.bipush (-3), 2) := by decide +kernel
theorem dX8_day_48 : decode cX8_day 48 = .ok (.invokevirtual 109, 3) := by decide +kernel
theorem dX8_day_51 : decode cX8_day 51 = .ok (.ireturn, 1) := by decide +kernel
theorem dX8_day_52 : decode cX8_day 52 = .ok (.aload_n 0, 1) := by decide +kernel
theorem dX8_day_53 : decode cX8_day 53 = .ok (.iload_n 1, 1) := by decide +kernel
theorem dX8_day_54 : decode cX8_day 54 = .ok (.iload_n 3, 1) := by decide +kernel
theorem dX8_day_55 : decode cX8_day 55 = .ok (.iload 5, 2) := by decide +kernel
theorem dX8_day_57 : decode cX8_day 57 = .ok (.invokevirtual 193, 3) := by decide +kernel
theorem dX8_day_60 : decode cX8_day 60 = .ok (.ifCond .ne 9, 3) := by decide +kernel
theorem dX8_day_63 : decode cX8_day 63 = .ok (.aload_n 0, 1) := by decide +kernel
theorem dX8_day_64 : decode cX8_day 64 = .ok (.iconst (-1), 1) := by decide +kernel
theorem dX8_day_65 : decode cX8_day 65 = .ok (.invokevirtual 109, 3) := by decide +kernel
theorem dX8_day_68 : decode cX8_day 68 = .ok (.ireturn, 1) := by decide +kernel
theorem dX8_day_69 : decode cX8_day 69 = .ok (.iload 4, 2) := by decide +kernel
theorem dX8_day_71 : decode cX8_day 71 = .ok (.ifCond .lt 10, 3) := by decide +kernel
theorem dX8_day_74 : decode cX8_day 74 = .ok (.iload 4, 2) := by decide +kernel
theorem dX8_day_76 : decode cX8_day 76 = .ok (.bipush 99, 2) := by decide +kernel
theorem dX8_day_78 : decode cX8_day 78 = .ok (.if_icmp .le 10, 3) := by decide +kernel
theorem dX8_day_81 : decode cX8_day 81 = .ok (.aload_n 0, 1) := by decide +kernel
theorem dX8_day_82 : decode cX8_day 82 = .ok (.bipush (-2), 2) := by decide +kernel
theorem dX8_day_84 : decode cX8_day 84 = .ok (.invokevirtual 109, 3) := by decide +kernel
theorem dX8_day_87 : decode cX8_day 87 = .ok (.ireturn, 1) := by decide +kernel
theorem dX8_day_88 : decode cX8_day 88 = .ok (.aload_n 0, 1) := by decide +kernel
theorem dX8_day_89 : decode cX8_day 89 = .ok (.getfield 88, 3) := by decide +kernel
theorem dX8_day_92 : decode cX8_day 92 = .ok (.getfield 274, 3) := by decide +kernel
theorem dX8_day_95 : decode cX8_day 95 = .ok (.bipush 6, 2) := by decide +kernel
theorem dX8_day_97 : decode cX8_day 97 = .ok (.if_icmp .lt 10, 3) := by decide +kernel
theorem dX8_day_100 : decode cX8_day 100 = .ok (.aload_n 0, 1) := by decide +kernel
theorem dX8_day_101 : decode cX8_day 101 = .ok (.bipush (-4), 2) := by decide +kernel
theorem dX8_day_103 : decode cX8_day 103 = .ok (.invokevirtual 109, 3) := by decide +kernel
theorem dX8_day_106 : decode cX8_day 106 = .ok (.ireturn, 1) := by decide +kernel
theorem dX8_day_107 : decode cX8_day 107 = .ok (.iconst 0, 1) := by decide +kernel
theorem dX8_day_108 : decode cX8_day 108 = .ok (.istore 7, 2) := by decide +kernel
theorem dX8_day_110 : decode cX8_day 110 = .ok (.iload 7, 2) := by decide +kernel
theorem dX8_day_112 : decode cX8_day 112 = .ok (.iload 5, 2) := by decide +kernel
theorem dX8_day_114 : decode cX8_day 114 = .ok (.if_icmp .ge 37, 3) := by decide +kernel
theorem dX8_day_117 : decode cX8_day 117 = .ok (.iload 7, 2) := by decide +kernel
theorem dX8_day_119 : decode cX8_day 119 = .ok (.bipush 6, 2) := by decide +kernel
theorem dX8_day_121 : decode cX8_day 121 = .ok (.if_icmp .ge 30, 3) := by decide +kernel
theorem dX8_day_124 : decode cX8_day 124 = .ok (.aload_n 0, 1) := by decide +kernel
theorem dX8_day_125 : decode cX8_day 125 = .ok (.getfield 88, 3) := by decide +kernel
theorem dX8_day_128 : decode cX8_day 128 = .ok (.iload 7, 2) := by decide +kernel
theorem dX8_day_130 : decode cX8_day 130 = .ok (.aload_n 0, 1) := by decide +kernel
theorem dX8_day_131 : decode cX8_day 131 = .ok (.getfield 25, 3) := by decide +kernel
theorem dX8_day_134 : decode cX8_day 134 = .ok (.iload_n 1, 1) := by decide +kernel
theorem dX8_day_135 : decode cX8_day 135 = .ok (.iload_n 3, 1) := by decide +kernel
theorem dX8_day_136 : decode cX8_day 136 = .ok (.iload 7, 2) := by decide +kernel
theorem dX8_day_138 : decode cX8_day 138 = .ok (.iadd, 1) := by decide +kernel
theorem dX8_day_139 : decode cX8_day 139 = .ok (.invokevirtual 200, 3) := by decide +kernel
theorem dX8_day_142 : decode cX8_day 142 = .ok (.invokevirtual 275, 3) := by decide +kernel
theorem dX8_day_145 : decode cX8_day 145 = .ok (.iinc 7 1, 3) := by decide +kernel
theorem dX8_day_148 : decode cX8_day 148 = .ok (.goto (-38), 3) := by decide +kernel
theorem dX8_day_151 : decode cX8_day 151 = .ok (.aload_n 0, 1) := by decide +kernel
theorem dX8_day_152 : decode cX8_day 152 = .ok (.aload_n 0, 1) := by decide +kernel
theorem dX8_day_153 : decode cX8_day 153 = .ok (.getfield 88, 3) := by decide +kernel
theorem dX8_day_156 : decode cX8_day 156 = .ok (.iload 4, 2) := by decide +kernel
theorem dX8_day_158 : decode cX8_day 158 = .ok (.invokevirtual 278, 3) := by decide +kernel
theorem dX8_day_161 : decode cX8_day 161 = .ok (.invokevirtual 109, 3) := by decide +kernel
theorem dX8_day_164 : decode cX8_day 164 = .ok (.ireturn, 1) := by decide +kernel
theorem dX8_back_0 : decode cX8_back 0 = .ok (.iload_n 1, 1) := by decide +kernel
theorem dX8_back_1 : decode cX8_back 1 = .ok (.ifCond .lt 14, 3) := by decide +kernel
theorem dX8_back_4 : decode cX8_back 4 = .ok (.iload_n 1, 1) := by decide +kernel
theorem dX8_back_5 : decode cX8_back 5 = .ok (.aload_n 0, 1) := by decide +kernel
theorem dX8_back_6 : decode cX8_back 6 = .ok (.getfield 88, 3) := by decide +kernel
theorem dX8_back_9 : decode cX8_back 9 = .ok (.getfield 274, 3) := by decide +kernel
theorem dX8_back_12 : decode cX8_back 12 = .ok (.if_icmp .le 6, 3) := by decide +kernel
theorem dX8_back_15 : decode cX8_back 15 = .ok (.bipush (-2), 2) := by decide +kernel
theorem dX8_back_17 : decode cX8_back 17 = .ok (.ireturn, 1) := by decide +kernel
theorem dX8_back_18 : decode cX8_back 18 = .ok (.aload_n 0, 1) := by decide +kernel
theorem dX8_back_19 : decode cX8_back 19 = .ok (.getfield 88, 3) := by decide +kernel
theorem dX8_back_22 : decode cX8_back 22 = .ok (.dup, 1) := by decide +kernel
theorem dX8_back_23 : decode cX8_back 23 = .ok (.getfield 274, 3) := by decide +kernel
theorem dX8_back_26 : decode cX8_back 26 = .ok (.iload_n 1, 1) := by decide +kernel
theorem dX8_back_27 : decode cX8_back 27 = .ok (.isub, 1) := by decide +kernel
theorem dX8_back_28 : decode cX8_back 28 = .ok (.putfield 274, 3) := by decide +kernel
theorem dX8_back_31 : decode cX8_back 31 = .ok (.aload_n 0, 1) := by decide +kernel
theorem dX8_back_32 : decode cX8_back 32 = .ok (.getfield 88, 3) := by decide +kernel
theorem dX8_back_35 : decode cX8_back 35 = .ok (.getfield 274, 3) := by decide +kernel
theorem dX8_back_38 : decode cX8_back 38 = .ok (.ireturn, 1) := by decide +kernel
theorem dX8_guess_0 : decode cX8_guess 0 = .ok (.iload_n 1, 1) := by decide +kernel
theorem dX8_guess_1 : decode cX8_guess 1 = .ok (.ifCond .eq 11, 3) := by decide +kernel
theorem dX8_guess_4 : decode cX8_guess 4 = .ok (.iload_n 1, 1) := by decide +kernel
theorem dX8_guess_5 : decode cX8_guess 5 = .ok (.iconst 1, 1) := by decide +kernel
theorem dX8_guess_6 : decode cX8_guess 6 = .ok (.if_icmp .eq 6, 3) := by decide +kernel
theorem dX8_guess_9 : decode cX8_guess 9 = .ok (.bipush (-2), 2) := by decide +kernel
theorem dX8_guess_11 : decode cX8_guess 11 = .ok (.ireturn, 1) := by decide +kernel
theorem dX8_guess_12 : decode cX8_guess 12 = .ok (.aload_n 0, 1) := by decide +kernel
theorem dX8_guess_13 : decode cX8_guess 13 = .ok (.getfield 32, 3) := by decide +kernel
theorem dX8_guess_16 : decode cX8_guess 16 = .ok (.getfield 132, 3) := by decide +kernel
theorem dX8_guess_19 : decode cX8_guess 19 = .ok (.ifCond .ne 6, 3) := by decide +kernel
theorem dX8_guess_22 : decode cX8_guess 22 = .ok (.bipush (-3), 2) := by decide +kernel
theorem dX8_guess_24 : decode cX8_guess 24 = .ok (.ireturn, 1) := by decide +kernel
theorem dX8_guess_25 : decode cX8_guess 25 = .ok (.aload_n 0, 1) := by decide +kernel
theorem dX8_guess_26 : decode cX8_guess 26 = .ok (.getfield 76, 3) := by decide +kernel
theorem dX8_guess_29 : decode cX8_guess 29 = .ok (.aload_n 0, 1) := by decide +kernel
theorem dX8_guess_30 : decode cX8_guess 30 = .ok (.getfield 54, 3) := by decide +kernel
theorem dX8_guess_33 : decode cX8_guess 33 = .ok (.invokevirtual 231, 3) := by decide +kernel
theorem dX8_guess_36 : decode cX8_guess 36 = .ok (.aload_n 0, 1) := by decide +kernel
theorem dX8_guess_37 : decode cX8_guess 37 = .ok (.getfield 88, 3) := by decide +kernel
theorem dX8_guess_40 : decode cX8_guess 40 = .ok (.aload_n 0, 1) := by decide +kernel
theorem dX8_guess_41 : decode cX8_guess 41 = .ok (.getfield 76, 3) := by decide +kernel
theorem dX8_guess_44 : decode cX8_guess 44 = .ok (.aload_n 0, 1) := by decide +kernel
theorem dX8_guess_45 : decode cX8_guess 45 = .ok (.getfield 82, 3) := by decide +kernel
theorem dX8_guess_48 : decode cX8_guess 48 = .ok (.invokevirtual 281, 3) := by decide +kernel
theorem dX8_guess_51 : decode cX8_guess 51 = .ok (.iconst 0, 1) := by decide +kernel
theorem dX8_guess_52 : decode cX8_guess 52 = .ok (.istore_n 2, 1) := by decide +kernel
theorem dX8_guess_53 : decode cX8_guess 53 = .ok (.bipush (-9), 2) := by decide +kernel
theorem dX8_guess_55 : decode cX8_guess 55 = .ok (.istore_n 3, 1) := by decide +kernel
theorem dX8_guess_56 : decode cX8_guess 56 = .ok (.iconst 0, 1) := by decide +kernel
theorem dX8_guess_57 : decode cX8_guess 57 = .ok (.istore 4, 2) := by decide +kernel
theorem dX8_guess_59 : decode cX8_guess 59 = .ok (.iload 4, 2) := by decide +kernel
theorem dX8_guess_61 : decode cX8_guess 61 = .ok (.aload_n 0, 1) := by decide +kernel
theorem dX8_guess_62 : decode cX8_guess 62 = .ok (.getfield 88, 3) := by decide +kernel
theorem dX8_guess_65 : decode cX8_guess 65 = .ok (.getfield 274, 3) := by decide +kernel
theorem dX8_guess_68 : decode cX8_guess 68 = .ok (.if_icmp .gt 68, 3) := by decide +kernel
theorem dX8_guess_71 : decode cX8_guess 71 = .ok (.iload 4, 2) := by decide +kernel
theorem dX8_guess_73 : decode cX8_guess 73 = .ok (.bipush 6, 2) := by decide +kernel
theorem dX8_guess_75 : decode cX8_guess 75 = .ok (.if_icmp .gt 61, 3) := by decide +kernel
theorem dX8_guess_78 : decode cX8_guess 78 = .ok (.iconst 0, 1) := by decide +kernel
theorem dX8_guess_79 : decode cX8_guess 79 = .ok (.istore 5, 2) := by decide +kernel
theorem dX8_guess_81 : decode cX8_guess 81 = .ok (.iload 5, 2) := by decide +kernel
theorem dX8_guess_83 : decode cX8_guess 83 = .ok (.bipush 9, 2) := by decide +kernel
theorem dX8_guess_85 : decode cX8_guess 85 = .ok (.if_icmp .gt 45, 3) := by decide +kernel
theorem dX8_guess_88 : decode cX8_guess 88 = .ok (.aload_n 0, 1) := by decide +kernel
theorem dX8_guess_89 : decode cX8_guess 89 = .ok (.getfield 88, 3) := by decide +kernel
theorem dX8_guess_92 : decode cX8_guess 92 = .ok (.iload 4, 2) := by decide +kernel
theorem dX8_guess_94 : decode cX8_guess 94 = .ok (.iload 5, 2) := by decide +kernel
theorem dX8_guess_96 : decode cX8_guess 96 = .ok (.invokevirtual 284, 3) := by decide +kernel
theorem dX8_guess_99 : decode cX8_guess 99 = .ok (.ifCond .eq 25, 3) := by decide +kernel
theorem dX8_guess_102 : decode cX8_guess 102 = .ok (.iinc 2 1, 3) := by decide +kernel
theorem dX8_guess_105 : decode cX8_guess 105 = .ok (.iload_n 3, 1) := by decide +kernel
theorem dX8_guess_106 : decode cX8_guess 106 = .ok (.bipush (-9), 2) := by decide +kernel
theorem dX8_guess_108 : decode cX8_guess 108 = .ok (.if_icmp .ne 14, 3) := by decide +kernel
theorem dX8_guess_111 : decode cX8_guess 111 = .ok (.bipush 10, 2) := by decide +kernel
theorem dX8_guess_113 : decode cX8_guess 113 = .ok (.iload 4, 2) := by decide +kernel
theorem dX8_guess_115 : decode cX8_guess 115 = .ok (.imul, 1) := by decide +kernel
theorem dX8_guess_116 : decode cX8_guess 116 = .ok (.iload 5, 2) := by decide +kernel
theorem dX8_guess_118 : decode cX8_guess 118 = .ok (.iadd, 1) := by decide +kernel
theorem dX8_guess_119 : decode cX8_guess 119 = .ok (.goto 4, 3) := by decide +kernel
theorem dX8_guess_122 : decode cX8_guess 122 = .ok (.iload_n 3, 1) := by decide +kernel
theorem dX8_guess_123 : decode cX8_guess 123 = .ok (.istore_n 3, 1) := by decide +kernel
theorem dX8_guess_124 : decode cX8_guess 124 = .ok (.iinc 5 1, 3) := by decide +kernel
theorem dX8_guess_127 : decode cX8_guess 127 = .ok (.goto (-46), 3) := by decide +kernel
theorem dX8_guess_130 : decode cX8_guess 130 = .ok (.iinc 4 1, 3) := by decide +kernel
theorem dX8_guess_133 : decode cX8_guess 133 = .ok (.goto (-74), 3) := by decide +kernel
theorem dX8_guess_136 : decode cX8_guess 136 = .ok (.iload_n 1, 1) := by decide +kernel
theorem dX8_guess_137 : decode cX8_guess 137 = .ok (.ifCond .ne 7, 3) := by decide +kernel
theorem dX8_guess_140 : decode cX8_guess 140 = .ok (.iload_n 2, 1) := by decide +kernel
theorem dX8_guess_141 : decode cX8_guess 141 = .ok (.goto 4, 3) := by decide +kernel
theorem dX8_guess_144 : decode cX8_guess 144 = .ok (.iload_n 3, 1) := by decide +kernel
theorem dX8_guess_145 : decode cX8_guess 145 = .ok (.ireturn, 1) := by decide +kernel
theorem dX8_byLaw_0 : decode cX8_byLaw 0 = .ok (.iload_n 1, 1) := by decide +kernel
theorem dX8_byLaw_1 : decode cX8_byLaw 1 = .ok (.iconst (-1), 1) := by decide +kernel
theorem dX8_byLaw_2 : decode cX8_byLaw 2 = .ok (.if_icmp .lt 8, 3) := by decide +kernel
theorem dX8_byLaw_5 : decode cX8_byLaw 5 = .ok (.iload_n 1, 1) := by decide +kernel
theorem dX8_byLaw_6 : decode cX8_byLaw 6 = .ok (.iconst 4, 1) := by decide +kernel
theorem dX8_byLaw_7 : decode cX8_byLaw 7 = .ok (.if_icmp .lt 6, 3) := by decide +kernel
theorem dX8_byLaw_10 : decode cX8_byLaw 10 = .ok (.bipush (-2), 2) := by decide +kernel
theorem dX8_byLaw_12 : decode cX8_byLaw 12 = .ok (.ireturn, 1) := by decide +kernel
theorem dX8_byLaw_13 : decode cX8_byLaw 13 = .ok (.aload_n 0, 1) := by decide +kernel
theorem dX8_byLaw_14 : decode cX8_byLaw 14 = .ok (.getfield 32, 3) := by decide +kernel
theorem dX8_byLaw_17 : decode cX8_byLaw 17 = .ok (.getfield 132, 3) := by decide +kernel
theorem dX8_byLaw_20 : decode cX8_byLaw 20 = .ok (.ifCond .ne 6, 3) := by decide +kernel
theorem dX8_byLaw_23 : decode cX8_byLaw 23 = .ok (.bipush (-3), 2) := by decide +kernel
theorem dX8_byLaw_25 : decode cX8_byLaw 25 = .ok (.ireturn, 1) := by decide +kernel
theorem dX8_byLaw_26 : decode cX8_byLaw 26 = .ok (.iload_n 1, 1) := by decide +kernel
theorem dX8_byLaw_27 : decode cX8_byLaw 27 = .ok (.ifCond .lt 9, 3) := by decide +kernel
theorem dX8_byLaw_30 : decode cX8_byLaw 30 = .ok (.aload_n 0, 1) := by decide +kernel
theorem dX8_byLaw_31 : decode cX8_byLaw 31 = .ok (.iload_n 1, 1) := by decide +kernel
theorem dX8_byLaw_32 : decode cX8_byLaw 32 = .ok (.invokevirtual 287, 3) := by decide +kernel
theorem dX8_byLaw_35 : decode cX8_byLaw 35 = .ok (.ireturn, 1) := by decide +kernel
theorem dX8_byLaw_36 : decode cX8_byLaw 36 = .ok (.iconst 0, 1) := by decide +kernel
theorem dX8_byLaw_37 : decode cX8_byLaw 37 = .ok (.istore_n 2, 1) := by decide +kernel
theorem dX8_byLaw_38 : decode cX8_byLaw 38 = .ok (.aload_n 0, 1) := by decide +kernel
theorem dX8_byLaw_39 : decode cX8_byLaw 39 = .ok (.iconst 0, 1) := by decide +kernel
theorem dX8_byLaw_40 : decode cX8_byLaw 40 = .ok (.invokevirtual 287, 3) := by decide +kernel
theorem dX8_byLaw_43 : decode cX8_byLaw 43 = .ok (.istore_n 3, 1) := by decide +kernel
theorem dX8_byLaw_44 : decode cX8_byLaw 44 = .ok (.iconst 1, 1) := by decide +kernel
theorem dX8_byLaw_45 : decode cX8_byLaw 45 = .ok (.istore 4, 2) := by decide +kernel
theorem dX8_byLaw_47 : decode cX8_byLaw 47 = .ok (.iload 4, 2) := by decide +kernel
theorem dX8_byLaw_49 : decode cX8_byLaw 49 = .ok (.iconst 4, 1) := by decide +kernel
theorem dX8_byLaw_50 : decode cX8_byLaw 50 = .ok (.if_icmp .ge 29, 3) := by decide +kernel
theorem dX8_byLaw_53 : decode cX8_byLaw 53 = .ok (.aload_n 0, 1) := by decide +kernel
theorem dX8_byLaw_54 : decode cX8_byLaw 54 = .ok (.iload 4, 2) := by decide +kernel
theorem dX8_byLaw_56 : decode cX8_byLaw 56 = .ok (.invokevirtual 287, 3) := by decide +kernel
theorem dX8_byLaw_59 : decode cX8_byLaw 59 = .ok (.istore 5, 2) := by decide +kernel
theorem dX8_byLaw_61 : decode cX8_byLaw 61 = .ok (.iload 5, 2) := by decide +kernel
theorem dX8_byLaw_63 : decode cX8_byLaw 63 = .ok (.iload_n 3, 1) := by decide +kernel
theorem dX8_byLaw_64 : decode cX8_byLaw 64 = .ok (.if_icmp .le 9, 3) := by decide +kernel
theorem dX8_byLaw_67 : decode cX8_byLaw 67 = .ok (.iload 5, 2) := by decide +kernel
theorem dX8_byLaw_69 : decode cX8_byLaw 69 = .ok (.istore_n 3, 1) := by decide +kernel
theorem dX8_byLaw_70 : decode cX8_byLaw 70 = .ok (.iload 4, 2) := by decide +kernel
theorem dX8_byLaw_72 : decode cX8_byLaw 72 = .ok (.istore_n 2, 1) := by decide +kernel
theorem dX8_byLaw_73 : decode cX8_byLaw 73 = .ok (.iinc 4 1, 3) := by decide +kernel
theorem dX8_byLaw_76 : decode cX8_byLaw 76 = .ok (.goto (-29), 3) := by decide +kernel
theorem dX8_byLaw_79 : decode cX8_byLaw 79 = .ok (.iload_n 2, 1) := by decide +kernel
theorem dX8_byLaw_80 : decode cX8_byLaw 80 = .ok (.ireturn, 1) := by decide +kernel
theorem dX8_worthUnder_0 : decode cX8_worthUnder 0 = .ok (.aload_n 0, 1) := by decide +kernel
theorem dX8_worthUnder_1 : decode cX8_worthUnder 1 = .ok (.getfield 76, 3) := by decide +kernel
theorem dX8_worthUnder_4 : decode cX8_worthUnder 4 = .ok (.aload_n 0, 1) := by decide +kernel
theorem dX8_worthUnder_5 : decode cX8_worthUnder 5 = .ok (.getfield 54, 3) := by decide +kernel
theorem dX8_worthUnder_8 : decode cX8_worthUnder 8 = .ok (.invokevirtual 231, 3) := by decide +kernel
theorem dX8_worthUnder_11 : decode cX8_worthUnder 11 = .ok (.aload_n 0, 1) := by decide +kernel
theorem dX8_worthUnder_12 : decode cX8_worthUnder 12 = .ok (.getfield 76, 3) := by decide +kernel
theorem dX8_worthUnder_15 : decode cX8_worthUnder 15 = .ok (.iload_n 1, 1) := by decide +kernel
theorem dX8_worthUnder_16 : decode cX8_worthUnder 16 = .ok (.putfield 160, 3) := by decide +kernel
theorem dX8_worthUnder_19 : decode cX8_worthUnder 19 = .ok (.aload_n 0, 1) := by decide +kernel
theorem dX8_worthUnder_20 : decode cX8_worthUnder 20 = .ok (.getfield 79, 3) := by decide +kernel
theorem dX8_worthUnder_23 : decode cX8_worthUnder 23 = .ok (.invokevirtual 290, 3) := by decide +kernel
theorem dX8_worthUnder_26 : decode cX8_worthUnder 26 = .ok (.aload_n 0, 1) := by decide +kernel
theorem dX8_worthUnder_27 : decode cX8_worthUnder 27 = .ok (.getfield 82, 3) := by decide +kernel
theorem dX8_worthUnder_30 : decode cX8_worthUnder 30 = .ok (.invokevirtual 222, 3) := by decide +kernel
theorem dX8_worthUnder_33 : decode cX8_worthUnder 33 = .ok (.aload_n 0, 1) := by decide +kernel
theorem dX8_worthUnder_34 : decode cX8_worthUnder 34 = .ok (.getfield 82, 3) := by decide +kernel
theorem dX8_worthUnder_37 : decode cX8_worthUnder 37 = .ok (.getfield 185, 3) := by decide +kernel
theorem dX8_worthUnder_40 : decode cX8_worthUnder 40 = .ok (.invokestatic 237, 3) := by decide +kernel
theorem dX8_worthUnder_43 : decode cX8_worthUnder 43 = .ok (.ireturn, 1) := by decide +kernel
theorem dX8_share_0 : decode cX8_share 0 = .ok (.aload_n 0, 1) := by decide +kernel
theorem dX8_share_1 : decode cX8_share 1 = .ok (.getfield 32, 3) := by decide +kernel
theorem dX8_share_4 : decode cX8_share 4 = .ok (.iload_n 1, 1) := by decide +kernel
theorem dX8_share_5 : decode cX8_share 5 = .ok (.invokevirtual 135, 3) := by decide +kernel
theorem dX8_share_8 : decode cX8_share 8 = .ok (.ifCond .eq 12, 3) := by decide +kernel
theorem dX8_share_11 : decode cX8_share 11 = .ok (.iload_n 2, 1) := by decide +kernel
theorem dX8_share_12 : decode cX8_share 12 = .ok (.ifCond .eq 12, 3) := by decide +kernel
theorem dX8_share_15 : decode cX8_share 15 = .ok (.iload_n 2, 1) := by decide +kernel
theorem dX8_share_16 : decode cX8_share 16 = .ok (.iconst 1, 1) := by decide +kernel
theorem dX8_share_17 : decode cX8_share 17 = .ok (.if_icmp .eq 7, 3) := by decide +kernel
theorem dX8_share_20 : decode cX8_share 20 = .ok (.ldc2_w 247, 3) := by decide +kernel
theorem dX8_share_23 : decode cX8_share 23 = .ok (.lreturn, 1) := by decide +kernel
theorem dX8_share_24 : decode cX8_share 24 = .ok (.aload_n 0, 1) := by decide +kernel
theorem dX8_share_25 : decode cX8_share 25 = .ok (.invokevirtual 216, 3) := by decide +kernel
theorem dX8_share_28 : decode cX8_share 28 = .ok (.aload_n 0, 1) := by decide +kernel
theorem dX8_share_29 : decode cX8_share 29 = .ok (.getfield 72, 3) := by decide +kernel
theorem dX8_share_32 : decode cX8_share 32 = .ok (.invokevirtual 222, 3) := by decide +kernel
theorem dX8_share_35 : decode cX8_share 35 = .ok (.aload_n 0, 1) := by decide +kernel
theorem dX8_share_36 : decode cX8_share 36 = .ok (.getfield 72, 3) := by decide +kernel
theorem dX8_share_39 : decode cX8_share 39 = .ok (.iload_n 1, 1) := by decide +kernel
theorem dX8_share_40 : decode cX8_share 40 = .ok (.invokevirtual 293, 3) := by decide +kernel
theorem dX8_share_43 : decode cX8_share 43 = .ok (.istore_n 3, 1) := by decide +kernel
theorem dX8_share_44 : decode cX8_share 44 = .ok (.aload_n 0, 1) := by decide +kernel
theorem dX8_share_45 : decode cX8_share 45 = .ok (.getfield 32, 3) := by decide +kernel
theorem dX8_share_48 : decode cX8_share 48 = .ok (.getfield 213, 3) := by decide +kernel
theorem dX8_share_51 : decode cX8_share 51 = .ok (.istore 4, 2) := by decide +kernel
theorem dX8_share_53 : decode cX8_share 53 = .ok (.iload_n 3, 1) := by decide +kernel
theorem dX8_share_54 : decode cX8_share 54 = .ok (.iload 4, 2) := by decide +kernel
theorem dX8_share_56 : decode cX8_share 56 = .ok (.invokestatic 296, 3) := by decide +kernel
theorem dX8_share_59 : decode cX8_share 59 = .ok (.istore 5, 2) := by decide +kernel
theorem dX8_share_61 : decode cX8_share 61 = .ok (.iload 5, 2) := by decide +kernel
theorem dX8_share_63 : decode cX8_share 63 = .ok (.ifCond .gt 7, 3) := by decide +kernel
theorem dX8_share_66 : decode cX8_share 66 = .ok (.ldc2_w 247, 3) := by decide +kernel
theorem dX8_share_69 : decode cX8_share 69 = .ok (.lreturn, 1) := by decide +kernel
theorem dX8_share_70 : decode cX8_share 70 = .ok (.iload_n 2, 1) := by decide +kernel
theorem dX8_share_71 : decode cX8_share 71 = .ok (.ifCond .ne 11, 3) := by decide +kernel
theorem dX8_share_74 : decode cX8_share 74 = .ok (.iload_n 3, 1) := by decide +kernel
theorem dX8_share_75 : decode cX8_share 75 = .ok (.iload 5, 2) := by decide +kernel
theorem dX8_share_77 : decode cX8_share 77 = .ok (.idiv, 1) := by decide +kernel
theorem dX8_share_78 : decode cX8_share 78 = .ok (.i2l, 1) := by decide +kernel
theorem dX8_share_79 : decode cX8_share 79 = .ok (.goto 9, 3) := by decide +kernel
theorem dX8_share_82 : decode cX8_share 82 = .ok (.iload 4, 2) := by decide +kernel
theorem dX8_share_84 : decode cX8_share 84 = .ok (.iload 5, 2) := by decide +kernel
theorem dX8_share_86 : decode cX8_share 86 = .ok (.idiv, 1) := by decide +kernel
theorem dX8_share_87 : decode cX8_share 87 = .ok (.i2l, 1) := by decide +kernel
theorem dX8_share_88 : decode cX8_share 88 = .ok (.lreturn, 1) := by decide +kernel
theorem dX8_commonPart_0 : decode cX8_commonPart 0 = .ok (.iload_n 0, 1) := by decide +kernel
theorem dX8_commonPart_1 : decode cX8_commonPart 1 = .ok (.istore_n 2, 1) := by decide +kernel
theorem dX8_commonPart_2 : decode cX8_commonPart 2 = .ok (.iload_n 1, 1) := by decide +kernel
theorem dX8_commonPart_3 : decode cX8_commonPart 3 = .ok (.istore_n 3, 1) := by decide +kernel
theorem dX8_commonPart_4 : decode cX8_commonPart 4 = .ok (.iconst 0, 1) := by decide +kernel
theorem dX8_commonPart_5 : decode cX8_commonPart 5 = .ok (.istore 4, 2) := by decide +kernel
theorem dX8_commonPart_7 : decode cX8_commonPart 7 = .ok (.iload 4, 2) := by decide +kernel
theorem dX8_commonPart_9 : decode cX8_commonPart 9 = .ok (.bipush 99, 2) := by decide +kernel
theorem dX8_commonPart_11 : decode cX8_commonPart 11 = .ok (.if_icmp .ge 23, 3) := by decide +kernel
theorem dX8_commonPart_14 : decode cX8_commonPart 14 = .ok (.iload_n 3, 1) := by decide +kernel
theorem dX8_commonPart_15 : decode cX8_commonPart 15 = .ok (.ifCond .le 19, 3) := by decide +kernel
theorem dX8_commonPart_18 : decode cX8_commonPart 18 = .ok (.iload_n 2, 1) := by decide +kernel
theorem dX8_commonPart_19 : decode cX8_commonPart 19 = .ok (.iload_n 3, 1) := by decide +kernel
theorem dX8_commonPart_20 : decode cX8_commonPart 20 = .ok (.irem, 1) := by decide +kernel
theorem dX8_commonPart_21 : decode cX8_commonPart 21 = .ok (.istore 5, 2) := by decide +kernel
theorem dX8_commonPart_23 : decode cX8_commonPart 23 = .ok (.iload_n 3, 1) := by decide +kernel
theorem dX8_commonPart_24 : decode cX8_commonPart 24 = .ok (.istore_n 2, 1) := by decide +kernel
theorem dX8_commonPart_25 : decode cX8_commonPart 25 = .ok (.iload 5, 2) := by decide +kernel
theorem dX8_commonPart_27 : decode cX8_commonPart 27 = .ok (.istore_n 3, 1) := by decide +kernel
theorem dX8_commonPart_28 : decode cX8_commonPart 28 = .ok (.iinc 4 1, 3) := by decide +kernel
theorem dX8_commonPart_31 : decode cX8_commonPart 31 = .ok (.goto (-24), 3) := by decide +kernel
theorem dX8_commonPart_34 : decode cX8_commonPart 34 = .ok (.iload_n 2, 1) := by decide +kernel
theorem dX8_commonPart_35 : decode cX8_commonPart 35 = .ok (.ireturn, 1) := by decide +kernel
theorem dX8_sheet_0 : decode cX8_sheet 0 = .ok (.iload_n 1, 1) := by decide +kernel
theorem dX8_sheet_1 : decode cX8_sheet 1 = .ok (.invokestatic 299, 3) := by decide +kernel
theorem dX8_sheet_4 : decode cX8_sheet 4 = .ok (.ifCond .ne 9, 3) := by decide +kernel
theorem dX8_sheet_7 : decode cX8_sheet 7 = .ok (.aload_n 0, 1) := by decide +kernel
theorem dX8_sheet_8 : decode cX8_sheet 8 = .ok (.iconst (-1), 1) := by decide +kernel
theorem dX8_sheet_9 : decode cX8_sheet 9 = .ok (.invokevirtual 109, 3) := by decide +kernel
theorem dX8_sheet_12 : decode cX8_sheet 12 = .ok (.ireturn, 1) := by decide +kernel
theorem dX8_sheet_13 : decode cX8_sheet 13 = .ok (.iload_n 2, 1) := by decide +kernel
theorem dX8_sheet_14 : decode cX8_sheet 14 = .ok (.invokestatic 302, 3) := by decide +kernel
theorem dX8_sheet_17 : decode cX8_sheet 17 = .ok (.ifCond .eq 9, 3) := by decide +kernel
theorem dX8_sheet_20 : decode cX8_sheet 20 = .ok (.iload_n 3, 1) := by decide +kernel
theorem dX8_sheet_21 : decode cX8_sheet 21 = .ok (.bipush 100, 2) := by decide +kernel
theorem dX8_sheet_23 : decode cX8_sheet 23 = .ok (.if_icmp .le 10, 3) := by decide +kernel
theorem dX8_sheet_26 : decode cX8_sheet 26 = .ok (.aload_n 0, 1) := by decide +kernel
theorem dX8_sheet_27 : decode cX8_sheet 27 = .ok (.bipush (-2), 2) := by decide +kernel
theorem dX8_sheet_29 : decode cX8_sheet 29 = .ok (.invokevirtual 109, 3) := by decide +kernel
theorem dX8_sheet_32 : decode cX8_sheet 32 = .ok (.ireturn, 1) := by decide +kernel
theorem dX8_sheet_33 : decode cX8_sheet 33 = .ok (.iload_n 3, 1) := by decide +kernel
theorem dX8_sheet_34 : decode cX8_sheet 34 = .ok (.ifCond .ge 10, 3) := by decide +kernel
theorem dX8_sheet_37 : decode cX8_sheet 37 = .ok (.aload_n 0, 1) := by decide +kernel
theorem dX8_sheet_38 : decode cX8_sheet 38 = .ok (.bipush (-14), 2) := by decide +kernel
theorem dX8_sheet_40 : decode cX8_sheet 40 = .ok (.invokevirtual 109, 3) := by decide +kernel
theorem dX8_sheet_43 : decode cX8_sheet 43 = .ok (.ireturn, 1) := by decide +kernel
theorem dX8_sheet_44 : decode cX8_sheet 44 = .ok (.aload_n 0, 1) := by decide +kernel
theorem dX8_sheet_45 : decode cX8_sheet 45 = .ok (.getfield 25, 3) := by decide +kernel
theorem dX8_sheet_48 : decode cX8_sheet 48 = .ok (.iload_n 1, 1) := by decide +kernel
theorem dX8_sheet_49 : decode cX8_sheet 49 = .ok (.iload_n 2, 1) := by decide +kernel
theorem dX8_sheet_50 : decode cX8_sheet 50 = .ok (.iload_n 3, 1) := by decide +kernel
theorem dX8_sheet_51 : decode cX8_sheet 51 = .ok (.invokevirtual 305, 3) := by decide +kernel
theorem dX8_sheet_54 : decode cX8_sheet 54 = .ok (.aload_n 0, 1) := by decide +kernel
theorem dX8_sheet_55 : decode cX8_sheet 55 = .ok (.iconst 1, 1) := by decide +kernel
theorem dX8_sheet_56 : decode cX8_sheet 56 = .ok (.invokevirtual 109, 3) := by decide +kernel
theorem dX8_sheet_59 : decode cX8_sheet 59 = .ok (.ireturn, 1) := by decide +kernel
theorem dX8_lose_0 : decode cX8_lose 0 = .ok (.iload_n 1, 1) := by decide +kernel
theorem dX8_lose_1 : decode cX8_lose 1 = .ok (.invokestatic 299, 3) := by decide +kernel
theorem dX8_lose_4 : decode cX8_lose 4 = .ok (.ifCond .ne 5, 3) := by decide +kernel
theorem dX8_lose_7 : decode cX8_lose 7 = .ok (.iconst (-1), 1) := by decide +kernel
theorem dX8_lose_8 : decode cX8_lose 8 = .ok (.ireturn, 1) := by decide +kernel
theorem dX8_lose_9 : decode cX8_lose 9 = .ok (.aload_n 0, 1) := by decide +kernel
theorem dX8_lose_10 : decode cX8_lose 10 = .ok (.getfield 25, 3) := by decide +kernel
theorem dX8_lose_13 : decode cX8_lose 13 = .ok (.iload_n 1, 1) := by decide +kernel
theorem dX8_lose_14 : decode cX8_lose 14 = .ok (.invokevirtual 309, 3) := by decide +kernel
theorem dX8_lose_17 : decode cX8_lose 17 = .ok (.ifCond .eq 7, 3) := by decide +kernel
theorem dX8_lose_20 : decode cX8_lose 20 = .ok (.iconst 1, 1) := by decide +kernel
theorem dX8_lose_21 : decode cX8_lose 21 = .ok (.goto 4, 3) := by decide +kernel
theorem dX8_lose_24 : decode cX8_lose 24 = .ok (.iconst 0, 1) := by decide +kernel
theorem dX8_lose_25 : decode cX8_lose 25 = .ok (.ireturn, 1) := by decide +kernel
theorem dX8_put_0 : decode cX8_put 0 = .ok (.iload_n 1, 1) := by decide +kernel
theorem dX8_put_1 : decode cX8_put 1 = .ok (.invokestatic 299, 3) := by decide +kernel
theorem dX8_put_4 : decode cX8_put 4 = .ok (.ifCond .ne 9, 3) := by decide +kernel
theorem dX8_put_7 : decode cX8_put 7 = .ok (.aload_n 0, 1) := by decide +kernel
theorem dX8_put_8 : decode cX8_put 8 = .ok (.iconst (-1), 1) := by decide +kernel
theorem dX8_put_9 : decode cX8_put 9 = .ok (.invokevirtual 109, 3) := by decide +kernel
theorem dX8_put_12 : decode cX8_put 12 = .ok (.ireturn, 1) := by decide +kernel
theorem dX8_put_13 : decode cX8_put 13 = .ok (.aload_n 0, 1) := by decide +kernel
theorem dX8_put_14 : decode cX8_put 14 = .ok (.getfield 25, 3) := by decide +kernel
theorem dX8_put_17 : decode cX8_put 17 = .ok (.iload_n 1, 1) := by decide +kernel
theorem dX8_put_18 : decode cX8_put 18 = .ok (.invokevirtual 312, 3) := by decide +kernel
theorem dX8_put_21 : decode cX8_put 21 = .ok (.ifCond .eq 10, 3) := by decide +kernel
theorem dX8_put_24 : decode cX8_put 24 = .ok (.aload_n 0, 1) := by decide +kernel
theorem dX8_put_25 : decode cX8_put 25 = .ok (.bipush (-11), 2) := by decide +kernel
theorem dX8_put_27 : decode cX8_put 27 = .ok (.invokevirtual 109, 3) := by decide +kernel
theorem dX8_put_30 : decode cX8_put 30 = .ok (.ireturn, 1) := by decide +kernel
theorem dX8_put_31 : decode cX8_put 31 = .ok (.iload_n 2, 1) := by decide +kernel
theorem dX8_put_32 : decode cX8_put 32 = .ok (.ifCond .lt 15, 3) := by decide +kernel
theorem dX8_put_35 : decode cX8_put 35 = .ok (.iload_n 2, 1) := by decide +kernel
theorem dX8_put_36 : decode cX8_put 36 = .ok (.aload_n 0, 1) := by decide +kernel
theorem dX8_put_37 : decode cX8_put 37 = .ok (.getfield 25, 3) := by decide +kernel
theorem dX8_put_40 : decode cX8_put 40 = .ok (.iload_n 1, 1) := by decide +kernel
theorem dX8_put_41 : decode cX8_put 41 = .ok (.invokevirtual 315, 3) := by decide +kernel
theorem dX8_put_44 : decode cX8_put 44 = .ok (.if_icmp .lt 10, 3) := by decide +kernel
theorem dX8_put_47 : decode cX8_put 47 = .ok (.aload_n 0, 1) := by decide +kernel
theorem dX8_put_48 : decode cX8_put 48 = .ok (.bipush (-13), 2) := by decide +kernel
theorem dX8_put_50 : decode cX8_put 50 = .ok (.invokevirtual 109, 3) := by decide +kernel
theorem dX8_put_53 : decode cX8_put 53 = .ok (.ireturn, 1) := by decide +kernel
theorem dX8_put_54 : decode cX8_put 54 = .ok (.aload_n 0, 1) := by decide +kernel
theorem dX8_put_55 : decode cX8_put 55 = .ok (.getfield 25, 3) := by decide +kernel
theorem dX8_put_58 : decode cX8_put 58 = .ok (.iload_n 1, 1) := by decide +kernel
theorem dX8_put_59 : decode cX8_put 59 = .ok (.iload_n 2, 1) := by decide +kernel
theorem dX8_put_60 : decode cX8_put 60 = .ok (.iload_n 3, 1) := by decide +kernel
theorem dX8_put_61 : decode cX8_put 61 = .ok (.invokevirtual 318, 3) := by decide +kernel
theorem dX8_put_64 : decode cX8_put 64 = .ok (.aload_n 0, 1) := by decide +kernel
theorem dX8_put_65 : decode cX8_put 65 = .ok (.iconst 1, 1) := by decide +kernel
theorem dX8_put_66 : decode cX8_put 66 = .ok (.invokevirtual 109, 3) := by decide +kernel
theorem dX8_put_69 : decode cX8_put 69 = .ok (.ireturn, 1) := by decide +kernel
theorem dX8_cell_0 : decode cX8_cell 0 = .ok (.aload_n 0, 1) := by decide +kernel
theorem dX8_cell_1 : decode cX8_cell 1 = .ok (.getfield 25, 3) := by decide +kernel
theorem dX8_cell_4 : decode cX8_cell 4 = .ok (.iload_n 1, 1) := by decide +kernel
theorem dX8_cell_5 : decode cX8_cell 5 = .ok (.iload_n 3, 1) := by decide +kernel
theorem dX8_cell_6 : decode cX8_cell 6 = .ok (.invokevirtual 321, 3) := by decide +kernel
theorem dX8_cell_9 : decode cX8_cell 9 = .ok (.istore 4, 2) := by decide +kernel
theorem dX8_cell_11 : decode cX8_cell 11 = .ok (.iload 4, 2) := by decide +kernel
theorem dX8_cell_13 : decode cX8_cell 13 = .ok (.ifCond .ne 23, 3) := by decide +kernel
theorem dX8_cell_16 : decode cX8_cell 16 = .ok (.iload_n 2, 1) := by decide +kernel
theorem dX8_cell_17 : decode cX8_cell 17 = .ok (.ifCond .lt 15, 3) := by decide +kernel
theorem dX8_cell_20 : decode cX8_cell 20 = .ok (.iload_n 2, 1) := by decide +kernel
theorem dX8_cell_21 : decode cX8_cell 21 = .ok (.aload_n 0, 1) := by decide +kernel
theorem dX8_cell_22 : decode cX8_cell 22 = .ok (.getfield 25, 3) := by decide +kernel
theorem dX8_cell_25 : decode cX8_cell 25 = .ok (.iload_n 1, 1) := by decide +kernel
theorem dX8_cell_26 : decode cX8_cell 26 = .ok (.invokevirtual 315, 3) := by decide +kernel
theorem dX8_cell_29 : decode cX8_cell 29 = .ok (.if_icmp .lt 7, 3) := by decide +kernel
theorem dX8_cell_32 : decode cX8_cell 32 = .ok (.bipush (-13), 2) := by decide +kernel
theorem dX8_cell_34 : decode cX8_cell 34 = .ok (.istore 4, 2) := by decide +kernel
theorem dX8_cell_36 : decode cX8_cell 36 = .ok (.aload_n 0, 1) := by decide +kernel
theorem dX8_cell_37 : decode cX8_cell 37 = .ok (.iload 4, 2) := by decide +kernel
theorem dX8_cell_39 : decode cX8_cell 39 = .ok (.invokevirtual 109, 3) := by decide +kernel
theorem dX8_cell_42 : decode cX8_cell 42 = .ok (.ifCond .ne 16, 3) := by decide +kernel
theorem dX8_cell_45 : decode cX8_cell 45 = .ok (.aload_n 0, 1) := by decide +kernel
theorem dX8_cell_46 : decode cX8_cell 46 = .ok (.getfield 25, 3) := by decide +kernel
theorem dX8_cell_49 : decode cX8_cell 49 = .ok (.iload_n 1, 1) := by decide +kernel
theorem dX8_cell_50 : decode cX8_cell 50 = .ok (.iload_n 2, 1) := by decide +kernel
theorem dX8_cell_51 : decode cX8_cell 51 = .ok (.invokevirtual 200, 3) := by decide +kernel
theorem dX8_cell_54 : decode cX8_cell 54 = .ok (.i2l, 1) := by decide +kernel
theorem dX8_cell_55 : decode cX8_cell 55 = .ok (.goto 6, 3) := by decide +kernel
theorem dX8_cell_58 : decode cX8_cell 58 = .ok (.ldc2_w 247, 3) := by decide +kernel
theorem dX8_cell_61 : decode cX8_cell 61 = .ok (.lreturn, 1) := by decide +kernel
theorem dX8_copy_0 : decode cX8_copy 0 = .ok (.iload_n 1, 1) := by decide +kernel
theorem dX8_copy_1 : decode cX8_copy 1 = .ok (.invokestatic 299, 3) := by decide +kernel
theorem dX8_copy_4 : decode cX8_copy 4 = .ok (.ifCond .eq 10, 3) := by decide +kernel
theorem dX8_copy_7 : decode cX8_copy 7 = .ok (.iload_n 3, 1) := by decide +kernel
theorem dX8_copy_8 : decode cX8_copy 8 = .ok (.invokestatic 299, 3) := by decide +kernel
theorem dX8_copy_11 : decode cX8_copy 11 = .ok (.ifCond .ne 9, 3) := by decide +kernel
theorem dX8_copy_14 : decode cX8_copy 14 = .ok (.aload_n 0, 1) := by decide +kernel
theorem dX8_copy_15 : decode cX8_copy 15 = .ok (.iconst (-1), 1) := by decide +kernel
theorem dX8_copy_16 : decode cX8_copy 16 = .ok (.invokevirtual 109, 3) := by decide +kernel
theorem dX8_copy_19 : decode cX8_copy 19 = .ok (.ireturn, 1) := by decide +kernel
theorem dX8_copy_20 : decode cX8_copy 20 = .ok (.aload_n 0, 1) := by decide +kernel
theorem dX8_copy_21 : decode cX8_copy 21 = .ok (.getfield 25, 3) := by decide +kernel
theorem dX8_copy_24 : decode cX8_copy 24 = .ok (.iload_n 1, 1) := by decide +kernel
theorem dX8_copy_25 : decode cX8_copy 25 = .ok (.invokevirtual 312, 3) := by decide +kernel
theorem dX8_copy_28 : decode cX8_copy 28 = .ok (.ifCond .ne 14, 3) := by decide +kernel
theorem dX8_copy_31 : decode cX8_copy 31 = .ok (.aload_n 0, 1) := by decide +kernel
theorem dX8_copy_32 : decode cX8_copy 32 = .ok (.getfield 25, 3) := by decide +kernel
theorem dX8_copy_35 : decode cX8_copy 35 = .ok (.iload_n 3, 1) := by decide +kernel
theorem dX8_copy_36 : decode cX8_copy 36 = .ok (.invokevirtual 312, 3) := by decide +kernel
theorem dX8_copy_39 : decode cX8_copy 39 = .ok (.ifCond .eq 10, 3) := by decide +kernel
theorem dX8_copy_42 : decode cX8_copy 42 = .ok (.aload_n 0, 1) := by decide +kernel
theorem dX8_copy_43 : decode cX8_copy 43 = .ok (.bipush (-11), 2) := by decide +kernel
theorem dX8_copy_45 : decode cX8_copy 45 = .ok (.invokevirtual 109, 3) := by decide +kernel
theorem dX8_copy_48 : decode cX8_copy 48 = .ok (.ireturn, 1) := by decide +kernel
theorem dX8_copy_49 : decode cX8_copy 49 = .ok (.aload_n 0, 1) := by decide +kernel
theorem dX8_copy_50 : decode cX8_copy 50 = .ok (.getfield 25, 3) := by decide +kernel
theorem dX8_copy_53 : decode cX8_copy 53 = .ok (.iload_n 1, 1) := by decide +kernel
theorem dX8_copy_54 : decode cX8_copy 54 = .ok (.invokevirtual 324, 3) := by decide +kernel
theorem dX8_copy_57 : decode cX8_copy 57 = .ok (.aload_n 0, 1) := by decide +kernel
theorem dX8_copy_58 : decode cX8_copy 58 = .ok (.getfield 25, 3) := by decide +kernel
theorem dX8_copy_61 : decode cX8_copy 61 = .ok (.iload_n 3, 1) := by decide +kernel
theorem dX8_copy_62 : decode cX8_copy 62 = .ok (.invokevirtual 324, 3) := by decide +kernel
theorem dX8_copy_65 : decode cX8_copy 65 = .ok (.if_icmp .eq 10, 3) := by decide +kernel
theorem dX8_copy_68 : decode cX8_copy 68 = .ok (.aload_n 0, 1) := by decide +kernel
theorem dX8_copy_69 : decode cX8_copy 69 = .ok (.bipush (-12), 2) := by decide +kernel
theorem dX8_copy_71 : decode cX8_copy 71 = .ok (.invokevirtual 109, 3) := by decide +kernel
theorem dX8_copy_74 : decode cX8_copy 74 = .ok (.ireturn, 1) := by decide +kernel
theorem dX8_copy_75 : decode cX8_copy 75 = .ok (.iload 5, 2) := by decide +kernel
theorem dX8_copy_77 : decode cX8_copy 77 = .ok (.ifCond .lt 32, 3) := by decide +kernel
theorem dX8_copy_80 : decode cX8_copy 80 = .ok (.aload_n 0, 1) := by decide +kernel
theorem dX8_copy_81 : decode cX8_copy 81 = .ok (.getfield 25, 3) := by decide +kernel
theorem dX8_copy_84 : decode cX8_copy 84 = .ok (.iload_n 1, 1) := by decide +kernel
theorem dX8_copy_85 : decode cX8_copy 85 = .ok (.iload_n 2, 1) := by decide +kernel
theorem dX8_copy_86 : decode cX8_copy 86 = .ok (.iload 5, 2) := by decide +kernel
theorem dX8_copy_88 : decode cX8_copy 88 = .ok (.invokevirtual 327, 3) := by decide +kernel
theorem dX8_copy_91 : decode cX8_copy 91 = .ok (.ifCond .eq 18, 3) := by decide +kernel
theorem dX8_copy_94 : decode cX8_copy 94 = .ok (.aload_n 0, 1) := by decide +kernel
theorem dX8_copy_95 : decode cX8_copy 95 = .ok (.getfield 25, 3) := by decide +kernel
theorem dX8_copy_98 : decode cX8_copy 98 = .ok (.iload_n 3, 1) := by decide +kernel
theorem dX8_copy_99 : decode cX8_copy 99 = .ok (.iload 4, 2) := by decide +kernel
theorem dX8_copy_101 : decode cX8_copy 101 = .ok (.iload 5, 2) := by decide +kernel
theorem dX8_copy_103 : decode cX8_copy 103 = .ok (.invokevirtual 327, 3) := by decide +kernel
theorem dX8_copy_106 : decode cX8_copy 106 = .ok (.ifCond .ne 10, 3) := by decide +kernel
theorem dX8_copy_109 : decode cX8_copy 109 = .ok (.aload_n 0, 1) := by decide +kernel
theorem dX8_copy_110 : decode cX8_copy 110 = .ok (.bipush (-13), 2) := by decide +kernel
theorem dX8_copy_112 : decode cX8_copy 112 = .ok (.invokevirtual 109, 3) := by decide +kernel
theorem dX8_copy_115 : decode cX8_copy 115 = .ok (.ireturn, 1) := by decide +kernel
theorem dX8_copy_116 : decode cX8_copy 116 = .ok (.aload_n 0, 1) := by decide +kernel
theorem dX8_copy_117 : decode cX8_copy 117 = .ok (.getfield 25, 3) := by decide +kernel
theorem dX8_copy_120 : decode cX8_copy 120 = .ok (.iload_n 1, 1) := by decide +kernel
theorem dX8_copy_121 : decode cX8_copy 121 = .ok (.iload_n 2, 1) := by decide +kernel
theorem dX8_copy_122 : decode cX8_copy 122 = .ok (.iload_n 3, 1) := by decide +kernel
theorem dX8_copy_123 : decode cX8_copy 123 = .ok (.iload 4, 2) := by decide +kernel
theorem dX8_copy_125 : decode cX8_copy 125 = .ok (.iload 5, 2) := by decide +kernel
theorem dX8_copy_127 : decode cX8_copy 127 = .ok (.invokevirtual 330, 3) := by decide +kernel
theorem dX8_copy_130 : decode cX8_copy 130 = .ok (.aload_n 0, 1) := by decide +kernel
theorem dX8_copy_131 : decode cX8_copy 131 = .ok (.iload 5, 2) := by decide +kernel
theorem dX8_copy_133 : decode cX8_copy 133 = .ok (.invokevirtual 109, 3) := by decide +kernel
theorem dX8_copy_136 : decode cX8_copy 136 = .ok (.ireturn, 1) := by decide +kernel
theorem dX8_tell_0 : decode cX8_tell 0 = .ok (.aload_n 0, 1) := by decide +kernel
theorem dX8_tell_1 : decode cX8_tell 1 = .ok (.getfield 32, 3) := by decide +kernel
theorem dX8_tell_4 : decode cX8_tell 4 = .ok (.iload_n 1, 1) := by decide +kernel
theorem dX8_tell_5 : decode cX8_tell 5 = .ok (.invokevirtual 135, 3) := by decide +kernel
theorem dX8_tell_8 : decode cX8_tell 8 = .ok (.ifCond .ne 5, 3) := by decide +kernel
theorem dX8_tell_11 : decode cX8_tell 11 = .ok (.iconst (-1), 1) := by decide +kernel
theorem dX8_tell_12 : decode cX8_tell 12 = .ok (.ireturn, 1) := by decide +kernel
theorem dX8_tell_13 : decode cX8_tell 13 = .ok (.aload_n 0, 1) := by decide +kernel
theorem dX8_tell_14 : decode cX8_tell 14 = .ok (.getfield 32, 3) := by decide +kernel
theorem dX8_tell_17 : decode cX8_tell 17 = .ok (.iload_n 1, 1) := by decide +kernel
theorem dX8_tell_18 : decode cX8_tell 18 = .ok (.invokevirtual 139, 3) := by decide +kernel
theorem dX8_tell_21 : decode cX8_tell 21 = .ok (.lookupswitch 39 #[(1, 33), (2, 27)], 27) := by decide +kernel
theorem dX8_tell_48 : decode cX8_tell 48 = .ok (.aload_n 0, 1) := by decide +kernel
theorem dX8_tell_49 : decode cX8_tell 49 = .ok (.iload_n 1, 1) := by decide +kernel
theorem dX8_tell_50 : decode cX8_tell 50 = .ok (.invokevirtual 334, 3) := by decide +kernel
theorem dX8_tell_53 : decode cX8_tell 53 = .ok (.ireturn, 1) := by decide +kernel
theorem dX8_tell_54 : decode cX8_tell 54 = .ok (.aload_n 0, 1) := by decide +kernel
theorem dX8_tell_55 : decode cX8_tell 55 = .ok (.iload_n 1, 1) := by decide +kernel
theorem dX8_tell_56 : decode cX8_tell 56 = .ok (.invokevirtual 337, 3) := by decide +kernel
theorem dX8_tell_59 : decode cX8_tell 59 = .ok (.ireturn, 1) := by decide +kernel
theorem dX8_tell_60 : decode cX8_tell 60 = .ok (.aload_n 0, 1) := by decide +kernel
theorem dX8_tell_61 : decode cX8_tell 61 = .ok (.iload_n 1, 1) := by decide +kernel
theorem dX8_tell_62 : decode cX8_tell 62 = .ok (.invokevirtual 340, 3) := by decide +kernel
theorem dX8_tell_65 : decode cX8_tell 65 = .ok (.ireturn, 1) := by decide +kernel
theorem dX8_tellPlain_0 : decode cX8_tellPlain 0 = .ok (.aload_n 0, 1) := by decide +kernel
theorem dX8_tellPlain_1 : decode cX8_tellPlain 1 = .ok (.iconst 1, 1) := by decide +kernel
theorem dX8_tellPlain_2 : decode cX8_tellPlain 2 = .ok (.invokevirtual 343, 3) := by decide +kernel
theorem dX8_tellPlain_5 : decode cX8_tellPlain 5 = .ok (.aload_n 0, 1) := by decide +kernel
theorem dX8_tellPlain_6 : decode cX8_tellPlain 6 = .ok (.getfield 32, 3) := by decide +kernel
theorem dX8_tellPlain_9 : decode cX8_tellPlain 9 = .ok (.iload_n 1, 1) := by decide +kernel
theorem dX8_tellPlain_10 : decode cX8_tellPlain 10 = .ok (.invokevirtual 142, 3) := by decide +kernel
theorem dX8_tellPlain_13 : decode cX8_tellPlain 13 = .ok (.ireturn, 1) := by decide +kernel
theorem dX8_tellThrifty_0 : decode cX8_tellThrifty 0 = .ok (.aload_n 0, 1) := by decide +kernel
theorem dX8_tellThrifty_1 : decode cX8_tellThrifty 1 = .ok (.iconst 2, 1) := by decide +kernel
theorem dX8_tellThrifty_2 : decode cX8_tellThrifty 2 = .ok (.invokevirtual 343, 3) := by decide +kernel
theorem dX8_tellThrifty_5 : decode cX8_tellThrifty 5 = .ok (.aload_n 0, 1) := by decide +kernel
theorem dX8_tellThrifty_6 : decode cX8_tellThrifty 6 = .ok (.iload_n 1, 1) := by decide +kernel
theorem dX8_tellThrifty_7 : decode cX8_tellThrifty 7 = .ok (.invokevirtual 340, 3) := by decide +kernel
theorem dX8_tellThrifty_10 : decode cX8_tellThrifty 10 = .ok (.bipush 100, 2) := by decide +kernel
theorem dX8_tellThrifty_12 : decode cX8_tellThrifty 12 = .ok (.iadd, 1) := by decide +kernel
theorem dX8_tellThrifty_13 : decode cX8_tellThrifty 13 = .ok (.ireturn, 1) := by decide +kernel
theorem dX8_tellOld_0 : decode cX8_tellOld 0 = .ok (.aload_n 0, 1) := by decide +kernel
theorem dX8_tellOld_1 : decode cX8_tellOld 1 = .ok (.iconst 3, 1) := by decide +kernel
theorem dX8_tellOld_2 : decode cX8_tellOld 2 = .ok (.invokevirtual 343, 3) := by decide +kernel
theorem dX8_tellOld_5 : decode cX8_tellOld 5 = .ok (.aload_n 0, 1) := by decide +kernel
theorem dX8_tellOld_6 : decode cX8_tellOld 6 = .ok (.iload_n 1, 1) := by decide +kernel
theorem dX8_tellOld_7 : decode cX8_tellOld 7 = .ok (.invokevirtual 337, 3) := by decide +kernel
theorem dX8_tellOld_10 : decode cX8_tellOld 10 = .ok (.istore_n 2, 1) := by decide +kernel
theorem dX8_tellOld_11 : decode cX8_tellOld 11 = .ok (.iload_n 2, 1) := by decide +kernel
theorem dX8_tellOld_12 : decode cX8_tellOld 12 = .ok (.aload_n 0, 1) := by decide +kernel
theorem dX8_tellOld_13 : decode cX8_tellOld 13 = .ok (.iload_n 1, 1) := by decide +kernel
theorem dX8_tellOld_14 : decode cX8_tellOld 14 = .ok (.invokevirtual 340, 3) := by decide +kernel
theorem dX8_tellOld_17 : decode cX8_tellOld 17 = .ok (.iadd, 1) := by decide +kernel
theorem dX8_tellOld_18 : decode cX8_tellOld 18 = .ok (.ireturn, 1) := by decide +kernel
theorem dX8_call_0 : decode cX8_call 0 = .ok (.aload_n 0, 1) := by decide +kernel
theorem dX8_call_1 : decode cX8_call 1 = .ok (.getfield 32, 3) := by decide +kernel
theorem dX8_call_4 : decode cX8_call 4 = .ok (.iload_n 1, 1) := by decide +kernel
theorem dX8_call_5 : decode cX8_call 5 = .ok (.invokevirtual 135, 3) := by decide +kernel
theorem dX8_call_8 : decode cX8_call 8 = .ok (.ifCond .ne 5, 3) := by decide +kernel
theorem dX8_call_11 : decode cX8_call 11 = .ok (.iconst (-1), 1) := by decide +kernel
theorem dX8_call_12 : decode cX8_call 12 = .ok (.ireturn, 1) := by decide +kernel
theorem dX8_call_13 : decode cX8_call 13 = .ok (.aload_n 0, 1) := by decide +kernel
theorem dX8_call_14 : decode cX8_call 14 = .ok (.getfield 32, 3) := by decide +kernel
theorem dX8_call_17 : decode cX8_call 17 = .ok (.iload_n 1, 1) := by decide +kernel
theorem dX8_call_18 : decode cX8_call 18 = .ok (.invokevirtual 139, 3) := by decide +kernel
theorem dX8_call_21 : decode cX8_call 21 = .ok (.iconst 2, 1) := by decide +kernel
theorem dX8_call_22 : decode cX8_call 22 = .ok (.if_icmp .ne 11, 3) := by decide +kernel
theorem dX8_call_25 : decode cX8_call 25 = .ok (.aload_n 0, 1) := by decide +kernel
theorem dX8_call_26 : decode cX8_call 26 = .ok (.iconst 5, 1) := by decide +kernel
theorem dX8_call_27 : decode cX8_call 27 = .ok (.invokevirtual 343, 3) := by decide +kernel
theorem dX8_call_30 : decode cX8_call 30 = .ok (.bipush 90, 2) := by decide +kernel
theorem dX8_call_32 : decode cX8_call 32 = .ok (.ireturn, 1) := by decide +kernel
theorem dX8_call_33 : decode cX8_call 33 = .ok (.aload_n 0, 1) := by decide +kernel
theorem dX8_call_34 : decode cX8_call 34 = .ok (.iconst 4, 1) := by decide +kernel
theorem dX8_call_35 : decode cX8_call 35 = .ok (.invokevirtual 343, 3) := by decide +kernel
theorem dX8_call_38 : decode cX8_call 38 = .ok (.iload_n 1, 1) := by decide +kernel
theorem dX8_call_39 : decode cX8_call 39 = .ok (.ireturn, 1) := by decide +kernel
theorem dX8_leaveTrace_0 : decode cX8_leaveTrace 0 = .ok (.aload_n 0, 1) := by decide +kernel
theorem dX8_leaveTrace_1 : decode cX8_leaveTrace 1 = .ok (.bipush 31, 2) := by decide +kernel
theorem dX8_leaveTrace_3 : decode cX8_leaveTrace 3 = .ok (.aload_n 0, 1) := by decide +kernel
theorem dX8_leaveTrace_4 : decode cX8_leaveTrace 4 = .ok (.getfield 15, 3) := by decide +kernel
theorem dX8_leaveTrace_7 : decode cX8_leaveTrace 7 = .ok (.imul, 1) := by decide +kernel
theorem dX8_leaveTrace_8 : decode cX8_leaveTrace 8 = .ok (.iload_n 1, 1) := by decide +kernel
theorem dX8_leaveTrace_9 : decode cX8_leaveTrace 9 = .ok (.iadd, 1) := by decide +kernel
theorem dX8_leaveTrace_10 : decode cX8_leaveTrace 10 = .ok (.putfield 15, 3) := by decide +kernel
theorem dX8_leaveTrace_13 : decode cX8_leaveTrace 13 = .ok (.return_, 1) := by decide +kernel
theorem dX8_as_0 : decode cX8_as 0 = .ok (.aload_n 0, 1) := by decide +kernel
theorem dX8_as_1 : decode cX8_as 1 = .ok (.getfield 32, 3) := by decide +kernel
theorem dX8_as_4 : decode cX8_as 4 = .ok (.iload_n 1, 1) := by decide +kernel
theorem dX8_as_5 : decode cX8_as 5 = .ok (.invokevirtual 135, 3) := by decide +kernel
theorem dX8_as_8 : decode cX8_as 8 = .ok (.ifCond .ne 9, 3) := by decide +kernel
theorem dX8_as_11 : decode cX8_as 11 = .ok (.aload_n 0, 1) := by decide +kernel
theorem dX8_as_12 : decode cX8_as 12 = .ok (.iconst (-1), 1) := by decide +kernel
theorem dX8_as_13 : decode cX8_as 13 = .ok (.invokevirtual 109, 3) := by decide +kernel
theorem dX8_as_16 : decode cX8_as 16 = .ok (.ireturn, 1) := by decide +kernel
theorem dX8_as_17 : decode cX8_as 17 = .ok (.iload_n 2, 1) := by decide +kernel
theorem dX8_as_18 : decode cX8_as 18 = .ok (.ifCond .lt 8, 3) := by decide +kernel
theorem dX8_as_21 : decode cX8_as 21 = .ok (.iload_n 2, 1) := by decide +kernel
theorem dX8_as_22 : decode cX8_as 22 = .ok (.iconst 3, 1) := by decide +kernel
theorem dX8_as_23 : decode cX8_as 23 = .ok (.if_icmp .lt 10, 3) := by decide +kernel
theorem dX8_as_26 : decode cX8_as 26 = .ok (.aload_n 0, 1) := by decide +kernel
theorem dX8_as_27 : decode cX8_as 27 = .ok (.bipush (-2), 2) := by decide +kernel
theorem dX8_as_29 : decode cX8_as 29 = .ok (.invokevirtual 109, 3) := by decide +kernel
theorem dX8_as_32 : decode cX8_as 32 = .ok (.ireturn, 1) := by decide +kernel
theorem dX8_as_33 : decode cX8_as 33 = .ok (.aload_n 0, 1) := by decide +kernel
theorem dX8_as_34 : decode cX8_as 34 = .ok (.iload_n 2, 1) := by decide +kernel
theorem dX8_as_35 : decode cX8_as 35 = .ok (.aload_n 0, 1) := by decide +kernel
theorem dX8_as_36 : decode cX8_as 36 = .ok (.getfield 32, 3) := by decide +kernel
theorem dX8_as_39 : decode cX8_as 39 = .ok (.iload_n 1, 1) := by decide +kernel
theorem dX8_as_40 : decode cX8_as 40 = .ok (.invokevirtual 139, 3) := by decide +kernel
theorem dX8_as_43 : decode cX8_as 43 = .ok (.if_icmp .gt 7, 3) := by decide +kernel
theorem dX8_as_46 : decode cX8_as 46 = .ok (.iconst 1, 1) := by decide +kernel
theorem dX8_as_47 : decode cX8_as 47 = .ok (.goto 5, 3) := by decide +kernel
theorem dX8_as_50 : decode cX8_as 50 = .ok (.bipush (-12), 2) := by decide +kernel
theorem dX8_as_52 : decode cX8_as 52 = .ok (.invokevirtual 109, 3) := by decide +kernel
theorem dX8_as_55 : decode cX8_as 55 = .ok (.ireturn, 1) := by decide +kernel
theorem dX8_trace_0 : decode cX8_trace 0 = .ok (.aload_n 0, 1) := by decide +kernel
theorem dX8_trace_1 : decode cX8_trace 1 = .ok (.getfield 15, 3) := by decide +kernel
theorem dX8_trace_4 : decode cX8_trace 4 = .ok (.ireturn, 1) := by decide +kernel
theorem dX8_fault_0 : decode cX8_fault 0 = .ok (.aload_n 0, 1) := by decide +kernel
theorem dX8_fault_1 : decode cX8_fault 1 = .ok (.getfield 19, 3) := by decide +kernel
theorem dX8_fault_4 : decode cX8_fault 4 = .ok (.ireturn, 1) := by decide +kernel
theorem dX8_many_0 : decode cX8_many 0 = .ok (.iload_n 1, 1) := by decide +kernel
theorem dX8_many_1 : decode cX8_many 1 = .ok (.tableswitch 87 0 5 #[39, 47, 55, 63, 71, 79], 39) := by decide +kernel
theorem dX8_many_40 : decode cX8_many 40 = .ok (.aload_n 0, 1) := by decide +kernel
theorem dX8_many_41 : decode cX8_many 41 = .ok (.getfield 32, 3) := by decide +kernel
theorem dX8_many_44 : decode cX8_many 44 = .ok (.getfield 132, 3) := by decide +kernel
theorem dX8_many_47 : decode cX8_many 47 = .ok (.ireturn, 1) := by decide +kernel
theorem dX8_many_48 : decode cX8_many 48 = .ok (.aload_n 0, 1) := by decide +kernel
theorem dX8_many_49 : decode cX8_many 49 = .ok (.getfield 32, 3) := by decide +kernel
theorem dX8_many_52 : decode cX8_many 52 = .ok (.getfield 213, 3) := by decide +kernel
theorem dX8_many_55 : decode cX8_many 55 = .ok (.ireturn, 1) := by decide +kernel
theorem dX8_many_56 : decode cX8_many 56 = .ok (.aload_n 0, 1) := by decide +kernel
theorem dX8_many_57 : decode cX8_many 57 = .ok (.getfield 54, 3) := by decide +kernel
theorem dX8_many_60 : decode cX8_many 60 = .ok (.getfield 346, 3) := by decide +kernel
theorem dX8_many_63 : decode cX8_many 63 = .ok (.ireturn, 1) := by decide +kernel
theorem dX8_many_64 : decode cX8_many 64 = .ok (.aload_n 0, 1) := by decide +kernel
theorem dX8_many_65 : decode cX8_many 65 = .ok (.getfield 54, 3) := by decide +kernel
theorem dX8_many_68 : decode cX8_many 68 = .ok (.getfield 160, 3) := by decide +kernel
theorem dX8_many_71 : decode cX8_many 71 = .ok (.ireturn, 1) := by decide +kernel
theorem dX8_many_72 : decode cX8_many 72 = .ok (.aload_n 0, 1) := by decide +kernel
theorem dX8_many_73 : decode cX8_many 73 = .ok (.getfield 54, 3) := by decide +kernel
theorem dX8_many_76 : decode cX8_many 76 = .ok (.invokevirtual 189, 3) := by decide +kernel
theorem dX8_many_79 : decode cX8_many 79 = .ok (.ireturn, 1) := by decide +kernel
theorem dX8_many_80 : decode cX8_many 80 = .ok (.aload_n 0, 1) := by decide +kernel
theorem dX8_many_81 : decode cX8_many 81 = .ok (.getfield 88, 3) := by decide +kernel
theorem dX8_many_84 : decode cX8_many 84 = .ok (.getfield 274, 3) := by decide +kernel
theorem dX8_many_87 : decode cX8_many 87 = .ok (.ireturn, 1) := by decide +kernel
theorem dX8_many_88 : decode cX8_many 88 = .ok (.bipush (-2), 2) := by decide +kernel
theorem dX8_many_90 : decode cX8_many 90 = .ok (.ireturn, 1) := by decide +kernel
theorem dX8_told_0 : decode cX8_told 0 = .ok (.iload_n 1, 1) := by decide +kernel
theorem dX8_told_1 : decode cX8_told 1 = .ok (.bipush (-11), 2) := by decide +kernel
theorem dX8_told_3 : decode cX8_told 3 = .ok (.if_icmp .gt 13, 3) := by decide +kernel
theorem dX8_told_6 : decode cX8_told 6 = .ok (.iload_n 1, 1) := by decide +kernel
theorem dX8_told_7 : decode cX8_told 7 = .ok (.bipush (-14), 2) := by decide +kernel
theorem dX8_told_9 : decode cX8_told 9 = .ok (.if_icmp .lt 7, 3) := by decide +kernel
theorem dX8_told_12 : decode cX8_told 12 = .ok (.iconst 1, 1) := by decide +kernel
theorem dX8_told_13 : decode cX8_told 13 = .ok (.goto 4, 3) := by decide +kernel
theorem dX8_told_16 : decode cX8_told 16 = .ok (.iconst 0, 1) := by decide +kernel
theorem dX8_told_17 : decode cX8_told 17 = .ok (.istore_n 2, 1) := by decide +kernel
theorem dX8_told_18 : decode cX8_told 18 = .ok (.aload_n 0, 1) := by decide +kernel
theorem dX8_told_19 : decode cX8_told 19 = .ok (.iload_n 2, 1) := by decide +kernel
theorem dX8_told_20 : decode cX8_told 20 = .ok (.ifCond .eq 10, 3) := by decide +kernel
theorem dX8_told_23 : decode cX8_told 23 = .ok (.bipush (-10), 2) := by decide +kernel
theorem dX8_told_25 : decode cX8_told 25 = .ok (.iload_n 1, 1) := by decide +kernel
theorem dX8_told_26 : decode cX8_told 26 = .ok (.isub, 1) := by decide +kernel
theorem dX8_told_27 : decode cX8_told 27 = .ok (.goto 4, 3) := by decide +kernel
theorem dX8_told_30 : decode cX8_told 30 = .ok (.iconst 0, 1) := by decide +kernel
theorem dX8_told_31 : decode cX8_told 31 = .ok (.putfield 19, 3) := by decide +kernel
theorem dX8_told_34 : decode cX8_told 34 = .ok (.iload_n 1, 1) := by decide +kernel
theorem dX8_told_35 : decode cX8_told 35 = .ok (.ireturn, 1) := by decide +kernel
theorem dX9_init_0 : decode cX9_init 0 = .ok (.aload_n 0, 1) := by decide +kernel
theorem dX9_init_1 : decode cX9_init 1 = .ok (.invokespecial 1, 3) := by decide +kernel
theorem dX9_init_4 : decode cX9_init 4 = .ok (.aload_n 0, 1) := by decide +kernel
theorem dX9_init_5 : decode cX9_init 5 = .ok (.iconst 5, 1) := by decide +kernel
theorem dX9_init_6 : decode cX9_init 6 = .ok (.newarray .int, 2) := by decide +kernel
theorem dX9_init_8 : decode cX9_init 8 = .ok (.putfield 7, 3) := by decide +kernel
theorem dX9_init_11 : decode cX9_init 11 = .ok (.aload_n 0, 1) := by decide +kernel
theorem dX9_init_12 : decode cX9_init 12 = .ok (.iconst 5, 1) := by decide +kernel
theorem dX9_init_13 : decode cX9_init 13 = .ok (.newarray .int, 2) := by decide +kernel
theorem dX9_init_15 : decode cX9_init 15 = .ok (.putfield 13, 3) := by decide +kernel
theorem dX9_init_18 : decode cX9_init 18 = .ok (.aload_n 0, 1) := by decide +kernel
theorem dX9_init_19 : decode cX9_init 19 = .ok (.bipush 15, 2) := by decide +kernel
theorem dX9_init_21 : decode cX9_init 21 = .ok (.newarray .int, 2) := by decide +kernel
theorem dX9_init_23 : decode cX9_init 23 = .ok (.putfield 16, 3) := by decide +kernel
theorem dX9_init_26 : decode cX9_init 26 = .ok (.aload_n 0, 1) := by decide +kernel
theorem dX9_init_27 : decode cX9_init 27 = .ok (.bipush 15, 2) := by decide +kernel
theorem dX9_init_29 : decode cX9_init 29 = .ok (.newarray .int, 2) := by decide +kernel
theorem dX9_init_31 : decode cX9_init 31 = .ok (.putfield 19, 3) := by decide +kernel
theorem dX9_init_34 : decode cX9_init 34 = .ok (.aload_n 0, 1) := by decide +kernel
theorem dX9_init_35 : decode cX9_init 35 = .ok (.bipush 15, 2) := by decide +kernel
theorem dX9_init_37 : decode cX9_init 37 = .ok (.newarray .int, 2) := by decide +kernel
theorem dX9_init_39 : decode cX9_init 39 = .ok (.putfield 22, 3) := by decide +kernel
theorem dX9_init_42 : decode cX9_init 42 = .ok (.aload_n 0, 1) := by decide +kernel
theorem dX9_init_43 : decode cX9_init 43 = .ok (.iconst 5, 1) := by decide +kernel
theorem dX9_init_44 : decode cX9_init 44 = .ok (.newarray .int, 2) := by decide +kernel
theorem dX9_init_46 : decode cX9_init 46 = .ok (.putfield 25, 3) := by decide +kernel
theorem dX9_init_49 : decode cX9_init 49 = .ok (.aload_n 0, 1) := by decide +kernel
theorem dX9_init_50 : decode cX9_init 50 = .ok (.iconst 5, 1) := by decide +kernel
theorem dX9_init_51 : decode cX9_init 51 = .ok (.newarray .int, 2) := by decide +kernel
theorem dX9_init_53 : decode cX9_init 53 = .ok (.putfield 28, 3) := by decide +kernel
theorem dX9_init_56 : decode cX9_init 56 = .ok (.aload_n 0, 1) := by decide +kernel
theorem dX9_init_57 : decode cX9_init 57 = .ok (.iconst 5, 1) := by decide +kernel
theorem dX9_init_58 : decode cX9_init 58 = .ok (.newarray .int, 2) := by decide +kernel
theorem dX9_init_60 : decode cX9_init 60 = .ok (.putfield 31, 3) := by decide +kernel
theorem dX9_init_63 : decode cX9_init 63 = .ok (.aload_n 0, 1) := by decide +kernel
theorem dX9_init_64 : decode cX9_init 64 = .ok (.bipush 15, 2) := by decide +kernel
theorem dX9_init_66 : decode cX9_init 66 = .ok (.newarray .int, 2) := by decide +kernel
theorem dX9_init_68 : decode cX9_init 68 = .ok (.putfield 34, 3) := by decide +kernel
theorem dX9_init_71 : decode cX9_init 71 = .ok (.aload_n 0, 1) := by decide +kernel
theorem dX9_init_72 : decode cX9_init 72 = .ok (.bipush 15, 2) := by decide +kernel
theorem dX9_init_74 : decode cX9_init 74 = .ok (.newarray .int, 2) := by decide +kernel
theorem dX9_init_76 : decode cX9_init 76 = .ok (.putfield 37, 3) := by decide +kernel
theorem dX9_init_79 : decode cX9_init 79 = .ok (.aload_n 0, 1) := by decide +kernel
theorem dX9_init_80 : decode cX9_init 80 = .ok (.bipush 15, 2) := by decide +kernel
theorem dX9_init_82 : decode cX9_init 82 = .ok (.newarray .int, 2) := by decide +kernel
theorem dX9_init_84 : decode cX9_init 84 = .ok (.putfield 40, 3) := by decide +kernel
theorem dX9_init_87 : decode cX9_init 87 = .ok (.aload_n 0, 1) := by decide +kernel
theorem dX9_init_88 : decode cX9_init 88 = .ok (.bipush 6, 2) := by decide +kernel
theorem dX9_init_90 : decode cX9_init 90 = .ok (.newarray .int, 2) := by decide +kernel
theorem dX9_init_92 : decode cX9_init 92 = .ok (.putfield 43, 3) := by decide +kernel
theorem dX9_init_95 : decode cX9_init 95 = .ok (.aload_n 0, 1) := by decide +kernel
theorem dX9_init_96 : decode cX9_init 96 = .ok (.bipush 7, 2) := by decide +kernel
theorem dX9_init_98 : decode cX9_init 98 = .ok (.newarray .int, 2) := by decide +kernel
theorem dX9_init_100 : decode cX9_init 100 = .ok (.putfield 46, 3) := by decide +kernel
theorem dX9_init_103 : decode cX9_init 103 = .ok (.aload_n 0, 1) := by decide +kernel
theorem dX9_init_104 : decode cX9_init 104 = .ok (.iconst 5, 1) := by decide +kernel
theorem dX9_init_105 : decode cX9_init 105 = .ok (.newarray .int, 2) := by decide +kernel
theorem dX9_init_107 : decode cX9_init 107 = .ok (.putfield 49, 3) := by decide +kernel
theorem dX9_init_110 : decode cX9_init 110 = .ok (.aload_n 0, 1) := by decide +kernel
theorem dX9_init_111 : decode cX9_init 111 = .ok (.sipush 600, 3) := by decide +kernel
theorem dX9_init_114 : decode cX9_init 114 = .ok (.newarray .int, 2) := by decide +kernel
theorem dX9_init_116 : decode cX9_init 116 = .ok (.putfield 52, 3) := by decide +kernel
theorem dX9_init_119 : decode cX9_init 119 = .ok (.aload_n 0, 1) := by decide +kernel
theorem dX9_init_120 : decode cX9_init 120 = .ok (.sipush 3500, 3) := by decide +kernel
theorem dX9_init_123 : decode cX9_init 123 = .ok (.newarray .int, 2) := by decide +kernel
theorem dX9_init_125 : decode cX9_init 125 = .ok (.putfield 55, 3) := by decide +kernel
theorem dX9_init_128 : decode cX9_init 128 = .ok (.aload_n 0, 1) := by decide +kernel
theorem dX9_init_129 : decode cX9_init 129 = .ok (.bipush 6, 2) := by decide +kernel
theorem dX9_init_131 : decode cX9_init 131 = .ok (.newarray .int, 2) := by decide +kernel
theorem dX9_init_133 : decode cX9_init 133 = .ok (.putfield 58, 3) := by decide +kernel
theorem dX9_init_136 : decode cX9_init 136 = .ok (.aload_n 0, 1) := by decide +kernel
theorem dX9_init_137 : decode cX9_init 137 = .ok (.iconst 5, 1) := by decide +kernel
theorem dX9_init_138 : decode cX9_init 138 = .ok (.newarray .int, 2) := by decide +kernel
theorem dX9_init_140 : decode cX9_init 140 = .ok (.putfield 61, 3) := by decide +kernel
theorem dX9_init_143 : decode cX9_init 143 = .ok (.aload_n 0, 1) := by decide +kernel
theorem dX9_init_144 : decode cX9_init 144 = .ok (.bipush 36, 2) := by decide +kernel
theorem dX9_init_146 : decode cX9_init 146 = .ok (.newarray .int, 2) := by decide +kernel
theorem dX9_init_148 : decode cX9_init 148 = .ok (.putfield 64, 3) := by decide +kernel
theorem dX9_init_151 : decode cX9_init 151 = .ok (.aload_n 0, 1) := by decide +kernel
theorem dX9_init_152 : decode cX9_init 152 = .ok (.bipush 6, 2) := by decide +kernel
theorem dX9_init_154 : decode cX9_init 154 = .ok (.newarray .int, 2) := by decide +kernel
theorem dX9_init_156 : decode cX9_init 156 = .ok (.putfield 67, 3) := by decide +kernel
theorem dX9_init_159 : decode cX9_init 159 = .ok (.aload_n 0, 1) := by decide +kernel
theorem dX9_init_160 : decode cX9_init 160 = .ok (.iconst 4, 1) := by decide +kernel
theorem dX9_init_161 : decode cX9_init 161 = .ok (.newarray .int, 2) := by decide +kernel
theorem dX9_init_163 : decode cX9_init 163 = .ok (.putfield 70, 3) := by decide +kernel
theorem dX9_init_166 : decode cX9_init 166 = .ok (.aload_n 0, 1) := by decide +kernel
theorem dX9_init_167 : decode cX9_init 167 = .ok (.iconst 4, 1) := by decide +kernel
theorem dX9_init_168 : decode cX9_init 168 = .ok (.newarray .int, 2) := by decide +kernel
theorem dX9_init_170 : decode cX9_init 170 = .ok (.putfield 73, 3) := by decide +kernel
theorem dX9_init_173 : decode cX9_init 173 = .ok (.aload_n 0, 1) := by decide +kernel
theorem dX9_init_174 : decode cX9_init 174 = .ok (.sipush 400, 3) := by decide +kernel
theorem dX9_init_177 : decode cX9_init 177 = .ok (.newarray .int, 2) := by decide +kernel
theorem dX9_init_179 : decode cX9_init 179 = .ok (.putfield 76, 3) := by decide +kernel
theorem dX9_init_182 : decode cX9_init 182 = .ok (.aload_n 0, 1) := by decide +kernel
theorem dX9_init_183 : decode cX9_init 183 = .ok (.bipush 100, 2) := by decide +kernel
theorem dX9_init_185 : decode cX9_init 185 = .ok (.newarray .int, 2) := by decide +kernel
theorem dX9_init_187 : decode cX9_init 187 = .ok (.putfield 79, 3) := by decide +kernel
theorem dX9_init_190 : decode cX9_init 190 = .ok (.iconst 0, 1) := by decide +kernel
theorem dX9_init_191 : decode cX9_init 191 = .ok (.istore_n 1, 1) := by decide +kernel
theorem dX9_init_192 : decode cX9_init 192 = .ok (.iload_n 1, 1) := by decide +kernel
theorem dX9_init_193 : decode cX9_init 193 = .ok (.iconst 4, 1) := by decide +kernel
theorem dX9_init_194 : decode cX9_init 194 = .ok (.if_icmp .ge 16, 3) := by decide +kernel
theorem dX9_init_197 : decode cX9_init 197 = .ok (.aload_n 0, 1) := by decide +kernel
theorem dX9_init_198 : decode cX9_init 198 = .ok (.getfield 70, 3) := by decide +kernel
theorem dX9_init_201 : decode cX9_init 201 = .ok (.iload_n 1, 1) := by decide +kernel
theorem dX9_init_202 : decode cX9_init 202 = .ok (.iconst (-1), 1) := by decide +kernel
theorem dX9_init_203 : decode cX9_init 203 = .ok (.iastore, 1) := by decide +kernel
