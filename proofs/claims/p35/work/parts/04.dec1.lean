theorem dX0_init_0 : decode cX0_init 0 = .ok (.aload_n 0, 1) := by decide +kernel
theorem dX0_init_1 : decode cX0_init 1 = .ok (.invokespecial 3, 3) := by decide +kernel
theorem dX0_init_4 : decode cX0_init 4 = .ok (.aload_n 0, 1) := by decide +kernel
theorem dX0_init_5 : decode cX0_init 5 = .ok (.iconst 5, 1) := by decide +kernel
theorem dX0_init_6 : decode cX0_init 6 = .ok (.newarray .int, 2) := by decide +kernel
theorem dX0_init_8 : decode cX0_init 8 = .ok (.putfield 9, 3) := by decide +kernel
theorem dX0_init_11 : decode cX0_init 11 = .ok (.aload_n 0, 1) := by decide +kernel
theorem dX0_init_12 : decode cX0_init 12 = .ok (.iconst 0, 1) := by decide +kernel
theorem dX0_init_13 : decode cX0_init 13 = .ok (.putfield 15, 3) := by decide +kernel
theorem dX0_init_16 : decode cX0_init 16 = .ok (.aload_n 0, 1) := by decide +kernel
theorem dX0_init_17 : decode cX0_init 17 = .ok (.iconst 0, 1) := by decide +kernel
theorem dX0_init_18 : decode cX0_init 18 = .ok (.putfield 19, 3) := by decide +kernel
theorem dX0_init_21 : decode cX0_init 21 = .ok (.aload_n 0, 1) := by decide +kernel
theorem dX0_init_22 : decode cX0_init 22 = .ok (.aload_n 1, 1) := by decide +kernel
theorem dX0_init_23 : decode cX0_init 23 = .ok (.putfield 22, 3) := by decide +kernel
theorem dX0_init_26 : decode cX0_init 26 = .ok (.return_, 1) := by decide +kernel
theorem dX0_beginAnew_0 : decode cX0_beginAnew 0 = .ok (.aload_n 0, 1) := by decide +kernel
theorem dX0_beginAnew_1 : decode cX0_beginAnew 1 = .ok (.iconst 0, 1) := by decide +kernel
theorem dX0_beginAnew_2 : decode cX0_beginAnew 2 = .ok (.putfield 15, 3) := by decide +kernel
theorem dX0_beginAnew_5 : decode cX0_beginAnew 5 = .ok (.aload_n 0, 1) := by decide +kernel
theorem dX0_beginAnew_6 : decode cX0_beginAnew 6 = .ok (.aload_n 0, 1) := by decide +kernel
theorem dX0_beginAnew_7 : decode cX0_beginAnew 7 = .ok (.getfield 22, 3) := by decide +kernel
theorem dX0_beginAnew_10 : decode cX0_beginAnew 10 = .ok (.getfield 26, 3) := by decide +kernel
theorem dX0_beginAnew_13 : decode cX0_beginAnew 13 = .ok (.putfield 19, 3) := by decide +kernel
theorem dX0_beginAnew_16 : decode cX0_beginAnew 16 = .ok (.aload_n 0, 1) := by decide +kernel
theorem dX0_beginAnew_17 : decode cX0_beginAnew 17 = .ok (.invokevirtual 29, 3) := by decide +kernel
theorem dX0_beginAnew_20 : decode cX0_beginAnew 20 = .ok (.return_, 1) := by decide +kernel
theorem dX0_takeFirstOrder_0 : decode cX0_takeFirstOrder 0 = .ok (.iconst 0, 1) := by decide +kernel
theorem dX0_takeFirstOrder_1 : decode cX0_takeFirstOrder 1 = .ok (.istore_n 1, 1) := by decide +kernel
theorem dX0_takeFirstOrder_2 : decode cX0_takeFirstOrder 2 = .ok (.iload_n 1, 1) := by decide +kernel
theorem dX0_takeFirstOrder_3 : decode cX0_takeFirstOrder 3 = .ok (.iconst 5, 1) := by decide +kernel
theorem dX0_takeFirstOrder_4 : decode cX0_takeFirstOrder 4 = .ok (.if_icmp .ge 18, 3) := by decide +kernel
theorem dX0_takeFirstOrder_7 : decode cX0_takeFirstOrder 7 = .ok (.aload_n 0, 1) := by decide +kernel
theorem dX0_takeFirstOrder_8 : decode cX0_takeFirstOrder 8 = .ok (.getfield 9, 3) := by decide +kernel
theorem dX0_takeFirstOrder_11 : decode cX0_takeFirstOrder 11 = .ok (.iload_n 1, 1) := by decide +kernel
theorem dX0_takeFirstOrder_12 : decode cX0_takeFirstOrder 12 = .ok (.iload_n 1, 1) := by decide +kernel
theorem dX0_takeFirstOrder_13 : decode cX0_takeFirstOrder 13 = .ok (.invokestatic 32, 3) := by decide +kernel
theorem dX0_takeFirstOrder_16 : decode cX0_takeFirstOrder 16 = .ok (.iinc 1 1, 3) := by decide +kernel
theorem dX0_takeFirstOrder_19 : decode cX0_takeFirstOrder 19 = .ok (.goto (-17), 3) := by decide +kernel
theorem dX0_takeFirstOrder_22 : decode cX0_takeFirstOrder 22 = .ok (.return_, 1) := by decide +kernel
theorem dX0_follow_0 : decode cX0_follow 0 = .ok (.aload_n 0, 1) := by decide +kernel
theorem dX0_follow_1 : decode cX0_follow 1 = .ok (.aload_n 1, 1) := by decide +kernel
theorem dX0_follow_2 : decode cX0_follow 2 = .ok (.getfield 15, 3) := by decide +kernel
theorem dX0_follow_5 : decode cX0_follow 5 = .ok (.putfield 15, 3) := by decide +kernel
theorem dX0_follow_8 : decode cX0_follow 8 = .ok (.aload_n 0, 1) := by decide +kernel
theorem dX0_follow_9 : decode cX0_follow 9 = .ok (.aload_n 1, 1) := by decide +kernel
theorem dX0_follow_10 : decode cX0_follow 10 = .ok (.getfield 19, 3) := by decide +kernel
theorem dX0_follow_13 : decode cX0_follow 13 = .ok (.putfield 19, 3) := by decide +kernel
theorem dX0_follow_16 : decode cX0_follow 16 = .ok (.iconst 0, 1) := by decide +kernel
theorem dX0_follow_17 : decode cX0_follow 17 = .ok (.istore_n 2, 1) := by decide +kernel
theorem dX0_follow_18 : decode cX0_follow 18 = .ok (.iload_n 2, 1) := by decide +kernel
theorem dX0_follow_19 : decode cX0_follow 19 = .ok (.iconst 5, 1) := by decide +kernel
theorem dX0_follow_20 : decode cX0_follow 20 = .ok (.if_icmp .ge 22, 3) := by decide +kernel
theorem dX0_follow_23 : decode cX0_follow 23 = .ok (.aload_n 0, 1) := by decide +kernel
theorem dX0_follow_24 : decode cX0_follow 24 = .ok (.getfield 9, 3) := by decide +kernel
theorem dX0_follow_27 : decode cX0_follow 27 = .ok (.iload_n 2, 1) := by decide +kernel
theorem dX0_follow_28 : decode cX0_follow 28 = .ok (.aload_n 1, 1) := by decide +kernel
theorem dX0_follow_29 : decode cX0_follow 29 = .ok (.iload_n 2, 1) := by decide +kernel
theorem dX0_follow_30 : decode cX0_follow 30 = .ok (.invokevirtual 36, 3) := by decide +kernel
theorem dX0_follow_33 : decode cX0_follow 33 = .ok (.invokestatic 32, 3) := by decide +kernel
theorem dX0_follow_36 : decode cX0_follow 36 = .ok (.iinc 2 1, 3) := by decide +kernel
theorem dX0_follow_39 : decode cX0_follow 39 = .ok (.goto (-21), 3) := by decide +kernel
theorem dX0_follow_42 : decode cX0_follow 42 = .ok (.return_, 1) := by decide +kernel
theorem dX0_turns_0 : decode cX0_turns 0 = .ok (.aload_n 0, 1) := by decide +kernel
theorem dX0_turns_1 : decode cX0_turns 1 = .ok (.getfield 15, 3) := by decide +kernel
theorem dX0_turns_4 : decode cX0_turns 4 = .ok (.iconst 3, 1) := by decide +kernel
theorem dX0_turns_5 : decode cX0_turns 5 = .ok (.if_icmp .ne 25, 3) := by decide +kernel
theorem dX0_turns_8 : decode cX0_turns 8 = .ok (.aload_n 0, 1) := by decide +kernel
theorem dX0_turns_9 : decode cX0_turns 9 = .ok (.getfield 22, 3) := by decide +kernel
theorem dX0_turns_12 : decode cX0_turns 12 = .ok (.getfield 40, 3) := by decide +kernel
theorem dX0_turns_15 : decode cX0_turns 15 = .ok (.ifCond .le 15, 3) := by decide +kernel
theorem dX0_turns_18 : decode cX0_turns 18 = .ok (.aload_n 0, 1) := by decide +kernel
theorem dX0_turns_19 : decode cX0_turns 19 = .ok (.getfield 22, 3) := by decide +kernel
theorem dX0_turns_22 : decode cX0_turns 22 = .ok (.getfield 40, 3) := by decide +kernel
theorem dX0_turns_25 : decode cX0_turns 25 = .ok (.iconst 1, 1) := by decide +kernel
theorem dX0_turns_26 : decode cX0_turns 26 = .ok (.iadd, 1) := by decide +kernel
theorem dX0_turns_27 : decode cX0_turns 27 = .ok (.goto 10, 3) := by decide +kernel
theorem dX0_turns_30 : decode cX0_turns 30 = .ok (.aload_n 0, 1) := by decide +kernel
theorem dX0_turns_31 : decode cX0_turns 31 = .ok (.getfield 22, 3) := by decide +kernel
theorem dX0_turns_34 : decode cX0_turns 34 = .ok (.getfield 40, 3) := by decide +kernel
theorem dX0_turns_37 : decode cX0_turns 37 = .ok (.ireturn, 1) := by decide +kernel
theorem dX0_hasTurn_0 : decode cX0_hasTurn 0 = .ok (.iload_n 1, 1) := by decide +kernel
theorem dX0_hasTurn_1 : decode cX0_hasTurn 1 = .ok (.ifCond .lt 15, 3) := by decide +kernel
theorem dX0_hasTurn_4 : decode cX0_hasTurn 4 = .ok (.iload_n 1, 1) := by decide +kernel
theorem dX0_hasTurn_5 : decode cX0_hasTurn 5 = .ok (.aload_n 0, 1) := by decide +kernel
theorem dX0_hasTurn_6 : decode cX0_hasTurn 6 = .ok (.invokevirtual 43, 3) := by decide +kernel
theorem dX0_hasTurn_9 : decode cX0_hasTurn 9 = .ok (.if_icmp .ge 7, 3) := by decide +kernel
theorem dX0_hasTurn_12 : decode cX0_hasTurn 12 = .ok (.iconst 1, 1) := by decide +kernel
theorem dX0_hasTurn_13 : decode cX0_hasTurn 13 = .ok (.goto 4, 3) := by decide +kernel
theorem dX0_hasTurn_16 : decode cX0_hasTurn 16 = .ok (.iconst 0, 1) := by decide +kernel
theorem dX0_hasTurn_17 : decode cX0_hasTurn 17 = .ok (.ireturn, 1) := by decide +kernel
theorem dX0_whoAt_0 : decode cX0_whoAt 0 = .ok (.aload_n 0, 1) := by decide +kernel
theorem dX0_whoAt_1 : decode cX0_whoAt 1 = .ok (.getfield 9, 3) := by decide +kernel
theorem dX0_whoAt_4 : decode cX0_whoAt 4 = .ok (.iload_n 1, 1) := by decide +kernel
theorem dX0_whoAt_5 : decode cX0_whoAt 5 = .ok (.invokestatic 47, 3) := by decide +kernel
theorem dX0_whoAt_8 : decode cX0_whoAt 8 = .ok (.ireturn, 1) := by decide +kernel
theorem dX0_whoIn_0 : decode cX0_whoIn 0 = .ok (.aload_n 0, 1) := by decide +kernel
theorem dX0_whoIn_1 : decode cX0_whoIn 1 = .ok (.getfield 9, 3) := by decide +kernel
theorem dX0_whoIn_4 : decode cX0_whoIn 4 = .ok (.iload_n 1, 1) := by decide +kernel
theorem dX0_whoIn_5 : decode cX0_whoIn 5 = .ok (.aload_n 0, 1) := by decide +kernel
theorem dX0_whoIn_6 : decode cX0_whoIn 6 = .ok (.getfield 22, 3) := by decide +kernel
theorem dX0_whoIn_9 : decode cX0_whoIn 9 = .ok (.getfield 40, 3) := by decide +kernel
theorem dX0_whoIn_12 : decode cX0_whoIn 12 = .ok (.if_icmp .ge 7, 3) := by decide +kernel
theorem dX0_whoIn_15 : decode cX0_whoIn 15 = .ok (.iload_n 1, 1) := by decide +kernel
theorem dX0_whoIn_16 : decode cX0_whoIn 16 = .ok (.goto 4, 3) := by decide +kernel
theorem dX0_whoIn_19 : decode cX0_whoIn 19 = .ok (.iconst 0, 1) := by decide +kernel
theorem dX0_whoIn_20 : decode cX0_whoIn 20 = .ok (.invokestatic 47, 3) := by decide +kernel
theorem dX0_whoIn_23 : decode cX0_whoIn 23 = .ok (.ireturn, 1) := by decide +kernel
theorem dX0_placeOf_0 : decode cX0_placeOf 0 = .ok (.iconst 0, 1) := by decide +kernel
theorem dX0_placeOf_1 : decode cX0_placeOf 1 = .ok (.istore_n 2, 1) := by decide +kernel
theorem dX0_placeOf_2 : decode cX0_placeOf 2 = .ok (.iload_n 2, 1) := by decide +kernel
theorem dX0_placeOf_3 : decode cX0_placeOf 3 = .ok (.aload_n 0, 1) := by decide +kernel
theorem dX0_placeOf_4 : decode cX0_placeOf 4 = .ok (.getfield 22, 3) := by decide +kernel
theorem dX0_placeOf_7 : decode cX0_placeOf 7 = .ok (.getfield 40, 3) := by decide +kernel
theorem dX0_placeOf_10 : decode cX0_placeOf 10 = .ok (.if_icmp .ge 25, 3) := by decide +kernel
theorem dX0_placeOf_13 : decode cX0_placeOf 13 = .ok (.iload_n 2, 1) := by decide +kernel
theorem dX0_placeOf_14 : decode cX0_placeOf 14 = .ok (.iconst 5, 1) := by decide +kernel
theorem dX0_placeOf_15 : decode cX0_placeOf 15 = .ok (.if_icmp .ge 20, 3) := by decide +kernel
theorem dX0_placeOf_18 : decode cX0_placeOf 18 = .ok (.aload_n 0, 1) := by decide +kernel
theorem dX0_placeOf_19 : decode cX0_placeOf 19 = .ok (.iload_n 2, 1) := by decide +kernel
theorem dX0_placeOf_20 : decode cX0_placeOf 20 = .ok (.invokevirtual 36, 3) := by decide +kernel
theorem dX0_placeOf_23 : decode cX0_placeOf 23 = .ok (.iload_n 1, 1) := by decide +kernel
theorem dX0_placeOf_24 : decode cX0_placeOf 24 = .ok (.if_icmp .ne 5, 3) := by decide +kernel
theorem dX0_placeOf_27 : decode cX0_placeOf 27 = .ok (.iload_n 2, 1) := by decide +kernel
theorem dX0_placeOf_28 : decode cX0_placeOf 28 = .ok (.ireturn, 1) := by decide +kernel
theorem dX0_placeOf_29 : decode cX0_placeOf 29 = .ok (.iinc 2 1, 3) := by decide +kernel
theorem dX0_placeOf_32 : decode cX0_placeOf 32 = .ok (.goto (-30), 3) := by decide +kernel
theorem dX0_placeOf_35 : decode cX0_placeOf 35 = .ok (.iconst (-1), 1) := by decide +kernel
theorem dX0_placeOf_36 : decode cX0_placeOf 36 = .ok (.ireturn, 1) := by decide +kernel
theorem dX0_exchange_0 : decode cX0_exchange 0 = .ok (.aload_n 0, 1) := by decide +kernel
theorem dX0_exchange_1 : decode cX0_exchange 1 = .ok (.iload_n 1, 1) := by decide +kernel
theorem dX0_exchange_2 : decode cX0_exchange 2 = .ok (.invokevirtual 36, 3) := by decide +kernel
theorem dX0_exchange_5 : decode cX0_exchange 5 = .ok (.istore_n 3, 1) := by decide +kernel
theorem dX0_exchange_6 : decode cX0_exchange 6 = .ok (.aload_n 0, 1) := by decide +kernel
theorem dX0_exchange_7 : decode cX0_exchange 7 = .ok (.getfield 9, 3) := by decide +kernel
theorem dX0_exchange_10 : decode cX0_exchange 10 = .ok (.iload_n 1, 1) := by decide +kernel
theorem dX0_exchange_11 : decode cX0_exchange 11 = .ok (.aload_n 0, 1) := by decide +kernel
theorem dX0_exchange_12 : decode cX0_exchange 12 = .ok (.iload_n 2, 1) := by decide +kernel
theorem dX0_exchange_13 : decode cX0_exchange 13 = .ok (.invokevirtual 36, 3) := by decide +kernel
theorem dX0_exchange_16 : decode cX0_exchange 16 = .ok (.invokestatic 32, 3) := by decide +kernel
theorem dX0_exchange_19 : decode cX0_exchange 19 = .ok (.aload_n 0, 1) := by decide +kernel
theorem dX0_exchange_20 : decode cX0_exchange 20 = .ok (.getfield 9, 3) := by decide +kernel
theorem dX0_exchange_23 : decode cX0_exchange 23 = .ok (.iload_n 2, 1) := by decide +kernel
theorem dX0_exchange_24 : decode cX0_exchange 24 = .ok (.iload_n 3, 1) := by decide +kernel
theorem dX0_exchange_25 : decode cX0_exchange 25 = .ok (.invokestatic 32, 3) := by decide +kernel
theorem dX0_exchange_28 : decode cX0_exchange 28 = .ok (.return_, 1) := by decide +kernel
theorem dX0_firstWater_0 : decode cX0_firstWater 0 = .ok (.aload_n 0, 1) := by decide +kernel
theorem dX0_firstWater_1 : decode cX0_firstWater 1 = .ok (.getfield 15, 3) := by decide +kernel
theorem dX0_firstWater_4 : decode cX0_firstWater 4 = .ok (.iconst 1, 1) := by decide +kernel
theorem dX0_firstWater_5 : decode cX0_firstWater 5 = .ok (.if_icmp .ne 31, 3) := by decide +kernel
theorem dX0_firstWater_8 : decode cX0_firstWater 8 = .ok (.aload_n 0, 1) := by decide +kernel
theorem dX0_firstWater_9 : decode cX0_firstWater 9 = .ok (.getfield 22, 3) := by decide +kernel
theorem dX0_firstWater_12 : decode cX0_firstWater 12 = .ok (.getfield 40, 3) := by decide +kernel
theorem dX0_firstWater_15 : decode cX0_firstWater 15 = .ok (.ifCond .le 21, 3) := by decide +kernel
theorem dX0_firstWater_18 : decode cX0_firstWater 18 = .ok (.aload_n 0, 1) := by decide +kernel
theorem dX0_firstWater_19 : decode cX0_firstWater 19 = .ok (.getfield 22, 3) := by decide +kernel
theorem dX0_firstWater_22 : decode cX0_firstWater 22 = .ok (.getfield 51, 3) := by decide +kernel
theorem dX0_firstWater_25 : decode cX0_firstWater 25 = .ok (.aload_n 0, 1) := by decide +kernel
theorem dX0_firstWater_26 : decode cX0_firstWater 26 = .ok (.getfield 22, 3) := by decide +kernel
theorem dX0_firstWater_29 : decode cX0_firstWater 29 = .ok (.getfield 40, 3) := by decide +kernel
theorem dX0_firstWater_32 : decode cX0_firstWater 32 = .ok (.idiv, 1) := by decide +kernel
theorem dX0_firstWater_33 : decode cX0_firstWater 33 = .ok (.goto 10, 3) := by decide +kernel
theorem dX0_firstWater_36 : decode cX0_firstWater 36 = .ok (.aload_n 0, 1) := by decide +kernel
theorem dX0_firstWater_37 : decode cX0_firstWater 37 = .ok (.getfield 22, 3) := by decide +kernel
theorem dX0_firstWater_40 : decode cX0_firstWater 40 = .ok (.getfield 51, 3) := by decide +kernel
theorem dX0_firstWater_43 : decode cX0_firstWater 43 = .ok (.ireturn, 1) := by decide +kernel
theorem dX0_waterBehind_0 : decode cX0_waterBehind 0 = .ok (.aload_n 0, 1) := by decide +kernel
theorem dX0_waterBehind_1 : decode cX0_waterBehind 1 = .ok (.getfield 15, 3) := by decide +kernel
theorem dX0_waterBehind_4 : decode cX0_waterBehind 4 = .ok (.iconst 1, 1) := by decide +kernel
theorem dX0_waterBehind_5 : decode cX0_waterBehind 5 = .ok (.if_icmp .ne 8, 3) := by decide +kernel
theorem dX0_waterBehind_8 : decode cX0_waterBehind 8 = .ok (.aload_n 0, 1) := by decide +kernel
theorem dX0_waterBehind_9 : decode cX0_waterBehind 9 = .ok (.invokevirtual 54, 3) := by decide +kernel
theorem dX0_waterBehind_12 : decode cX0_waterBehind 12 = .ok (.ireturn, 1) := by decide +kernel
theorem dX0_waterBehind_13 : decode cX0_waterBehind 13 = .ok (.iload_n 1, 1) := by decide +kernel
theorem dX0_waterBehind_14 : decode cX0_waterBehind 14 = .ok (.aload_n 0, 1) := by decide +kernel
theorem dX0_waterBehind_15 : decode cX0_waterBehind 15 = .ok (.getfield 19, 3) := by decide +kernel
theorem dX0_waterBehind_18 : decode cX0_waterBehind 18 = .ok (.if_icmp .le 12, 3) := by decide +kernel
theorem dX0_waterBehind_21 : decode cX0_waterBehind 21 = .ok (.iload_n 1, 1) := by decide +kernel
theorem dX0_waterBehind_22 : decode cX0_waterBehind 22 = .ok (.aload_n 0, 1) := by decide +kernel
theorem dX0_waterBehind_23 : decode cX0_waterBehind 23 = .ok (.getfield 19, 3) := by decide +kernel
theorem dX0_waterBehind_26 : decode cX0_waterBehind 26 = .ok (.isub, 1) := by decide +kernel
theorem dX0_waterBehind_27 : decode cX0_waterBehind 27 = .ok (.goto 4, 3) := by decide +kernel
theorem dX0_waterBehind_30 : decode cX0_waterBehind 30 = .ok (.iconst 0, 1) := by decide +kernel
theorem dX0_waterBehind_31 : decode cX0_waterBehind 31 = .ok (.istore_n 2, 1) := by decide +kernel
theorem dX0_waterBehind_32 : decode cX0_waterBehind 32 = .ok (.aload_n 0, 1) := by decide +kernel
theorem dX0_waterBehind_33 : decode cX0_waterBehind 33 = .ok (.getfield 15, 3) := by decide +kernel
theorem dX0_waterBehind_36 : decode cX0_waterBehind 36 = .ok (.iconst 2, 1) := by decide +kernel
theorem dX0_waterBehind_37 : decode cX0_waterBehind 37 = .ok (.if_icmp .ne 9, 3) := by decide +kernel
theorem dX0_waterBehind_40 : decode cX0_waterBehind 40 = .ok (.iload_n 2, 1) := by decide +kernel
theorem dX0_waterBehind_41 : decode cX0_waterBehind 41 = .ok (.iconst 2, 1) := by decide +kernel
theorem dX0_waterBehind_42 : decode cX0_waterBehind 42 = .ok (.idiv, 1) := by decide +kernel
theorem dX0_waterBehind_43 : decode cX0_waterBehind 43 = .ok (.goto 4, 3) := by decide +kernel
theorem dX0_waterBehind_46 : decode cX0_waterBehind 46 = .ok (.iload_n 2, 1) := by decide +kernel
theorem dX0_waterBehind_47 : decode cX0_waterBehind 47 = .ok (.ireturn, 1) := by decide +kernel
theorem dX0_takeNextOrder_0 : decode cX0_takeNextOrder 0 = .ok (.iconst (-1), 1) := by decide +kernel
theorem dX0_takeNextOrder_1 : decode cX0_takeNextOrder 1 = .ok (.istore_n 1, 1) := by decide +kernel
theorem dX0_takeNextOrder_2 : decode cX0_takeNextOrder 2 = .ok (.iconst 0, 1) := by decide +kernel
theorem dX0_takeNextOrder_3 : decode cX0_takeNextOrder 3 = .ok (.istore_n 2, 1) := by decide +kernel
theorem dX0_takeNextOrder_4 : decode cX0_takeNextOrder 4 = .ok (.iload_n 2, 1) := by decide +kernel
theorem dX0_takeNextOrder_5 : decode cX0_takeNextOrder 5 = .ok (.iconst 1, 1) := by decide +kernel
theorem dX0_takeNextOrder_6 : decode cX0_takeNextOrder 6 = .ok (.iadd, 1) := by decide +kernel
theorem dX0_takeNextOrder_7 : decode cX0_takeNextOrder 7 = .ok (.aload_n 0, 1) := by decide +kernel
theorem dX0_takeNextOrder_8 : decode cX0_takeNextOrder 8 = .ok (.getfield 22, 3) := by decide +kernel
theorem dX0_takeNextOrder_11 : decode cX0_takeNextOrder 11 = .ok (.getfield 40, 3) := by decide +kernel
theorem dX0_takeNextOrder_14 : decode cX0_takeNextOrder 14 = .ok (.if_icmp .ge 31, 3) := by decide +kernel
theorem dX0_takeNextOrder_17 : decode cX0_takeNextOrder 17 = .ok (.iload_n 2, 1) := by decide +kernel
theorem dX0_takeNextOrder_18 : decode cX0_takeNextOrder 18 = .ok (.iconst 5, 1) := by decide +kernel
theorem dX0_takeNextOrder_19 : decode cX0_takeNextOrder 19 = .ok (.if_icmp .ge 26, 3) := by decide +kernel
theorem dX0_takeNextOrder_22 : decode cX0_takeNextOrder 22 = .ok (.aload_n 0, 1) := by decide +kernel
theorem dX0_takeNextOrder_23 : decode cX0_takeNextOrder 23 = .ok (.iload_n 2, 1) := by decide +kernel
theorem dX0_takeNextOrder_24 : decode cX0_takeNextOrder 24 = .ok (.invokevirtual 36, 3) := by decide +kernel
theorem dX0_takeNextOrder_27 : decode cX0_takeNextOrder 27 = .ok (.aload_n 0, 1) := by decide +kernel
theorem dX0_takeNextOrder_28 : decode cX0_takeNextOrder 28 = .ok (.iload_n 2, 1) := by decide +kernel
theorem dX0_takeNextOrder_29 : decode cX0_takeNextOrder 29 = .ok (.iconst 1, 1) := by decide +kernel
theorem dX0_takeNextOrder_30 : decode cX0_takeNextOrder 30 = .ok (.iadd, 1) := by decide +kernel
theorem dX0_takeNextOrder_31 : decode cX0_takeNextOrder 31 = .ok (.invokevirtual 36, 3) := by decide +kernel
theorem dX0_takeNextOrder_34 : decode cX0_takeNextOrder 34 = .ok (.if_icmp .ge 5, 3) := by decide +kernel
theorem dX0_takeNextOrder_37 : decode cX0_takeNextOrder 37 = .ok (.iload_n 2, 1) := by decide +kernel
theorem dX0_takeNextOrder_38 : decode cX0_takeNextOrder 38 = .ok (.istore_n 1, 1) := by decide +kernel
theorem dX0_takeNextOrder_39 : decode cX0_takeNextOrder 39 = .ok (.iinc 2 1, 3) := by decide +kernel
theorem dX0_takeNextOrder_42 : decode cX0_takeNextOrder 42 = .ok (.goto (-38), 3) := by decide +kernel
theorem dX0_takeNextOrder_45 : decode cX0_takeNextOrder 45 = .ok (.iload_n 1, 1) := by decide +kernel
theorem dX0_takeNextOrder_46 : decode cX0_takeNextOrder 46 = .ok (.ifCond .ge 5, 3) := by decide +kernel
theorem dX0_takeNextOrder_49 : decode cX0_takeNextOrder 49 = .ok (.iconst 0, 1) := by decide +kernel
theorem dX0_takeNextOrder_50 : decode cX0_takeNextOrder 50 = .ok (.ireturn, 1) := by decide +kernel
theorem dX0_takeNextOrder_51 : decode cX0_takeNextOrder 51 = .ok (.iload_n 1, 1) := by decide +kernel
theorem dX0_takeNextOrder_52 : decode cX0_takeNextOrder 52 = .ok (.iconst 1, 1) := by decide +kernel
theorem dX0_takeNextOrder_53 : decode cX0_takeNextOrder 53 = .ok (.iadd, 1) := by decide +kernel
theorem dX0_takeNextOrder_54 : decode cX0_takeNextOrder 54 = .ok (.istore_n 2, 1) := by decide +kernel
theorem dX0_takeNextOrder_55 : decode cX0_takeNextOrder 55 = .ok (.iload_n 1, 1) := by decide +kernel
theorem dX0_takeNextOrder_56 : decode cX0_takeNextOrder 56 = .ok (.iconst 1, 1) := by decide +kernel
theorem dX0_takeNextOrder_57 : decode cX0_takeNextOrder 57 = .ok (.iadd, 1) := by decide +kernel
theorem dX0_takeNextOrder_58 : decode cX0_takeNextOrder 58 = .ok (.istore_n 3, 1) := by decide +kernel
theorem dX0_takeNextOrder_59 : decode cX0_takeNextOrder 59 = .ok (.iload_n 3, 1) := by decide +kernel
theorem dX0_takeNextOrder_60 : decode cX0_takeNextOrder 60 = .ok (.aload_n 0, 1) := by decide +kernel
theorem dX0_takeNextOrder_61 : decode cX0_takeNextOrder 61 = .ok (.getfield 22, 3) := by decide +kernel
theorem dX0_takeNextOrder_64 : decode cX0_takeNextOrder 64 = .ok (.getfield 40, 3) := by decide +kernel
theorem dX0_takeNextOrder_67 : decode cX0_takeNextOrder 67 = .ok (.if_icmp .ge 29, 3) := by decide +kernel
theorem dX0_takeNextOrder_70 : decode cX0_takeNextOrder 70 = .ok (.iload_n 3, 1) := by decide +kernel
theorem dX0_takeNextOrder_71 : decode cX0_takeNextOrder 71 = .ok (.iconst 5, 1) := by decide +kernel
theorem dX0_takeNextOrder_72 : decode cX0_takeNextOrder 72 = .ok (.if_icmp .ge 24, 3) := by decide +kernel
theorem dX0_takeNextOrder_75 : decode cX0_takeNextOrder 75 = .ok (.aload_n 0, 1) := by decide +kernel
theorem dX0_takeNextOrder_76 : decode cX0_takeNextOrder 76 = .ok (.iload_n 3, 1) := by decide +kernel
theorem dX0_takeNextOrder_77 : decode cX0_takeNextOrder 77 = .ok (.invokevirtual 36, 3) := by decide +kernel
theorem dX0_takeNextOrder_80 : decode cX0_takeNextOrder 80 = .ok (.aload_n 0, 1) := by decide +kernel
theorem dX0_takeNextOrder_81 : decode cX0_takeNextOrder 81 = .ok (.iload_n 1, 1) := by decide +kernel
theorem dX0_takeNextOrder_82 : decode cX0_takeNextOrder 82 = .ok (.invokevirtual 36, 3) := by decide +kernel
theorem dX0_takeNextOrder_85 : decode cX0_takeNextOrder 85 = .ok (.if_icmp .le 5, 3) := by decide +kernel
theorem dX0_takeNextOrder_88 : decode cX0_takeNextOrder 88 = .ok (.iload_n 3, 1) := by decide +kernel
theorem dX0_takeNextOrder_89 : decode cX0_takeNextOrder 89 = .ok (.istore_n 2, 1) := by decide +kernel
theorem dX0_takeNextOrder_90 : decode cX0_takeNextOrder 90 = .ok (.iinc 3 1, 3) := by decide +kernel
theorem dX0_takeNextOrder_93 : decode cX0_takeNextOrder 93 = .ok (.goto (-34), 3) := by decide +kernel
theorem dX0_takeNextOrder_96 : decode cX0_takeNextOrder 96 = .ok (.aload_n 0, 1) := by decide +kernel
theorem dX0_takeNextOrder_97 : decode cX0_takeNextOrder 97 = .ok (.iload_n 1, 1) := by decide +kernel
theorem dX0_takeNextOrder_98 : decode cX0_takeNextOrder 98 = .ok (.iload_n 2, 1) := by decide +kernel
theorem dX0_takeNextOrder_99 : decode cX0_takeNextOrder 99 = .ok (.invokevirtual 57, 3) := by decide +kernel
theorem dX0_takeNextOrder_102 : decode cX0_takeNextOrder 102 = .ok (.iload_n 1, 1) := by decide +kernel
theorem dX0_takeNextOrder_103 : decode cX0_takeNextOrder 103 = .ok (.iconst 1, 1) := by decide +kernel
theorem dX0_takeNextOrder_104 : decode cX0_takeNextOrder 104 = .ok (.iadd, 1) := by decide +kernel
theorem dX0_takeNextOrder_105 : decode cX0_takeNextOrder 105 = .ok (.istore_n 3, 1) := by decide +kernel
theorem dX0_takeNextOrder_106 : decode cX0_takeNextOrder 106 = .ok (.aload_n 0, 1) := by decide +kernel
theorem dX0_takeNextOrder_107 : decode cX0_takeNextOrder 107 = .ok (.getfield 22, 3) := by decide +kernel
theorem dX0_takeNextOrder_110 : decode cX0_takeNextOrder 110 = .ok (.getfield 40, 3) := by decide +kernel
theorem dX0_takeNextOrder_113 : decode cX0_takeNextOrder 113 = .ok (.iconst 1, 1) := by decide +kernel
theorem dX0_takeNextOrder_114 : decode cX0_takeNextOrder 114 = .ok (.isub, 1) := by decide +kernel
theorem dX0_takeNextOrder_115 : decode cX0_takeNextOrder 115 = .ok (.istore 4, 2) := by decide +kernel
theorem dX0_takeNextOrder_117 : decode cX0_takeNextOrder 117 = .ok (.iload 4, 2) := by decide +kernel
theorem dX0_takeNextOrder_119 : decode cX0_takeNextOrder 119 = .ok (.iload_n 3, 1) := by decide +kernel
theorem dX0_takeNextOrder_120 : decode cX0_takeNextOrder 120 = .ok (.if_icmp .le 19, 3) := by decide +kernel
theorem dX0_takeNextOrder_123 : decode cX0_takeNextOrder 123 = .ok (.aload_n 0, 1) := by decide +kernel
theorem dX0_takeNextOrder_124 : decode cX0_takeNextOrder 124 = .ok (.iload_n 3, 1) := by decide +kernel
theorem dX0_takeNextOrder_125 : decode cX0_takeNextOrder 125 = .ok (.iload 4, 2) := by decide +kernel
theorem dX0_takeNextOrder_127 : decode cX0_takeNextOrder 127 = .ok (.invokevirtual 57, 3) := by decide +kernel
theorem dX0_takeNextOrder_130 : decode cX0_takeNextOrder 130 = .ok (.iinc 3 1, 3) := by decide +kernel
theorem dX0_takeNextOrder_133 : decode cX0_takeNextOrder 133 = .ok (.iinc 4 (-1), 3) := by decide +kernel
theorem dX0_takeNextOrder_136 : decode cX0_takeNextOrder 136 = .ok (.goto (-19), 3) := by decide +kernel
theorem dX0_takeNextOrder_139 : decode cX0_takeNextOrder 139 = .ok (.iconst 1, 1) := by decide +kernel
theorem dX0_takeNextOrder_140 : decode cX0_takeNextOrder 140 = .ok (.ireturn, 1) := by decide +kernel
theorem dX0_changesFrom_0 : decode cX0_changesFrom 0 = .ok (.iconst 0, 1) := by decide +kernel
theorem dX0_changesFrom_1 : decode cX0_changesFrom 1 = .ok (.istore_n 2, 1) := by decide +kernel
theorem dX0_changesFrom_2 : decode cX0_changesFrom 2 = .ok (.iconst 0, 1) := by decide +kernel
theorem dX0_changesFrom_3 : decode cX0_changesFrom 3 = .ok (.istore_n 3, 1) := by decide +kernel
theorem dX0_changesFrom_4 : decode cX0_changesFrom 4 = .ok (.iload_n 3, 1) := by decide +kernel
theorem dX0_changesFrom_5 : decode cX0_changesFrom 5 = .ok (.aload_n 0, 1) := by decide +kernel
theorem dX0_changesFrom_6 : decode cX0_changesFrom 6 = .ok (.getfield 22, 3) := by decide +kernel
theorem dX0_changesFrom_9 : decode cX0_changesFrom 9 = .ok (.getfield 40, 3) := by decide +kernel
theorem dX0_changesFrom_12 : decode cX0_changesFrom 12 = .ok (.if_icmp .ge 30, 3) := by decide +kernel
theorem dX0_changesFrom_15 : decode cX0_changesFrom 15 = .ok (.iload_n 3, 1) := by decide +kernel
theorem dX0_changesFrom_16 : decode cX0_changesFrom 16 = .ok (.iconst 5, 1) := by decide +kernel
theorem dX0_changesFrom_17 : decode cX0_changesFrom 17 = .ok (.if_icmp .ge 25, 3) := by decide +kernel
theorem dX0_changesFrom_20 : decode cX0_changesFrom 20 = .ok (.aload_n 0, 1) := by decide +kernel
theorem dX0_changesFrom_21 : decode cX0_changesFrom 21 = .ok (.iload_n 3, 1) := by decide +kernel
theorem dX0_changesFrom_22 : decode cX0_changesFrom 22 = .ok (.invokevirtual 36, 3) := by decide +kernel
theorem dX0_changesFrom_25 : decode cX0_changesFrom 25 = .ok (.aload_n 1, 1) := by decide +kernel
theorem dX0_changesFrom_26 : decode cX0_changesFrom 26 = .ok (.iload_n 3, 1) := by decide +kernel
theorem dX0_changesFrom_27 : decode cX0_changesFrom 27 = .ok (.invokevirtual 36, 3) := by decide +kernel
theorem dX0_changesFrom_30 : decode cX0_changesFrom 30 = .ok (.if_icmp .eq 6, 3) := by decide +kernel
theorem dX0_changesFrom_33 : decode cX0_changesFrom 33 = .ok (.iinc 2 1, 3) := by decide +kernel
theorem dX0_changesFrom_36 : decode cX0_changesFrom 36 = .ok (.iinc 3 1, 3) := by decide +kernel
theorem dX0_changesFrom_39 : decode cX0_changesFrom 39 = .ok (.goto (-35), 3) := by decide +kernel
theorem dX0_changesFrom_42 : decode cX0_changesFrom 42 = .ok (.iload_n 2, 1) := by decide +kernel
theorem dX0_changesFrom_43 : decode cX0_changesFrom 43 = .ok (.ireturn, 1) := by decide +kernel
theorem dX1_init_0 : decode cX1_init 0 = .ok (.aload_n 0, 1) := by decide +kernel
theorem dX1_init_1 : decode cX1_init 1 = .ok (.invokespecial 3, 3) := by decide +kernel
theorem dX1_init_4 : decode cX1_init 4 = .ok (.aload_n 0, 1) := by decide +kernel
theorem dX1_init_5 : decode cX1_init 5 = .ok (.bipush 6, 2) := by decide +kernel
theorem dX1_init_7 : decode cX1_init 7 = .ok (.newarray .int, 2) := by decide +kernel
theorem dX1_init_9 : decode cX1_init 9 = .ok (.putfield 9, 3) := by decide +kernel
theorem dX1_init_12 : decode cX1_init 12 = .ok (.aload_n 0, 1) := by decide +kernel
theorem dX1_init_13 : decode cX1_init 13 = .ok (.bipush 6, 2) := by decide +kernel
theorem dX1_init_15 : decode cX1_init 15 = .ok (.newarray .int, 2) := by decide +kernel
theorem dX1_init_17 : decode cX1_init 17 = .ok (.putfield 15, 3) := by decide +kernel
theorem dX1_init_20 : decode cX1_init 20 = .ok (.aload_n 0, 1) := by decide +kernel
theorem dX1_init_21 : decode cX1_init 21 = .ok (.iconst 0, 1) := by decide +kernel
theorem dX1_init_22 : decode cX1_init 22 = .ok (.putfield 18, 3) := by decide +kernel
theorem dX1_init_25 : decode cX1_init 25 = .ok (.aload_n 0, 1) := by decide +kernel
theorem dX1_init_26 : decode cX1_init 26 = .ok (.iconst 0, 1) := by decide +kernel
theorem dX1_init_27 : decode cX1_init 27 = .ok (.putfield 22, 3) := by decide +kernel
theorem dX1_init_30 : decode cX1_init 30 = .ok (.aload_n 0, 1) := by decide +kernel
theorem dX1_init_31 : decode cX1_init 31 = .ok (.iconst 0, 1) := by decide +kernel
theorem dX1_init_32 : decode cX1_init 32 = .ok (.putfield 25, 3) := by decide +kernel
theorem dX1_init_35 : decode cX1_init 35 = .ok (.aload_n 0, 1) := by decide +kernel
theorem dX1_init_36 : decode cX1_init 36 = .ok (.bipush (-9), 2) := by decide +kernel
theorem dX1_init_38 : decode cX1_init 38 = .ok (.putfield 28, 3) := by decide +kernel
theorem dX1_init_41 : decode cX1_init 41 = .ok (.aload_n 0, 1) := by decide +kernel
theorem dX1_init_42 : decode cX1_init 42 = .ok (.lconst 0, 1) := by decide +kernel
theorem dX1_init_43 : decode cX1_init 43 = .ok (.putfield 31, 3) := by decide +kernel
theorem dX1_init_46 : decode cX1_init 46 = .ok (.aload_n 0, 1) := by decide +kernel
theorem dX1_init_47 : decode cX1_init 47 = .ok (.aload_n 1, 1) := by decide +kernel
theorem dX1_init_48 : decode cX1_init 48 = .ok (.putfield 35, 3) := by decide +kernel
theorem dX1_init_51 : decode cX1_init 51 = .ok (.aload_n 0, 1) := by decide +kernel
theorem dX1_init_52 : decode cX1_init 52 = .ok (.aload_n 1, 1) := by decide +kernel
theorem dX1_init_53 : decode cX1_init 53 = .ok (.getfield 39, 3) := by decide +kernel
theorem dX1_init_56 : decode cX1_init 56 = .ok (.putfield 45, 3) := by decide +kernel
theorem dX1_init_59 : decode cX1_init 59 = .ok (.aload_n 0, 1) := by decide +kernel
theorem dX1_init_60 : decode cX1_init 60 = .ok (.aload_n 1, 1) := by decide +kernel
theorem dX1_init_61 : decode cX1_init 61 = .ok (.getfield 39, 3) := by decide +kernel
theorem dX1_init_64 : decode cX1_init 64 = .ok (.getfield 46, 3) := by decide +kernel
theorem dX1_init_67 : decode cX1_init 67 = .ok (.putfield 52, 3) := by decide +kernel
theorem dX1_init_70 : decode cX1_init 70 = .ok (.return_, 1) := by decide +kernel
theorem dX1_begin_0 : decode cX1_begin 0 = .ok (.aload_n 0, 1) := by decide +kernel
theorem dX1_begin_1 : decode cX1_begin 1 = .ok (.iconst 0, 1) := by decide +kernel
theorem dX1_begin_2 : decode cX1_begin 2 = .ok (.putfield 18, 3) := by decide +kernel
theorem dX1_begin_5 : decode cX1_begin 5 = .ok (.aload_n 0, 1) := by decide +kernel
theorem dX1_begin_6 : decode cX1_begin 6 = .ok (.aload_n 0, 1) := by decide +kernel
theorem dX1_begin_7 : decode cX1_begin 7 = .ok (.getfield 45, 3) := by decide +kernel
theorem dX1_begin_10 : decode cX1_begin 10 = .ok (.invokevirtual 53, 3) := by decide +kernel
theorem dX1_begin_13 : decode cX1_begin 13 = .ok (.putfield 22, 3) := by decide +kernel
theorem dX1_begin_16 : decode cX1_begin 16 = .ok (.aload_n 0, 1) := by decide +kernel
theorem dX1_begin_17 : decode cX1_begin 17 = .ok (.iconst 0, 1) := by decide +kernel
theorem dX1_begin_18 : decode cX1_begin 18 = .ok (.putfield 25, 3) := by decide +kernel
theorem dX1_begin_21 : decode cX1_begin 21 = .ok (.aload_n 0, 1) := by decide +kernel
theorem dX1_begin_22 : decode cX1_begin 22 = .ok (.bipush (-9), 2) := by decide +kernel
theorem dX1_begin_24 : decode cX1_begin 24 = .ok (.putfield 28, 3) := by decide +kernel
theorem dX1_begin_27 : decode cX1_begin 27 = .ok (.aload_n 0, 1) := by decide +kernel
theorem dX1_begin_28 : decode cX1_begin 28 = .ok (.lconst 0, 1) := by decide +kernel
theorem dX1_begin_29 : decode cX1_begin 29 = .ok (.putfield 31, 3) := by decide +kernel
theorem dX1_begin_32 : decode cX1_begin 32 = .ok (.return_, 1) := by decide +kernel
theorem dX1_speak_0 : decode cX1_speak 0 = .ok (.aload_n 0, 1) := by decide +kernel
theorem dX1_speak_1 : decode cX1_speak 1 = .ok (.getfield 45, 3) := by decide +kernel
theorem dX1_speak_4 : decode cX1_speak 4 = .ok (.aload_n 0, 1) := by decide +kernel
theorem dX1_speak_5 : decode cX1_speak 5 = .ok (.getfield 18, 3) := by decide +kernel
theorem dX1_speak_8 : decode cX1_speak 8 = .ok (.invokevirtual 57, 3) := by decide +kernel
theorem dX1_speak_11 : decode cX1_speak 11 = .ok (.istore_n 2, 1) := by decide +kernel
theorem dX1_speak_12 : decode cX1_speak 12 = .ok (.aload_n 0, 1) := by decide +kernel
theorem dX1_speak_13 : decode cX1_speak 13 = .ok (.getfield 9, 3) := by decide +kernel
theorem dX1_speak_16 : decode cX1_speak 16 = .ok (.aload_n 0, 1) := by decide +kernel
theorem dX1_speak_17 : decode cX1_speak 17 = .ok (.getfield 18, 3) := by decide +kernel
theorem dX1_speak_20 : decode cX1_speak 20 = .ok (.iload_n 1, 1) := by decide +kernel
theorem dX1_speak_21 : decode cX1_speak 21 = .ok (.invokestatic 61, 3) := by decide +kernel
theorem dX1_speak_24 : decode cX1_speak 24 = .ok (.aload_n 0, 1) := by decide +kernel
theorem dX1_speak_25 : decode cX1_speak 25 = .ok (.getfield 15, 3) := by decide +kernel
theorem dX1_speak_28 : decode cX1_speak 28 = .ok (.aload_n 0, 1) := by decide +kernel
theorem dX1_speak_29 : decode cX1_speak 29 = .ok (.getfield 18, 3) := by decide +kernel
theorem dX1_speak_32 : decode cX1_speak 32 = .ok (.aload_n 0, 1) := by decide +kernel
theorem dX1_speak_33 : decode cX1_speak 33 = .ok (.getfield 22, 3) := by decide +kernel
theorem dX1_speak_36 : decode cX1_speak 36 = .ok (.invokestatic 61, 3) := by decide +kernel
theorem dX1_speak_39 : decode cX1_speak 39 = .ok (.iload_n 1, 1) := by decide +kernel
theorem dX1_speak_40 : decode cX1_speak 40 = .ok (.bipush (-9), 2) := by decide +kernel
theorem dX1_speak_42 : decode cX1_speak 42 = .ok (.if_icmp .ne 7, 3) := by decide +kernel
theorem dX1_speak_45 : decode cX1_speak 45 = .ok (.iconst 0, 1) := by decide +kernel
theorem dX1_speak_46 : decode cX1_speak 46 = .ok (.goto 12, 3) := by decide +kernel
theorem dX1_speak_49 : decode cX1_speak 49 = .ok (.aload_n 0, 1) := by decide +kernel
theorem dX1_speak_50 : decode cX1_speak 50 = .ok (.getfield 52, 3) := by decide +kernel
theorem dX1_speak_53 : decode cX1_speak 53 = .ok (.iload_n 2, 1) := by decide +kernel
theorem dX1_speak_54 : decode cX1_speak 54 = .ok (.iload_n 1, 1) := by decide +kernel
theorem dX1_speak_55 : decode cX1_speak 55 = .ok (.invokevirtual 65, 3) := by decide +kernel
theorem dX1_speak_58 : decode cX1_speak 58 = .ok (.istore_n 3, 1) := by decide +kernel
theorem dX1_speak_59 : decode cX1_speak 59 = .ok (.iload_n 3, 1) := by decide +kernel
theorem dX1_speak_60 : decode cX1_speak 60 = .ok (.aload_n 0, 1) := by decide +kernel
theorem dX1_speak_61 : decode cX1_speak 61 = .ok (.getfield 22, 3) := by decide +kernel
theorem dX1_speak_64 : decode cX1_speak 64 = .ok (.if_icmp .le 35, 3) := by decide +kernel
theorem dX1_speak_67 : decode cX1_speak 67 = .ok (.aload_n 0, 1) := by decide +kernel
theorem dX1_speak_68 : decode cX1_speak 68 = .ok (.aload_n 0, 1) := by decide +kernel
theorem dX1_speak_69 : decode cX1_speak 69 = .ok (.getfield 28, 3) := by decide +kernel
theorem dX1_speak_72 : decode cX1_speak 72 = .ok (.bipush (-9), 2) := by decide +kernel
theorem dX1_speak_74 : decode cX1_speak 74 = .ok (.if_icmp .ne 10, 3) := by decide +kernel
theorem dX1_speak_77 : decode cX1_speak 77 = .ok (.aload_n 0, 1) := by decide +kernel
theorem dX1_speak_78 : decode cX1_speak 78 = .ok (.getfield 18, 3) := by decide +kernel
theorem dX1_speak_81 : decode cX1_speak 81 = .ok (.goto 7, 3) := by decide +kernel
theorem dX1_speak_84 : decode cX1_speak 84 = .ok (.aload_n 0, 1) := by decide +kernel
theorem dX1_speak_85 : decode cX1_speak 85 = .ok (.getfield 28, 3) := by decide +kernel
theorem dX1_speak_88 : decode cX1_speak 88 = .ok (.putfield 28, 3) := by decide +kernel
theorem dX1_speak_91 : decode cX1_speak 91 = .ok (.aload_n 0, 1) := by decide +kernel
theorem dX1_speak_92 : decode cX1_speak 92 = .ok (.iconst 0, 1) := by decide +kernel
theorem dX1_speak_93 : decode cX1_speak 93 = .ok (.putfield 22, 3) := by decide +kernel
theorem dX1_speak_96 : decode cX1_speak 96 = .ok (.goto 47, 3) := by decide +kernel
theorem dX1_speak_99 : decode cX1_speak 99 = .ok (.iload_n 1, 1) := by decide +kernel
theorem dX1_speak_100 : decode cX1_speak 100 = .ok (.bipush (-9), 2) := by decide +kernel
theorem dX1_speak_102 : decode cX1_speak 102 = .ok (.if_icmp .eq 41, 3) := by decide +kernel
theorem dX1_speak_105 : decode cX1_speak 105 = .ok (.aload_n 0, 1) := by decide +kernel
theorem dX1_speak_106 : decode cX1_speak 106 = .ok (.dup, 1) := by decide +kernel
theorem dX1_speak_107 : decode cX1_speak 107 = .ok (.getfield 25, 3) := by decide +kernel
theorem dX1_speak_110 : decode cX1_speak 110 = .ok (.iconst 1, 1) := by decide +kernel
theorem dX1_speak_111 : decode cX1_speak 111 = .ok (.iadd, 1) := by decide +kernel
theorem dX1_speak_112 : decode cX1_speak 112 = .ok (.putfield 25, 3) := by decide +kernel
theorem dX1_speak_115 : decode cX1_speak 115 = .ok (.aload_n 0, 1) := by decide +kernel
theorem dX1_speak_116 : decode cX1_speak 116 = .ok (.dup, 1) := by decide +kernel
theorem dX1_speak_117 : decode cX1_speak 117 = .ok (.getfield 31, 3) := by decide +kernel
theorem dX1_speak_120 : decode cX1_speak 120 = .ok (.aload_n 0, 1) := by decide +kernel
theorem dX1_speak_121 : decode cX1_speak 121 = .ok (.getfield 52, 3) := by decide +kernel
theorem dX1_speak_124 : decode cX1_speak 124 = .ok (.iload_n 2, 1) := by decide +kernel
theorem dX1_speak_125 : decode cX1_speak 125 = .ok (.iload_n 1, 1) := by decide +kernel
theorem dX1_speak_126 : decode cX1_speak 126 = .ok (.invokevirtual 71, 3) := by decide +kernel
theorem dX1_speak_129 : decode cX1_speak 129 = .ok (.ladd, 1) := by decide +kernel
theorem dX1_speak_130 : decode cX1_speak 130 = .ok (.putfield 31, 3) := by decide +kernel
theorem dX1_speak_133 : decode cX1_speak 133 = .ok (.aload_n 0, 1) := by decide +kernel
theorem dX1_speak_134 : decode cX1_speak 134 = .ok (.dup, 1) := by decide +kernel
theorem dX1_speak_135 : decode cX1_speak 135 = .ok (.getfield 22, 3) := by decide +kernel
theorem dX1_speak_138 : decode cX1_speak 138 = .ok (.iload_n 3, 1) := by decide +kernel
theorem dX1_speak_139 : decode cX1_speak 139 = .ok (.isub, 1) := by decide +kernel
theorem dX1_speak_140 : decode cX1_speak 140 = .ok (.putfield 22, 3) := by decide +kernel
theorem dX1_speak_143 : decode cX1_speak 143 = .ok (.aload_n 0, 1) := by decide +kernel
theorem dX1_speak_144 : decode cX1_speak 144 = .ok (.aload_n 0, 1) := by decide +kernel
theorem dX1_speak_145 : decode cX1_speak 145 = .ok (.getfield 45, 3) := by decide +kernel
theorem dX1_speak_148 : decode cX1_speak 148 = .ok (.aload_n 0, 1) := by decide +kernel
theorem dX1_speak_149 : decode cX1_speak 149 = .ok (.getfield 22, 3) := by decide +kernel
theorem dX1_speak_152 : decode cX1_speak 152 = .ok (.invokevirtual 75, 3) := by decide +kernel
theorem dX1_speak_155 : decode cX1_speak 155 = .ok (.putfield 22, 3) := by decide +kernel
theorem dX1_speak_158 : decode cX1_speak 158 = .ok (.aload_n 0, 1) := by decide +kernel
theorem dX1_speak_159 : decode cX1_speak 159 = .ok (.dup, 1) := by decide +kernel
theorem dX1_speak_160 : decode cX1_speak 160 = .ok (.getfield 18, 3) := by decide +kernel
theorem dX1_speak_163 : decode cX1_speak 163 = .ok (.iconst 1, 1) := by decide +kernel
theorem dX1_speak_164 : decode cX1_speak 164 = .ok (.iadd, 1) := by decide +kernel
theorem dX1_speak_165 : decode cX1_speak 165 = .ok (.putfield 18, 3) := by decide +kernel
theorem dX1_speak_168 : decode cX1_speak 168 = .ok (.return_, 1) := by decide +kernel
theorem dX1_goFreely_0 : decode cX1_goFreely 0 = .ok (.aload_n 0, 1) := by decide +kernel
theorem dX1_goFreely_1 : decode cX1_goFreely 1 = .ok (.iconst (-1), 1) := by decide +kernel
theorem dX1_goFreely_2 : decode cX1_goFreely 2 = .ok (.bipush (-9), 2) := by decide +kernel
theorem dX1_goFreely_4 : decode cX1_goFreely 4 = .ok (.invokevirtual 78, 3) := by decide +kernel
theorem dX1_goFreely_7 : decode cX1_goFreely 7 = .ok (.return_, 1) := by decide +kernel
theorem dX1_goForced_0 : decode cX1_goForced 0 = .ok (.aload_n 0, 1) := by decide +kernel
theorem dX1_goForced_1 : decode cX1_goForced 1 = .ok (.invokevirtual 82, 3) := by decide +kernel
theorem dX1_goForced_4 : decode cX1_goForced 4 = .ok (.iconst 0, 1) := by decide +kernel
theorem dX1_goForced_5 : decode cX1_goForced 5 = .ok (.istore_n 3, 1) := by decide +kernel
theorem dX1_goForced_6 : decode cX1_goForced 6 = .ok (.iload_n 3, 1) := by decide +kernel
theorem dX1_goForced_7 : decode cX1_goForced 7 = .ok (.aload_n 0, 1) := by decide +kernel
theorem dX1_goForced_8 : decode cX1_goForced 8 = .ok (.getfield 45, 3) := by decide +kernel
theorem dX1_goForced_11 : decode cX1_goForced 11 = .ok (.invokevirtual 85, 3) := by decide +kernel
theorem dX1_goForced_14 : decode cX1_goForced 14 = .ok (.if_icmp .ge 40, 3) := by decide +kernel
theorem dX1_goForced_17 : decode cX1_goForced 17 = .ok (.iload_n 3, 1) := by decide +kernel
theorem dX1_goForced_18 : decode cX1_goForced 18 = .ok (.bipush 6, 2) := by decide +kernel
theorem dX1_goForced_20 : decode cX1_goForced 20 = .ok (.if_icmp .ge 34, 3) := by decide +kernel
theorem dX1_goForced_23 : decode cX1_goForced 23 = .ok (.aload_n 0, 1) := by decide +kernel
theorem dX1_goForced_24 : decode cX1_goForced 24 = .ok (.iload_n 3, 1) := by decide +kernel
theorem dX1_goForced_25 : decode cX1_goForced 25 = .ok (.iload_n 1, 1) := by decide +kernel
theorem dX1_goForced_26 : decode cX1_goForced 26 = .ok (.if_icmp .ne 7, 3) := by decide +kernel
theorem dX1_goForced_29 : decode cX1_goForced 29 = .ok (.iload_n 2, 1) := by decide +kernel
theorem dX1_goForced_30 : decode cX1_goForced 30 = .ok (.goto 15, 3) := by decide +kernel
theorem dX1_goForced_33 : decode cX1_goForced 33 = .ok (.aload_n 0, 1) := by decide +kernel
theorem dX1_goForced_34 : decode cX1_goForced 34 = .ok (.getfield 35, 3) := by decide +kernel
theorem dX1_goForced_37 : decode cX1_goForced 37 = .ok (.iload_n 3, 1) := by decide +kernel
theorem dX1_goForced_38 : decode cX1_goForced 38 = .ok (.aload_n 0, 1) := by decide +kernel
theorem dX1_goForced_39 : decode cX1_goForced 39 = .ok (.getfield 22, 3) := by decide +kernel
theorem dX1_goForced_42 : decode cX1_goForced 42 = .ok (.invokevirtual 88, 3) := by decide +kernel
theorem dX1_goForced_45 : decode cX1_goForced 45 = .ok (.invokevirtual 91, 3) := by decide +kernel
theorem dX1_goForced_48 : decode cX1_goForced 48 = .ok (.iinc 3 1, 3) := by decide +kernel
theorem dX1_goForced_51 : decode cX1_goForced 51 = .ok (.goto (-45), 3) := by decide +kernel
theorem dX1_goForced_54 : decode cX1_goForced 54 = .ok (.return_, 1) := by decide +kernel
theorem dX1_saidIn_0 : decode cX1_saidIn 0 = .ok (.aload_n 0, 1) := by decide +kernel
theorem dX1_saidIn_1 : decode cX1_saidIn 1 = .ok (.getfield 9, 3) := by decide +kernel
theorem dX1_saidIn_4 : decode cX1_saidIn 4 = .ok (.iload_n 1, 1) := by decide +kernel
theorem dX1_saidIn_5 : decode cX1_saidIn 5 = .ok (.invokestatic 95, 3) := by decide +kernel
theorem dX1_saidIn_8 : decode cX1_saidIn 8 = .ok (.ireturn, 1) := by decide +kernel
theorem dX1_waterIn_0 : decode cX1_waterIn 0 = .ok (.aload_n 0, 1) := by decide +kernel
theorem dX1_waterIn_1 : decode cX1_waterIn 1 = .ok (.getfield 15, 3) := by decide +kernel
theorem dX1_waterIn_4 : decode cX1_waterIn 4 = .ok (.iload_n 1, 1) := by decide +kernel
theorem dX1_waterIn_5 : decode cX1_waterIn 5 = .ok (.invokestatic 95, 3) := by decide +kernel
theorem dX1_waterIn_8 : decode cX1_waterIn 8 = .ok (.ireturn, 1) := by decide +kernel
theorem dX1_hasSaid_0 : decode cX1_hasSaid 0 = .ok (.iconst 0, 1) := by decide +kernel
theorem dX1_hasSaid_1 : decode cX1_hasSaid 1 = .ok (.istore_n 3, 1) := by decide +kernel
theorem dX1_hasSaid_2 : decode cX1_hasSaid 2 = .ok (.iload_n 3, 1) := by decide +kernel
theorem dX1_hasSaid_3 : decode cX1_hasSaid 3 = .ok (.aload_n 0, 1) := by decide +kernel
theorem dX1_hasSaid_4 : decode cX1_hasSaid 4 = .ok (.getfield 18, 3) := by decide +kernel
theorem dX1_hasSaid_7 : decode cX1_hasSaid 7 = .ok (.if_icmp .ge 38, 3) := by decide +kernel
theorem dX1_hasSaid_10 : decode cX1_hasSaid 10 = .ok (.iload_n 3, 1) := by decide +kernel
theorem dX1_hasSaid_11 : decode cX1_hasSaid 11 = .ok (.bipush 6, 2) := by decide +kernel
theorem dX1_hasSaid_13 : decode cX1_hasSaid 13 = .ok (.if_icmp .ge 32, 3) := by decide +kernel
theorem dX1_hasSaid_16 : decode cX1_hasSaid 16 = .ok (.aload_n 0, 1) := by decide +kernel
theorem dX1_hasSaid_17 : decode cX1_hasSaid 17 = .ok (.getfield 45, 3) := by decide +kernel
theorem dX1_hasSaid_20 : decode cX1_hasSaid 20 = .ok (.iload_n 3, 1) := by decide +kernel
theorem dX1_hasSaid_21 : decode cX1_hasSaid 21 = .ok (.invokevirtual 57, 3) := by decide +kernel
theorem dX1_hasSaid_24 : decode cX1_hasSaid 24 = .ok (.iload_n 1, 1) := by decide +kernel
theorem dX1_hasSaid_25 : decode cX1_hasSaid 25 = .ok (.if_icmp .ne 14, 3) := by decide +kernel
theorem dX1_hasSaid_28 : decode cX1_hasSaid 28 = .ok (.aload_n 0, 1) := by decide +kernel
theorem dX1_hasSaid_29 : decode cX1_hasSaid 29 = .ok (.iload_n 3, 1) := by decide +kernel
theorem dX1_hasSaid_30 : decode cX1_hasSaid 30 = .ok (.invokevirtual 99, 3) := by decide +kernel
theorem dX1_hasSaid_33 : decode cX1_hasSaid 33 = .ok (.iload_n 2, 1) := by decide +kernel
theorem dX1_hasSaid_34 : decode cX1_hasSaid 34 = .ok (.if_icmp .ne 5, 3) := by decide +kernel
theorem dX1_hasSaid_37 : decode cX1_hasSaid 37 = .ok (.iconst 1, 1) := by decide +kernel
theorem dX1_hasSaid_38 : decode cX1_hasSaid 38 = .ok (.ireturn, 1) := by decide +kernel
theorem dX1_hasSaid_39 : decode cX1_hasSaid 39 = .ok (.iinc 3 1, 3) := by decide +kernel
theorem dX1_hasSaid_42 : decode cX1_hasSaid 42 = .ok (.goto (-40), 3) := by decide +kernel
theorem dX1_hasSaid_45 : decode cX1_hasSaid 45 = .ok (.iconst 0, 1) := by decide +kernel
theorem dX1_hasSaid_46 : decode cX1_hasSaid 46 = .ok (.ireturn, 1) := by decide +kernel
theorem dX1_runAwayBy_0 : decode cX1_runAwayBy 0 = .ok (.iconst 0, 1) := by decide +kernel
theorem dX1_runAwayBy_1 : decode cX1_runAwayBy 1 = .ok (.istore_n 2, 1) := by decide +kernel
theorem dX1_runAwayBy_2 : decode cX1_runAwayBy 2 = .ok (.iconst 0, 1) := by decide +kernel
theorem dX1_runAwayBy_3 : decode cX1_runAwayBy 3 = .ok (.istore_n 3, 1) := by decide +kernel
theorem dX1_runAwayBy_4 : decode cX1_runAwayBy 4 = .ok (.iload_n 3, 1) := by decide +kernel
theorem dX1_runAwayBy_5 : decode cX1_runAwayBy 5 = .ok (.aload_n 0, 1) := by decide +kernel
theorem dX1_runAwayBy_6 : decode cX1_runAwayBy 6 = .ok (.getfield 18, 3) := by decide +kernel
theorem dX1_runAwayBy_9 : decode cX1_runAwayBy 9 = .ok (.if_icmp .ge 53, 3) := by decide +kernel
theorem dX1_runAwayBy_12 : decode cX1_runAwayBy 12 = .ok (.iload_n 3, 1) := by decide +kernel
theorem dX1_runAwayBy_13 : decode cX1_runAwayBy 13 = .ok (.bipush 6, 2) := by decide +kernel
theorem dX1_runAwayBy_15 : decode cX1_runAwayBy 15 = .ok (.if_icmp .ge 47, 3) := by decide +kernel
theorem dX1_runAwayBy_18 : decode cX1_runAwayBy 18 = .ok (.aload_n 0, 1) := by decide +kernel
theorem dX1_runAwayBy_19 : decode cX1_runAwayBy 19 = .ok (.getfield 45, 3) := by decide +kernel
theorem dX1_runAwayBy_22 : decode cX1_runAwayBy 22 = .ok (.iload_n 3, 1) := by decide +kernel
theorem dX1_runAwayBy_23 : decode cX1_runAwayBy 23 = .ok (.invokevirtual 57, 3) := by decide +kernel
theorem dX1_runAwayBy_26 : decode cX1_runAwayBy 26 = .ok (.iload_n 1, 1) := by decide +kernel
theorem dX1_runAwayBy_27 : decode cX1_runAwayBy 27 = .ok (.if_icmp .ne 29, 3) := by decide +kernel
theorem dX1_runAwayBy_30 : decode cX1_runAwayBy 30 = .ok (.aload_n 0, 1) := by decide +kernel
theorem dX1_runAwayBy_31 : decode cX1_runAwayBy 31 = .ok (.iload_n 3, 1) := by decide +kernel
theorem dX1_runAwayBy_32 : decode cX1_runAwayBy 32 = .ok (.invokevirtual 99, 3) := by decide +kernel
theorem dX1_runAwayBy_35 : decode cX1_runAwayBy 35 = .ok (.bipush (-9), 2) := by decide +kernel
theorem dX1_runAwayBy_37 : decode cX1_runAwayBy 37 = .ok (.if_icmp .eq 19, 3) := by decide +kernel
theorem dX1_runAwayBy_40 : decode cX1_runAwayBy 40 = .ok (.iload_n 2, 1) := by decide +kernel
theorem dX1_runAwayBy_41 : decode cX1_runAwayBy 41 = .ok (.aload_n 0, 1) := by decide +kernel
theorem dX1_runAwayBy_42 : decode cX1_runAwayBy 42 = .ok (.getfield 52, 3) := by decide +kernel
theorem dX1_runAwayBy_45 : decode cX1_runAwayBy 45 = .ok (.iload_n 1, 1) := by decide +kernel
theorem dX1_runAwayBy_46 : decode cX1_runAwayBy 46 = .ok (.aload_n 0, 1) := by decide +kernel
theorem dX1_runAwayBy_47 : decode cX1_runAwayBy 47 = .ok (.iload_n 3, 1) := by decide +kernel
theorem dX1_runAwayBy_48 : decode cX1_runAwayBy 48 = .ok (.invokevirtual 99, 3) := by decide +kernel
theorem dX1_runAwayBy_51 : decode cX1_runAwayBy 51 = .ok (.invokevirtual 65, 3) := by decide +kernel
theorem dX1_runAwayBy_54 : decode cX1_runAwayBy 54 = .ok (.iadd, 1) := by decide +kernel
theorem dX1_runAwayBy_55 : decode cX1_runAwayBy 55 = .ok (.istore_n 2, 1) := by decide +kernel
theorem dX1_runAwayBy_56 : decode cX1_runAwayBy 56 = .ok (.iinc 3 1, 3) := by decide +kernel
theorem dX1_runAwayBy_59 : decode cX1_runAwayBy 59 = .ok (.goto (-55), 3) := by decide +kernel
theorem dX1_runAwayBy_62 : decode cX1_runAwayBy 62 = .ok (.iload_n 2, 1) := by decide +kernel
theorem dX1_runAwayBy_63 : decode cX1_runAwayBy 63 = .ok (.ireturn, 1) := by decide +kernel
theorem dX2_init_0 : decode cX2_init 0 = .ok (.aload_n 0, 1) := by decide +kernel
theorem dX2_init_1 : decode cX2_init 1 = .ok (.invokespecial 3, 3) := by decide +kernel
theorem dX2_init_4 : decode cX2_init 4 = .ok (.aload_n 0, 1) := by decide +kernel
theorem dX2_init_5 : decode cX2_init 5 = .ok (.bipush 36, 2) := by decide +kernel
theorem dX2_init_7 : decode cX2_init 7 = .ok (.newarray .int, 2) := by decide +kernel
theorem dX2_init_9 : decode cX2_init 9 = .ok (.putfield 9, 3) := by decide +kernel
theorem dX2_init_12 : decode cX2_init 12 = .ok (.aload_n 0, 1) := by decide +kernel
theorem dX2_init_13 : decode cX2_init 13 = .ok (.bipush 6, 2) := by decide +kernel
theorem dX2_init_15 : decode cX2_init 15 = .ok (.newarray .int, 2) := by decide +kernel
theorem dX2_init_17 : decode cX2_init 17 = .ok (.putfield 15, 3) := by decide +kernel
theorem dX2_init_20 : decode cX2_init 20 = .ok (.aload_n 0, 1) := by decide +kernel
theorem dX2_init_21 : decode cX2_init 21 = .ok (.bipush 6, 2) := by decide +kernel
theorem dX2_init_23 : decode cX2_init 23 = .ok (.newarray .int, 2) := by decide +kernel
theorem dX2_init_25 : decode cX2_init 25 = .ok (.putfield 18, 3) := by decide +kernel
theorem dX2_init_28 : decode cX2_init 28 = .ok (.aload_n 0, 1) := by decide +kernel
theorem dX2_init_29 : decode cX2_init 29 = .ok (.iconst 0, 1) := by decide +kernel
theorem dX2_init_30 : decode cX2_init 30 = .ok (.putfield 21, 3) := by decide +kernel
theorem dX2_init_33 : decode cX2_init 33 = .ok (.return_, 1) := by decide +kernel
theorem dX2_clear_0 : decode cX2_clear 0 = .ok (.aload_n 0, 1) := by decide +kernel
theorem dX2_clear_1 : decode cX2_clear 1 = .ok (.iconst 0, 1) := by decide +kernel
theorem dX2_clear_2 : decode cX2_clear 2 = .ok (.putfield 21, 3) := by decide +kernel
theorem dX2_clear_5 : decode cX2_clear 5 = .ok (.return_, 1) := by decide +kernel
theorem dX2_note_0 : decode cX2_note 0 = .ok (.aload_n 0, 1) := by decide +kernel
theorem dX2_note_1 : decode cX2_note 1 = .ok (.getfield 9, 3) := by decide +kernel
theorem dX2_note_4 : decode cX2_note 4 = .ok (.aload_n 0, 1) := by decide +kernel
theorem dX2_note_5 : decode cX2_note 5 = .ok (.getfield 21, 3) := by decide +kernel
theorem dX2_note_8 : decode cX2_note 8 = .ok (.bipush 6, 2) := by decide +kernel
theorem dX2_note_10 : decode cX2_note 10 = .ok (.imul, 1) := by decide +kernel
theorem dX2_note_11 : decode cX2_note 11 = .ok (.iload_n 1, 1) := by decide +kernel
theorem dX2_note_12 : decode cX2_note 12 = .ok (.iadd, 1) := by decide +kernel
theorem dX2_note_13 : decode cX2_note 13 = .ok (.iload_n 2, 1) := by decide +kernel
theorem dX2_note_14 : decode cX2_note 14 = .ok (.invokestatic 25, 3) := by decide +kernel
theorem dX2_note_17 : decode cX2_note 17 = .ok (.return_, 1) := by decide +kernel
theorem dX2_close_0 : decode cX2_close 0 = .ok (.aload_n 0, 1) := by decide +kernel
theorem dX2_close_1 : decode cX2_close 1 = .ok (.getfield 21, 3) := by decide +kernel
theorem dX2_close_4 : decode cX2_close 4 = .ok (.istore_n 2, 1) := by decide +kernel
theorem dX2_close_5 : decode cX2_close 5 = .ok (.aload_n 0, 1) := by decide +kernel
theorem dX2_close_6 : decode cX2_close 6 = .ok (.getfield 15, 3) := by decide +kernel
theorem dX2_close_9 : decode cX2_close 9 = .ok (.iload_n 2, 1) := by decide +kernel
theorem dX2_close_10 : decode cX2_close 10 = .ok (.iload_n 1, 1) := by decide +kernel
theorem dX2_close_11 : decode cX2_close 11 = .ok (.invokestatic 25, 3) := by decide +kernel
theorem dX2_close_14 : decode cX2_close 14 = .ok (.aload_n 0, 1) := by decide +kernel
theorem dX2_close_15 : decode cX2_close 15 = .ok (.dup, 1) := by decide +kernel
theorem dX2_close_16 : decode cX2_close 16 = .ok (.getfield 21, 3) := by decide +kernel
theorem dX2_close_19 : decode cX2_close 19 = .ok (.iconst 1, 1) := by decide +kernel
theorem dX2_close_20 : decode cX2_close 20 = .ok (.iadd, 1) := by decide +kernel
theorem dX2_close_21 : decode cX2_close 21 = .ok (.putfield 21, 3) := by decide +kernel
theorem dX2_close_24 : decode cX2_close 24 = .ok (.iload_n 2, 1) := by decide +kernel
theorem dX2_close_25 : decode cX2_close 25 = .ok (.ireturn, 1) := by decide +kernel
theorem dX2_compare_0 : decode cX2_compare 0 = .ok (.iconst 0, 1) := by decide +kernel
theorem dX2_compare_1 : decode cX2_compare 1 = .ok (.istore_n 3, 1) := by decide +kernel
theorem dX2_compare_2 : decode cX2_compare 2 = .ok (.iload_n 3, 1) := by decide +kernel
theorem dX2_compare_3 : decode cX2_compare 3 = .ok (.aload_n 0, 1) := by decide +kernel
theorem dX2_compare_4 : decode cX2_compare 4 = .ok (.getfield 21, 3) := by decide +kernel
theorem dX2_compare_7 : decode cX2_compare 7 = .ok (.if_icmp .ge 80, 3) := by decide +kernel
theorem dX2_compare_10 : decode cX2_compare 10 = .ok (.iload_n 3, 1) := by decide +kernel
theorem dX2_compare_11 : decode cX2_compare 11 = .ok (.bipush 6, 2) := by decide +kernel
theorem dX2_compare_13 : decode cX2_compare 13 = .ok (.if_icmp .ge 74, 3) := by decide +kernel
theorem dX2_compare_16 : decode cX2_compare 16 = .ok (.iconst 0, 1) := by decide +kernel
theorem dX2_compare_17 : decode cX2_compare 17 = .ok (.istore 4, 2) := by decide +kernel
theorem dX2_compare_19 : decode cX2_compare 19 = .ok (.iconst 0, 1) := by decide +kernel
theorem dX2_compare_20 : decode cX2_compare 20 = .ok (.istore 5, 2) := by decide +kernel
theorem dX2_compare_22 : decode cX2_compare 22 = .ok (.iload 5, 2) := by decide +kernel
theorem dX2_compare_24 : decode cX2_compare 24 = .ok (.bipush 9, 2) := by decide +kernel
theorem dX2_compare_26 : decode cX2_compare 26 = .ok (.if_icmp .gt 45, 3) := by decide +kernel
theorem dX2_compare_29 : decode cX2_compare 29 = .ok (.aload_n 1, 1) := by decide +kernel
theorem dX2_compare_30 : decode cX2_compare 30 = .ok (.iload 5, 2) := by decide +kernel
theorem dX2_compare_32 : decode cX2_compare 32 = .ok (.putfield 29, 3) := by decide +kernel
theorem dX2_compare_35 : decode cX2_compare 35 = .ok (.aload_n 0, 1) := by decide +kernel
theorem dX2_compare_36 : decode cX2_compare 36 = .ok (.iload_n 3, 1) := by decide +kernel
theorem dX2_compare_37 : decode cX2_compare 37 = .ok (.aload_n 2, 1) := by decide +kernel
theorem dX2_compare_38 : decode cX2_compare 38 = .ok (.invokevirtual 34, 3) := by decide +kernel
theorem dX2_compare_41 : decode cX2_compare 41 = .ok (.aload_n 2, 1) := by decide +kernel
theorem dX2_compare_42 : decode cX2_compare 42 = .ok (.getfield 38, 3) := by decide +kernel
theorem dX2_compare_45 : decode cX2_compare 45 = .ok (.aload_n 0, 1) := by decide +kernel
theorem dX2_compare_46 : decode cX2_compare 46 = .ok (.getfield 15, 3) := by decide +kernel
theorem dX2_compare_49 : decode cX2_compare 49 = .ok (.iload_n 3, 1) := by decide +kernel
theorem dX2_compare_50 : decode cX2_compare 50 = .ok (.invokestatic 43, 3) := by decide +kernel
theorem dX2_compare_53 : decode cX2_compare 53 = .ok (.if_icmp .ne 12, 3) := by decide +kernel
theorem dX2_compare_56 : decode cX2_compare 56 = .ok (.iload 4, 2) := by decide +kernel
theorem dX2_compare_58 : decode cX2_compare 58 = .ok (.iconst 1, 1) := by decide +kernel
theorem dX2_compare_59 : decode cX2_compare 59 = .ok (.iload 5, 2) := by decide +kernel
theorem dX2_compare_61 : decode cX2_compare 61 = .ok (.ishl, 1) := by decide +kernel
theorem dX2_compare_62 : decode cX2_compare 62 = .ok (.ior, 1) := by decide +kernel
theorem dX2_compare_63 : decode cX2_compare 63 = .ok (.istore 4, 2) := by decide +kernel
theorem dX2_compare_65 : decode cX2_compare 65 = .ok (.iinc 5 1, 3) := by decide +kernel
theorem dX2_compare_68 : decode cX2_compare 68 = .ok (.goto (-46), 3) := by decide +kernel
theorem dX2_compare_71 : decode cX2_compare 71 = .ok (.aload_n 0, 1) := by decide +kernel
theorem dX2_compare_72 : decode cX2_compare 72 = .ok (.getfield 18, 3) := by decide +kernel
theorem dX2_compare_75 : decode cX2_compare 75 = .ok (.iload_n 3, 1) := by decide +kernel
theorem dX2_compare_76 : decode cX2_compare 76 = .ok (.iload 4, 2) := by decide +kernel
theorem dX2_compare_78 : decode cX2_compare 78 = .ok (.invokestatic 25, 3) := by decide +kernel
theorem dX2_compare_81 : decode cX2_compare 81 = .ok (.iinc 3 1, 3) := by decide +kernel
theorem dX2_compare_84 : decode cX2_compare 84 = .ok (.goto (-82), 3) := by decide +kernel
theorem dX2_compare_87 : decode cX2_compare 87 = .ok (.return_, 1) := by decide +kernel
theorem dX2_goBy_0 : decode cX2_goBy 0 = .ok (.aload_n 2, 1) := by decide +kernel
theorem dX2_goBy_1 : decode cX2_goBy 1 = .ok (.invokevirtual 47, 3) := by decide +kernel
theorem dX2_goBy_4 : decode cX2_goBy 4 = .ok (.iconst 0, 1) := by decide +kernel
theorem dX2_goBy_5 : decode cX2_goBy 5 = .ok (.istore_n 3, 1) := by decide +kernel
theorem dX2_goBy_6 : decode cX2_goBy 6 = .ok (.iload_n 3, 1) := by decide +kernel
theorem dX2_goBy_7 : decode cX2_goBy 7 = .ok (.aload_n 2, 1) := by decide +kernel
theorem dX2_goBy_8 : decode cX2_goBy 8 = .ok (.getfield 50, 3) := by decide +kernel
theorem dX2_goBy_11 : decode cX2_goBy 11 = .ok (.invokevirtual 54, 3) := by decide +kernel
theorem dX2_goBy_14 : decode cX2_goBy 14 = .ok (.if_icmp .ge 32, 3) := by decide +kernel
theorem dX2_goBy_17 : decode cX2_goBy 17 = .ok (.iload_n 3, 1) := by decide +kernel
theorem dX2_goBy_18 : decode cX2_goBy 18 = .ok (.bipush 6, 2) := by decide +kernel
theorem dX2_goBy_20 : decode cX2_goBy 20 = .ok (.if_icmp .ge 26, 3) := by decide +kernel
theorem dX2_goBy_23 : decode cX2_goBy 23 = .ok (.aload_n 2, 1) := by decide +kernel
theorem dX2_goBy_24 : decode cX2_goBy 24 = .ok (.aload_n 0, 1) := by decide +kernel
theorem dX2_goBy_25 : decode cX2_goBy 25 = .ok (.getfield 9, 3) := by decide +kernel
theorem dX2_goBy_28 : decode cX2_goBy 28 = .ok (.iload_n 1, 1) := by decide +kernel
theorem dX2_goBy_29 : decode cX2_goBy 29 = .ok (.bipush 6, 2) := by decide +kernel
theorem dX2_goBy_31 : decode cX2_goBy 31 = .ok (.imul, 1) := by decide +kernel
theorem dX2_goBy_32 : decode cX2_goBy 32 = .ok (.iload_n 3, 1) := by decide +kernel
theorem dX2_goBy_33 : decode cX2_goBy 33 = .ok (.iadd, 1) := by decide +kernel
theorem dX2_goBy_34 : decode cX2_goBy 34 = .ok (.invokestatic 43, 3) := by decide +kernel
theorem dX2_goBy_37 : decode cX2_goBy 37 = .ok (.invokevirtual 58, 3) := by decide +kernel
theorem dX2_goBy_40 : decode cX2_goBy 40 = .ok (.iinc 3 1, 3) := by decide +kernel
theorem dX2_goBy_43 : decode cX2_goBy 43 = .ok (.goto (-37), 3) := by decide +kernel
theorem dX2_goBy_46 : decode cX2_goBy 46 = .ok (.return_, 1) := by decide +kernel
theorem dX2_fits_0 : decode cX2_fits 0 = .ok (.iconst 0, 1) := by decide +kernel
theorem dX2_fits_1 : decode cX2_fits 1 = .ok (.istore_n 3, 1) := by decide +kernel
theorem dX2_fits_2 : decode cX2_fits 2 = .ok (.iload_n 3, 1) := by decide +kernel
theorem dX2_fits_3 : decode cX2_fits 3 = .ok (.aload_n 0, 1) := by decide +kernel
theorem dX2_fits_4 : decode cX2_fits 4 = .ok (.getfield 21, 3) := by decide +kernel
theorem dX2_fits_7 : decode cX2_fits 7 = .ok (.if_icmp .ge 49, 3) := by decide +kernel
theorem dX2_fits_10 : decode cX2_fits 10 = .ok (.iload_n 3, 1) := by decide +kernel
theorem dX2_fits_11 : decode cX2_fits 11 = .ok (.bipush 6, 2) := by decide +kernel
theorem dX2_fits_13 : decode cX2_fits 13 = .ok (.if_icmp .ge 43, 3) := by decide +kernel
theorem dX2_fits_16 : decode cX2_fits 16 = .ok (.aload_n 0, 1) := by decide +kernel
theorem dX2_fits_17 : decode cX2_fits 17 = .ok (.getfield 18, 3) := by decide +kernel
theorem dX2_fits_20 : decode cX2_fits 20 = .ok (.iload_n 3, 1) := by decide +kernel
theorem dX2_fits_21 : decode cX2_fits 21 = .ok (.invokestatic 43, 3) := by decide +kernel
theorem dX2_fits_24 : decode cX2_fits 24 = .ok (.istore 4, 2) := by decide +kernel
theorem dX2_fits_26 : decode cX2_fits 26 = .ok (.iload_n 3, 1) := by decide +kernel
theorem dX2_fits_27 : decode cX2_fits 27 = .ok (.iload_n 1, 1) := by decide +kernel
theorem dX2_fits_28 : decode cX2_fits 28 = .ok (.if_icmp .ge 7, 3) := by decide +kernel
theorem dX2_fits_31 : decode cX2_fits 31 = .ok (.iconst 0, 1) := by decide +kernel
theorem dX2_fits_32 : decode cX2_fits 32 = .ok (.goto 4, 3) := by decide +kernel
theorem dX2_fits_35 : decode cX2_fits 35 = .ok (.iload_n 2, 1) := by decide +kernel
theorem dX2_fits_36 : decode cX2_fits 36 = .ok (.istore 5, 2) := by decide +kernel
theorem dX2_fits_38 : decode cX2_fits 38 = .ok (.iload 4, 2) := by decide +kernel
theorem dX2_fits_40 : decode cX2_fits 40 = .ok (.iload 5, 2) := by decide +kernel
theorem dX2_fits_42 : decode cX2_fits 42 = .ok (.ishr, 1) := by decide +kernel
theorem dX2_fits_43 : decode cX2_fits 43 = .ok (.iconst 1, 1) := by decide +kernel
theorem dX2_fits_44 : decode cX2_fits 44 = .ok (.iand, 1) := by decide +kernel
theorem dX2_fits_45 : decode cX2_fits 45 = .ok (.ifCond .ne 5, 3) := by decide +kernel
theorem dX2_fits_48 : decode cX2_fits 48 = .ok (.iconst 0, 1) := by decide +kernel
theorem dX2_fits_49 : decode cX2_fits 49 = .ok (.ireturn, 1) := by decide +kernel
theorem dX2_fits_50 : decode cX2_fits 50 = .ok (.iinc 3 1, 3) := by decide +kernel
theorem dX2_fits_53 : decode cX2_fits 53 = .ok (.goto (-51), 3) := by decide +kernel
theorem dX2_fits_56 : decode cX2_fits 56 = .ok (.iconst 1, 1) := by decide +kernel
theorem dX2_fits_57 : decode cX2_fits 57 = .ok (.ireturn, 1) := by decide +kernel
theorem dX3_init_0 : decode cX3_init 0 = .ok (.aload_n 0, 1) := by decide +kernel
theorem dX3_init_1 : decode cX3_init 1 = .ok (.invokespecial 3, 3) := by decide +kernel
theorem dX3_init_4 : decode cX3_init 4 = .ok (.aload_n 0, 1) := by decide +kernel
theorem dX3_init_5 : decode cX3_init 5 = .ok (.bipush 15, 2) := by decide +kernel
theorem dX3_init_7 : decode cX3_init 7 = .ok (.newarray .int, 2) := by decide +kernel
theorem dX3_init_9 : decode cX3_init 9 = .ok (.putfield 9, 3) := by decide +kernel
theorem dX3_init_12 : decode cX3_init 12 = .ok (.aload_n 0, 1) := by decide +kernel
theorem dX3_init_13 : decode cX3_init 13 = .ok (.bipush 15, 2) := by decide +kernel
theorem dX3_init_15 : decode cX3_init 15 = .ok (.newarray .int, 2) := by decide +kernel
theorem dX3_init_17 : decode cX3_init 17 = .ok (.putfield 15, 3) := by decide +kernel
theorem dX3_init_20 : decode cX3_init 20 = .ok (.aload_n 0, 1) := by decide +kernel
theorem dX3_init_21 : decode cX3_init 21 = .ok (.iconst 0, 1) := by decide +kernel
theorem dX3_init_22 : decode cX3_init 22 = .ok (.putfield 18, 3) := by decide +kernel
theorem dX3_init_25 : decode cX3_init 25 = .ok (.aload_n 0, 1) := by decide +kernel
theorem dX3_init_26 : decode cX3_init 26 = .ok (.aload_n 1, 1) := by decide +kernel
theorem dX3_init_27 : decode cX3_init 27 = .ok (.putfield 22, 3) := by decide +kernel
theorem dX3_init_30 : decode cX3_init 30 = .ok (.aload_n 0, 1) := by decide +kernel
theorem dX3_init_31 : decode cX3_init 31 = .ok (.aload_n 2, 1) := by decide +kernel
theorem dX3_init_32 : decode cX3_init 32 = .ok (.putfield 26, 3) := by decide +kernel
theorem dX3_init_35 : decode cX3_init 35 = .ok (.aload_n 0, 1) := by decide +kernel
theorem dX3_init_36 : decode cX3_init 36 = .ok (.aload_n 2, 1) := by decide +kernel
theorem dX3_init_37 : decode cX3_init 37 = .ok (.getfield 30, 3) := by decide +kernel
theorem dX3_init_40 : decode cX3_init 40 = .ok (.putfield 36, 3) := by decide +kernel
theorem dX3_init_43 : decode cX3_init 43 = .ok (.aload_n 0, 1) := by decide +kernel
theorem dX3_init_44 : decode cX3_init 44 = .ok (.aload_n 2, 1) := by decide +kernel
theorem dX3_init_45 : decode cX3_init 45 = .ok (.getfield 39, 3) := by decide +kernel
theorem dX3_init_48 : decode cX3_init 48 = .ok (.putfield 42, 3) := by decide +kernel
theorem dX3_init_51 : decode cX3_init 51 = .ok (.return_, 1) := by decide +kernel
theorem dX3_forget_0 : decode cX3_forget 0 = .ok (.aload_n 0, 1) := by decide +kernel
theorem dX3_forget_1 : decode cX3_forget 1 = .ok (.iconst 0, 1) := by decide +kernel
theorem dX3_forget_2 : decode cX3_forget 2 = .ok (.putfield 18, 3) := by decide +kernel
theorem dX3_forget_5 : decode cX3_forget 5 = .ok (.return_, 1) := by decide +kernel
theorem dX3_seek_0 : decode cX3_seek 0 = .ok (.aload_n 0, 1) := by decide +kernel
theorem dX3_seek_1 : decode cX3_seek 1 = .ok (.getfield 18, 3) := by decide +kernel
theorem dX3_seek_4 : decode cX3_seek 4 = .ok (.ifCond .eq 4, 3) := by decide +kernel
theorem dX3_seek_7 : decode cX3_seek 7 = .ok (.return_, 1) := by decide +kernel
theorem dX3_seek_8 : decode cX3_seek 8 = .ok (.iconst 0, 1) := by decide +kernel
theorem dX3_seek_9 : decode cX3_seek 9 = .ok (.istore_n 1, 1) := by decide +kernel
theorem dX3_seek_10 : decode cX3_seek 10 = .ok (.iload_n 1, 1) := by decide +kernel
theorem dX3_seek_11 : decode cX3_seek 11 = .ok (.bipush 15, 2) := by decide +kernel
theorem dX3_seek_13 : decode cX3_seek 13 = .ok (.if_icmp .ge 19, 3) := by decide +kernel
theorem dX3_seek_16 : decode cX3_seek 16 = .ok (.aload_n 0, 1) := by decide +kernel
theorem dX3_seek_17 : decode cX3_seek 17 = .ok (.getfield 9, 3) := by decide +kernel
theorem dX3_seek_20 : decode cX3_seek 20 = .ok (.iload_n 1, 1) := by decide +kernel
theorem dX3_seek_21 : decode cX3_seek 21 = .ok (.bipush 6, 2) := by decide +kernel
theorem dX3_seek_23 : decode cX3_seek 23 = .ok (.invokestatic 45, 3) := by decide +kernel
theorem dX3_seek_26 : decode cX3_seek 26 = .ok (.iinc 1 1, 3) := by decide +kernel
theorem dX3_seek_29 : decode cX3_seek 29 = .ok (.goto (-19), 3) := by decide +kernel
theorem dX3_seek_32 : decode cX3_seek 32 = .ok (.aload_n 0, 1) := by decide +kernel
theorem dX3_seek_33 : decode cX3_seek 33 = .ok (.getfield 42, 3) := by decide +kernel
theorem dX3_seek_36 : decode cX3_seek 36 = .ok (.aload_n 0, 1) := by decide +kernel
theorem dX3_seek_37 : decode cX3_seek 37 = .ok (.getfield 22, 3) := by decide +kernel
theorem dX3_seek_40 : decode cX3_seek 40 = .ok (.invokevirtual 49, 3) := by decide +kernel
theorem dX3_seek_43 : decode cX3_seek 43 = .ok (.aload_n 0, 1) := by decide +kernel
theorem dX3_seek_44 : decode cX3_seek 44 = .ok (.getfield 42, 3) := by decide +kernel
theorem dX3_seek_47 : decode cX3_seek 47 = .ok (.invokevirtual 55, 3) := by decide +kernel
theorem dX3_seek_50 : decode cX3_seek 50 = .ok (.iconst 1, 1) := by decide +kernel
theorem dX3_seek_51 : decode cX3_seek 51 = .ok (.istore_n 1, 1) := by decide +kernel
theorem dX3_seek_52 : decode cX3_seek 52 = .ok (.iconst 0, 1) := by decide +kernel
theorem dX3_seek_53 : decode cX3_seek 53 = .ok (.istore_n 2, 1) := by decide +kernel
theorem dX3_seek_54 : decode cX3_seek 54 = .ok (.iload_n 2, 1) := by decide +kernel
theorem dX3_seek_55 : decode cX3_seek 55 = .ok (.bipush 120, 2) := by decide +kernel
theorem dX3_seek_57 : decode cX3_seek 57 = .ok (.if_icmp .ge 54, 3) := by decide +kernel
theorem dX3_seek_60 : decode cX3_seek 60 = .ok (.iload_n 1, 1) := by decide +kernel
theorem dX3_seek_61 : decode cX3_seek 61 = .ok (.ifCond .eq 50, 3) := by decide +kernel
theorem dX3_seek_64 : decode cX3_seek 64 = .ok (.aload_n 0, 1) := by decide +kernel
theorem dX3_seek_65 : decode cX3_seek 65 = .ok (.getfield 36, 3) := by decide +kernel
theorem dX3_seek_68 : decode cX3_seek 68 = .ok (.invokevirtual 58, 3) := by decide +kernel
theorem dX3_seek_71 : decode cX3_seek 71 = .ok (.aload_n 0, 1) := by decide +kernel
theorem dX3_seek_72 : decode cX3_seek 72 = .ok (.getfield 26, 3) := by decide +kernel
theorem dX3_seek_75 : decode cX3_seek 75 = .ok (.invokevirtual 63, 3) := by decide +kernel
theorem dX3_seek_78 : decode cX3_seek 78 = .ok (.aload_n 0, 1) := by decide +kernel
theorem dX3_seek_79 : decode cX3_seek 79 = .ok (.aload_n 0, 1) := by decide +kernel
theorem dX3_seek_80 : decode cX3_seek 80 = .ok (.getfield 42, 3) := by decide +kernel
theorem dX3_seek_83 : decode cX3_seek 83 = .ok (.aload_n 0, 1) := by decide +kernel
theorem dX3_seek_84 : decode cX3_seek 84 = .ok (.getfield 22, 3) := by decide +kernel
theorem dX3_seek_87 : decode cX3_seek 87 = .ok (.invokevirtual 66, 3) := by decide +kernel
theorem dX3_seek_90 : decode cX3_seek 90 = .ok (.aload_n 0, 1) := by decide +kernel
theorem dX3_seek_91 : decode cX3_seek 91 = .ok (.invokevirtual 70, 3) := by decide +kernel
theorem dX3_seek_94 : decode cX3_seek 94 = .ok (.invokevirtual 74, 3) := by decide +kernel
theorem dX3_seek_97 : decode cX3_seek 97 = .ok (.aload_n 0, 1) := by decide +kernel
theorem dX3_seek_98 : decode cX3_seek 98 = .ok (.getfield 42, 3) := by decide +kernel
theorem dX3_seek_101 : decode cX3_seek 101 = .ok (.invokevirtual 78, 3) := by decide +kernel
theorem dX3_seek_104 : decode cX3_seek 104 = .ok (.istore_n 1, 1) := by decide +kernel
theorem dX3_seek_105 : decode cX3_seek 105 = .ok (.iinc 2 1, 3) := by decide +kernel
theorem dX3_seek_108 : decode cX3_seek 108 = .ok (.goto (-54), 3) := by decide +kernel
theorem dX3_seek_111 : decode cX3_seek 111 = .ok (.aload_n 0, 1) := by decide +kernel
theorem dX3_seek_112 : decode cX3_seek 112 = .ok (.iconst 1, 1) := by decide +kernel
theorem dX3_seek_113 : decode cX3_seek 113 = .ok (.putfield 18, 3) := by decide +kernel
theorem dX3_seek_116 : decode cX3_seek 116 = .ok (.return_, 1) := by decide +kernel
theorem dX3_noteWords_0 : decode cX3_noteWords 0 = .ok (.iconst 0, 1) := by decide +kernel
theorem dX3_noteWords_1 : decode cX3_noteWords 1 = .ok (.istore_n 3, 1) := by decide +kernel
theorem dX3_noteWords_2 : decode cX3_noteWords 2 = .ok (.iload_n 3, 1) := by decide +kernel
theorem dX3_noteWords_3 : decode cX3_noteWords 3 = .ok (.aload_n 0, 1) := by decide +kernel
theorem dX3_noteWords_4 : decode cX3_noteWords 4 = .ok (.getfield 42, 3) := by decide +kernel
theorem dX3_noteWords_7 : decode cX3_noteWords 7 = .ok (.invokevirtual 82, 3) := by decide +kernel
theorem dX3_noteWords_10 : decode cX3_noteWords 10 = .ok (.if_icmp .ge 80, 3) := by decide +kernel
theorem dX3_noteWords_13 : decode cX3_noteWords 13 = .ok (.iload_n 3, 1) := by decide +kernel
theorem dX3_noteWords_14 : decode cX3_noteWords 14 = .ok (.bipush 6, 2) := by decide +kernel
theorem dX3_noteWords_16 : decode cX3_noteWords 16 = .ok (.if_icmp .ge 74, 3) := by decide +kernel
theorem dX3_noteWords_19 : decode cX3_noteWords 19 = .ok (.aload_n 0, 1) := by decide +kernel
theorem dX3_noteWords_20 : decode cX3_noteWords 20 = .ok (.getfield 26, 3) := by decide +kernel
theorem dX3_noteWords_23 : decode cX3_noteWords 23 = .ok (.iload_n 3, 1) := by decide +kernel
theorem dX3_noteWords_24 : decode cX3_noteWords 24 = .ok (.invokevirtual 85, 3) := by decide +kernel
theorem dX3_noteWords_27 : decode cX3_noteWords 27 = .ok (.istore 4, 2) := by decide +kernel
theorem dX3_noteWords_29 : decode cX3_noteWords 29 = .ok (.aload_n 0, 1) := by decide +kernel
theorem dX3_noteWords_30 : decode cX3_noteWords 30 = .ok (.getfield 42, 3) := by decide +kernel
theorem dX3_noteWords_33 : decode cX3_noteWords 33 = .ok (.iload_n 3, 1) := by decide +kernel
theorem dX3_noteWords_34 : decode cX3_noteWords 34 = .ok (.invokevirtual 89, 3) := by decide +kernel
theorem dX3_noteWords_37 : decode cX3_noteWords 37 = .ok (.iload 4, 2) := by decide +kernel
theorem dX3_noteWords_39 : decode cX3_noteWords 39 = .ok (.invokestatic 92, 3) := by decide +kernel
theorem dX3_noteWords_42 : decode cX3_noteWords 42 = .ok (.istore 5, 2) := by decide +kernel
theorem dX3_noteWords_44 : decode cX3_noteWords 44 = .ok (.iload 4, 2) := by decide +kernel
theorem dX3_noteWords_46 : decode cX3_noteWords 46 = .ok (.bipush (-9), 2) := by decide +kernel
theorem dX3_noteWords_48 : decode cX3_noteWords 48 = .ok (.if_icmp .eq 36, 3) := by decide +kernel
theorem dX3_noteWords_51 : decode cX3_noteWords 51 = .ok (.iload_n 1, 1) := by decide +kernel
theorem dX3_noteWords_52 : decode cX3_noteWords 52 = .ok (.aload_n 0, 1) := by decide +kernel
theorem dX3_noteWords_53 : decode cX3_noteWords 53 = .ok (.getfield 9, 3) := by decide +kernel
theorem dX3_noteWords_56 : decode cX3_noteWords 56 = .ok (.iload 5, 2) := by decide +kernel
theorem dX3_noteWords_58 : decode cX3_noteWords 58 = .ok (.invokestatic 98, 3) := by decide +kernel
theorem dX3_noteWords_61 : decode cX3_noteWords 61 = .ok (.if_icmp .ge 23, 3) := by decide +kernel
theorem dX3_noteWords_64 : decode cX3_noteWords 64 = .ok (.aload_n 0, 1) := by decide +kernel
theorem dX3_noteWords_65 : decode cX3_noteWords 65 = .ok (.getfield 9, 3) := by decide +kernel
theorem dX3_noteWords_68 : decode cX3_noteWords 68 = .ok (.iload 5, 2) := by decide +kernel
theorem dX3_noteWords_70 : decode cX3_noteWords 70 = .ok (.iload_n 1, 1) := by decide +kernel
theorem dX3_noteWords_71 : decode cX3_noteWords 71 = .ok (.invokestatic 45, 3) := by decide +kernel
theorem dX3_noteWords_74 : decode cX3_noteWords 74 = .ok (.aload_n 0, 1) := by decide +kernel
theorem dX3_noteWords_75 : decode cX3_noteWords 75 = .ok (.getfield 15, 3) := by decide +kernel
theorem dX3_noteWords_78 : decode cX3_noteWords 78 = .ok (.iload 5, 2) := by decide +kernel
theorem dX3_noteWords_80 : decode cX3_noteWords 80 = .ok (.iload_n 2, 1) := by decide +kernel
theorem dX3_noteWords_81 : decode cX3_noteWords 81 = .ok (.invokestatic 45, 3) := by decide +kernel
theorem dX3_noteWords_84 : decode cX3_noteWords 84 = .ok (.iinc 3 1, 3) := by decide +kernel
theorem dX3_noteWords_87 : decode cX3_noteWords 87 = .ok (.goto (-85), 3) := by decide +kernel
theorem dX3_noteWords_90 : decode cX3_noteWords 90 = .ok (.return_, 1) := by decide +kernel
theorem dX3_packedOrder_0 : decode cX3_packedOrder 0 = .ok (.iconst 0, 1) := by decide +kernel
theorem dX3_packedOrder_1 : decode cX3_packedOrder 1 = .ok (.istore_n 1, 1) := by decide +kernel
theorem dX3_packedOrder_2 : decode cX3_packedOrder 2 = .ok (.iconst 0, 1) := by decide +kernel
theorem dX3_packedOrder_3 : decode cX3_packedOrder 3 = .ok (.istore_n 2, 1) := by decide +kernel
theorem dX3_packedOrder_4 : decode cX3_packedOrder 4 = .ok (.iload_n 2, 1) := by decide +kernel
theorem dX3_packedOrder_5 : decode cX3_packedOrder 5 = .ok (.iconst 5, 1) := by decide +kernel
theorem dX3_packedOrder_6 : decode cX3_packedOrder 6 = .ok (.if_icmp .ge 24, 3) := by decide +kernel
theorem dX3_packedOrder_9 : decode cX3_packedOrder 9 = .ok (.iload_n 1, 1) := by decide +kernel
theorem dX3_packedOrder_10 : decode cX3_packedOrder 10 = .ok (.aload_n 0, 1) := by decide +kernel
theorem dX3_packedOrder_11 : decode cX3_packedOrder 11 = .ok (.getfield 42, 3) := by decide +kernel
theorem dX3_packedOrder_14 : decode cX3_packedOrder 14 = .ok (.iload_n 2, 1) := by decide +kernel
theorem dX3_packedOrder_15 : decode cX3_packedOrder 15 = .ok (.invokevirtual 102, 3) := by decide +kernel
theorem dX3_packedOrder_18 : decode cX3_packedOrder 18 = .ok (.iload_n 2, 1) := by decide +kernel
theorem dX3_packedOrder_19 : decode cX3_packedOrder 19 = .ok (.iconst 3, 1) := by decide +kernel
theorem dX3_packedOrder_20 : decode cX3_packedOrder 20 = .ok (.imul, 1) := by decide +kernel
theorem dX3_packedOrder_21 : decode cX3_packedOrder 21 = .ok (.ishl, 1) := by decide +kernel
theorem dX3_packedOrder_22 : decode cX3_packedOrder 22 = .ok (.ior, 1) := by decide +kernel
theorem dX3_packedOrder_23 : decode cX3_packedOrder 23 = .ok (.istore_n 1, 1) := by decide +kernel
theorem dX3_packedOrder_24 : decode cX3_packedOrder 24 = .ok (.iinc 2 1, 3) := by decide +kernel
theorem dX3_packedOrder_27 : decode cX3_packedOrder 27 = .ok (.goto (-23), 3) := by decide +kernel
theorem dX3_packedOrder_30 : decode cX3_packedOrder 30 = .ok (.iload_n 1, 1) := by decide +kernel
theorem dX3_packedOrder_31 : decode cX3_packedOrder 31 = .ok (.ireturn, 1) := by decide +kernel
theorem dX3_isFound_0 : decode cX3_isFound 0 = .ok (.aload_n 0, 1) := by decide +kernel
theorem dX3_isFound_1 : decode cX3_isFound 1 = .ok (.iload_n 1, 1) := by decide +kernel
theorem dX3_isFound_2 : decode cX3_isFound 2 = .ok (.iload_n 2, 1) := by decide +kernel
theorem dX3_isFound_3 : decode cX3_isFound 3 = .ok (.invokevirtual 105, 3) := by decide +kernel
theorem dX3_isFound_6 : decode cX3_isFound 6 = .ok (.bipush 6, 2) := by decide +kernel
theorem dX3_isFound_8 : decode cX3_isFound 8 = .ok (.if_icmp .ge 7, 3) := by decide +kernel
theorem dX3_isFound_11 : decode cX3_isFound 11 = .ok (.iconst 1, 1) := by decide +kernel
theorem dX3_isFound_12 : decode cX3_isFound 12 = .ok (.goto 4, 3) := by decide +kernel
theorem dX3_isFound_15 : decode cX3_isFound 15 = .ok (.iconst 0, 1) := by decide +kernel
theorem dX3_isFound_16 : decode cX3_isFound 16 = .ok (.ireturn, 1) := by decide +kernel
theorem dX3_changesFor_0 : decode cX3_changesFor 0 = .ok (.aload_n 0, 1) := by decide +kernel
theorem dX3_changesFor_1 : decode cX3_changesFor 1 = .ok (.getfield 9, 3) := by decide +kernel
theorem dX3_changesFor_4 : decode cX3_changesFor 4 = .ok (.iload_n 1, 1) := by decide +kernel
theorem dX3_changesFor_5 : decode cX3_changesFor 5 = .ok (.iload_n 2, 1) := by decide +kernel
theorem dX3_changesFor_6 : decode cX3_changesFor 6 = .ok (.invokestatic 92, 3) := by decide +kernel
theorem dX3_changesFor_9 : decode cX3_changesFor 9 = .ok (.invokestatic 98, 3) := by decide +kernel
theorem dX3_changesFor_12 : decode cX3_changesFor 12 = .ok (.ireturn, 1) := by decide +kernel
theorem dX3_whoFor_0 : decode cX3_whoFor 0 = .ok (.aload_n 0, 1) := by decide +kernel
theorem dX3_whoFor_1 : decode cX3_whoFor 1 = .ok (.getfield 15, 3) := by decide +kernel
theorem dX3_whoFor_4 : decode cX3_whoFor 4 = .ok (.iload_n 1, 1) := by decide +kernel
theorem dX3_whoFor_5 : decode cX3_whoFor 5 = .ok (.iload_n 2, 1) := by decide +kernel
theorem dX3_whoFor_6 : decode cX3_whoFor 6 = .ok (.invokestatic 92, 3) := by decide +kernel
theorem dX3_whoFor_9 : decode cX3_whoFor 9 = .ok (.invokestatic 98, 3) := by decide +kernel
theorem dX3_whoFor_12 : decode cX3_whoFor 12 = .ok (.istore 4, 2) := by decide +kernel
theorem dX3_whoFor_14 : decode cX3_whoFor 14 = .ok (.iload 4, 2) := by decide +kernel
theorem dX3_whoFor_16 : decode cX3_whoFor 16 = .ok (.iload_n 3, 1) := by decide +kernel
theorem dX3_whoFor_17 : decode cX3_whoFor 17 = .ok (.iconst 3, 1) := by decide +kernel
theorem dX3_whoFor_18 : decode cX3_whoFor 18 = .ok (.imul, 1) := by decide +kernel
theorem dX3_whoFor_19 : decode cX3_whoFor 19 = .ok (.ishr, 1) := by decide +kernel
theorem dX3_whoFor_20 : decode cX3_whoFor 20 = .ok (.bipush 7, 2) := by decide +kernel
theorem dX3_whoFor_22 : decode cX3_whoFor 22 = .ok (.iand, 1) := by decide +kernel
theorem dX3_whoFor_23 : decode cX3_whoFor 23 = .ok (.ireturn, 1) := by decide +kernel
theorem dX4_init_0 : decode cX4_init 0 = .ok (.aload_n 0, 1) := by decide +kernel
theorem dX4_init_1 : decode cX4_init 1 = .ok (.invokespecial 3, 3) := by decide +kernel
theorem dX4_init_4 : decode cX4_init 4 = .ok (.aload_n 0, 1) := by decide +kernel
theorem dX4_init_5 : decode cX4_init 5 = .ok (.iconst 0, 1) := by decide +kernel
theorem dX4_init_6 : decode cX4_init 6 = .ok (.putfield 9, 3) := by decide +kernel
theorem dX4_init_9 : decode cX4_init 9 = .ok (.aload_n 0, 1) := by decide +kernel
theorem dX4_init_10 : decode cX4_init 10 = .ok (.iconst 0, 1) := by decide +kernel
theorem dX4_init_11 : decode cX4_init 11 = .ok (.putfield 15, 3) := by decide +kernel
theorem dX4_init_14 : decode cX4_init 14 = .ok (.aload_n 0, 1) := by decide +kernel
theorem dX4_init_15 : decode cX4_init 15 = .ok (.iconst 0, 1) := by decide +kernel
theorem dX4_init_16 : decode cX4_init 16 = .ok (.putfield 18, 3) := by decide +kernel
theorem dX4_init_19 : decode cX4_init 19 = .ok (.aload_n 0, 1) := by decide +kernel
theorem dX4_init_20 : decode cX4_init 20 = .ok (.iconst 5, 1) := by decide +kernel
theorem dX4_init_21 : decode cX4_init 21 = .ok (.newarray .int, 2) := by decide +kernel
theorem dX4_init_23 : decode cX4_init 23 = .ok (.putfield 21, 3) := by decide +kernel
theorem dX4_init_26 : decode cX4_init 26 = .ok (.aload_n 0, 1) := by decide +kernel
theorem dX4_init_27 : decode cX4_init 27 = .ok (.iconst 5, 1) := by decide +kernel
theorem dX4_init_28 : decode cX4_init 28 = .ok (.newarray .int, 2) := by decide +kernel
theorem dX4_init_30 : decode cX4_init 30 = .ok (.putfield 25, 3) := by decide +kernel
theorem dX4_init_33 : decode cX4_init 33 = .ok (.aload_n 0, 1) := by decide +kernel
theorem dX4_init_34 : decode cX4_init 34 = .ok (.bipush 15, 2) := by decide +kernel
theorem dX4_init_36 : decode cX4_init 36 = .ok (.newarray .int, 2) := by decide +kernel
theorem dX4_init_38 : decode cX4_init 38 = .ok (.putfield 28, 3) := by decide +kernel
theorem dX4_init_41 : decode cX4_init 41 = .ok (.aload_n 0, 1) := by decide +kernel
theorem dX4_init_42 : decode cX4_init 42 = .ok (.bipush 15, 2) := by decide +kernel
theorem dX4_init_44 : decode cX4_init 44 = .ok (.newarray .int, 2) := by decide +kernel
theorem dX4_init_46 : decode cX4_init 46 = .ok (.putfield 31, 3) := by decide +kernel
theorem dX4_init_49 : decode cX4_init 49 = .ok (.aload_n 0, 1) := by decide +kernel
theorem dX4_init_50 : decode cX4_init 50 = .ok (.bipush 15, 2) := by decide +kernel
theorem dX4_init_52 : decode cX4_init 52 = .ok (.newarray .int, 2) := by decide +kernel
theorem dX4_init_54 : decode cX4_init 54 = .ok (.putfield 34, 3) := by decide +kernel
theorem dX4_init_57 : decode cX4_init 57 = .ok (.aload_n 0, 1) := by decide +kernel
theorem dX4_init_58 : decode cX4_init 58 = .ok (.bipush 15, 2) := by decide +kernel
theorem dX4_init_60 : decode cX4_init 60 = .ok (.newarray .long, 2) := by decide +kernel
theorem dX4_init_62 : decode cX4_init 62 = .ok (.putfield 37, 3) := by decide +kernel
theorem dX4_init_65 : decode cX4_init 65 = .ok (.return_, 1) := by decide +kernel
theorem dX4_begin_0 : decode cX4_begin 0 = .ok (.aload_n 0, 1) := by decide +kernel
theorem dX4_begin_1 : decode cX4_begin 1 = .ok (.iconst 0, 1) := by decide +kernel
theorem dX4_begin_2 : decode cX4_begin 2 = .ok (.putfield 9, 3) := by decide +kernel
theorem dX4_begin_5 : decode cX4_begin 5 = .ok (.aload_n 0, 1) := by decide +kernel
theorem dX4_begin_6 : decode cX4_begin 6 = .ok (.iload_n 1, 1) := by decide +kernel
theorem dX4_begin_7 : decode cX4_begin 7 = .ok (.putfield 15, 3) := by decide +kernel
theorem dX4_begin_10 : decode cX4_begin 10 = .ok (.aload_n 0, 1) := by decide +kernel
theorem dX4_begin_11 : decode cX4_begin 11 = .ok (.iload_n 2, 1) := by decide +kernel
theorem dX4_begin_12 : decode cX4_begin 12 = .ok (.putfield 18, 3) := by decide +kernel
theorem dX4_begin_15 : decode cX4_begin 15 = .ok (.return_, 1) := by decide +kernel
theorem dX4_addSpeaker_0 : decode cX4_addSpeaker 0 = .ok (.aload_n 0, 1) := by decide +kernel
theorem dX4_addSpeaker_1 : decode cX4_addSpeaker 1 = .ok (.getfield 9, 3) := by decide +kernel
theorem dX4_addSpeaker_4 : decode cX4_addSpeaker 4 = .ok (.iconst 5, 1) := by decide +kernel
theorem dX4_addSpeaker_5 : decode cX4_addSpeaker 5 = .ok (.if_icmp .ge 37, 3) := by decide +kernel
theorem dX4_addSpeaker_8 : decode cX4_addSpeaker 8 = .ok (.aload_n 0, 1) := by decide +kernel
theorem dX4_addSpeaker_9 : decode cX4_addSpeaker 9 = .ok (.getfield 21, 3) := by decide +kernel
theorem dX4_addSpeaker_12 : decode cX4_addSpeaker 12 = .ok (.aload_n 0, 1) := by decide +kernel
theorem dX4_addSpeaker_13 : decode cX4_addSpeaker 13 = .ok (.getfield 9, 3) := by decide +kernel
theorem dX4_addSpeaker_16 : decode cX4_addSpeaker 16 = .ok (.iload_n 1, 1) := by decide +kernel
theorem dX4_addSpeaker_17 : decode cX4_addSpeaker 17 = .ok (.invokestatic 41, 3) := by decide +kernel
theorem dX4_addSpeaker_20 : decode cX4_addSpeaker 20 = .ok (.aload_n 0, 1) := by decide +kernel
theorem dX4_addSpeaker_21 : decode cX4_addSpeaker 21 = .ok (.getfield 25, 3) := by decide +kernel
theorem dX4_addSpeaker_24 : decode cX4_addSpeaker 24 = .ok (.aload_n 0, 1) := by decide +kernel
theorem dX4_addSpeaker_25 : decode cX4_addSpeaker 25 = .ok (.getfield 9, 3) := by decide +kernel
theorem dX4_addSpeaker_28 : decode cX4_addSpeaker 28 = .ok (.iconst 0, 1) := by decide +kernel
theorem dX4_addSpeaker_29 : decode cX4_addSpeaker 29 = .ok (.invokestatic 41, 3) := by decide +kernel
theorem dX4_addSpeaker_32 : decode cX4_addSpeaker 32 = .ok (.aload_n 0, 1) := by decide +kernel
theorem dX4_addSpeaker_33 : decode cX4_addSpeaker 33 = .ok (.dup, 1) := by decide +kernel
theorem dX4_addSpeaker_34 : decode cX4_addSpeaker 34 = .ok (.getfield 9, 3) := by decide +kernel
theorem dX4_addSpeaker_37 : decode cX4_addSpeaker 37 = .ok (.iconst 1, 1) := by decide +kernel
theorem dX4_addSpeaker_38 : decode cX4_addSpeaker 38 = .ok (.iadd, 1) := by decide +kernel
theorem dX4_addSpeaker_39 : decode cX4_addSpeaker 39 = .ok (.putfield 9, 3) := by decide +kernel
theorem dX4_addSpeaker_42 : decode cX4_addSpeaker 42 = .ok (.return_, 1) := by decide +kernel
theorem dX4_addWord_0 : decode cX4_addWord 0 = .ok (.aload_n 0, 1) := by decide +kernel
theorem dX4_addWord_1 : decode cX4_addWord 1 = .ok (.getfield 9, 3) := by decide +kernel
theorem dX4_addWord_4 : decode cX4_addWord 4 = .ok (.iconst 1, 1) := by decide +kernel
theorem dX4_addWord_5 : decode cX4_addWord 5 = .ok (.isub, 1) := by decide +kernel
theorem dX4_addWord_6 : decode cX4_addWord 6 = .ok (.istore 4, 2) := by decide +kernel
theorem dX4_addWord_8 : decode cX4_addWord 8 = .ok (.aload_n 0, 1) := by decide +kernel
theorem dX4_addWord_9 : decode cX4_addWord 9 = .ok (.iload 4, 2) := by decide +kernel
theorem dX4_addWord_11 : decode cX4_addWord 11 = .ok (.invokevirtual 45, 3) := by decide +kernel
theorem dX4_addWord_14 : decode cX4_addWord 14 = .ok (.istore 5, 2) := by decide +kernel
theorem dX4_addWord_16 : decode cX4_addWord 16 = .ok (.iload 4, 2) := by decide +kernel
theorem dX4_addWord_18 : decode cX4_addWord 18 = .ok (.ifCond .lt 61, 3) := by decide +kernel
theorem dX4_addWord_21 : decode cX4_addWord 21 = .ok (.iload 5, 2) := by decide +kernel
theorem dX4_addWord_23 : decode cX4_addWord 23 = .ok (.iconst 3, 1) := by decide +kernel
theorem dX4_addWord_24 : decode cX4_addWord 24 = .ok (.if_icmp .ge 55, 3) := by decide +kernel
theorem dX4_addWord_27 : decode cX4_addWord 27 = .ok (.iload 4, 2) := by decide +kernel
theorem dX4_addWord_29 : decode cX4_addWord 29 = .ok (.iload 5, 2) := by decide +kernel
theorem dX4_addWord_31 : decode cX4_addWord 31 = .ok (.invokestatic 49, 3) := by decide +kernel
theorem dX4_addWord_34 : decode cX4_addWord 34 = .ok (.istore 6, 2) := by decide +kernel
theorem dX4_addWord_36 : decode cX4_addWord 36 = .ok (.aload_n 0, 1) := by decide +kernel
theorem dX4_addWord_37 : decode cX4_addWord 37 = .ok (.getfield 28, 3) := by decide +kernel
theorem dX4_addWord_40 : decode cX4_addWord 40 = .ok (.iload 6, 2) := by decide +kernel
theorem dX4_addWord_42 : decode cX4_addWord 42 = .ok (.iload_n 1, 1) := by decide +kernel
theorem dX4_addWord_43 : decode cX4_addWord 43 = .ok (.invokestatic 41, 3) := by decide +kernel
theorem dX4_addWord_46 : decode cX4_addWord 46 = .ok (.aload_n 0, 1) := by decide +kernel
theorem dX4_addWord_47 : decode cX4_addWord 47 = .ok (.getfield 31, 3) := by decide +kernel
theorem dX4_addWord_50 : decode cX4_addWord 50 = .ok (.iload 6, 2) := by decide +kernel
theorem dX4_addWord_52 : decode cX4_addWord 52 = .ok (.iload_n 2, 1) := by decide +kernel
theorem dX4_addWord_53 : decode cX4_addWord 53 = .ok (.invokestatic 41, 3) := by decide +kernel
theorem dX4_addWord_56 : decode cX4_addWord 56 = .ok (.aload_n 0, 1) := by decide +kernel
theorem dX4_addWord_57 : decode cX4_addWord 57 = .ok (.getfield 34, 3) := by decide +kernel
theorem dX4_addWord_60 : decode cX4_addWord 60 = .ok (.iload 6, 2) := by decide +kernel
theorem dX4_addWord_62 : decode cX4_addWord 62 = .ok (.iload_n 3, 1) := by decide +kernel
theorem dX4_addWord_63 : decode cX4_addWord 63 = .ok (.invokestatic 41, 3) := by decide +kernel
theorem dX4_addWord_66 : decode cX4_addWord 66 = .ok (.aload_n 0, 1) := by decide +kernel
theorem dX4_addWord_67 : decode cX4_addWord 67 = .ok (.getfield 25, 3) := by decide +kernel
theorem dX4_addWord_70 : decode cX4_addWord 70 = .ok (.iload 4, 2) := by decide +kernel
theorem dX4_addWord_72 : decode cX4_addWord 72 = .ok (.iload 5, 2) := by decide +kernel
theorem dX4_addWord_74 : decode cX4_addWord 74 = .ok (.iconst 1, 1) := by decide +kernel
theorem dX4_addWord_75 : decode cX4_addWord 75 = .ok (.iadd, 1) := by decide +kernel
theorem dX4_addWord_76 : decode cX4_addWord 76 = .ok (.invokestatic 41, 3) := by decide +kernel
theorem dX4_addWord_79 : decode cX4_addWord 79 = .ok (.return_, 1) := by decide +kernel
theorem dX4_become_0 : decode cX4_become 0 = .ok (.aload_n 0, 1) := by decide +kernel
theorem dX4_become_1 : decode cX4_become 1 = .ok (.aload_n 1, 1) := by decide +kernel
theorem dX4_become_2 : decode cX4_become 2 = .ok (.getfield 15, 3) := by decide +kernel
theorem dX4_become_5 : decode cX4_become 5 = .ok (.aload_n 1, 1) := by decide +kernel
theorem dX4_become_6 : decode cX4_become 6 = .ok (.getfield 18, 3) := by decide +kernel
theorem dX4_become_9 : decode cX4_become 9 = .ok (.invokevirtual 53, 3) := by decide +kernel
theorem dX4_become_12 : decode cX4_become 12 = .ok (.iconst 0, 1) := by decide +kernel
theorem dX4_become_13 : decode cX4_become 13 = .ok (.istore_n 2, 1) := by decide +kernel
theorem dX4_become_14 : decode cX4_become 14 = .ok (.iload_n 2, 1) := by decide +kernel
theorem dX4_become_15 : decode cX4_become 15 = .ok (.aload_n 1, 1) := by decide +kernel
theorem dX4_become_16 : decode cX4_become 16 = .ok (.getfield 9, 3) := by decide +kernel
theorem dX4_become_19 : decode cX4_become 19 = .ok (.if_icmp .ge 67, 3) := by decide +kernel
theorem dX4_become_22 : decode cX4_become 22 = .ok (.iload_n 2, 1) := by decide +kernel
theorem dX4_become_23 : decode cX4_become 23 = .ok (.iconst 5, 1) := by decide +kernel
theorem dX4_become_24 : decode cX4_become 24 = .ok (.if_icmp .ge 62, 3) := by decide +kernel
theorem dX4_become_27 : decode cX4_become 27 = .ok (.aload_n 0, 1) := by decide +kernel
theorem dX4_become_28 : decode cX4_become 28 = .ok (.aload_n 1, 1) := by decide +kernel
theorem dX4_become_29 : decode cX4_become 29 = .ok (.iload_n 2, 1) := by decide +kernel
theorem dX4_become_30 : decode cX4_become 30 = .ok (.invokevirtual 57, 3) := by decide +kernel
theorem dX4_become_33 : decode cX4_become 33 = .ok (.invokevirtual 60, 3) := by decide +kernel
theorem dX4_become_36 : decode cX4_become 36 = .ok (.iconst 0, 1) := by decide +kernel
theorem dX4_become_37 : decode cX4_become 37 = .ok (.istore_n 3, 1) := by decide +kernel
theorem dX4_become_38 : decode cX4_become 38 = .ok (.iload_n 3, 1) := by decide +kernel
theorem dX4_become_39 : decode cX4_become 39 = .ok (.aload_n 1, 1) := by decide +kernel
theorem dX4_become_40 : decode cX4_become 40 = .ok (.iload_n 2, 1) := by decide +kernel
theorem dX4_become_41 : decode cX4_become 41 = .ok (.invokevirtual 45, 3) := by decide +kernel
theorem dX4_become_44 : decode cX4_become 44 = .ok (.if_icmp .ge 36, 3) := by decide +kernel
theorem dX4_become_47 : decode cX4_become 47 = .ok (.iload_n 3, 1) := by decide +kernel
theorem dX4_become_48 : decode cX4_become 48 = .ok (.iconst 3, 1) := by decide +kernel
theorem dX4_become_49 : decode cX4_become 49 = .ok (.if_icmp .ge 31, 3) := by decide +kernel
theorem dX4_become_52 : decode cX4_become 52 = .ok (.aload_n 0, 1) := by decide +kernel
theorem dX4_become_53 : decode cX4_become 53 = .ok (.aload_n 1, 1) := by decide +kernel
theorem dX4_become_54 : decode cX4_become 54 = .ok (.iload_n 2, 1) := by decide +kernel
theorem dX4_become_55 : decode cX4_become 55 = .ok (.iload_n 3, 1) := by decide +kernel
theorem dX4_become_56 : decode cX4_become 56 = .ok (.invokevirtual 64, 3) := by decide +kernel
theorem dX4_become_59 : decode cX4_become 59 = .ok (.aload_n 1, 1) := by decide +kernel
theorem dX4_become_60 : decode cX4_become 60 = .ok (.iload_n 2, 1) := by decide +kernel
theorem dX4_become_61 : decode cX4_become 61 = .ok (.iload_n 3, 1) := by decide +kernel
theorem dX4_become_62 : decode cX4_become 62 = .ok (.invokevirtual 67, 3) := by decide +kernel
theorem dX4_become_65 : decode cX4_become 65 = .ok (.aload_n 1, 1) := by decide +kernel
theorem dX4_become_66 : decode cX4_become 66 = .ok (.iload_n 2, 1) := by decide +kernel
theorem dX4_become_67 : decode cX4_become 67 = .ok (.iload_n 3, 1) := by decide +kernel
theorem dX4_become_68 : decode cX4_become 68 = .ok (.invokevirtual 70, 3) := by decide +kernel
theorem dX4_become_71 : decode cX4_become 71 = .ok (.invokevirtual 73, 3) := by decide +kernel
theorem dX4_become_74 : decode cX4_become 74 = .ok (.iinc 3 1, 3) := by decide +kernel
theorem dX4_become_77 : decode cX4_become 77 = .ok (.goto (-39), 3) := by decide +kernel
theorem dX4_become_80 : decode cX4_become 80 = .ok (.iinc 2 1, 3) := by decide +kernel
theorem dX4_become_83 : decode cX4_become 83 = .ok (.goto (-69), 3) := by decide +kernel
theorem dX4_become_86 : decode cX4_become 86 = .ok (.iconst 0, 1) := by decide +kernel
theorem dX4_become_87 : decode cX4_become 87 = .ok (.istore_n 2, 1) := by decide +kernel
theorem dX4_become_88 : decode cX4_become 88 = .ok (.iload_n 2, 1) := by decide +kernel
theorem dX4_become_89 : decode cX4_become 89 = .ok (.bipush 15, 2) := by decide +kernel
theorem dX4_become_91 : decode cX4_become 91 = .ok (.if_icmp .ge 25, 3) := by decide +kernel
theorem dX4_become_94 : decode cX4_become 94 = .ok (.aload_n 0, 1) := by decide +kernel
theorem dX4_become_95 : decode cX4_become 95 = .ok (.getfield 37, 3) := by decide +kernel
theorem dX4_become_98 : decode cX4_become 98 = .ok (.iload_n 2, 1) := by decide +kernel
theorem dX4_become_99 : decode cX4_become 99 = .ok (.aload_n 0, 1) := by decide +kernel
theorem dX4_become_100 : decode cX4_become 100 = .ok (.iload_n 2, 1) := by decide +kernel
theorem dX4_become_101 : decode cX4_become 101 = .ok (.iconst 3, 1) := by decide +kernel
theorem dX4_become_102 : decode cX4_become 102 = .ok (.idiv, 1) := by decide +kernel
theorem dX4_become_103 : decode cX4_become 103 = .ok (.iload_n 2, 1) := by decide +kernel
theorem dX4_become_104 : decode cX4_become 104 = .ok (.invokevirtual 77, 3) := by decide +kernel
theorem dX4_become_107 : decode cX4_become 107 = .ok (.invokestatic 81, 3) := by decide +kernel
theorem dX4_become_110 : decode cX4_become 110 = .ok (.iinc 2 1, 3) := by decide +kernel
theorem dX4_become_113 : decode cX4_become 113 = .ok (.goto (-25), 3) := by decide +kernel
theorem dX4_become_116 : decode cX4_become 116 = .ok (.return_, 1) := by decide +kernel
theorem dX4_gainOf_0 : decode cX4_gainOf 0 = .ok (.lconst 0, 1) := by decide +kernel
theorem dX4_gainOf_1 : decode cX4_gainOf 1 = .ok (.lstore_n 3, 1) := by decide +kernel
theorem dX4_gainOf_2 : decode cX4_gainOf 2 = .ok (.iconst 0, 1) := by decide +kernel
theorem dX4_gainOf_3 : decode cX4_gainOf 3 = .ok (.istore 5, 2) := by decide +kernel
theorem dX4_gainOf_5 : decode cX4_gainOf 5 = .ok (.iload 5, 2) := by decide +kernel
theorem dX4_gainOf_7 : decode cX4_gainOf 7 = .ok (.aload_n 0, 1) := by decide +kernel
theorem dX4_gainOf_8 : decode cX4_gainOf 8 = .ok (.getfield 9, 3) := by decide +kernel
theorem dX4_gainOf_11 : decode cX4_gainOf 11 = .ok (.if_icmp .ge 55, 3) := by decide +kernel
theorem dX4_gainOf_14 : decode cX4_gainOf 14 = .ok (.iload 5, 2) := by decide +kernel
theorem dX4_gainOf_16 : decode cX4_gainOf 16 = .ok (.iconst 5, 1) := by decide +kernel
theorem dX4_gainOf_17 : decode cX4_gainOf 17 = .ok (.if_icmp .ge 49, 3) := by decide +kernel
theorem dX4_gainOf_20 : decode cX4_gainOf 20 = .ok (.iload 5, 2) := by decide +kernel
theorem dX4_gainOf_22 : decode cX4_gainOf 22 = .ok (.iload_n 1, 1) := by decide +kernel
theorem dX4_gainOf_23 : decode cX4_gainOf 23 = .ok (.if_icmp .ne 15, 3) := by decide +kernel
theorem dX4_gainOf_26 : decode cX4_gainOf 26 = .ok (.aload_n 0, 1) := by decide +kernel
theorem dX4_gainOf_27 : decode cX4_gainOf 27 = .ok (.getfield 31, 3) := by decide +kernel
theorem dX4_gainOf_30 : decode cX4_gainOf 30 = .ok (.iload_n 2, 1) := by decide +kernel
theorem dX4_gainOf_31 : decode cX4_gainOf 31 = .ok (.invokestatic 85, 3) := by decide +kernel
theorem dX4_gainOf_34 : decode cX4_gainOf 34 = .ok (.i2l, 1) := by decide +kernel
theorem dX4_gainOf_35 : decode cX4_gainOf 35 = .ok (.goto 12, 3) := by decide +kernel
theorem dX4_gainOf_38 : decode cX4_gainOf 38 = .ok (.aload_n 0, 1) := by decide +kernel
theorem dX4_gainOf_39 : decode cX4_gainOf 39 = .ok (.getfield 34, 3) := by decide +kernel
theorem dX4_gainOf_42 : decode cX4_gainOf 42 = .ok (.iload_n 2, 1) := by decide +kernel
theorem dX4_gainOf_43 : decode cX4_gainOf 43 = .ok (.invokestatic 85, 3) := by decide +kernel
theorem dX4_gainOf_46 : decode cX4_gainOf 46 = .ok (.i2l, 1) := by decide +kernel
theorem dX4_gainOf_47 : decode cX4_gainOf 47 = .ok (.lstore 6, 2) := by decide +kernel
theorem dX4_gainOf_49 : decode cX4_gainOf 49 = .ok (.lload_n 3, 1) := by decide +kernel
theorem dX4_gainOf_50 : decode cX4_gainOf 50 = .ok (.lload 6, 2) := by decide +kernel
theorem dX4_gainOf_52 : decode cX4_gainOf 52 = .ok (.iload 5, 2) := by decide +kernel
theorem dX4_gainOf_54 : decode cX4_gainOf 54 = .ok (.bipush 8, 2) := by decide +kernel
theorem dX4_gainOf_56 : decode cX4_gainOf 56 = .ok (.imul, 1) := by decide +kernel
theorem dX4_gainOf_57 : decode cX4_gainOf 57 = .ok (.lshl, 1) := by decide +kernel
theorem dX4_gainOf_58 : decode cX4_gainOf 58 = .ok (.lor, 1) := by decide +kernel
theorem dX4_gainOf_59 : decode cX4_gainOf 59 = .ok (.lstore_n 3, 1) := by decide +kernel
theorem dX4_gainOf_60 : decode cX4_gainOf 60 = .ok (.iinc 5 1, 3) := by decide +kernel
theorem dX4_gainOf_63 : decode cX4_gainOf 63 = .ok (.goto (-58), 3) := by decide +kernel
theorem dX4_gainOf_66 : decode cX4_gainOf 66 = .ok (.lload_n 3, 1) := by decide +kernel
theorem dX4_gainOf_67 : decode cX4_gainOf 67 = .ok (.lreturn, 1) := by decide +kernel
theorem dX4_has_0 : decode cX4_has 0 = .ok (.iload_n 1, 1) := by decide +kernel
theorem dX4_has_1 : decode cX4_has 1 = .ok (.ifCond .lt 15, 3) := by decide +kernel
theorem dX4_has_4 : decode cX4_has 4 = .ok (.iload_n 1, 1) := by decide +kernel
theorem dX4_has_5 : decode cX4_has 5 = .ok (.aload_n 0, 1) := by decide +kernel
theorem dX4_has_6 : decode cX4_has 6 = .ok (.getfield 9, 3) := by decide +kernel
theorem dX4_has_9 : decode cX4_has 9 = .ok (.if_icmp .ge 7, 3) := by decide +kernel
theorem dX4_has_12 : decode cX4_has 12 = .ok (.iconst 1, 1) := by decide +kernel
theorem dX4_has_13 : decode cX4_has 13 = .ok (.goto 4, 3) := by decide +kernel
theorem dX4_has_16 : decode cX4_has 16 = .ok (.iconst 0, 1) := by decide +kernel
theorem dX4_has_17 : decode cX4_has 17 = .ok (.ireturn, 1) := by decide +kernel
theorem dX4_hasWord_0 : decode cX4_hasWord 0 = .ok (.aload_n 0, 1) := by decide +kernel
theorem dX4_hasWord_1 : decode cX4_hasWord 1 = .ok (.iload_n 1, 1) := by decide +kernel
theorem dX4_hasWord_2 : decode cX4_hasWord 2 = .ok (.invokevirtual 89, 3) := by decide +kernel
theorem dX4_hasWord_5 : decode cX4_hasWord 5 = .ok (.ifCond .eq 20, 3) := by decide +kernel
theorem dX4_hasWord_8 : decode cX4_hasWord 8 = .ok (.iload_n 2, 1) := by decide +kernel
theorem dX4_hasWord_9 : decode cX4_hasWord 9 = .ok (.ifCond .lt 16, 3) := by decide +kernel
theorem dX4_hasWord_12 : decode cX4_hasWord 12 = .ok (.iload_n 2, 1) := by decide +kernel
theorem dX4_hasWord_13 : decode cX4_hasWord 13 = .ok (.aload_n 0, 1) := by decide +kernel
theorem dX4_hasWord_14 : decode cX4_hasWord 14 = .ok (.iload_n 1, 1) := by decide +kernel
theorem dX4_hasWord_15 : decode cX4_hasWord 15 = .ok (.invokevirtual 45, 3) := by decide +kernel
theorem dX4_hasWord_18 : decode cX4_hasWord 18 = .ok (.if_icmp .ge 7, 3) := by decide +kernel
theorem dX4_hasWord_21 : decode cX4_hasWord 21 = .ok (.iconst 1, 1) := by decide +kernel
theorem dX4_hasWord_22 : decode cX4_hasWord 22 = .ok (.goto 4, 3) := by decide +kernel
theorem dX4_hasWord_25 : decode cX4_hasWord 25 = .ok (.iconst 0, 1) := by decide +kernel
theorem dX4_hasWord_26 : decode cX4_hasWord 26 = .ok (.ireturn, 1) := by decide +kernel
theorem dX4_placeOfWord_0 : decode cX4_placeOfWord 0 = .ok (.iload_n 0, 1) := by decide +kernel
theorem dX4_placeOfWord_1 : decode cX4_placeOfWord 1 = .ok (.iconst 3, 1) := by decide +kernel
theorem dX4_placeOfWord_2 : decode cX4_placeOfWord 2 = .ok (.imul, 1) := by decide +kernel
theorem dX4_placeOfWord_3 : decode cX4_placeOfWord 3 = .ok (.iload_n 1, 1) := by decide +kernel
theorem dX4_placeOfWord_4 : decode cX4_placeOfWord 4 = .ok (.iadd, 1) := by decide +kernel
theorem dX4_placeOfWord_5 : decode cX4_placeOfWord 5 = .ok (.ireturn, 1) := by decide +kernel
theorem dX4_kindOf_0 : decode cX4_kindOf 0 = .ok (.aload_n 0, 1) := by decide +kernel
theorem dX4_kindOf_1 : decode cX4_kindOf 1 = .ok (.getfield 21, 3) := by decide +kernel
theorem dX4_kindOf_4 : decode cX4_kindOf 4 = .ok (.iload_n 1, 1) := by decide +kernel
theorem dX4_kindOf_5 : decode cX4_kindOf 5 = .ok (.invokestatic 85, 3) := by decide +kernel
theorem dX4_kindOf_8 : decode cX4_kindOf 8 = .ok (.ireturn, 1) := by decide +kernel
theorem dX4_wordsOf_0 : decode cX4_wordsOf 0 = .ok (.aload_n 0, 1) := by decide +kernel
theorem dX4_wordsOf_1 : decode cX4_wordsOf 1 = .ok (.getfield 25, 3) := by decide +kernel
theorem dX4_wordsOf_4 : decode cX4_wordsOf 4 = .ok (.iload_n 1, 1) := by decide +kernel
theorem dX4_wordsOf_5 : decode cX4_wordsOf 5 = .ok (.invokestatic 85, 3) := by decide +kernel
theorem dX4_wordsOf_8 : decode cX4_wordsOf 8 = .ok (.ireturn, 1) := by decide +kernel
theorem dX4_lengthOf_0 : decode cX4_lengthOf 0 = .ok (.aload_n 0, 1) := by decide +kernel
theorem dX4_lengthOf_1 : decode cX4_lengthOf 1 = .ok (.getfield 28, 3) := by decide +kernel
theorem dX4_lengthOf_4 : decode cX4_lengthOf 4 = .ok (.iload_n 1, 1) := by decide +kernel
theorem dX4_lengthOf_5 : decode cX4_lengthOf 5 = .ok (.iload_n 2, 1) := by decide +kernel
theorem dX4_lengthOf_6 : decode cX4_lengthOf 6 = .ok (.invokestatic 49, 3) := by decide +kernel
theorem dX4_lengthOf_9 : decode cX4_lengthOf 9 = .ok (.invokestatic 85, 3) := by decide +kernel
theorem dX4_lengthOf_12 : decode cX4_lengthOf 12 = .ok (.ireturn, 1) := by decide +kernel
theorem dX4_ownOf_0 : decode cX4_ownOf 0 = .ok (.aload_n 0, 1) := by decide +kernel
theorem dX4_ownOf_1 : decode cX4_ownOf 1 = .ok (.getfield 31, 3) := by decide +kernel
theorem dX4_ownOf_4 : decode cX4_ownOf 4 = .ok (.iload_n 1, 1) := by decide +kernel
theorem dX4_ownOf_5 : decode cX4_ownOf 5 = .ok (.iload_n 2, 1) := by decide +kernel
theorem dX4_ownOf_6 : decode cX4_ownOf 6 = .ok (.invokestatic 49, 3) := by decide +kernel
theorem dX4_ownOf_9 : decode cX4_ownOf 9 = .ok (.invokestatic 85, 3) := by decide +kernel
theorem dX4_ownOf_12 : decode cX4_ownOf 12 = .ok (.ireturn, 1) := by decide +kernel
theorem dX4_othersOf_0 : decode cX4_othersOf 0 = .ok (.aload_n 0, 1) := by decide +kernel
theorem dX4_othersOf_1 : decode cX4_othersOf 1 = .ok (.getfield 34, 3) := by decide +kernel
theorem dX4_othersOf_4 : decode cX4_othersOf 4 = .ok (.iload_n 1, 1) := by decide +kernel
theorem dX4_othersOf_5 : decode cX4_othersOf 5 = .ok (.iload_n 2, 1) := by decide +kernel
theorem dX4_othersOf_6 : decode cX4_othersOf 6 = .ok (.invokestatic 49, 3) := by decide +kernel
theorem dX4_othersOf_9 : decode cX4_othersOf 9 = .ok (.invokestatic 85, 3) := by decide +kernel
theorem dX4_othersOf_12 : decode cX4_othersOf 12 = .ok (.ireturn, 1) := by decide +kernel
theorem dX4_gainBy_0 : decode cX4_gainBy 0 = .ok (.aload_n 0, 1) := by decide +kernel
theorem dX4_gainBy_1 : decode cX4_gainBy 1 = .ok (.getfield 37, 3) := by decide +kernel
theorem dX4_gainBy_4 : decode cX4_gainBy 4 = .ok (.iload_n 1, 1) := by decide +kernel
theorem dX4_gainBy_5 : decode cX4_gainBy 5 = .ok (.iload_n 2, 1) := by decide +kernel
theorem dX4_gainBy_6 : decode cX4_gainBy 6 = .ok (.invokestatic 49, 3) := by decide +kernel
theorem dX4_gainBy_9 : decode cX4_gainBy 9 = .ok (.invokestatic 93, 3) := by decide +kernel
theorem dX4_gainBy_12 : decode cX4_gainBy 12 = .ok (.lreturn, 1) := by decide +kernel
theorem dX4_longestWithin_0 : decode cX4_longestWithin 0 = .ok (.bipush (-9), 2) := by decide +kernel
theorem dX4_longestWithin_2 : decode cX4_longestWithin 2 = .ok (.istore_n 3, 1) := by decide +kernel
theorem dX4_longestWithin_3 : decode cX4_longestWithin 3 = .ok (.iconst 0, 1) := by decide +kernel
theorem dX4_longestWithin_4 : decode cX4_longestWithin 4 = .ok (.istore 4, 2) := by decide +kernel
theorem dX4_longestWithin_6 : decode cX4_longestWithin 6 = .ok (.iconst 0, 1) := by decide +kernel
theorem dX4_longestWithin_7 : decode cX4_longestWithin 7 = .ok (.istore 5, 2) := by decide +kernel
theorem dX4_longestWithin_9 : decode cX4_longestWithin 9 = .ok (.iload 5, 2) := by decide +kernel
theorem dX4_longestWithin_11 : decode cX4_longestWithin 11 = .ok (.aload_n 0, 1) := by decide +kernel
theorem dX4_longestWithin_12 : decode cX4_longestWithin 12 = .ok (.iload_n 1, 1) := by decide +kernel
theorem dX4_longestWithin_13 : decode cX4_longestWithin 13 = .ok (.invokevirtual 45, 3) := by decide +kernel
theorem dX4_longestWithin_16 : decode cX4_longestWithin 16 = .ok (.if_icmp .ge 44, 3) := by decide +kernel
theorem dX4_longestWithin_19 : decode cX4_longestWithin 19 = .ok (.iload 5, 2) := by decide +kernel
theorem dX4_longestWithin_21 : decode cX4_longestWithin 21 = .ok (.iconst 3, 1) := by decide +kernel
theorem dX4_longestWithin_22 : decode cX4_longestWithin 22 = .ok (.if_icmp .ge 38, 3) := by decide +kernel
theorem dX4_longestWithin_25 : decode cX4_longestWithin 25 = .ok (.aload_n 0, 1) := by decide +kernel
theorem dX4_longestWithin_26 : decode cX4_longestWithin 26 = .ok (.iload_n 1, 1) := by decide +kernel
theorem dX4_longestWithin_27 : decode cX4_longestWithin 27 = .ok (.iload 5, 2) := by decide +kernel
theorem dX4_longestWithin_29 : decode cX4_longestWithin 29 = .ok (.invokevirtual 64, 3) := by decide +kernel
theorem dX4_longestWithin_32 : decode cX4_longestWithin 32 = .ok (.istore 6, 2) := by decide +kernel
theorem dX4_longestWithin_34 : decode cX4_longestWithin 34 = .ok (.iload 6, 2) := by decide +kernel
theorem dX4_longestWithin_36 : decode cX4_longestWithin 36 = .ok (.iload_n 2, 1) := by decide +kernel
theorem dX4_longestWithin_37 : decode cX4_longestWithin 37 = .ok (.if_icmp .gt 17, 3) := by decide +kernel
theorem dX4_longestWithin_40 : decode cX4_longestWithin 40 = .ok (.iload 6, 2) := by decide +kernel
theorem dX4_longestWithin_42 : decode cX4_longestWithin 42 = .ok (.iload 4, 2) := by decide +kernel
theorem dX4_longestWithin_44 : decode cX4_longestWithin 44 = .ok (.if_icmp .le 10, 3) := by decide +kernel
theorem dX4_longestWithin_47 : decode cX4_longestWithin 47 = .ok (.iload 6, 2) := by decide +kernel
theorem dX4_longestWithin_49 : decode cX4_longestWithin 49 = .ok (.istore 4, 2) := by decide +kernel
theorem dX4_longestWithin_51 : decode cX4_longestWithin 51 = .ok (.iload 5, 2) := by decide +kernel
theorem dX4_longestWithin_53 : decode cX4_longestWithin 53 = .ok (.istore_n 3, 1) := by decide +kernel
theorem dX4_longestWithin_54 : decode cX4_longestWithin 54 = .ok (.iinc 5 1, 3) := by decide +kernel
theorem dX4_longestWithin_57 : decode cX4_longestWithin 57 = .ok (.goto (-48), 3) := by decide +kernel
theorem dX4_longestWithin_60 : decode cX4_longestWithin 60 = .ok (.iload_n 3, 1) := by decide +kernel
theorem dX4_longestWithin_61 : decode cX4_longestWithin 61 = .ok (.ireturn, 1) := by decide +kernel
theorem dX5_init_0 : decode cX5_init 0 = .ok (.aload_n 0, 1) := by decide +kernel
theorem dX5_init_1 : decode cX5_init 1 = .ok (.invokespecial 5, 3) := by decide +kernel
theorem dX5_init_4 : decode cX5_init 4 = .ok (.aload_n 0, 1) := by decide +kernel
theorem dX5_init_5 : decode cX5_init 5 = .ok (.sipush 600, 3) := by decide +kernel
theorem dX5_init_8 : decode cX5_init 8 = .ok (.newarray .int, 2) := by decide +kernel
theorem dX5_init_10 : decode cX5_init 10 = .ok (.putfield 11, 3) := by decide +kernel
theorem dX5_init_13 : decode cX5_init 13 = .ok (.aload_n 0, 1) := by decide +kernel
theorem dX5_init_14 : decode cX5_init 14 = .ok (.sipush 600, 3) := by decide +kernel
theorem dX5_init_17 : decode cX5_init 17 = .ok (.newarray .long, 2) := by decide +kernel
theorem dX5_init_19 : decode cX5_init 19 = .ok (.putfield 15, 3) := by decide +kernel
theorem dX5_init_22 : decode cX5_init 22 = .ok (.aload_n 0, 1) := by decide +kernel
theorem dX5_init_23 : decode cX5_init 23 = .ok (.sipush 600, 3) := by decide +kernel
theorem dX5_init_26 : decode cX5_init 26 = .ok (.newarray .int, 2) := by decide +kernel
theorem dX5_init_28 : decode cX5_init 28 = .ok (.putfield 19, 3) := by decide +kernel
theorem dX5_init_31 : decode cX5_init 31 = .ok (.aload_n 0, 1) := by decide +kernel
theorem dX5_init_32 : decode cX5_init 32 = .ok (.iconst 0, 1) := by decide +kernel
theorem dX5_init_33 : decode cX5_init 33 = .ok (.putfield 22, 3) := by decide +kernel
theorem dX5_init_36 : decode cX5_init 36 = .ok (.aload_n 0, 1) := by decide +kernel
theorem dX5_init_37 : decode cX5_init 37 = .ok (.sipush 600, 3) := by decide +kernel
theorem dX5_init_40 : decode cX5_init 40 = .ok (.newarray .int, 2) := by decide +kernel
theorem dX5_init_42 : decode cX5_init 42 = .ok (.putfield 26, 3) := by decide +kernel
theorem dX5_init_45 : decode cX5_init 45 = .ok (.aload_n 0, 1) := by decide +kernel
theorem dX5_init_46 : decode cX5_init 46 = .ok (.iconst 0, 1) := by decide +kernel
theorem dX5_init_47 : decode cX5_init 47 = .ok (.putfield 29, 3) := by decide +kernel
theorem dX5_init_50 : decode cX5_init 50 = .ok (.aload_n 0, 1) := by decide +kernel
theorem dX5_init_51 : decode cX5_init 51 = .ok (.iconst 0, 1) := by decide +kernel
theorem dX5_init_52 : decode cX5_init 52 = .ok (.putfield 32, 3) := by decide +kernel
theorem dX5_init_55 : decode cX5_init 55 = .ok (.aload_n 0, 1) := by decide +kernel
theorem dX5_init_56 : decode cX5_init 56 = .ok (.aload_n 1, 1) := by decide +kernel
theorem dX5_init_57 : decode cX5_init 57 = .ok (.putfield 35, 3) := by decide +kernel
theorem dX5_init_60 : decode cX5_init 60 = .ok (.aload_n 0, 1) := by decide +kernel
theorem dX5_init_61 : decode cX5_init 61 = .ok (.aload_n 1, 1) := by decide +kernel
theorem dX5_init_62 : decode cX5_init 62 = .ok (.getfield 39, 3) := by decide +kernel
theorem dX5_init_65 : decode cX5_init 65 = .ok (.putfield 45, 3) := by decide +kernel
theorem dX5_init_68 : decode cX5_init 68 = .ok (.return_, 1) := by decide +kernel
theorem dX5_makeForEach_0 : decode cX5_makeForEach 0 = .ok (.aload_n 0, 1) := by decide +kernel
theorem dX5_makeForEach_1 : decode cX5_makeForEach 1 = .ok (.invokevirtual 46, 3) := by decide +kernel
theorem dX5_makeForEach_4 : decode cX5_makeForEach 4 = .ok (.iconst 0, 1) := by decide +kernel
theorem dX5_makeForEach_5 : decode cX5_makeForEach 5 = .ok (.istore_n 1, 1) := by decide +kernel
theorem dX5_makeForEach_6 : decode cX5_makeForEach 6 = .ok (.iload_n 1, 1) := by decide +kernel
theorem dX5_makeForEach_7 : decode cX5_makeForEach 7 = .ok (.aload_n 0, 1) := by decide +kernel
theorem dX5_makeForEach_8 : decode cX5_makeForEach 8 = .ok (.getfield 32, 3) := by decide +kernel
theorem dX5_makeForEach_11 : decode cX5_makeForEach 11 = .ok (.if_icmp .ge 46, 3) := by decide +kernel
theorem dX5_makeForEach_14 : decode cX5_makeForEach 14 = .ok (.iload_n 1, 1) := by decide +kernel
theorem dX5_makeForEach_15 : decode cX5_makeForEach 15 = .ok (.bipush 6, 2) := by decide +kernel
theorem dX5_makeForEach_17 : decode cX5_makeForEach 17 = .ok (.if_icmp .ge 40, 3) := by decide +kernel
theorem dX5_makeForEach_20 : decode cX5_makeForEach 20 = .ok (.iconst 0, 1) := by decide +kernel
theorem dX5_makeForEach_21 : decode cX5_makeForEach 21 = .ok (.istore_n 2, 1) := by decide +kernel
theorem dX5_makeForEach_22 : decode cX5_makeForEach 22 = .ok (.iload_n 2, 1) := by decide +kernel
theorem dX5_makeForEach_23 : decode cX5_makeForEach 23 = .ok (.aload_n 0, 1) := by decide +kernel
theorem dX5_makeForEach_24 : decode cX5_makeForEach 24 = .ok (.getfield 45, 3) := by decide +kernel
theorem dX5_makeForEach_27 : decode cX5_makeForEach 27 = .ok (.getfield 49, 3) := by decide +kernel
theorem dX5_makeForEach_30 : decode cX5_makeForEach 30 = .ok (.if_icmp .gt 21, 3) := by decide +kernel
theorem dX5_makeForEach_33 : decode cX5_makeForEach 33 = .ok (.iload_n 2, 1) := by decide +kernel
theorem dX5_makeForEach_34 : decode cX5_makeForEach 34 = .ok (.bipush 100, 2) := by decide +kernel
theorem dX5_makeForEach_36 : decode cX5_makeForEach 36 = .ok (.if_icmp .ge 15, 3) := by decide +kernel
theorem dX5_makeForEach_39 : decode cX5_makeForEach 39 = .ok (.aload_n 0, 1) := by decide +kernel
theorem dX5_makeForEach_40 : decode cX5_makeForEach 40 = .ok (.iload_n 1, 1) := by decide +kernel
theorem dX5_makeForEach_41 : decode cX5_makeForEach 41 = .ok (.iload_n 2, 1) := by decide +kernel
theorem dX5_makeForEach_42 : decode cX5_makeForEach 42 = .ok (.invokevirtual 54, 3) := by decide +kernel
theorem dX5_makeForEach_45 : decode cX5_makeForEach 45 = .ok (.iinc 2 1, 3) := by decide +kernel
theorem dX5_makeForEach_48 : decode cX5_makeForEach 48 = .ok (.goto (-26), 3) := by decide +kernel
theorem dX5_makeForEach_51 : decode cX5_makeForEach 51 = .ok (.iinc 1 1, 3) := by decide +kernel
theorem dX5_makeForEach_54 : decode cX5_makeForEach 54 = .ok (.goto (-48), 3) := by decide +kernel
theorem dX5_makeForEach_57 : decode cX5_makeForEach 57 = .ok (.aload_n 0, 1) := by decide +kernel
theorem dX5_makeForEach_58 : decode cX5_makeForEach 58 = .ok (.iconst 0, 1) := by decide +kernel
theorem dX5_makeForEach_59 : decode cX5_makeForEach 59 = .ok (.invokevirtual 58, 3) := by decide +kernel
theorem dX5_makeForEach_62 : decode cX5_makeForEach 62 = .ok (.return_, 1) := by decide +kernel
theorem dX5_makeForFreeDay_0 : decode cX5_makeForFreeDay 0 = .ok (.aload_n 0, 1) := by decide +kernel
theorem dX5_makeForFreeDay_1 : decode cX5_makeForFreeDay 1 = .ok (.invokevirtual 62, 3) := by decide +kernel
theorem dX5_makeForFreeDay_4 : decode cX5_makeForFreeDay 4 = .ok (.aload_n 0, 1) := by decide +kernel
theorem dX5_makeForFreeDay_5 : decode cX5_makeForFreeDay 5 = .ok (.iconst 0, 1) := by decide +kernel
theorem dX5_makeForFreeDay_6 : decode cX5_makeForFreeDay 6 = .ok (.invokevirtual 58, 3) := by decide +kernel
theorem dX5_makeForFreeDay_9 : decode cX5_makeForFreeDay 9 = .ok (.return_, 1) := by decide +kernel
theorem dX5_makeForAll_0 : decode cX5_makeForAll 0 = .ok (.aload_n 0, 1) := by decide +kernel
theorem dX5_makeForAll_1 : decode cX5_makeForAll 1 = .ok (.invokevirtual 62, 3) := by decide +kernel
theorem dX5_makeForAll_4 : decode cX5_makeForAll 4 = .ok (.aload_n 0, 1) := by decide +kernel
theorem dX5_makeForAll_5 : decode cX5_makeForAll 5 = .ok (.iconst 1, 1) := by decide +kernel
theorem dX5_makeForAll_6 : decode cX5_makeForAll 6 = .ok (.invokevirtual 58, 3) := by decide +kernel
theorem dX5_makeForAll_9 : decode cX5_makeForAll 9 = .ok (.return_, 1) := by decide +kernel
theorem dX5_beginMaking_0 : decode cX5_beginMaking 0 = .ok (.aload_n 0, 1) := by decide +kernel
theorem dX5_beginMaking_1 : decode cX5_beginMaking 1 = .ok (.dup, 1) := by decide +kernel
theorem dX5_beginMaking_2 : decode cX5_beginMaking 2 = .ok (.getfield 29, 3) := by decide +kernel
theorem dX5_beginMaking_5 : decode cX5_beginMaking 5 = .ok (.iconst 1, 1) := by decide +kernel
theorem dX5_beginMaking_6 : decode cX5_beginMaking 6 = .ok (.iadd, 1) := by decide +kernel
theorem dX5_beginMaking_7 : decode cX5_beginMaking 7 = .ok (.putfield 29, 3) := by decide +kernel
theorem dX5_beginMaking_10 : decode cX5_beginMaking 10 = .ok (.aload_n 0, 1) := by decide +kernel
theorem dX5_beginMaking_11 : decode cX5_beginMaking 11 = .ok (.iconst 0, 1) := by decide +kernel
theorem dX5_beginMaking_12 : decode cX5_beginMaking 12 = .ok (.putfield 22, 3) := by decide +kernel
theorem dX5_beginMaking_15 : decode cX5_beginMaking 15 = .ok (.aload_n 0, 1) := by decide +kernel
theorem dX5_beginMaking_16 : decode cX5_beginMaking 16 = .ok (.aload_n 0, 1) := by decide +kernel
theorem dX5_beginMaking_17 : decode cX5_beginMaking 17 = .ok (.getfield 35, 3) := by decide +kernel
theorem dX5_beginMaking_20 : decode cX5_beginMaking 20 = .ok (.invokevirtual 65, 3) := by decide +kernel
theorem dX5_beginMaking_23 : decode cX5_beginMaking 23 = .ok (.putfield 32, 3) := by decide +kernel
theorem dX5_beginMaking_26 : decode cX5_beginMaking 26 = .ok (.return_, 1) := by decide +kernel
theorem dX5_openWhatIsReached_0 : decode cX5_openWhatIsReached 0 = .ok (.aload_n 0, 1) := by decide +kernel
theorem dX5_openWhatIsReached_1 : decode cX5_openWhatIsReached 1 = .ok (.invokevirtual 46, 3) := by decide +kernel
theorem dX5_openWhatIsReached_4 : decode cX5_openWhatIsReached 4 = .ok (.aload_n 0, 1) := by decide +kernel
theorem dX5_openWhatIsReached_5 : decode cX5_openWhatIsReached 5 = .ok (.iconst 0, 1) := by decide +kernel
theorem dX5_openWhatIsReached_6 : decode cX5_openWhatIsReached 6 = .ok (.aload_n 0, 1) := by decide +kernel
theorem dX5_openWhatIsReached_7 : decode cX5_openWhatIsReached 7 = .ok (.getfield 35, 3) := by decide +kernel
theorem dX5_openWhatIsReached_10 : decode cX5_openWhatIsReached 10 = .ok (.invokevirtual 68, 3) := by decide +kernel
theorem dX5_openWhatIsReached_13 : decode cX5_openWhatIsReached 13 = .ok (.invokevirtual 54, 3) := by decide +kernel
theorem dX5_openWhatIsReached_16 : decode cX5_openWhatIsReached 16 = .ok (.iconst 0, 1) := by decide +kernel
theorem dX5_openWhatIsReached_17 : decode cX5_openWhatIsReached 17 = .ok (.istore_n 1, 1) := by decide +kernel
theorem dX5_openWhatIsReached_18 : decode cX5_openWhatIsReached 18 = .ok (.iload_n 1, 1) := by decide +kernel
theorem dX5_openWhatIsReached_19 : decode cX5_openWhatIsReached 19 = .ok (.aload_n 0, 1) := by decide +kernel
theorem dX5_openWhatIsReached_20 : decode cX5_openWhatIsReached 20 = .ok (.getfield 22, 3) := by decide +kernel
theorem dX5_openWhatIsReached_23 : decode cX5_openWhatIsReached 23 = .ok (.if_icmp .ge 37, 3) := by decide +kernel
theorem dX5_openWhatIsReached_26 : decode cX5_openWhatIsReached 26 = .ok (.iload_n 1, 1) := by decide +kernel
theorem dX5_openWhatIsReached_27 : decode cX5_openWhatIsReached 27 = .ok (.sipush 600, 3) := by decide +kernel
theorem dX5_openWhatIsReached_30 : decode cX5_openWhatIsReached 30 = .ok (.if_icmp .ge 30, 3) := by decide +kernel
theorem dX5_openWhatIsReached_33 : decode cX5_openWhatIsReached 33 = .ok (.aload_n 0, 1) := by decide +kernel
theorem dX5_openWhatIsReached_34 : decode cX5_openWhatIsReached 34 = .ok (.getfield 19, 3) := by decide +kernel
theorem dX5_openWhatIsReached_37 : decode cX5_openWhatIsReached 37 = .ok (.iload_n 1, 1) := by decide +kernel
theorem dX5_openWhatIsReached_38 : decode cX5_openWhatIsReached 38 = .ok (.invokestatic 71, 3) := by decide +kernel
theorem dX5_openWhatIsReached_41 : decode cX5_openWhatIsReached 41 = .ok (.istore_n 2, 1) := by decide +kernel
theorem dX5_openWhatIsReached_42 : decode cX5_openWhatIsReached 42 = .ok (.aload_n 0, 1) := by decide +kernel
theorem dX5_openWhatIsReached_43 : decode cX5_openWhatIsReached 43 = .ok (.iload_n 2, 1) := by decide +kernel
theorem dX5_openWhatIsReached_44 : decode cX5_openWhatIsReached 44 = .ok (.bipush 100, 2) := by decide +kernel
theorem dX5_openWhatIsReached_46 : decode cX5_openWhatIsReached 46 = .ok (.idiv, 1) := by decide +kernel
theorem dX5_openWhatIsReached_47 : decode cX5_openWhatIsReached 47 = .ok (.iload_n 2, 1) := by decide +kernel
theorem dX5_openWhatIsReached_48 : decode cX5_openWhatIsReached 48 = .ok (.bipush 100, 2) := by decide +kernel
theorem dX5_openWhatIsReached_50 : decode cX5_openWhatIsReached 50 = .ok (.irem, 1) := by decide +kernel
theorem dX5_openWhatIsReached_51 : decode cX5_openWhatIsReached 51 = .ok (.invokevirtual 75, 3) := by decide +kernel
theorem dX5_openWhatIsReached_54 : decode cX5_openWhatIsReached 54 = .ok (.iinc 1 1, 3) := by decide +kernel
theorem dX5_openWhatIsReached_57 : decode cX5_openWhatIsReached 57 = .ok (.goto (-39), 3) := by decide +kernel
theorem dX5_openWhatIsReached_60 : decode cX5_openWhatIsReached 60 = .ok (.return_, 1) := by decide +kernel
theorem dX5_openBehind_0 : decode cX5_openBehind 0 = .ok (.aload_n 0, 1) := by decide +kernel
theorem dX5_openBehind_1 : decode cX5_openBehind 1 = .ok (.getfield 35, 3) := by decide +kernel
theorem dX5_openBehind_4 : decode cX5_openBehind 4 = .ok (.iload_n 1, 1) := by decide +kernel
theorem dX5_openBehind_5 : decode cX5_openBehind 5 = .ok (.invokevirtual 78, 3) := by decide +kernel
theorem dX5_openBehind_8 : decode cX5_openBehind 8 = .ok (.istore_n 3, 1) := by decide +kernel
theorem dX5_openBehind_9 : decode cX5_openBehind 9 = .ok (.aload_n 0, 1) := by decide +kernel
theorem dX5_openBehind_10 : decode cX5_openBehind 10 = .ok (.iload_n 1, 1) := by decide +kernel
theorem dX5_openBehind_11 : decode cX5_openBehind 11 = .ok (.iconst 1, 1) := by decide +kernel
theorem dX5_openBehind_12 : decode cX5_openBehind 12 = .ok (.iadd, 1) := by decide +kernel
theorem dX5_openBehind_13 : decode cX5_openBehind 13 = .ok (.aload_n 0, 1) := by decide +kernel
theorem dX5_openBehind_14 : decode cX5_openBehind 14 = .ok (.getfield 35, 3) := by decide +kernel
theorem dX5_openBehind_17 : decode cX5_openBehind 17 = .ok (.iload_n 2, 1) := by decide +kernel
theorem dX5_openBehind_18 : decode cX5_openBehind 18 = .ok (.invokevirtual 82, 3) := by decide +kernel
theorem dX5_openBehind_21 : decode cX5_openBehind 21 = .ok (.invokevirtual 54, 3) := by decide +kernel
theorem dX5_openBehind_24 : decode cX5_openBehind 24 = .ok (.iconst 0, 1) := by decide +kernel
theorem dX5_openBehind_25 : decode cX5_openBehind 25 = .ok (.istore 4, 2) := by decide +kernel
theorem dX5_openBehind_27 : decode cX5_openBehind 27 = .ok (.iload 4, 2) := by decide +kernel
theorem dX5_openBehind_29 : decode cX5_openBehind 29 = .ok (.aload_n 0, 1) := by decide +kernel
