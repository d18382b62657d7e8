theorem dX0_init_0 : decode cX0_init 0 = .ok (.aload_n 0, 1) := by decide +kernel
theorem dX0_init_1 : decode cX0_init 1 = .ok (.invokespecial 3, 3) := by decide +kernel
theorem dX0_init_4 : decode cX0_init 4 = .ok (.aload_n 0, 1) := by decide +kernel
theorem dX0_init_5 : decode cX0_init 5 = .ok (.bipush 7, 2) := by decide +kernel
theorem dX0_init_7 : decode cX0_init 7 = .ok (.newarray .int, 2) := by decide +kernel
theorem dX0_init_9 : decode cX0_init 9 = .ok (.putfield 9, 3) := by decide +kernel
theorem dX0_init_12 : decode cX0_init 12 = .ok (.aload_n 0, 1) := by decide +kernel
theorem dX0_init_13 : decode cX0_init 13 = .ok (.bipush 35, 2) := by decide +kernel
theorem dX0_init_15 : decode cX0_init 15 = .ok (.newarray .int, 2) := by decide +kernel
theorem dX0_init_17 : decode cX0_init 17 = .ok (.putfield 15, 3) := by decide +kernel
theorem dX0_init_20 : decode cX0_init 20 = .ok (.return_, 1) := by decide +kernel
theorem dX0_startWith_0 : decode cX0_startWith 0 = .ok (.aload_n 0, 1) := by decide +kernel
theorem dX0_startWith_1 : decode cX0_startWith 1 = .ok (.iconst 0, 1) := by decide +kernel
theorem dX0_startWith_2 : decode cX0_startWith 2 = .ok (.iload_n 1, 1) := by decide +kernel
theorem dX0_startWith_3 : decode cX0_startWith 3 = .ok (.bipush 7, 2) := by decide +kernel
theorem dX0_startWith_5 : decode cX0_startWith 5 = .ok (.invokestatic 18, 3) := by decide +kernel
theorem dX0_startWith_8 : decode cX0_startWith 8 = .ok (.invokestatic 24, 3) := by decide +kernel
theorem dX0_startWith_11 : decode cX0_startWith 11 = .ok (.putfield 27, 3) := by decide +kernel
theorem dX0_startWith_14 : decode cX0_startWith 14 = .ok (.aload_n 0, 1) := by decide +kernel
theorem dX0_startWith_15 : decode cX0_startWith 15 = .ok (.iconst 0, 1) := by decide +kernel
theorem dX0_startWith_16 : decode cX0_startWith 16 = .ok (.putfield 31, 3) := by decide +kernel
theorem dX0_startWith_19 : decode cX0_startWith 19 = .ok (.iconst 0, 1) := by decide +kernel
theorem dX0_startWith_20 : decode cX0_startWith 20 = .ok (.istore_n 2, 1) := by decide +kernel
theorem dX0_startWith_21 : decode cX0_startWith 21 = .ok (.iload_n 2, 1) := by decide +kernel
theorem dX0_startWith_22 : decode cX0_startWith 22 = .ok (.bipush 7, 2) := by decide +kernel
theorem dX0_startWith_24 : decode cX0_startWith 24 = .ok (.if_icmp .ge 56, 3) := by decide +kernel
theorem dX0_startWith_27 : decode cX0_startWith 27 = .ok (.aload_n 0, 1) := by decide +kernel
theorem dX0_startWith_28 : decode cX0_startWith 28 = .ok (.getfield 9, 3) := by decide +kernel
theorem dX0_startWith_31 : decode cX0_startWith 31 = .ok (.iload_n 2, 1) := by decide +kernel
theorem dX0_startWith_32 : decode cX0_startWith 32 = .ok (.iload_n 2, 1) := by decide +kernel
theorem dX0_startWith_33 : decode cX0_startWith 33 = .ok (.invokestatic 34, 3) := by decide +kernel
theorem dX0_startWith_36 : decode cX0_startWith 36 = .ok (.aload_n 0, 1) := by decide +kernel
theorem dX0_startWith_37 : decode cX0_startWith 37 = .ok (.iload_n 2, 1) := by decide +kernel
theorem dX0_startWith_38 : decode cX0_startWith 38 = .ok (.iconst 0, 1) := by decide +kernel
theorem dX0_startWith_39 : decode cX0_startWith 39 = .ok (.iconst 3, 1) := by decide +kernel
theorem dX0_startWith_40 : decode cX0_startWith 40 = .ok (.invokevirtual 38, 3) := by decide +kernel
theorem dX0_startWith_43 : decode cX0_startWith 43 = .ok (.aload_n 0, 1) := by decide +kernel
theorem dX0_startWith_44 : decode cX0_startWith 44 = .ok (.iload_n 2, 1) := by decide +kernel
theorem dX0_startWith_45 : decode cX0_startWith 45 = .ok (.iconst 1, 1) := by decide +kernel
theorem dX0_startWith_46 : decode cX0_startWith 46 = .ok (.iconst 0, 1) := by decide +kernel
theorem dX0_startWith_47 : decode cX0_startWith 47 = .ok (.invokevirtual 38, 3) := by decide +kernel
theorem dX0_startWith_50 : decode cX0_startWith 50 = .ok (.aload_n 0, 1) := by decide +kernel
theorem dX0_startWith_51 : decode cX0_startWith 51 = .ok (.iload_n 2, 1) := by decide +kernel
theorem dX0_startWith_52 : decode cX0_startWith 52 = .ok (.iconst 2, 1) := by decide +kernel
theorem dX0_startWith_53 : decode cX0_startWith 53 = .ok (.iconst 1, 1) := by decide +kernel
theorem dX0_startWith_54 : decode cX0_startWith 54 = .ok (.invokevirtual 38, 3) := by decide +kernel
theorem dX0_startWith_57 : decode cX0_startWith 57 = .ok (.aload_n 0, 1) := by decide +kernel
theorem dX0_startWith_58 : decode cX0_startWith 58 = .ok (.iload_n 2, 1) := by decide +kernel
theorem dX0_startWith_59 : decode cX0_startWith 59 = .ok (.iconst 3, 1) := by decide +kernel
theorem dX0_startWith_60 : decode cX0_startWith 60 = .ok (.iload_n 2, 1) := by decide +kernel
theorem dX0_startWith_61 : decode cX0_startWith 61 = .ok (.bipush 6, 2) := by decide +kernel
theorem dX0_startWith_63 : decode cX0_startWith 63 = .ok (.irem, 1) := by decide +kernel
theorem dX0_startWith_64 : decode cX0_startWith 64 = .ok (.invokevirtual 38, 3) := by decide +kernel
theorem dX0_startWith_67 : decode cX0_startWith 67 = .ok (.aload_n 0, 1) := by decide +kernel
theorem dX0_startWith_68 : decode cX0_startWith 68 = .ok (.iload_n 2, 1) := by decide +kernel
theorem dX0_startWith_69 : decode cX0_startWith 69 = .ok (.iconst 4, 1) := by decide +kernel
theorem dX0_startWith_70 : decode cX0_startWith 70 = .ok (.iconst 0, 1) := by decide +kernel
theorem dX0_startWith_71 : decode cX0_startWith 71 = .ok (.invokevirtual 38, 3) := by decide +kernel
theorem dX0_startWith_74 : decode cX0_startWith 74 = .ok (.iinc 2 1, 3) := by decide +kernel
theorem dX0_startWith_77 : decode cX0_startWith 77 = .ok (.goto (-56), 3) := by decide +kernel
theorem dX0_startWith_80 : decode cX0_startWith 80 = .ok (.return_, 1) := by decide +kernel
theorem dX0_copyFrom_0 : decode cX0_copyFrom 0 = .ok (.aload_n 0, 1) := by decide +kernel
theorem dX0_copyFrom_1 : decode cX0_copyFrom 1 = .ok (.aload_n 1, 1) := by decide +kernel
theorem dX0_copyFrom_2 : decode cX0_copyFrom 2 = .ok (.getfield 27, 3) := by decide +kernel
theorem dX0_copyFrom_5 : decode cX0_copyFrom 5 = .ok (.putfield 27, 3) := by decide +kernel
theorem dX0_copyFrom_8 : decode cX0_copyFrom 8 = .ok (.aload_n 0, 1) := by decide +kernel
theorem dX0_copyFrom_9 : decode cX0_copyFrom 9 = .ok (.aload_n 1, 1) := by decide +kernel
theorem dX0_copyFrom_10 : decode cX0_copyFrom 10 = .ok (.getfield 31, 3) := by decide +kernel
theorem dX0_copyFrom_13 : decode cX0_copyFrom 13 = .ok (.putfield 31, 3) := by decide +kernel
theorem dX0_copyFrom_16 : decode cX0_copyFrom 16 = .ok (.aload_n 1, 1) := by decide +kernel
theorem dX0_copyFrom_17 : decode cX0_copyFrom 17 = .ok (.getfield 9, 3) := by decide +kernel
theorem dX0_copyFrom_20 : decode cX0_copyFrom 20 = .ok (.aload_n 0, 1) := by decide +kernel
theorem dX0_copyFrom_21 : decode cX0_copyFrom 21 = .ok (.getfield 9, 3) := by decide +kernel
theorem dX0_copyFrom_24 : decode cX0_copyFrom 24 = .ok (.invokestatic 42, 3) := by decide +kernel
theorem dX0_copyFrom_27 : decode cX0_copyFrom 27 = .ok (.aload_n 1, 1) := by decide +kernel
theorem dX0_copyFrom_28 : decode cX0_copyFrom 28 = .ok (.getfield 15, 3) := by decide +kernel
theorem dX0_copyFrom_31 : decode cX0_copyFrom 31 = .ok (.aload_n 0, 1) := by decide +kernel
theorem dX0_copyFrom_32 : decode cX0_copyFrom 32 = .ok (.getfield 15, 3) := by decide +kernel
theorem dX0_copyFrom_35 : decode cX0_copyFrom 35 = .ok (.invokestatic 42, 3) := by decide +kernel
theorem dX0_copyFrom_38 : decode cX0_copyFrom 38 = .ok (.return_, 1) := by decide +kernel
theorem dX0_has_0 : decode cX0_has 0 = .ok (.iload_n 1, 1) := by decide +kernel
theorem dX0_has_1 : decode cX0_has 1 = .ok (.ifCond .lt 15, 3) := by decide +kernel
theorem dX0_has_4 : decode cX0_has 4 = .ok (.iload_n 1, 1) := by decide +kernel
theorem dX0_has_5 : decode cX0_has 5 = .ok (.aload_n 0, 1) := by decide +kernel
theorem dX0_has_6 : decode cX0_has 6 = .ok (.getfield 27, 3) := by decide +kernel
theorem dX0_has_9 : decode cX0_has 9 = .ok (.if_icmp .ge 7, 3) := by decide +kernel
theorem dX0_has_12 : decode cX0_has 12 = .ok (.iconst 1, 1) := by decide +kernel
theorem dX0_has_13 : decode cX0_has 13 = .ok (.goto 4, 3) := by decide +kernel
theorem dX0_has_16 : decode cX0_has 16 = .ok (.iconst 0, 1) := by decide +kernel
theorem dX0_has_17 : decode cX0_has 17 = .ok (.ireturn, 1) := by decide +kernel
theorem dX0_fact_0 : decode cX0_fact 0 = .ok (.aload_n 0, 1) := by decide +kernel
theorem dX0_fact_1 : decode cX0_fact 1 = .ok (.getfield 15, 3) := by decide +kernel
theorem dX0_fact_4 : decode cX0_fact 4 = .ok (.iload_n 1, 1) := by decide +kernel
theorem dX0_fact_5 : decode cX0_fact 5 = .ok (.iconst 5, 1) := by decide +kernel
theorem dX0_fact_6 : decode cX0_fact 6 = .ok (.imul, 1) := by decide +kernel
theorem dX0_fact_7 : decode cX0_fact 7 = .ok (.iload_n 2, 1) := by decide +kernel
theorem dX0_fact_8 : decode cX0_fact 8 = .ok (.iadd, 1) := by decide +kernel
theorem dX0_fact_9 : decode cX0_fact 9 = .ok (.invokestatic 46, 3) := by decide +kernel
theorem dX0_fact_12 : decode cX0_fact 12 = .ok (.ireturn, 1) := by decide +kernel
theorem dX0_setFact_0 : decode cX0_setFact 0 = .ok (.aload_n 0, 1) := by decide +kernel
theorem dX0_setFact_1 : decode cX0_setFact 1 = .ok (.getfield 15, 3) := by decide +kernel
theorem dX0_setFact_4 : decode cX0_setFact 4 = .ok (.iload_n 1, 1) := by decide +kernel
theorem dX0_setFact_5 : decode cX0_setFact 5 = .ok (.iconst 5, 1) := by decide +kernel
theorem dX0_setFact_6 : decode cX0_setFact 6 = .ok (.imul, 1) := by decide +kernel
theorem dX0_setFact_7 : decode cX0_setFact 7 = .ok (.iload_n 2, 1) := by decide +kernel
theorem dX0_setFact_8 : decode cX0_setFact 8 = .ok (.iadd, 1) := by decide +kernel
theorem dX0_setFact_9 : decode cX0_setFact 9 = .ok (.iload_n 3, 1) := by decide +kernel
theorem dX0_setFact_10 : decode cX0_setFact 10 = .ok (.invokestatic 34, 3) := by decide +kernel
theorem dX0_setFact_13 : decode cX0_setFact 13 = .ok (.return_, 1) := by decide +kernel
theorem dX0_condition_0 : decode cX0_condition 0 = .ok (.iload_n 2, 1) := by decide +kernel
theorem dX0_condition_1 : decode cX0_condition 1 = .ok (.ifCond .ne 10, 3) := by decide +kernel
theorem dX0_condition_4 : decode cX0_condition 4 = .ok (.aload_n 0, 1) := by decide +kernel
theorem dX0_condition_5 : decode cX0_condition 5 = .ok (.iload_n 1, 1) := by decide +kernel
theorem dX0_condition_6 : decode cX0_condition 6 = .ok (.iconst 1, 1) := by decide +kernel
theorem dX0_condition_7 : decode cX0_condition 7 = .ok (.invokevirtual 50, 3) := by decide +kernel
theorem dX0_condition_10 : decode cX0_condition 10 = .ok (.ireturn, 1) := by decide +kernel
theorem dX0_condition_11 : decode cX0_condition 11 = .ok (.aload_n 0, 1) := by decide +kernel
theorem dX0_condition_12 : decode cX0_condition 12 = .ok (.iload_n 1, 1) := by decide +kernel
theorem dX0_condition_13 : decode cX0_condition 13 = .ok (.iload_n 2, 1) := by decide +kernel
theorem dX0_condition_14 : decode cX0_condition 14 = .ok (.iconst 1, 1) := by decide +kernel
theorem dX0_condition_15 : decode cX0_condition 15 = .ok (.if_icmp .ne 7, 3) := by decide +kernel
theorem dX0_condition_18 : decode cX0_condition 18 = .ok (.iconst 3, 1) := by decide +kernel
theorem dX0_condition_19 : decode cX0_condition 19 = .ok (.goto 4, 3) := by decide +kernel
theorem dX0_condition_22 : decode cX0_condition 22 = .ok (.iconst 4, 1) := by decide +kernel
theorem dX0_condition_23 : decode cX0_condition 23 = .ok (.invokevirtual 50, 3) := by decide +kernel
theorem dX0_condition_26 : decode cX0_condition 26 = .ok (.ireturn, 1) := by decide +kernel
theorem dX0_isWhole_0 : decode cX0_isWhole 0 = .ok (.aload_n 0, 1) := by decide +kernel
theorem dX0_isWhole_1 : decode cX0_isWhole 1 = .ok (.getfield 15, 3) := by decide +kernel
theorem dX0_isWhole_4 : decode cX0_isWhole 4 = .ok (.iload_n 1, 1) := by decide +kernel
theorem dX0_isWhole_5 : decode cX0_isWhole 5 = .ok (.iconst 5, 1) := by decide +kernel
theorem dX0_isWhole_6 : decode cX0_isWhole 6 = .ok (.imul, 1) := by decide +kernel
theorem dX0_isWhole_7 : decode cX0_isWhole 7 = .ok (.iconst 4, 1) := by decide +kernel
theorem dX0_isWhole_8 : decode cX0_isWhole 8 = .ok (.iadd, 1) := by decide +kernel
theorem dX0_isWhole_9 : decode cX0_isWhole 9 = .ok (.invokestatic 46, 3) := by decide +kernel
theorem dX0_isWhole_12 : decode cX0_isWhole 12 = .ok (.ifCond .ne 7, 3) := by decide +kernel
theorem dX0_isWhole_15 : decode cX0_isWhole 15 = .ok (.iconst 1, 1) := by decide +kernel
theorem dX0_isWhole_16 : decode cX0_isWhole 16 = .ok (.goto 4, 3) := by decide +kernel
theorem dX0_isWhole_19 : decode cX0_isWhole 19 = .ok (.iconst 0, 1) := by decide +kernel
theorem dX0_isWhole_20 : decode cX0_isWhole 20 = .ok (.ireturn, 1) := by decide +kernel
theorem dX0_isWarmEnough_0 : decode cX0_isWarmEnough 0 = .ok (.aload_n 0, 1) := by decide +kernel
theorem dX0_isWarmEnough_1 : decode cX0_isWarmEnough 1 = .ok (.getfield 15, 3) := by decide +kernel
theorem dX0_isWarmEnough_4 : decode cX0_isWarmEnough 4 = .ok (.iload_n 1, 1) := by decide +kernel
theorem dX0_isWarmEnough_5 : decode cX0_isWarmEnough 5 = .ok (.iconst 5, 1) := by decide +kernel
theorem dX0_isWarmEnough_6 : decode cX0_isWarmEnough 6 = .ok (.imul, 1) := by decide +kernel
theorem dX0_isWarmEnough_7 : decode cX0_isWarmEnough 7 = .ok (.iconst 1, 1) := by decide +kernel
theorem dX0_isWarmEnough_8 : decode cX0_isWarmEnough 8 = .ok (.iadd, 1) := by decide +kernel
theorem dX0_isWarmEnough_9 : decode cX0_isWarmEnough 9 = .ok (.invokestatic 46, 3) := by decide +kernel
theorem dX0_isWarmEnough_12 : decode cX0_isWarmEnough 12 = .ok (.aload_n 0, 1) := by decide +kernel
theorem dX0_isWarmEnough_13 : decode cX0_isWarmEnough 13 = .ok (.getfield 15, 3) := by decide +kernel
theorem dX0_isWarmEnough_16 : decode cX0_isWarmEnough 16 = .ok (.iload_n 1, 1) := by decide +kernel
theorem dX0_isWarmEnough_17 : decode cX0_isWarmEnough 17 = .ok (.iconst 5, 1) := by decide +kernel
theorem dX0_isWarmEnough_18 : decode cX0_isWarmEnough 18 = .ok (.imul, 1) := by decide +kernel
theorem dX0_isWarmEnough_19 : decode cX0_isWarmEnough 19 = .ok (.iconst 0, 1) := by decide +kernel
theorem dX0_isWarmEnough_20 : decode cX0_isWarmEnough 20 = .ok (.iadd, 1) := by decide +kernel
theorem dX0_isWarmEnough_21 : decode cX0_isWarmEnough 21 = .ok (.invokestatic 46, 3) := by decide +kernel
theorem dX0_isWarmEnough_24 : decode cX0_isWarmEnough 24 = .ok (.if_icmp .lt 7, 3) := by decide +kernel
theorem dX0_isWarmEnough_27 : decode cX0_isWarmEnough 27 = .ok (.iconst 1, 1) := by decide +kernel
theorem dX0_isWarmEnough_28 : decode cX0_isWarmEnough 28 = .ok (.goto 4, 3) := by decide +kernel
theorem dX0_isWarmEnough_31 : decode cX0_isWarmEnough 31 = .ok (.iconst 0, 1) := by decide +kernel
theorem dX0_isWarmEnough_32 : decode cX0_isWarmEnough 32 = .ok (.ireturn, 1) := by decide +kernel
theorem dX0_countWhole_0 : decode cX0_countWhole 0 = .ok (.iconst 0, 1) := by decide +kernel
theorem dX0_countWhole_1 : decode cX0_countWhole 1 = .ok (.istore_n 1, 1) := by decide +kernel
theorem dX0_countWhole_2 : decode cX0_countWhole 2 = .ok (.iconst 0, 1) := by decide +kernel
theorem dX0_countWhole_3 : decode cX0_countWhole 3 = .ok (.istore_n 2, 1) := by decide +kernel
theorem dX0_countWhole_4 : decode cX0_countWhole 4 = .ok (.iload_n 2, 1) := by decide +kernel
theorem dX0_countWhole_5 : decode cX0_countWhole 5 = .ok (.aload_n 0, 1) := by decide +kernel
theorem dX0_countWhole_6 : decode cX0_countWhole 6 = .ok (.getfield 27, 3) := by decide +kernel
theorem dX0_countWhole_9 : decode cX0_countWhole 9 = .ok (.if_icmp .ge 20, 3) := by decide +kernel
theorem dX0_countWhole_12 : decode cX0_countWhole 12 = .ok (.aload_n 0, 1) := by decide +kernel
theorem dX0_countWhole_13 : decode cX0_countWhole 13 = .ok (.iload_n 2, 1) := by decide +kernel
theorem dX0_countWhole_14 : decode cX0_countWhole 14 = .ok (.invokevirtual 53, 3) := by decide +kernel
theorem dX0_countWhole_17 : decode cX0_countWhole 17 = .ok (.ifCond .eq 6, 3) := by decide +kernel
theorem dX0_countWhole_20 : decode cX0_countWhole 20 = .ok (.iinc 1 1, 3) := by decide +kernel
theorem dX0_countWhole_23 : decode cX0_countWhole 23 = .ok (.iinc 2 1, 3) := by decide +kernel
theorem dX0_countWhole_26 : decode cX0_countWhole 26 = .ok (.goto (-22), 3) := by decide +kernel
theorem dX0_countWhole_29 : decode cX0_countWhole 29 = .ok (.iload_n 1, 1) := by decide +kernel
theorem dX0_countWhole_30 : decode cX0_countWhole 30 = .ok (.ireturn, 1) := by decide +kernel
theorem dX0_areAllWhole_0 : decode cX0_areAllWhole 0 = .ok (.aload_n 0, 1) := by decide +kernel
theorem dX0_areAllWhole_1 : decode cX0_areAllWhole 1 = .ok (.invokevirtual 57, 3) := by decide +kernel
theorem dX0_areAllWhole_4 : decode cX0_areAllWhole 4 = .ok (.aload_n 0, 1) := by decide +kernel
theorem dX0_areAllWhole_5 : decode cX0_areAllWhole 5 = .ok (.getfield 27, 3) := by decide +kernel
theorem dX0_areAllWhole_8 : decode cX0_areAllWhole 8 = .ok (.if_icmp .ne 7, 3) := by decide +kernel
theorem dX0_areAllWhole_11 : decode cX0_areAllWhole 11 = .ok (.iconst 1, 1) := by decide +kernel
theorem dX0_areAllWhole_12 : decode cX0_areAllWhole 12 = .ok (.goto 4, 3) := by decide +kernel
theorem dX0_areAllWhole_15 : decode cX0_areAllWhole 15 = .ok (.iconst 0, 1) := by decide +kernel
theorem dX0_areAllWhole_16 : decode cX0_areAllWhole 16 = .ok (.ireturn, 1) := by decide +kernel
theorem dX0_turnStove_0 : decode cX0_turnStove 0 = .ok (.aload_n 0, 1) := by decide +kernel
theorem dX0_turnStove_1 : decode cX0_turnStove 1 = .ok (.dup, 1) := by decide +kernel
theorem dX0_turnStove_2 : decode cX0_turnStove 2 = .ok (.getfield 31, 3) := by decide +kernel
theorem dX0_turnStove_5 : decode cX0_turnStove 5 = .ok (.iload_n 1, 1) := by decide +kernel
theorem dX0_turnStove_6 : decode cX0_turnStove 6 = .ok (.invokestatic 61, 3) := by decide +kernel
theorem dX0_turnStove_9 : decode cX0_turnStove 9 = .ok (.ixor, 1) := by decide +kernel
theorem dX0_turnStove_10 : decode cX0_turnStove 10 = .ok (.putfield 31, 3) := by decide +kernel
theorem dX0_turnStove_13 : decode cX0_turnStove 13 = .ok (.return_, 1) := by decide +kernel
theorem dX0_passHour_0 : decode cX0_passHour 0 = .ok (.aload_n 0, 1) := by decide +kernel
theorem dX0_passHour_1 : decode cX0_passHour 1 = .ok (.invokevirtual 65, 3) := by decide +kernel
theorem dX0_passHour_4 : decode cX0_passHour 4 = .ok (.aload_n 0, 1) := by decide +kernel
theorem dX0_passHour_5 : decode cX0_passHour 5 = .ok (.iconst 0, 1) := by decide +kernel
theorem dX0_passHour_6 : decode cX0_passHour 6 = .ok (.invokevirtual 68, 3) := by decide +kernel
theorem dX0_passHour_9 : decode cX0_passHour 9 = .ok (.istore_n 1, 1) := by decide +kernel
theorem dX0_passHour_10 : decode cX0_passHour 10 = .ok (.iconst 0, 1) := by decide +kernel
theorem dX0_passHour_11 : decode cX0_passHour 11 = .ok (.istore_n 2, 1) := by decide +kernel
theorem dX0_passHour_12 : decode cX0_passHour 12 = .ok (.iload_n 2, 1) := by decide +kernel
theorem dX0_passHour_13 : decode cX0_passHour 13 = .ok (.aload_n 0, 1) := by decide +kernel
theorem dX0_passHour_14 : decode cX0_passHour 14 = .ok (.getfield 27, 3) := by decide +kernel
theorem dX0_passHour_17 : decode cX0_passHour 17 = .ok (.if_icmp .ge 24, 3) := by decide +kernel
theorem dX0_passHour_20 : decode cX0_passHour 20 = .ok (.iload_n 1, 1) := by decide +kernel
theorem dX0_passHour_21 : decode cX0_passHour 21 = .ok (.iload_n 2, 1) := by decide +kernel
theorem dX0_passHour_22 : decode cX0_passHour 22 = .ok (.invokestatic 71, 3) := by decide +kernel
theorem dX0_passHour_25 : decode cX0_passHour 25 = .ok (.ifCond .eq 10, 3) := by decide +kernel
theorem dX0_passHour_28 : decode cX0_passHour 28 = .ok (.aload_n 0, 1) := by decide +kernel
theorem dX0_passHour_29 : decode cX0_passHour 29 = .ok (.iload_n 2, 1) := by decide +kernel
theorem dX0_passHour_30 : decode cX0_passHour 30 = .ok (.iconst 4, 1) := by decide +kernel
theorem dX0_passHour_31 : decode cX0_passHour 31 = .ok (.iconst 1, 1) := by decide +kernel
theorem dX0_passHour_32 : decode cX0_passHour 32 = .ok (.invokevirtual 38, 3) := by decide +kernel
theorem dX0_passHour_35 : decode cX0_passHour 35 = .ok (.iinc 2 1, 3) := by decide +kernel
theorem dX0_passHour_38 : decode cX0_passHour 38 = .ok (.goto (-26), 3) := by decide +kernel
theorem dX0_passHour_41 : decode cX0_passHour 41 = .ok (.iload_n 1, 1) := by decide +kernel
theorem dX0_passHour_42 : decode cX0_passHour 42 = .ok (.ireturn, 1) := by decide +kernel
theorem dX0_warm_0 : decode cX0_warm 0 = .ok (.iconst 0, 1) := by decide +kernel
theorem dX0_warm_1 : decode cX0_warm 1 = .ok (.istore_n 1, 1) := by decide +kernel
theorem dX0_warm_2 : decode cX0_warm 2 = .ok (.iload_n 1, 1) := by decide +kernel
theorem dX0_warm_3 : decode cX0_warm 3 = .ok (.aload_n 0, 1) := by decide +kernel
theorem dX0_warm_4 : decode cX0_warm 4 = .ok (.getfield 27, 3) := by decide +kernel
theorem dX0_warm_7 : decode cX0_warm 7 = .ok (.if_icmp .ge 55, 3) := by decide +kernel
theorem dX0_warm_10 : decode cX0_warm 10 = .ok (.aload_n 0, 1) := by decide +kernel
theorem dX0_warm_11 : decode cX0_warm 11 = .ok (.iload_n 1, 1) := by decide +kernel
theorem dX0_warm_12 : decode cX0_warm 12 = .ok (.iconst 1, 1) := by decide +kernel
theorem dX0_warm_13 : decode cX0_warm 13 = .ok (.invokevirtual 50, 3) := by decide +kernel
theorem dX0_warm_16 : decode cX0_warm 16 = .ok (.istore_n 2, 1) := by decide +kernel
theorem dX0_warm_17 : decode cX0_warm 17 = .ok (.aload_n 0, 1) := by decide +kernel
theorem dX0_warm_18 : decode cX0_warm 18 = .ok (.iload_n 1, 1) := by decide +kernel
theorem dX0_warm_19 : decode cX0_warm 19 = .ok (.invokevirtual 53, 3) := by decide +kernel
theorem dX0_warm_22 : decode cX0_warm 22 = .ok (.ifCond .eq 34, 3) := by decide +kernel
theorem dX0_warm_25 : decode cX0_warm 25 = .ok (.aload_n 0, 1) := by decide +kernel
theorem dX0_warm_26 : decode cX0_warm 26 = .ok (.getfield 31, 3) := by decide +kernel
theorem dX0_warm_29 : decode cX0_warm 29 = .ok (.aload_n 0, 1) := by decide +kernel
theorem dX0_warm_30 : decode cX0_warm 30 = .ok (.iload_n 1, 1) := by decide +kernel
theorem dX0_warm_31 : decode cX0_warm 31 = .ok (.iconst 3, 1) := by decide +kernel
theorem dX0_warm_32 : decode cX0_warm 32 = .ok (.invokevirtual 50, 3) := by decide +kernel
theorem dX0_warm_35 : decode cX0_warm 35 = .ok (.invokestatic 71, 3) := by decide +kernel
theorem dX0_warm_38 : decode cX0_warm 38 = .ok (.ifCond .eq 18, 3) := by decide +kernel
theorem dX0_warm_41 : decode cX0_warm 41 = .ok (.iload_n 2, 1) := by decide +kernel
theorem dX0_warm_42 : decode cX0_warm 42 = .ok (.bipush 9, 2) := by decide +kernel
theorem dX0_warm_44 : decode cX0_warm 44 = .ok (.if_icmp .ge 12, 3) := by decide +kernel
theorem dX0_warm_47 : decode cX0_warm 47 = .ok (.aload_n 0, 1) := by decide +kernel
theorem dX0_warm_48 : decode cX0_warm 48 = .ok (.iload_n 1, 1) := by decide +kernel
theorem dX0_warm_49 : decode cX0_warm 49 = .ok (.iconst 1, 1) := by decide +kernel
theorem dX0_warm_50 : decode cX0_warm 50 = .ok (.iload_n 2, 1) := by decide +kernel
theorem dX0_warm_51 : decode cX0_warm 51 = .ok (.iconst 1, 1) := by decide +kernel
theorem dX0_warm_52 : decode cX0_warm 52 = .ok (.iadd, 1) := by decide +kernel
theorem dX0_warm_53 : decode cX0_warm 53 = .ok (.invokevirtual 38, 3) := by decide +kernel
theorem dX0_warm_56 : decode cX0_warm 56 = .ok (.iinc 1 1, 3) := by decide +kernel
theorem dX0_warm_59 : decode cX0_warm 59 = .ok (.goto (-57), 3) := by decide +kernel
theorem dX0_warm_62 : decode cX0_warm 62 = .ok (.return_, 1) := by decide +kernel
theorem dX0_hatchingIfHeated_0 : decode cX0_hatchingIfHeated 0 = .ok (.iconst 0, 1) := by decide +kernel
theorem dX0_hatchingIfHeated_1 : decode cX0_hatchingIfHeated 1 = .ok (.istore_n 2, 1) := by decide +kernel
theorem dX0_hatchingIfHeated_2 : decode cX0_hatchingIfHeated 2 = .ok (.iconst 0, 1) := by decide +kernel
theorem dX0_hatchingIfHeated_3 : decode cX0_hatchingIfHeated 3 = .ok (.istore_n 3, 1) := by decide +kernel
theorem dX0_hatchingIfHeated_4 : decode cX0_hatchingIfHeated 4 = .ok (.iload_n 3, 1) := by decide +kernel
theorem dX0_hatchingIfHeated_5 : decode cX0_hatchingIfHeated 5 = .ok (.aload_n 0, 1) := by decide +kernel
theorem dX0_hatchingIfHeated_6 : decode cX0_hatchingIfHeated 6 = .ok (.getfield 27, 3) := by decide +kernel
theorem dX0_hatchingIfHeated_9 : decode cX0_hatchingIfHeated 9 = .ok (.if_icmp .ge 88, 3) := by decide +kernel
theorem dX0_hatchingIfHeated_12 : decode cX0_hatchingIfHeated 12 = .ok (.aload_n 0, 1) := by decide +kernel
theorem dX0_hatchingIfHeated_13 : decode cX0_hatchingIfHeated 13 = .ok (.getfield 9, 3) := by decide +kernel
theorem dX0_hatchingIfHeated_16 : decode cX0_hatchingIfHeated 16 = .ok (.iload_n 3, 1) := by decide +kernel
theorem dX0_hatchingIfHeated_17 : decode cX0_hatchingIfHeated 17 = .ok (.invokestatic 46, 3) := by decide +kernel
theorem dX0_hatchingIfHeated_20 : decode cX0_hatchingIfHeated 20 = .ok (.istore 4, 2) := by decide +kernel
theorem dX0_hatchingIfHeated_22 : decode cX0_hatchingIfHeated 22 = .ok (.aload_n 0, 1) := by decide +kernel
theorem dX0_hatchingIfHeated_23 : decode cX0_hatchingIfHeated 23 = .ok (.iload 4, 2) := by decide +kernel
theorem dX0_hatchingIfHeated_25 : decode cX0_hatchingIfHeated 25 = .ok (.iconst 4, 1) := by decide +kernel
theorem dX0_hatchingIfHeated_26 : decode cX0_hatchingIfHeated 26 = .ok (.invokevirtual 50, 3) := by decide +kernel
theorem dX0_hatchingIfHeated_29 : decode cX0_hatchingIfHeated 29 = .ok (.istore 5, 2) := by decide +kernel
theorem dX0_hatchingIfHeated_31 : decode cX0_hatchingIfHeated 31 = .ok (.iload 5, 2) := by decide +kernel
theorem dX0_hatchingIfHeated_33 : decode cX0_hatchingIfHeated 33 = .ok (.iconst 1, 1) := by decide +kernel
theorem dX0_hatchingIfHeated_34 : decode cX0_hatchingIfHeated 34 = .ok (.if_icmp .ne 6, 3) := by decide +kernel
theorem dX0_hatchingIfHeated_37 : decode cX0_hatchingIfHeated 37 = .ok (.goto 54, 3) := by decide +kernel
theorem dX0_hatchingIfHeated_40 : decode cX0_hatchingIfHeated 40 = .ok (.aload_n 0, 1) := by decide +kernel
theorem dX0_hatchingIfHeated_41 : decode cX0_hatchingIfHeated 41 = .ok (.iload 4, 2) := by decide +kernel
theorem dX0_hatchingIfHeated_43 : decode cX0_hatchingIfHeated 43 = .ok (.invokevirtual 75, 3) := by decide +kernel
theorem dX0_hatchingIfHeated_46 : decode cX0_hatchingIfHeated 46 = .ok (.ifCond .ne 17, 3) := by decide +kernel
theorem dX0_hatchingIfHeated_49 : decode cX0_hatchingIfHeated 49 = .ok (.iload_n 1, 1) := by decide +kernel
theorem dX0_hatchingIfHeated_50 : decode cX0_hatchingIfHeated 50 = .ok (.aload_n 0, 1) := by decide +kernel
theorem dX0_hatchingIfHeated_51 : decode cX0_hatchingIfHeated 51 = .ok (.iload 4, 2) := by decide +kernel
theorem dX0_hatchingIfHeated_53 : decode cX0_hatchingIfHeated 53 = .ok (.iconst 3, 1) := by decide +kernel
theorem dX0_hatchingIfHeated_54 : decode cX0_hatchingIfHeated 54 = .ok (.invokevirtual 50, 3) := by decide +kernel
theorem dX0_hatchingIfHeated_57 : decode cX0_hatchingIfHeated 57 = .ok (.invokestatic 71, 3) := by decide +kernel
theorem dX0_hatchingIfHeated_60 : decode cX0_hatchingIfHeated 60 = .ok (.ifCond .eq 7, 3) := by decide +kernel
theorem dX0_hatchingIfHeated_63 : decode cX0_hatchingIfHeated 63 = .ok (.iconst 1, 1) := by decide +kernel
theorem dX0_hatchingIfHeated_64 : decode cX0_hatchingIfHeated 64 = .ok (.goto 4, 3) := by decide +kernel
theorem dX0_hatchingIfHeated_67 : decode cX0_hatchingIfHeated 67 = .ok (.iconst 0, 1) := by decide +kernel
theorem dX0_hatchingIfHeated_68 : decode cX0_hatchingIfHeated 68 = .ok (.istore 6, 2) := by decide +kernel
theorem dX0_hatchingIfHeated_70 : decode cX0_hatchingIfHeated 70 = .ok (.iload 5, 2) := by decide +kernel
theorem dX0_hatchingIfHeated_72 : decode cX0_hatchingIfHeated 72 = .ok (.iconst 2, 1) := by decide +kernel
theorem dX0_hatchingIfHeated_73 : decode cX0_hatchingIfHeated 73 = .ok (.if_icmp .eq 8, 3) := by decide +kernel
theorem dX0_hatchingIfHeated_76 : decode cX0_hatchingIfHeated 76 = .ok (.iload 6, 2) := by decide +kernel
theorem dX0_hatchingIfHeated_78 : decode cX0_hatchingIfHeated 78 = .ok (.ifCond .ne 5, 3) := by decide +kernel
theorem dX0_hatchingIfHeated_81 : decode cX0_hatchingIfHeated 81 = .ok (.iload_n 2, 1) := by decide +kernel
theorem dX0_hatchingIfHeated_82 : decode cX0_hatchingIfHeated 82 = .ok (.ireturn, 1) := by decide +kernel
theorem dX0_hatchingIfHeated_83 : decode cX0_hatchingIfHeated 83 = .ok (.iload_n 2, 1) := by decide +kernel
theorem dX0_hatchingIfHeated_84 : decode cX0_hatchingIfHeated 84 = .ok (.iload 4, 2) := by decide +kernel
theorem dX0_hatchingIfHeated_86 : decode cX0_hatchingIfHeated 86 = .ok (.invokestatic 61, 3) := by decide +kernel
theorem dX0_hatchingIfHeated_89 : decode cX0_hatchingIfHeated 89 = .ok (.ior, 1) := by decide +kernel
theorem dX0_hatchingIfHeated_90 : decode cX0_hatchingIfHeated 90 = .ok (.istore_n 2, 1) := by decide +kernel
theorem dX0_hatchingIfHeated_91 : decode cX0_hatchingIfHeated 91 = .ok (.iinc 3 1, 3) := by decide +kernel
theorem dX0_hatchingIfHeated_94 : decode cX0_hatchingIfHeated 94 = .ok (.goto (-90), 3) := by decide +kernel
theorem dX0_hatchingIfHeated_97 : decode cX0_hatchingIfHeated 97 = .ok (.iload_n 2, 1) := by decide +kernel
theorem dX0_hatchingIfHeated_98 : decode cX0_hatchingIfHeated 98 = .ok (.ireturn, 1) := by decide +kernel
theorem dX0_worthOf_0 : decode cX0_worthOf 0 = .ok (.iconst 0, 1) := by decide +kernel
theorem dX0_worthOf_1 : decode cX0_worthOf 1 = .ok (.istore_n 3, 1) := by decide +kernel
theorem dX0_worthOf_2 : decode cX0_worthOf 2 = .ok (.iconst 0, 1) := by decide +kernel
theorem dX0_worthOf_3 : decode cX0_worthOf 3 = .ok (.istore 4, 2) := by decide +kernel
theorem dX0_worthOf_5 : decode cX0_worthOf 5 = .ok (.iload 4, 2) := by decide +kernel
theorem dX0_worthOf_7 : decode cX0_worthOf 7 = .ok (.aload_n 0, 1) := by decide +kernel
theorem dX0_worthOf_8 : decode cX0_worthOf 8 = .ok (.getfield 27, 3) := by decide +kernel
theorem dX0_worthOf_11 : decode cX0_worthOf 11 = .ok (.if_icmp .ge 42, 3) := by decide +kernel
theorem dX0_worthOf_14 : decode cX0_worthOf 14 = .ok (.iload_n 1, 1) := by decide +kernel
theorem dX0_worthOf_15 : decode cX0_worthOf 15 = .ok (.iload 4, 2) := by decide +kernel
theorem dX0_worthOf_17 : decode cX0_worthOf 17 = .ok (.invokestatic 71, 3) := by decide +kernel
theorem dX0_worthOf_20 : decode cX0_worthOf 20 = .ok (.ifCond .eq 27, 3) := by decide +kernel
theorem dX0_worthOf_23 : decode cX0_worthOf 23 = .ok (.iload_n 2, 1) := by decide +kernel
theorem dX0_worthOf_24 : decode cX0_worthOf 24 = .ok (.aload_n 0, 1) := by decide +kernel
theorem dX0_worthOf_25 : decode cX0_worthOf 25 = .ok (.iload 4, 2) := by decide +kernel
theorem dX0_worthOf_27 : decode cX0_worthOf 27 = .ok (.iconst 3, 1) := by decide +kernel
theorem dX0_worthOf_28 : decode cX0_worthOf 28 = .ok (.invokevirtual 50, 3) := by decide +kernel
theorem dX0_worthOf_31 : decode cX0_worthOf 31 = .ok (.invokestatic 71, 3) := by decide +kernel
theorem dX0_worthOf_34 : decode cX0_worthOf 34 = .ok (.ifCond .eq 13, 3) := by decide +kernel
theorem dX0_worthOf_37 : decode cX0_worthOf 37 = .ok (.iload_n 3, 1) := by decide +kernel
theorem dX0_worthOf_38 : decode cX0_worthOf 38 = .ok (.aload_n 0, 1) := by decide +kernel
theorem dX0_worthOf_39 : decode cX0_worthOf 39 = .ok (.iload 4, 2) := by decide +kernel
theorem dX0_worthOf_41 : decode cX0_worthOf 41 = .ok (.iconst 2, 1) := by decide +kernel
theorem dX0_worthOf_42 : decode cX0_worthOf 42 = .ok (.invokevirtual 50, 3) := by decide +kernel
theorem dX0_worthOf_45 : decode cX0_worthOf 45 = .ok (.iadd, 1) := by decide +kernel
theorem dX0_worthOf_46 : decode cX0_worthOf 46 = .ok (.istore_n 3, 1) := by decide +kernel
theorem dX0_worthOf_47 : decode cX0_worthOf 47 = .ok (.iinc 4 1, 3) := by decide +kernel
theorem dX0_worthOf_50 : decode cX0_worthOf 50 = .ok (.goto (-45), 3) := by decide +kernel
theorem dX0_worthOf_53 : decode cX0_worthOf 53 = .ok (.iload_n 3, 1) := by decide +kernel
theorem dX0_worthOf_54 : decode cX0_worthOf 54 = .ok (.ireturn, 1) := by decide +kernel
theorem dX0_stopPlace_0 : decode cX0_stopPlace 0 = .ok (.iconst 0, 1) := by decide +kernel
theorem dX0_stopPlace_1 : decode cX0_stopPlace 1 = .ok (.istore_n 1, 1) := by decide +kernel
theorem dX0_stopPlace_2 : decode cX0_stopPlace 2 = .ok (.iload_n 1, 1) := by decide +kernel
theorem dX0_stopPlace_3 : decode cX0_stopPlace 3 = .ok (.aload_n 0, 1) := by decide +kernel
theorem dX0_stopPlace_4 : decode cX0_stopPlace 4 = .ok (.getfield 27, 3) := by decide +kernel
theorem dX0_stopPlace_7 : decode cX0_stopPlace 7 = .ok (.if_icmp .ge 28, 3) := by decide +kernel
theorem dX0_stopPlace_10 : decode cX0_stopPlace 10 = .ok (.aload_n 0, 1) := by decide +kernel
theorem dX0_stopPlace_11 : decode cX0_stopPlace 11 = .ok (.aload_n 0, 1) := by decide +kernel
theorem dX0_stopPlace_12 : decode cX0_stopPlace 12 = .ok (.getfield 9, 3) := by decide +kernel
theorem dX0_stopPlace_15 : decode cX0_stopPlace 15 = .ok (.iload_n 1, 1) := by decide +kernel
theorem dX0_stopPlace_16 : decode cX0_stopPlace 16 = .ok (.invokestatic 46, 3) := by decide +kernel
theorem dX0_stopPlace_19 : decode cX0_stopPlace 19 = .ok (.iconst 4, 1) := by decide +kernel
theorem dX0_stopPlace_20 : decode cX0_stopPlace 20 = .ok (.invokevirtual 50, 3) := by decide +kernel
theorem dX0_stopPlace_23 : decode cX0_stopPlace 23 = .ok (.iconst 1, 1) := by decide +kernel
theorem dX0_stopPlace_24 : decode cX0_stopPlace 24 = .ok (.if_icmp .eq 5, 3) := by decide +kernel
theorem dX0_stopPlace_27 : decode cX0_stopPlace 27 = .ok (.iload_n 1, 1) := by decide +kernel
theorem dX0_stopPlace_28 : decode cX0_stopPlace 28 = .ok (.ireturn, 1) := by decide +kernel
theorem dX0_stopPlace_29 : decode cX0_stopPlace 29 = .ok (.iinc 1 1, 3) := by decide +kernel
theorem dX0_stopPlace_32 : decode cX0_stopPlace 32 = .ok (.goto (-30), 3) := by decide +kernel
theorem dX0_stopPlace_35 : decode cX0_stopPlace 35 = .ok (.aload_n 0, 1) := by decide +kernel
theorem dX0_stopPlace_36 : decode cX0_stopPlace 36 = .ok (.getfield 27, 3) := by decide +kernel
theorem dX0_stopPlace_39 : decode cX0_stopPlace 39 = .ok (.ireturn, 1) := by decide +kernel
theorem dX0_warmBehind_0 : decode cX0_warmBehind 0 = .ok (.iconst 0, 1) := by decide +kernel
theorem dX0_warmBehind_1 : decode cX0_warmBehind 1 = .ok (.istore_n 2, 1) := by decide +kernel
theorem dX0_warmBehind_2 : decode cX0_warmBehind 2 = .ok (.iload_n 1, 1) := by decide +kernel
theorem dX0_warmBehind_3 : decode cX0_warmBehind 3 = .ok (.iconst 1, 1) := by decide +kernel
theorem dX0_warmBehind_4 : decode cX0_warmBehind 4 = .ok (.iadd, 1) := by decide +kernel
theorem dX0_warmBehind_5 : decode cX0_warmBehind 5 = .ok (.istore_n 3, 1) := by decide +kernel
theorem dX0_warmBehind_6 : decode cX0_warmBehind 6 = .ok (.iload_n 3, 1) := by decide +kernel
theorem dX0_warmBehind_7 : decode cX0_warmBehind 7 = .ok (.aload_n 0, 1) := by decide +kernel
theorem dX0_warmBehind_8 : decode cX0_warmBehind 8 = .ok (.getfield 27, 3) := by decide +kernel
theorem dX0_warmBehind_11 : decode cX0_warmBehind 11 = .ok (.if_icmp .ge 45, 3) := by decide +kernel
theorem dX0_warmBehind_14 : decode cX0_warmBehind 14 = .ok (.aload_n 0, 1) := by decide +kernel
theorem dX0_warmBehind_15 : decode cX0_warmBehind 15 = .ok (.getfield 9, 3) := by decide +kernel
theorem dX0_warmBehind_18 : decode cX0_warmBehind 18 = .ok (.iload_n 3, 1) := by decide +kernel
theorem dX0_warmBehind_19 : decode cX0_warmBehind 19 = .ok (.invokestatic 46, 3) := by decide +kernel
theorem dX0_warmBehind_22 : decode cX0_warmBehind 22 = .ok (.istore 4, 2) := by decide +kernel
theorem dX0_warmBehind_24 : decode cX0_warmBehind 24 = .ok (.aload_n 0, 1) := by decide +kernel
theorem dX0_warmBehind_25 : decode cX0_warmBehind 25 = .ok (.iload 4, 2) := by decide +kernel
theorem dX0_warmBehind_27 : decode cX0_warmBehind 27 = .ok (.invokevirtual 53, 3) := by decide +kernel
theorem dX0_warmBehind_30 : decode cX0_warmBehind 30 = .ok (.ifCond .eq 20, 3) := by decide +kernel
theorem dX0_warmBehind_33 : decode cX0_warmBehind 33 = .ok (.aload_n 0, 1) := by decide +kernel
theorem dX0_warmBehind_34 : decode cX0_warmBehind 34 = .ok (.iload 4, 2) := by decide +kernel
theorem dX0_warmBehind_36 : decode cX0_warmBehind 36 = .ok (.invokevirtual 75, 3) := by decide +kernel
theorem dX0_warmBehind_39 : decode cX0_warmBehind 39 = .ok (.ifCond .eq 11, 3) := by decide +kernel
theorem dX0_warmBehind_42 : decode cX0_warmBehind 42 = .ok (.iload_n 2, 1) := by decide +kernel
theorem dX0_warmBehind_43 : decode cX0_warmBehind 43 = .ok (.iload 4, 2) := by decide +kernel
theorem dX0_warmBehind_45 : decode cX0_warmBehind 45 = .ok (.invokestatic 61, 3) := by decide +kernel
theorem dX0_warmBehind_48 : decode cX0_warmBehind 48 = .ok (.ior, 1) := by decide +kernel
theorem dX0_warmBehind_49 : decode cX0_warmBehind 49 = .ok (.istore_n 2, 1) := by decide +kernel
theorem dX0_warmBehind_50 : decode cX0_warmBehind 50 = .ok (.iinc 3 1, 3) := by decide +kernel
theorem dX0_warmBehind_53 : decode cX0_warmBehind 53 = .ok (.goto (-47), 3) := by decide +kernel
theorem dX0_warmBehind_56 : decode cX0_warmBehind 56 = .ok (.iload_n 2, 1) := by decide +kernel
theorem dX0_warmBehind_57 : decode cX0_warmBehind 57 = .ok (.ireturn, 1) := by decide +kernel
theorem dX0_eatenAheadOfWhole_0 : decode cX0_eatenAheadOfWhole 0 = .ok (.iconst 0, 1) := by decide +kernel
theorem dX0_eatenAheadOfWhole_1 : decode cX0_eatenAheadOfWhole 1 = .ok (.istore_n 1, 1) := by decide +kernel
theorem dX0_eatenAheadOfWhole_2 : decode cX0_eatenAheadOfWhole 2 = .ok (.iconst 0, 1) := by decide +kernel
theorem dX0_eatenAheadOfWhole_3 : decode cX0_eatenAheadOfWhole 3 = .ok (.istore_n 2, 1) := by decide +kernel
theorem dX0_eatenAheadOfWhole_4 : decode cX0_eatenAheadOfWhole 4 = .ok (.aload_n 0, 1) := by decide +kernel
theorem dX0_eatenAheadOfWhole_5 : decode cX0_eatenAheadOfWhole 5 = .ok (.getfield 27, 3) := by decide +kernel
theorem dX0_eatenAheadOfWhole_8 : decode cX0_eatenAheadOfWhole 8 = .ok (.iconst 1, 1) := by decide +kernel
theorem dX0_eatenAheadOfWhole_9 : decode cX0_eatenAheadOfWhole 9 = .ok (.isub, 1) := by decide +kernel
theorem dX0_eatenAheadOfWhole_10 : decode cX0_eatenAheadOfWhole 10 = .ok (.istore_n 3, 1) := by decide +kernel
theorem dX0_eatenAheadOfWhole_11 : decode cX0_eatenAheadOfWhole 11 = .ok (.iload_n 3, 1) := by decide +kernel
theorem dX0_eatenAheadOfWhole_12 : decode cX0_eatenAheadOfWhole 12 = .ok (.ifCond .lt 56, 3) := by decide +kernel
theorem dX0_eatenAheadOfWhole_15 : decode cX0_eatenAheadOfWhole 15 = .ok (.aload_n 0, 1) := by decide +kernel
theorem dX0_eatenAheadOfWhole_16 : decode cX0_eatenAheadOfWhole 16 = .ok (.getfield 9, 3) := by decide +kernel
theorem dX0_eatenAheadOfWhole_19 : decode cX0_eatenAheadOfWhole 19 = .ok (.iload_n 3, 1) := by decide +kernel
theorem dX0_eatenAheadOfWhole_20 : decode cX0_eatenAheadOfWhole 20 = .ok (.invokestatic 46, 3) := by decide +kernel
theorem dX0_eatenAheadOfWhole_23 : decode cX0_eatenAheadOfWhole 23 = .ok (.istore 4, 2) := by decide +kernel
theorem dX0_eatenAheadOfWhole_25 : decode cX0_eatenAheadOfWhole 25 = .ok (.aload_n 0, 1) := by decide +kernel
theorem dX0_eatenAheadOfWhole_26 : decode cX0_eatenAheadOfWhole 26 = .ok (.iload 4, 2) := by decide +kernel
theorem dX0_eatenAheadOfWhole_28 : decode cX0_eatenAheadOfWhole 28 = .ok (.invokevirtual 53, 3) := by decide +kernel
theorem dX0_eatenAheadOfWhole_31 : decode cX0_eatenAheadOfWhole 31 = .ok (.ifCond .eq 8, 3) := by decide +kernel
theorem dX0_eatenAheadOfWhole_34 : decode cX0_eatenAheadOfWhole 34 = .ok (.iconst 1, 1) := by decide +kernel
theorem dX0_eatenAheadOfWhole_35 : decode cX0_eatenAheadOfWhole 35 = .ok (.istore_n 2, 1) := by decide +kernel
theorem dX0_eatenAheadOfWhole_36 : decode cX0_eatenAheadOfWhole 36 = .ok (.goto 26, 3) := by decide +kernel
theorem dX0_eatenAheadOfWhole_39 : decode cX0_eatenAheadOfWhole 39 = .ok (.iload_n 2, 1) := by decide +kernel
theorem dX0_eatenAheadOfWhole_40 : decode cX0_eatenAheadOfWhole 40 = .ok (.ifCond .eq 22, 3) := by decide +kernel
theorem dX0_eatenAheadOfWhole_43 : decode cX0_eatenAheadOfWhole 43 = .ok (.aload_n 0, 1) := by decide +kernel
theorem dX0_eatenAheadOfWhole_44 : decode cX0_eatenAheadOfWhole 44 = .ok (.iload 4, 2) := by decide +kernel
theorem dX0_eatenAheadOfWhole_46 : decode cX0_eatenAheadOfWhole 46 = .ok (.iconst 4, 1) := by decide +kernel
theorem dX0_eatenAheadOfWhole_47 : decode cX0_eatenAheadOfWhole 47 = .ok (.invokevirtual 50, 3) := by decide +kernel
theorem dX0_eatenAheadOfWhole_50 : decode cX0_eatenAheadOfWhole 50 = .ok (.iconst 2, 1) := by decide +kernel
theorem dX0_eatenAheadOfWhole_51 : decode cX0_eatenAheadOfWhole 51 = .ok (.if_icmp .ne 11, 3) := by decide +kernel
theorem dX0_eatenAheadOfWhole_54 : decode cX0_eatenAheadOfWhole 54 = .ok (.iload_n 1, 1) := by decide +kernel
theorem dX0_eatenAheadOfWhole_55 : decode cX0_eatenAheadOfWhole 55 = .ok (.iload 4, 2) := by decide +kernel
theorem dX0_eatenAheadOfWhole_57 : decode cX0_eatenAheadOfWhole 57 = .ok (.invokestatic 61, 3) := by decide +kernel
theorem dX0_eatenAheadOfWhole_60 : decode cX0_eatenAheadOfWhole 60 = .ok (.ior, 1) := by decide +kernel
theorem dX0_eatenAheadOfWhole_61 : decode cX0_eatenAheadOfWhole 61 = .ok (.istore_n 1, 1) := by decide +kernel
theorem dX0_eatenAheadOfWhole_62 : decode cX0_eatenAheadOfWhole 62 = .ok (.iinc 3 (-1), 3) := by decide +kernel
theorem dX0_eatenAheadOfWhole_65 : decode cX0_eatenAheadOfWhole 65 = .ok (.goto (-54), 3) := by decide +kernel
theorem dX0_eatenAheadOfWhole_68 : decode cX0_eatenAheadOfWhole 68 = .ok (.iload_n 1, 1) := by decide +kernel
theorem dX0_eatenAheadOfWhole_69 : decode cX0_eatenAheadOfWhole 69 = .ok (.ireturn, 1) := by decide +kernel
theorem dX0_countWholeAheadOfEaten_0 : decode cX0_countWholeAheadOfEaten 0 = .ok (.iconst 0, 1) := by decide +kernel
theorem dX0_countWholeAheadOfEaten_1 : decode cX0_countWholeAheadOfEaten 1 = .ok (.istore_n 1, 1) := by decide +kernel
theorem dX0_countWholeAheadOfEaten_2 : decode cX0_countWholeAheadOfEaten 2 = .ok (.iconst 0, 1) := by decide +kernel
theorem dX0_countWholeAheadOfEaten_3 : decode cX0_countWholeAheadOfEaten 3 = .ok (.istore_n 2, 1) := by decide +kernel
theorem dX0_countWholeAheadOfEaten_4 : decode cX0_countWholeAheadOfEaten 4 = .ok (.iload_n 2, 1) := by decide +kernel
theorem dX0_countWholeAheadOfEaten_5 : decode cX0_countWholeAheadOfEaten 5 = .ok (.aload_n 0, 1) := by decide +kernel
theorem dX0_countWholeAheadOfEaten_6 : decode cX0_countWholeAheadOfEaten 6 = .ok (.getfield 27, 3) := by decide +kernel
theorem dX0_countWholeAheadOfEaten_9 : decode cX0_countWholeAheadOfEaten 9 = .ok (.if_icmp .ge 41, 3) := by decide +kernel
theorem dX0_countWholeAheadOfEaten_12 : decode cX0_countWholeAheadOfEaten 12 = .ok (.aload_n 0, 1) := by decide +kernel
theorem dX0_countWholeAheadOfEaten_13 : decode cX0_countWholeAheadOfEaten 13 = .ok (.getfield 9, 3) := by decide +kernel
theorem dX0_countWholeAheadOfEaten_16 : decode cX0_countWholeAheadOfEaten 16 = .ok (.iload_n 2, 1) := by decide +kernel
theorem dX0_countWholeAheadOfEaten_17 : decode cX0_countWholeAheadOfEaten 17 = .ok (.invokestatic 46, 3) := by decide +kernel
theorem dX0_countWholeAheadOfEaten_20 : decode cX0_countWholeAheadOfEaten 20 = .ok (.istore_n 3, 1) := by decide +kernel
theorem dX0_countWholeAheadOfEaten_21 : decode cX0_countWholeAheadOfEaten 21 = .ok (.aload_n 0, 1) := by decide +kernel
theorem dX0_countWholeAheadOfEaten_22 : decode cX0_countWholeAheadOfEaten 22 = .ok (.iload_n 3, 1) := by decide +kernel
theorem dX0_countWholeAheadOfEaten_23 : decode cX0_countWholeAheadOfEaten 23 = .ok (.iconst 4, 1) := by decide +kernel
theorem dX0_countWholeAheadOfEaten_24 : decode cX0_countWholeAheadOfEaten 24 = .ok (.invokevirtual 50, 3) := by decide +kernel
theorem dX0_countWholeAheadOfEaten_27 : decode cX0_countWholeAheadOfEaten 27 = .ok (.iconst 2, 1) := by decide +kernel
theorem dX0_countWholeAheadOfEaten_28 : decode cX0_countWholeAheadOfEaten 28 = .ok (.if_icmp .ne 5, 3) := by decide +kernel
theorem dX0_countWholeAheadOfEaten_31 : decode cX0_countWholeAheadOfEaten 31 = .ok (.iload_n 1, 1) := by decide +kernel
theorem dX0_countWholeAheadOfEaten_32 : decode cX0_countWholeAheadOfEaten 32 = .ok (.ireturn, 1) := by decide +kernel
theorem dX0_countWholeAheadOfEaten_33 : decode cX0_countWholeAheadOfEaten 33 = .ok (.aload_n 0, 1) := by decide +kernel
theorem dX0_countWholeAheadOfEaten_34 : decode cX0_countWholeAheadOfEaten 34 = .ok (.iload_n 3, 1) := by decide +kernel
theorem dX0_countWholeAheadOfEaten_35 : decode cX0_countWholeAheadOfEaten 35 = .ok (.invokevirtual 53, 3) := by decide +kernel
theorem dX0_countWholeAheadOfEaten_38 : decode cX0_countWholeAheadOfEaten 38 = .ok (.ifCond .eq 6, 3) := by decide +kernel
theorem dX0_countWholeAheadOfEaten_41 : decode cX0_countWholeAheadOfEaten 41 = .ok (.iinc 1 1, 3) := by decide +kernel
theorem dX0_countWholeAheadOfEaten_44 : decode cX0_countWholeAheadOfEaten 44 = .ok (.iinc 2 1, 3) := by decide +kernel
theorem dX0_countWholeAheadOfEaten_47 : decode cX0_countWholeAheadOfEaten 47 = .ok (.goto (-43), 3) := by decide +kernel
theorem dX0_countWholeAheadOfEaten_50 : decode cX0_countWholeAheadOfEaten 50 = .ok (.iload_n 1, 1) := by decide +kernel
theorem dX0_countWholeAheadOfEaten_51 : decode cX0_countWholeAheadOfEaten 51 = .ok (.ireturn, 1) := by decide +kernel
theorem dX0_housesOfWhole_0 : decode cX0_housesOfWhole 0 = .ok (.iconst 0, 1) := by decide +kernel
theorem dX0_housesOfWhole_1 : decode cX0_housesOfWhole 1 = .ok (.istore_n 1, 1) := by decide +kernel
theorem dX0_housesOfWhole_2 : decode cX0_housesOfWhole 2 = .ok (.iconst 0, 1) := by decide +kernel
theorem dX0_housesOfWhole_3 : decode cX0_housesOfWhole 3 = .ok (.istore_n 2, 1) := by decide +kernel
theorem dX0_housesOfWhole_4 : decode cX0_housesOfWhole 4 = .ok (.iload_n 2, 1) := by decide +kernel
theorem dX0_housesOfWhole_5 : decode cX0_housesOfWhole 5 = .ok (.aload_n 0, 1) := by decide +kernel
theorem dX0_housesOfWhole_6 : decode cX0_housesOfWhole 6 = .ok (.getfield 27, 3) := by decide +kernel
theorem dX0_housesOfWhole_9 : decode cX0_housesOfWhole 9 = .ok (.if_icmp .ge 29, 3) := by decide +kernel
theorem dX0_housesOfWhole_12 : decode cX0_housesOfWhole 12 = .ok (.aload_n 0, 1) := by decide +kernel
theorem dX0_housesOfWhole_13 : decode cX0_housesOfWhole 13 = .ok (.iload_n 2, 1) := by decide +kernel
theorem dX0_housesOfWhole_14 : decode cX0_housesOfWhole 14 = .ok (.invokevirtual 53, 3) := by decide +kernel
theorem dX0_housesOfWhole_17 : decode cX0_housesOfWhole 17 = .ok (.ifCond .eq 15, 3) := by decide +kernel
theorem dX0_housesOfWhole_20 : decode cX0_housesOfWhole 20 = .ok (.iload_n 1, 1) := by decide +kernel
theorem dX0_housesOfWhole_21 : decode cX0_housesOfWhole 21 = .ok (.aload_n 0, 1) := by decide +kernel
theorem dX0_housesOfWhole_22 : decode cX0_housesOfWhole 22 = .ok (.iload_n 2, 1) := by decide +kernel
theorem dX0_housesOfWhole_23 : decode cX0_housesOfWhole 23 = .ok (.iconst 3, 1) := by decide +kernel
theorem dX0_housesOfWhole_24 : decode cX0_housesOfWhole 24 = .ok (.invokevirtual 50, 3) := by decide +kernel
theorem dX0_housesOfWhole_27 : decode cX0_housesOfWhole 27 = .ok (.invokestatic 61, 3) := by decide +kernel
theorem dX0_housesOfWhole_30 : decode cX0_housesOfWhole 30 = .ok (.ior, 1) := by decide +kernel
theorem dX0_housesOfWhole_31 : decode cX0_housesOfWhole 31 = .ok (.istore_n 1, 1) := by decide +kernel
theorem dX0_housesOfWhole_32 : decode cX0_housesOfWhole 32 = .ok (.iinc 2 1, 3) := by decide +kernel
theorem dX0_housesOfWhole_35 : decode cX0_housesOfWhole 35 = .ok (.goto (-31), 3) := by decide +kernel
theorem dX0_housesOfWhole_38 : decode cX0_housesOfWhole 38 = .ok (.iload_n 1, 1) := by decide +kernel
theorem dX0_housesOfWhole_39 : decode cX0_housesOfWhole 39 = .ok (.ireturn, 1) := by decide +kernel
theorem dX0_hoursToHeat_0 : decode cX0_hoursToHeat 0 = .ok (.iconst 0, 1) := by decide +kernel
theorem dX0_hoursToHeat_1 : decode cX0_hoursToHeat 1 = .ok (.istore_n 2, 1) := by decide +kernel
theorem dX0_hoursToHeat_2 : decode cX0_hoursToHeat 2 = .ok (.iconst 0, 1) := by decide +kernel
theorem dX0_hoursToHeat_3 : decode cX0_hoursToHeat 3 = .ok (.istore_n 3, 1) := by decide +kernel
theorem dX0_hoursToHeat_4 : decode cX0_hoursToHeat 4 = .ok (.iload_n 3, 1) := by decide +kernel
theorem dX0_hoursToHeat_5 : decode cX0_hoursToHeat 5 = .ok (.aload_n 0, 1) := by decide +kernel
theorem dX0_hoursToHeat_6 : decode cX0_hoursToHeat 6 = .ok (.getfield 27, 3) := by decide +kernel
theorem dX0_hoursToHeat_9 : decode cX0_hoursToHeat 9 = .ok (.if_icmp .ge 48, 3) := by decide +kernel
theorem dX0_hoursToHeat_12 : decode cX0_hoursToHeat 12 = .ok (.aload_n 0, 1) := by decide +kernel
theorem dX0_hoursToHeat_13 : decode cX0_hoursToHeat 13 = .ok (.iload_n 3, 1) := by decide +kernel
theorem dX0_hoursToHeat_14 : decode cX0_hoursToHeat 14 = .ok (.invokevirtual 53, 3) := by decide +kernel
theorem dX0_hoursToHeat_17 : decode cX0_hoursToHeat 17 = .ok (.ifCond .eq 34, 3) := by decide +kernel
theorem dX0_hoursToHeat_20 : decode cX0_hoursToHeat 20 = .ok (.aload_n 0, 1) := by decide +kernel
theorem dX0_hoursToHeat_21 : decode cX0_hoursToHeat 21 = .ok (.iload_n 3, 1) := by decide +kernel
theorem dX0_hoursToHeat_22 : decode cX0_hoursToHeat 22 = .ok (.iconst 3, 1) := by decide +kernel
theorem dX0_hoursToHeat_23 : decode cX0_hoursToHeat 23 = .ok (.invokevirtual 50, 3) := by decide +kernel
theorem dX0_hoursToHeat_26 : decode cX0_hoursToHeat 26 = .ok (.iload_n 1, 1) := by decide +kernel
theorem dX0_hoursToHeat_27 : decode cX0_hoursToHeat 27 = .ok (.if_icmp .eq 6, 3) := by decide +kernel
theorem dX0_hoursToHeat_30 : decode cX0_hoursToHeat 30 = .ok (.goto 21, 3) := by decide +kernel
theorem dX0_hoursToHeat_33 : decode cX0_hoursToHeat 33 = .ok (.iload_n 2, 1) := by decide +kernel
theorem dX0_hoursToHeat_34 : decode cX0_hoursToHeat 34 = .ok (.aload_n 0, 1) := by decide +kernel
theorem dX0_hoursToHeat_35 : decode cX0_hoursToHeat 35 = .ok (.iload_n 3, 1) := by decide +kernel
theorem dX0_hoursToHeat_36 : decode cX0_hoursToHeat 36 = .ok (.iconst 0, 1) := by decide +kernel
theorem dX0_hoursToHeat_37 : decode cX0_hoursToHeat 37 = .ok (.invokevirtual 50, 3) := by decide +kernel
theorem dX0_hoursToHeat_40 : decode cX0_hoursToHeat 40 = .ok (.aload_n 0, 1) := by decide +kernel
theorem dX0_hoursToHeat_41 : decode cX0_hoursToHeat 41 = .ok (.iload_n 3, 1) := by decide +kernel
theorem dX0_hoursToHeat_42 : decode cX0_hoursToHeat 42 = .ok (.iconst 1, 1) := by decide +kernel
theorem dX0_hoursToHeat_43 : decode cX0_hoursToHeat 43 = .ok (.invokevirtual 50, 3) := by decide +kernel
theorem dX0_hoursToHeat_46 : decode cX0_hoursToHeat 46 = .ok (.isub, 1) := by decide +kernel
theorem dX0_hoursToHeat_47 : decode cX0_hoursToHeat 47 = .ok (.invokestatic 24, 3) := by decide +kernel
theorem dX0_hoursToHeat_50 : decode cX0_hoursToHeat 50 = .ok (.istore_n 2, 1) := by decide +kernel
theorem dX0_hoursToHeat_51 : decode cX0_hoursToHeat 51 = .ok (.iinc 3 1, 3) := by decide +kernel
theorem dX0_hoursToHeat_54 : decode cX0_hoursToHeat 54 = .ok (.goto (-50), 3) := by decide +kernel
theorem dX0_hoursToHeat_57 : decode cX0_hoursToHeat 57 = .ok (.iload_n 2, 1) := by decide +kernel
theorem dX0_hoursToHeat_58 : decode cX0_hoursToHeat 58 = .ok (.ireturn, 1) := by decide +kernel
theorem dX1_init_0 : decode cX1_init 0 = .ok (.aload_n 0, 1) := by decide +kernel
theorem dX1_init_1 : decode cX1_init 1 = .ok (.invokespecial 3, 3) := by decide +kernel
theorem dX1_init_4 : decode cX1_init 4 = .ok (.aload_n 0, 1) := by decide +kernel
theorem dX1_init_5 : decode cX1_init 5 = .ok (.bipush 7, 2) := by decide +kernel
theorem dX1_init_7 : decode cX1_init 7 = .ok (.newarray .int, 2) := by decide +kernel
theorem dX1_init_9 : decode cX1_init 9 = .ok (.putfield 9, 3) := by decide +kernel
theorem dX1_init_12 : decode cX1_init 12 = .ok (.aload_n 0, 1) := by decide +kernel
theorem dX1_init_13 : decode cX1_init 13 = .ok (.bipush 7, 2) := by decide +kernel
theorem dX1_init_15 : decode cX1_init 15 = .ok (.newarray .int, 2) := by decide +kernel
theorem dX1_init_17 : decode cX1_init 17 = .ok (.putfield 15, 3) := by decide +kernel
theorem dX1_init_20 : decode cX1_init 20 = .ok (.aload_n 0, 1) := by decide +kernel
theorem dX1_init_21 : decode cX1_init 21 = .ok (.bipush 49, 2) := by decide +kernel
theorem dX1_init_23 : decode cX1_init 23 = .ok (.newarray .int, 2) := by decide +kernel
theorem dX1_init_25 : decode cX1_init 25 = .ok (.putfield 18, 3) := by decide +kernel
theorem dX1_init_28 : decode cX1_init 28 = .ok (.aload_n 0, 1) := by decide +kernel
theorem dX1_init_29 : decode cX1_init 29 = .ok (.bipush 7, 2) := by decide +kernel
theorem dX1_init_31 : decode cX1_init 31 = .ok (.newarray .int, 2) := by decide +kernel
theorem dX1_init_33 : decode cX1_init 33 = .ok (.putfield 21, 3) := by decide +kernel
theorem dX1_init_36 : decode cX1_init 36 = .ok (.aload_n 0, 1) := by decide +kernel
theorem dX1_init_37 : decode cX1_init 37 = .ok (.bipush 7, 2) := by decide +kernel
theorem dX1_init_39 : decode cX1_init 39 = .ok (.newarray .int, 2) := by decide +kernel
theorem dX1_init_41 : decode cX1_init 41 = .ok (.putfield 24, 3) := by decide +kernel
theorem dX1_init_44 : decode cX1_init 44 = .ok (.aload_n 0, 1) := by decide +kernel
theorem dX1_init_45 : decode cX1_init 45 = .ok (.bipush 7, 2) := by decide +kernel
theorem dX1_init_47 : decode cX1_init 47 = .ok (.newarray .int, 2) := by decide +kernel
theorem dX1_init_49 : decode cX1_init 49 = .ok (.putfield 27, 3) := by decide +kernel
theorem dX1_init_52 : decode cX1_init 52 = .ok (.aload_n 0, 1) := by decide +kernel
theorem dX1_init_53 : decode cX1_init 53 = .ok (.bipush 7, 2) := by decide +kernel
theorem dX1_init_55 : decode cX1_init 55 = .ok (.newarray .int, 2) := by decide +kernel
theorem dX1_init_57 : decode cX1_init 57 = .ok (.putfield 30, 3) := by decide +kernel
theorem dX1_init_60 : decode cX1_init 60 = .ok (.aload_n 0, 1) := by decide +kernel
theorem dX1_init_61 : decode cX1_init 61 = .ok (.bipush 7, 2) := by decide +kernel
theorem dX1_init_63 : decode cX1_init 63 = .ok (.newarray .int, 2) := by decide +kernel
theorem dX1_init_65 : decode cX1_init 65 = .ok (.putfield 33, 3) := by decide +kernel
theorem dX1_init_68 : decode cX1_init 68 = .ok (.aload_n 0, 1) := by decide +kernel
theorem dX1_init_69 : decode cX1_init 69 = .ok (.bipush 7, 2) := by decide +kernel
theorem dX1_init_71 : decode cX1_init 71 = .ok (.newarray .int, 2) := by decide +kernel
theorem dX1_init_73 : decode cX1_init 73 = .ok (.putfield 36, 3) := by decide +kernel
theorem dX1_init_76 : decode cX1_init 76 = .ok (.aload_n 0, 1) := by decide +kernel
theorem dX1_init_77 : decode cX1_init 77 = .ok (.bipush 7, 2) := by decide +kernel
theorem dX1_init_79 : decode cX1_init 79 = .ok (.newarray .int, 2) := by decide +kernel
theorem dX1_init_81 : decode cX1_init 81 = .ok (.putfield 39, 3) := by decide +kernel
theorem dX1_init_84 : decode cX1_init 84 = .ok (.aload_n 0, 1) := by decide +kernel
theorem dX1_init_85 : decode cX1_init 85 = .ok (.new 42, 3) := by decide +kernel
theorem dX1_init_88 : decode cX1_init 88 = .ok (.dup, 1) := by decide +kernel
theorem dX1_init_89 : decode cX1_init 89 = .ok (.invokespecial 44, 3) := by decide +kernel
theorem dX1_init_92 : decode cX1_init 92 = .ok (.putfield 45, 3) := by decide +kernel
theorem dX1_init_95 : decode cX1_init 95 = .ok (.return_, 1) := by decide +kernel
theorem dX1_begin_0 : decode cX1_begin 0 = .ok (.aload_n 0, 1) := by decide +kernel
theorem dX1_begin_1 : decode cX1_begin 1 = .ok (.iconst 0, 1) := by decide +kernel
theorem dX1_begin_2 : decode cX1_begin 2 = .ok (.iload_n 1, 1) := by decide +kernel
theorem dX1_begin_3 : decode cX1_begin 3 = .ok (.bipush 7, 2) := by decide +kernel
theorem dX1_begin_5 : decode cX1_begin 5 = .ok (.invokestatic 49, 3) := by decide +kernel
theorem dX1_begin_8 : decode cX1_begin 8 = .ok (.invokestatic 55, 3) := by decide +kernel
theorem dX1_begin_11 : decode cX1_begin 11 = .ok (.putfield 58, 3) := by decide +kernel
theorem dX1_begin_14 : decode cX1_begin 14 = .ok (.aload_n 0, 1) := by decide +kernel
theorem dX1_begin_15 : decode cX1_begin 15 = .ok (.iconst 0, 1) := by decide +kernel
theorem dX1_begin_16 : decode cX1_begin 16 = .ok (.putfield 62, 3) := by decide +kernel
theorem dX1_begin_19 : decode cX1_begin 19 = .ok (.aload_n 0, 1) := by decide +kernel
theorem dX1_begin_20 : decode cX1_begin 20 = .ok (.getfield 18, 3) := by decide +kernel
theorem dX1_begin_23 : decode cX1_begin 23 = .ok (.iconst 0, 1) := by decide +kernel
theorem dX1_begin_24 : decode cX1_begin 24 = .ok (.invokestatic 65, 3) := by decide +kernel
theorem dX1_begin_27 : decode cX1_begin 27 = .ok (.aload_n 0, 1) := by decide +kernel
theorem dX1_begin_28 : decode cX1_begin 28 = .ok (.getfield 21, 3) := by decide +kernel
theorem dX1_begin_31 : decode cX1_begin 31 = .ok (.iconst 0, 1) := by decide +kernel
theorem dX1_begin_32 : decode cX1_begin 32 = .ok (.invokestatic 65, 3) := by decide +kernel
theorem dX1_begin_35 : decode cX1_begin 35 = .ok (.aload_n 0, 1) := by decide +kernel
theorem dX1_begin_36 : decode cX1_begin 36 = .ok (.getfield 24, 3) := by decide +kernel
theorem dX1_begin_39 : decode cX1_begin 39 = .ok (.bipush 7, 2) := by decide +kernel
theorem dX1_begin_41 : decode cX1_begin 41 = .ok (.invokestatic 69, 3) := by decide +kernel
theorem dX1_begin_44 : decode cX1_begin 44 = .ok (.iconst 1, 1) := by decide +kernel
theorem dX1_begin_45 : decode cX1_begin 45 = .ok (.isub, 1) := by decide +kernel
theorem dX1_begin_46 : decode cX1_begin 46 = .ok (.invokestatic 65, 3) := by decide +kernel
theorem dX1_begin_49 : decode cX1_begin 49 = .ok (.aload_n 0, 1) := by decide +kernel
theorem dX1_begin_50 : decode cX1_begin 50 = .ok (.getfield 27, 3) := by decide +kernel
theorem dX1_begin_53 : decode cX1_begin 53 = .ok (.iconst 0, 1) := by decide +kernel
theorem dX1_begin_54 : decode cX1_begin 54 = .ok (.invokestatic 65, 3) := by decide +kernel
theorem dX1_begin_57 : decode cX1_begin 57 = .ok (.aload_n 0, 1) := by decide +kernel
theorem dX1_begin_58 : decode cX1_begin 58 = .ok (.getfield 30, 3) := by decide +kernel
theorem dX1_begin_61 : decode cX1_begin 61 = .ok (.iconst 0, 1) := by decide +kernel
theorem dX1_begin_62 : decode cX1_begin 62 = .ok (.invokestatic 65, 3) := by decide +kernel
theorem dX1_begin_65 : decode cX1_begin 65 = .ok (.aload_n 0, 1) := by decide +kernel
theorem dX1_begin_66 : decode cX1_begin 66 = .ok (.getfield 33, 3) := by decide +kernel
theorem dX1_begin_69 : decode cX1_begin 69 = .ok (.iconst 0, 1) := by decide +kernel
theorem dX1_begin_70 : decode cX1_begin 70 = .ok (.invokestatic 65, 3) := by decide +kernel
theorem dX1_begin_73 : decode cX1_begin 73 = .ok (.aload_n 0, 1) := by decide +kernel
theorem dX1_begin_74 : decode cX1_begin 74 = .ok (.getfield 36, 3) := by decide +kernel
theorem dX1_begin_77 : decode cX1_begin 77 = .ok (.iconst (-1), 1) := by decide +kernel
theorem dX1_begin_78 : decode cX1_begin 78 = .ok (.invokestatic 65, 3) := by decide +kernel
theorem dX1_begin_81 : decode cX1_begin 81 = .ok (.aload_n 0, 1) := by decide +kernel
theorem dX1_begin_82 : decode cX1_begin 82 = .ok (.getfield 39, 3) := by decide +kernel
theorem dX1_begin_85 : decode cX1_begin 85 = .ok (.iconst (-1), 1) := by decide +kernel
theorem dX1_begin_86 : decode cX1_begin 86 = .ok (.invokestatic 65, 3) := by decide +kernel
theorem dX1_begin_89 : decode cX1_begin 89 = .ok (.return_, 1) := by decide +kernel
theorem dX1_takeClues_0 : decode cX1_takeClues 0 = .ok (.iconst 0, 1) := by decide +kernel
theorem dX1_takeClues_1 : decode cX1_takeClues 1 = .ok (.istore_n 2, 1) := by decide +kernel
theorem dX1_takeClues_2 : decode cX1_takeClues 2 = .ok (.iload_n 2, 1) := by decide +kernel
theorem dX1_takeClues_3 : decode cX1_takeClues 3 = .ok (.aload_n 1, 1) := by decide +kernel
theorem dX1_takeClues_4 : decode cX1_takeClues 4 = .ok (.getfield 73, 3) := by decide +kernel
theorem dX1_takeClues_7 : decode cX1_takeClues 7 = .ok (.if_icmp .ge 37, 3) := by decide +kernel
theorem dX1_takeClues_10 : decode cX1_takeClues 10 = .ok (.aload_n 0, 1) := by decide +kernel
theorem dX1_takeClues_11 : decode cX1_takeClues 11 = .ok (.aload_n 1, 1) := by decide +kernel
theorem dX1_takeClues_12 : decode cX1_takeClues 12 = .ok (.getfield 78, 3) := by decide +kernel
theorem dX1_takeClues_15 : decode cX1_takeClues 15 = .ok (.iload_n 2, 1) := by decide +kernel
theorem dX1_takeClues_16 : decode cX1_takeClues 16 = .ok (.invokestatic 81, 3) := by decide +kernel
theorem dX1_takeClues_19 : decode cX1_takeClues 19 = .ok (.aload_n 1, 1) := by decide +kernel
theorem dX1_takeClues_20 : decode cX1_takeClues 20 = .ok (.getfield 85, 3) := by decide +kernel
theorem dX1_takeClues_23 : decode cX1_takeClues 23 = .ok (.iload_n 2, 1) := by decide +kernel
theorem dX1_takeClues_24 : decode cX1_takeClues 24 = .ok (.invokestatic 81, 3) := by decide +kernel
theorem dX1_takeClues_27 : decode cX1_takeClues 27 = .ok (.aload_n 1, 1) := by decide +kernel
theorem dX1_takeClues_28 : decode cX1_takeClues 28 = .ok (.getfield 88, 3) := by decide +kernel
theorem dX1_takeClues_31 : decode cX1_takeClues 31 = .ok (.iload_n 2, 1) := by decide +kernel
theorem dX1_takeClues_32 : decode cX1_takeClues 32 = .ok (.invokestatic 81, 3) := by decide +kernel
theorem dX1_takeClues_35 : decode cX1_takeClues 35 = .ok (.invokevirtual 91, 3) := by decide +kernel
theorem dX1_takeClues_38 : decode cX1_takeClues 38 = .ok (.iinc 2 1, 3) := by decide +kernel
theorem dX1_takeClues_41 : decode cX1_takeClues 41 = .ok (.goto (-39), 3) := by decide +kernel
theorem dX1_takeClues_44 : decode cX1_takeClues 44 = .ok (.return_, 1) := by decide +kernel
theorem dX1_takeClue_0 : decode cX1_takeClue 0 = .ok (.iload_n 1, 1) := by decide +kernel
theorem dX1_takeClue_1 : decode cX1_takeClue 1 = .ok (.tableswitch 99 0 2 #[27, 51, 75], 27) := by decide +kernel
theorem dX1_takeClue_28 : decode cX1_takeClue 28 = .ok (.aload_n 0, 1) := by decide +kernel
theorem dX1_takeClue_29 : decode cX1_takeClue 29 = .ok (.getfield 27, 3) := by decide +kernel
theorem dX1_takeClue_32 : decode cX1_takeClue 32 = .ok (.iload_n 3, 1) := by decide +kernel
theorem dX1_takeClue_33 : decode cX1_takeClue 33 = .ok (.aload_n 0, 1) := by decide +kernel
theorem dX1_takeClue_34 : decode cX1_takeClue 34 = .ok (.getfield 27, 3) := by decide +kernel
theorem dX1_takeClue_37 : decode cX1_takeClue 37 = .ok (.iload_n 3, 1) := by decide +kernel
theorem dX1_takeClue_38 : decode cX1_takeClue 38 = .ok (.invokestatic 81, 3) := by decide +kernel
theorem dX1_takeClue_41 : decode cX1_takeClue 41 = .ok (.iload_n 2, 1) := by decide +kernel
theorem dX1_takeClue_42 : decode cX1_takeClue 42 = .ok (.invokestatic 69, 3) := by decide +kernel
theorem dX1_takeClue_45 : decode cX1_takeClue 45 = .ok (.ior, 1) := by decide +kernel
theorem dX1_takeClue_46 : decode cX1_takeClue 46 = .ok (.invokestatic 95, 3) := by decide +kernel
theorem dX1_takeClue_49 : decode cX1_takeClue 49 = .ok (.goto 74, 3) := by decide +kernel
theorem dX1_takeClue_52 : decode cX1_takeClue 52 = .ok (.aload_n 0, 1) := by decide +kernel
theorem dX1_takeClue_53 : decode cX1_takeClue 53 = .ok (.getfield 30, 3) := by decide +kernel
theorem dX1_takeClue_56 : decode cX1_takeClue 56 = .ok (.iload_n 3, 1) := by decide +kernel
theorem dX1_takeClue_57 : decode cX1_takeClue 57 = .ok (.aload_n 0, 1) := by decide +kernel
theorem dX1_takeClue_58 : decode cX1_takeClue 58 = .ok (.getfield 30, 3) := by decide +kernel
theorem dX1_takeClue_61 : decode cX1_takeClue 61 = .ok (.iload_n 3, 1) := by decide +kernel
theorem dX1_takeClue_62 : decode cX1_takeClue 62 = .ok (.invokestatic 81, 3) := by decide +kernel
theorem dX1_takeClue_65 : decode cX1_takeClue 65 = .ok (.iload_n 2, 1) := by decide +kernel
theorem dX1_takeClue_66 : decode cX1_takeClue 66 = .ok (.invokestatic 69, 3) := by decide +kernel
theorem dX1_takeClue_69 : decode cX1_takeClue 69 = .ok (.ior, 1) := by decide +kernel
theorem dX1_takeClue_70 : decode cX1_takeClue 70 = .ok (.invokestatic 95, 3) := by decide +kernel
theorem dX1_takeClue_73 : decode cX1_takeClue 73 = .ok (.goto 50, 3) := by decide +kernel
theorem dX1_takeClue_76 : decode cX1_takeClue 76 = .ok (.aload_n 0, 1) := by decide +kernel
theorem dX1_takeClue_77 : decode cX1_takeClue 77 = .ok (.getfield 24, 3) := by decide +kernel
theorem dX1_takeClue_80 : decode cX1_takeClue 80 = .ok (.iload_n 2, 1) := by decide +kernel
theorem dX1_takeClue_81 : decode cX1_takeClue 81 = .ok (.aload_n 0, 1) := by decide +kernel
theorem dX1_takeClue_82 : decode cX1_takeClue 82 = .ok (.getfield 24, 3) := by decide +kernel
theorem dX1_takeClue_85 : decode cX1_takeClue 85 = .ok (.iload_n 2, 1) := by decide +kernel
theorem dX1_takeClue_86 : decode cX1_takeClue 86 = .ok (.invokestatic 81, 3) := by decide +kernel
theorem dX1_takeClue_89 : decode cX1_takeClue 89 = .ok (.iload_n 3, 1) := by decide +kernel
theorem dX1_takeClue_90 : decode cX1_takeClue 90 = .ok (.invokestatic 69, 3) := by decide +kernel
theorem dX1_takeClue_93 : decode cX1_takeClue 93 = .ok (.iand, 1) := by decide +kernel
theorem dX1_takeClue_94 : decode cX1_takeClue 94 = .ok (.invokestatic 95, 3) := by decide +kernel
theorem dX1_takeClue_97 : decode cX1_takeClue 97 = .ok (.goto 26, 3) := by decide +kernel
theorem dX1_takeClue_100 : decode cX1_takeClue 100 = .ok (.aload_n 0, 1) := by decide +kernel
theorem dX1_takeClue_101 : decode cX1_takeClue 101 = .ok (.getfield 24, 3) := by decide +kernel
theorem dX1_takeClue_104 : decode cX1_takeClue 104 = .ok (.iload_n 2, 1) := by decide +kernel
theorem dX1_takeClue_105 : decode cX1_takeClue 105 = .ok (.aload_n 0, 1) := by decide +kernel
theorem dX1_takeClue_106 : decode cX1_takeClue 106 = .ok (.getfield 24, 3) := by decide +kernel
theorem dX1_takeClue_109 : decode cX1_takeClue 109 = .ok (.iload_n 2, 1) := by decide +kernel
theorem dX1_takeClue_110 : decode cX1_takeClue 110 = .ok (.invokestatic 81, 3) := by decide +kernel
theorem dX1_takeClue_113 : decode cX1_takeClue 113 = .ok (.iload_n 3, 1) := by decide +kernel
theorem dX1_takeClue_114 : decode cX1_takeClue 114 = .ok (.invokestatic 69, 3) := by decide +kernel
theorem dX1_takeClue_117 : decode cX1_takeClue 117 = .ok (.iconst (-1), 1) := by decide +kernel
theorem dX1_takeClue_118 : decode cX1_takeClue 118 = .ok (.ixor, 1) := by decide +kernel
theorem dX1_takeClue_119 : decode cX1_takeClue 119 = .ok (.iand, 1) := by decide +kernel
theorem dX1_takeClue_120 : decode cX1_takeClue 120 = .ok (.invokestatic 95, 3) := by decide +kernel
theorem dX1_takeClue_123 : decode cX1_takeClue 123 = .ok (.return_, 1) := by decide +kernel
theorem dX1_takeWeek_0 : decode cX1_takeWeek 0 = .ok (.aload_n 0, 1) := by decide +kernel
theorem dX1_takeWeek_1 : decode cX1_takeWeek 1 = .ok (.getfield 45, 3) := by decide +kernel
theorem dX1_takeWeek_4 : decode cX1_takeWeek 4 = .ok (.aload_n 2, 1) := by decide +kernel
theorem dX1_takeWeek_5 : decode cX1_takeWeek 5 = .ok (.invokevirtual 99, 3) := by decide +kernel
theorem dX1_takeWeek_8 : decode cX1_takeWeek 8 = .ok (.aload_n 0, 1) := by decide +kernel
theorem dX1_takeWeek_9 : decode cX1_takeWeek 9 = .ok (.getfield 33, 3) := by decide +kernel
theorem dX1_takeWeek_12 : decode cX1_takeWeek 12 = .ok (.sipush 1000, 3) := by decide +kernel
theorem dX1_takeWeek_15 : decode cX1_takeWeek 15 = .ok (.invokestatic 65, 3) := by decide +kernel
theorem dX1_takeWeek_18 : decode cX1_takeWeek 18 = .ok (.iconst 0, 1) := by decide +kernel
theorem dX1_takeWeek_19 : decode cX1_takeWeek 19 = .ok (.istore_n 3, 1) := by decide +kernel
theorem dX1_takeWeek_20 : decode cX1_takeWeek 20 = .ok (.iconst 0, 1) := by decide +kernel
theorem dX1_takeWeek_21 : decode cX1_takeWeek 21 = .ok (.istore 4, 2) := by decide +kernel
theorem dX1_takeWeek_23 : decode cX1_takeWeek 23 = .ok (.iload 4, 2) := by decide +kernel
theorem dX1_takeWeek_25 : decode cX1_takeWeek 25 = .ok (.aload_n 1, 1) := by decide +kernel
theorem dX1_takeWeek_26 : decode cX1_takeWeek 26 = .ok (.getfield 103, 3) := by decide +kernel
theorem dX1_takeWeek_29 : decode cX1_takeWeek 29 = .ok (.if_icmp .ge 103, 3) := by decide +kernel
theorem dX1_takeWeek_32 : decode cX1_takeWeek 32 = .ok (.aload_n 1, 1) := by decide +kernel
theorem dX1_takeWeek_33 : decode cX1_takeWeek 33 = .ok (.iload 4, 2) := by decide +kernel
theorem dX1_takeWeek_35 : decode cX1_takeWeek 35 = .ok (.invokevirtual 106, 3) := by decide +kernel
theorem dX1_takeWeek_38 : decode cX1_takeWeek 38 = .ok (.istore 5, 2) := by decide +kernel
theorem dX1_takeWeek_40 : decode cX1_takeWeek 40 = .ok (.iload 5, 2) := by decide +kernel
theorem dX1_takeWeek_42 : decode cX1_takeWeek 42 = .ok (.bipush 46, 2) := by decide +kernel
theorem dX1_takeWeek_44 : decode cX1_takeWeek 44 = .ok (.if_icmp .ne 21, 3) := by decide +kernel
theorem dX1_takeWeek_47 : decode cX1_takeWeek 47 = .ok (.iinc 3 1, 3) := by decide +kernel
theorem dX1_takeWeek_50 : decode cX1_takeWeek 50 = .ok (.aload_n 0, 1) := by decide +kernel
theorem dX1_takeWeek_51 : decode cX1_takeWeek 51 = .ok (.getfield 45, 3) := by decide +kernel
theorem dX1_takeWeek_54 : decode cX1_takeWeek 54 = .ok (.invokevirtual 109, 3) := by decide +kernel
theorem dX1_takeWeek_57 : decode cX1_takeWeek 57 = .ok (.aload_n 0, 1) := by decide +kernel
theorem dX1_takeWeek_58 : decode cX1_takeWeek 58 = .ok (.iload_n 3, 1) := by decide +kernel
theorem dX1_takeWeek_59 : decode cX1_takeWeek 59 = .ok (.invokevirtual 112, 3) := by decide +kernel
theorem dX1_takeWeek_62 : decode cX1_takeWeek 62 = .ok (.goto 64, 3) := by decide +kernel
theorem dX1_takeWeek_65 : decode cX1_takeWeek 65 = .ok (.iload 5, 2) := by decide +kernel
theorem dX1_takeWeek_67 : decode cX1_takeWeek 67 = .ok (.invokestatic 116, 3) := by decide +kernel
theorem dX1_takeWeek_70 : decode cX1_takeWeek 70 = .ok (.ifCond .eq 18, 3) := by decide +kernel
theorem dX1_takeWeek_73 : decode cX1_takeWeek 73 = .ok (.aload_n 0, 1) := by decide +kernel
theorem dX1_takeWeek_74 : decode cX1_takeWeek 74 = .ok (.getfield 45, 3) := by decide +kernel
theorem dX1_takeWeek_77 : decode cX1_takeWeek 77 = .ok (.iload 5, 2) := by decide +kernel
theorem dX1_takeWeek_79 : decode cX1_takeWeek 79 = .ok (.bipush 65, 2) := by decide +kernel
theorem dX1_takeWeek_81 : decode cX1_takeWeek 81 = .ok (.isub, 1) := by decide +kernel
theorem dX1_takeWeek_82 : decode cX1_takeWeek 82 = .ok (.invokevirtual 120, 3) := by decide +kernel
theorem dX1_takeWeek_85 : decode cX1_takeWeek 85 = .ok (.goto 41, 3) := by decide +kernel
theorem dX1_takeWeek_88 : decode cX1_takeWeek 88 = .ok (.aload_n 0, 1) := by decide +kernel
theorem dX1_takeWeek_89 : decode cX1_takeWeek 89 = .ok (.getfield 45, 3) := by decide +kernel
theorem dX1_takeWeek_92 : decode cX1_takeWeek 92 = .ok (.iload 5, 2) := by decide +kernel
theorem dX1_takeWeek_94 : decode cX1_takeWeek 94 = .ok (.bipush 48, 2) := by decide +kernel
theorem dX1_takeWeek_96 : decode cX1_takeWeek 96 = .ok (.isub, 1) := by decide +kernel
theorem dX1_takeWeek_97 : decode cX1_takeWeek 97 = .ok (.iconst 3, 1) := by decide +kernel
theorem dX1_takeWeek_98 : decode cX1_takeWeek 98 = .ok (.aload_n 1, 1) := by decide +kernel
theorem dX1_takeWeek_99 : decode cX1_takeWeek 99 = .ok (.iinc 4 1, 3) := by decide +kernel
theorem dX1_takeWeek_102 : decode cX1_takeWeek 102 = .ok (.iload 4, 2) := by decide +kernel
theorem dX1_takeWeek_104 : decode cX1_takeWeek 104 = .ok (.invokevirtual 106, 3) := by decide +kernel
theorem dX1_takeWeek_107 : decode cX1_takeWeek 107 = .ok (.bipush 65, 2) := by decide +kernel
theorem dX1_takeWeek_109 : decode cX1_takeWeek 109 = .ok (.isub, 1) := by decide +kernel
theorem dX1_takeWeek_110 : decode cX1_takeWeek 110 = .ok (.invokevirtual 123, 3) := by decide +kernel
theorem dX1_takeWeek_113 : decode cX1_takeWeek 113 = .ok (.aload_n 0, 1) := by decide +kernel
theorem dX1_takeWeek_114 : decode cX1_takeWeek 114 = .ok (.getfield 36, 3) := by decide +kernel
theorem dX1_takeWeek_117 : decode cX1_takeWeek 117 = .ok (.iload 5, 2) := by decide +kernel
theorem dX1_takeWeek_119 : decode cX1_takeWeek 119 = .ok (.bipush 48, 2) := by decide +kernel
theorem dX1_takeWeek_121 : decode cX1_takeWeek 121 = .ok (.isub, 1) := by decide +kernel
theorem dX1_takeWeek_122 : decode cX1_takeWeek 122 = .ok (.iload_n 3, 1) := by decide +kernel
theorem dX1_takeWeek_123 : decode cX1_takeWeek 123 = .ok (.invokestatic 95, 3) := by decide +kernel
theorem dX1_takeWeek_126 : decode cX1_takeWeek 126 = .ok (.iinc 4 1, 3) := by decide +kernel
theorem dX1_takeWeek_129 : decode cX1_takeWeek 129 = .ok (.goto (-106), 3) := by decide +kernel
theorem dX1_takeWeek_132 : decode cX1_takeWeek 132 = .ok (.return_, 1) := by decide +kernel
theorem dX1_noteWarm_0 : decode cX1_noteWarm 0 = .ok (.iconst 0, 1) := by decide +kernel
theorem dX1_noteWarm_1 : decode cX1_noteWarm 1 = .ok (.istore_n 2, 1) := by decide +kernel
theorem dX1_noteWarm_2 : decode cX1_noteWarm 2 = .ok (.iload_n 2, 1) := by decide +kernel
theorem dX1_noteWarm_3 : decode cX1_noteWarm 3 = .ok (.aload_n 0, 1) := by decide +kernel
theorem dX1_noteWarm_4 : decode cX1_noteWarm 4 = .ok (.getfield 58, 3) := by decide +kernel
theorem dX1_noteWarm_7 : decode cX1_noteWarm 7 = .ok (.if_icmp .ge 43, 3) := by decide +kernel
theorem dX1_noteWarm_10 : decode cX1_noteWarm 10 = .ok (.aload_n 0, 1) := by decide +kernel
theorem dX1_noteWarm_11 : decode cX1_noteWarm 11 = .ok (.getfield 33, 3) := by decide +kernel
theorem dX1_noteWarm_14 : decode cX1_noteWarm 14 = .ok (.iload_n 2, 1) := by decide +kernel
theorem dX1_noteWarm_15 : decode cX1_noteWarm 15 = .ok (.invokestatic 81, 3) := by decide +kernel
theorem dX1_noteWarm_18 : decode cX1_noteWarm 18 = .ok (.sipush 1000, 3) := by decide +kernel
theorem dX1_noteWarm_21 : decode cX1_noteWarm 21 = .ok (.if_icmp .ne 23, 3) := by decide +kernel
theorem dX1_noteWarm_24 : decode cX1_noteWarm 24 = .ok (.aload_n 0, 1) := by decide +kernel
theorem dX1_noteWarm_25 : decode cX1_noteWarm 25 = .ok (.getfield 45, 3) := by decide +kernel
theorem dX1_noteWarm_28 : decode cX1_noteWarm 28 = .ok (.iload_n 2, 1) := by decide +kernel
theorem dX1_noteWarm_29 : decode cX1_noteWarm 29 = .ok (.invokevirtual 126, 3) := by decide +kernel
theorem dX1_noteWarm_32 : decode cX1_noteWarm 32 = .ok (.ifCond .eq 12, 3) := by decide +kernel
theorem dX1_noteWarm_35 : decode cX1_noteWarm 35 = .ok (.aload_n 0, 1) := by decide +kernel
theorem dX1_noteWarm_36 : decode cX1_noteWarm 36 = .ok (.getfield 33, 3) := by decide +kernel
theorem dX1_noteWarm_39 : decode cX1_noteWarm 39 = .ok (.iload_n 2, 1) := by decide +kernel
theorem dX1_noteWarm_40 : decode cX1_noteWarm 40 = .ok (.iload_n 1, 1) := by decide +kernel
theorem dX1_noteWarm_41 : decode cX1_noteWarm 41 = .ok (.invokestatic 95, 3) := by decide +kernel
theorem dX1_noteWarm_44 : decode cX1_noteWarm 44 = .ok (.iinc 2 1, 3) := by decide +kernel
theorem dX1_noteWarm_47 : decode cX1_noteWarm 47 = .ok (.goto (-45), 3) := by decide +kernel
theorem dX1_noteWarm_50 : decode cX1_noteWarm 50 = .ok (.return_, 1) := by decide +kernel
theorem dX1_takeSights_0 : decode cX1_takeSights 0 = .ok (.iconst 0, 1) := by decide +kernel
theorem dX1_takeSights_1 : decode cX1_takeSights 1 = .ok (.istore_n 2, 1) := by decide +kernel
theorem dX1_takeSights_2 : decode cX1_takeSights 2 = .ok (.iload_n 2, 1) := by decide +kernel
theorem dX1_takeSights_3 : decode cX1_takeSights 3 = .ok (.aload_n 1, 1) := by decide +kernel
theorem dX1_takeSights_4 : decode cX1_takeSights 4 = .ok (.getfield 129, 3) := by decide +kernel
theorem dX1_takeSights_7 : decode cX1_takeSights 7 = .ok (.if_icmp .ge 81, 3) := by decide +kernel
theorem dX1_takeSights_10 : decode cX1_takeSights 10 = .ok (.aload_n 1, 1) := by decide +kernel
theorem dX1_takeSights_11 : decode cX1_takeSights 11 = .ok (.getfield 132, 3) := by decide +kernel
theorem dX1_takeSights_14 : decode cX1_takeSights 14 = .ok (.iload_n 2, 1) := by decide +kernel
theorem dX1_takeSights_15 : decode cX1_takeSights 15 = .ok (.invokestatic 81, 3) := by decide +kernel
theorem dX1_takeSights_18 : decode cX1_takeSights 18 = .ok (.istore_n 3, 1) := by decide +kernel
theorem dX1_takeSights_19 : decode cX1_takeSights 19 = .ok (.aload_n 1, 1) := by decide +kernel
theorem dX1_takeSights_20 : decode cX1_takeSights 20 = .ok (.getfield 135, 3) := by decide +kernel
theorem dX1_takeSights_23 : decode cX1_takeSights 23 = .ok (.iload_n 2, 1) := by decide +kernel
theorem dX1_takeSights_24 : decode cX1_takeSights 24 = .ok (.invokestatic 81, 3) := by decide +kernel
theorem dX1_takeSights_27 : decode cX1_takeSights 27 = .ok (.istore 4, 2) := by decide +kernel
theorem dX1_takeSights_29 : decode cX1_takeSights 29 = .ok (.iload 4, 2) := by decide +kernel
theorem dX1_takeSights_31 : decode cX1_takeSights 31 = .ok (.ifCond .ne 9, 3) := by decide +kernel
theorem dX1_takeSights_34 : decode cX1_takeSights 34 = .ok (.sipush 1000, 3) := by decide +kernel
theorem dX1_takeSights_37 : decode cX1_takeSights 37 = .ok (.goto 5, 3) := by decide +kernel
theorem dX1_takeSights_40 : decode cX1_takeSights 40 = .ok (.iload 4, 2) := by decide +kernel
theorem dX1_takeSights_42 : decode cX1_takeSights 42 = .ok (.istore 5, 2) := by decide +kernel
theorem dX1_takeSights_44 : decode cX1_takeSights 44 = .ok (.aload_n 0, 1) := by decide +kernel
theorem dX1_takeSights_45 : decode cX1_takeSights 45 = .ok (.getfield 39, 3) := by decide +kernel
theorem dX1_takeSights_48 : decode cX1_takeSights 48 = .ok (.iload_n 3, 1) := by decide +kernel
theorem dX1_takeSights_49 : decode cX1_takeSights 49 = .ok (.invokestatic 81, 3) := by decide +kernel
theorem dX1_takeSights_52 : decode cX1_takeSights 52 = .ok (.istore 6, 2) := by decide +kernel
theorem dX1_takeSights_54 : decode cX1_takeSights 54 = .ok (.aload_n 0, 1) := by decide +kernel
theorem dX1_takeSights_55 : decode cX1_takeSights 55 = .ok (.getfield 39, 3) := by decide +kernel
theorem dX1_takeSights_58 : decode cX1_takeSights 58 = .ok (.iload_n 3, 1) := by decide +kernel
theorem dX1_takeSights_59 : decode cX1_takeSights 59 = .ok (.iload 6, 2) := by decide +kernel
theorem dX1_takeSights_61 : decode cX1_takeSights 61 = .ok (.iconst (-1), 1) := by decide +kernel
theorem dX1_takeSights_62 : decode cX1_takeSights 62 = .ok (.if_icmp .eq 10, 3) := by decide +kernel
theorem dX1_takeSights_65 : decode cX1_takeSights 65 = .ok (.iload 6, 2) := by decide +kernel
theorem dX1_takeSights_67 : decode cX1_takeSights 67 = .ok (.iload 5, 2) := by decide +kernel
theorem dX1_takeSights_69 : decode cX1_takeSights 69 = .ok (.if_icmp .ne 8, 3) := by decide +kernel
theorem dX1_takeSights_72 : decode cX1_takeSights 72 = .ok (.iload 5, 2) := by decide +kernel
theorem dX1_takeSights_74 : decode cX1_takeSights 74 = .ok (.goto 5, 3) := by decide +kernel
theorem dX1_takeSights_77 : decode cX1_takeSights 77 = .ok (.bipush (-2), 2) := by decide +kernel
theorem dX1_takeSights_79 : decode cX1_takeSights 79 = .ok (.invokestatic 95, 3) := by decide +kernel
theorem dX1_takeSights_82 : decode cX1_takeSights 82 = .ok (.iinc 2 1, 3) := by decide +kernel
theorem dX1_takeSights_85 : decode cX1_takeSights 85 = .ok (.goto (-83), 3) := by decide +kernel
theorem dX1_takeSights_88 : decode cX1_takeSights 88 = .ok (.return_, 1) := by decide +kernel
theorem dX1_search_0 : decode cX1_search 0 = .ok (.aload_n 0, 1) := by decide +kernel
theorem dX1_search_1 : decode cX1_search 1 = .ok (.aload_n 0, 1) := by decide +kernel
theorem dX1_search_2 : decode cX1_search 2 = .ok (.iconst 0, 1) := by decide +kernel
theorem dX1_search_3 : decode cX1_search 3 = .ok (.iconst 0, 1) := by decide +kernel
theorem dX1_search_4 : decode cX1_search 4 = .ok (.iconst 0, 1) := by decide +kernel
theorem dX1_search_5 : decode cX1_search 5 = .ok (.invokestatic 138, 3) := by decide +kernel
theorem dX1_search_8 : decode cX1_search 8 = .ok (.putfield 62, 3) := by decide +kernel
theorem dX1_search_11 : decode cX1_search 11 = .ok (.return_, 1) := by decide +kernel
theorem dX1_lay_0 : decode cX1_lay 0 = .ok (.iload_n 1, 1) := by decide +kernel
theorem dX1_lay_1 : decode cX1_lay 1 = .ok (.aload_n 0, 1) := by decide +kernel
theorem dX1_lay_2 : decode cX1_lay 2 = .ok (.getfield 58, 3) := by decide +kernel
theorem dX1_lay_5 : decode cX1_lay 5 = .ok (.if_icmp .ge 9, 3) := by decide +kernel
theorem dX1_lay_8 : decode cX1_lay 8 = .ok (.iload_n 1, 1) := by decide +kernel
theorem dX1_lay_9 : decode cX1_lay 9 = .ok (.bipush 7, 2) := by decide +kernel
theorem dX1_lay_11 : decode cX1_lay 11 = .ok (.if_icmp .lt 9, 3) := by decide +kernel
theorem dX1_lay_14 : decode cX1_lay 14 = .ok (.aload_n 0, 1) := by decide +kernel
theorem dX1_lay_15 : decode cX1_lay 15 = .ok (.invokevirtual 142, 3) := by decide +kernel
theorem dX1_lay_18 : decode cX1_lay 18 = .ok (.iconst 1, 1) := by decide +kernel
theorem dX1_lay_19 : decode cX1_lay 19 = .ok (.ireturn, 1) := by decide +kernel
theorem dX1_lay_20 : decode cX1_lay 20 = .ok (.iconst 0, 1) := by decide +kernel
theorem dX1_lay_21 : decode cX1_lay 21 = .ok (.istore 4, 2) := by decide +kernel
theorem dX1_lay_23 : decode cX1_lay 23 = .ok (.iconst 0, 1) := by decide +kernel
theorem dX1_lay_24 : decode cX1_lay 24 = .ok (.istore 5, 2) := by decide +kernel
theorem dX1_lay_26 : decode cX1_lay 26 = .ok (.iload 5, 2) := by decide +kernel
theorem dX1_lay_28 : decode cX1_lay 28 = .ok (.aload_n 0, 1) := by decide +kernel
theorem dX1_lay_29 : decode cX1_lay 29 = .ok (.getfield 58, 3) := by decide +kernel
theorem dX1_lay_32 : decode cX1_lay 32 = .ok (.if_icmp .ge 111, 3) := by decide +kernel
theorem dX1_lay_35 : decode cX1_lay 35 = .ok (.iload_n 2, 1) := by decide +kernel
theorem dX1_lay_36 : decode cX1_lay 36 = .ok (.iload 5, 2) := by decide +kernel
theorem dX1_lay_38 : decode cX1_lay 38 = .ok (.invokestatic 145, 3) := by decide +kernel
theorem dX1_lay_41 : decode cX1_lay 41 = .ok (.ifCond .ne 96, 3) := by decide +kernel
theorem dX1_lay_44 : decode cX1_lay 44 = .ok (.aload_n 0, 1) := by decide +kernel
theorem dX1_lay_45 : decode cX1_lay 45 = .ok (.iload 5, 2) := by decide +kernel
theorem dX1_lay_47 : decode cX1_lay 47 = .ok (.iload_n 1, 1) := by decide +kernel
theorem dX1_lay_48 : decode cX1_lay 48 = .ok (.iload_n 2, 1) := by decide +kernel
theorem dX1_lay_49 : decode cX1_lay 49 = .ok (.invokevirtual 149, 3) := by decide +kernel
theorem dX1_lay_52 : decode cX1_lay 52 = .ok (.ifCond .ne 6, 3) := by decide +kernel
theorem dX1_lay_55 : decode cX1_lay 55 = .ok (.goto 82, 3) := by decide +kernel
theorem dX1_lay_58 : decode cX1_lay 58 = .ok (.iload_n 3, 1) := by decide +kernel
theorem dX1_lay_59 : decode cX1_lay 59 = .ok (.aload_n 0, 1) := by decide +kernel
theorem dX1_lay_60 : decode cX1_lay 60 = .ok (.getfield 33, 3) := by decide +kernel
theorem dX1_lay_63 : decode cX1_lay 63 = .ok (.iload 5, 2) := by decide +kernel
theorem dX1_lay_65 : decode cX1_lay 65 = .ok (.invokestatic 81, 3) := by decide +kernel
theorem dX1_lay_68 : decode cX1_lay 68 = .ok (.invokestatic 55, 3) := by decide +kernel
theorem dX1_lay_71 : decode cX1_lay 71 = .ok (.istore 6, 2) := by decide +kernel
theorem dX1_lay_73 : decode cX1_lay 73 = .ok (.aload_n 0, 1) := by decide +kernel
theorem dX1_lay_74 : decode cX1_lay 74 = .ok (.iload 5, 2) := by decide +kernel
theorem dX1_lay_76 : decode cX1_lay 76 = .ok (.iload 6, 2) := by decide +kernel
theorem dX1_lay_78 : decode cX1_lay 78 = .ok (.invokevirtual 153, 3) := by decide +kernel
theorem dX1_lay_81 : decode cX1_lay 81 = .ok (.ifCond .ne 6, 3) := by decide +kernel
theorem dX1_lay_84 : decode cX1_lay 84 = .ok (.goto 53, 3) := by decide +kernel
theorem dX1_lay_87 : decode cX1_lay 87 = .ok (.aload_n 0, 1) := by decide +kernel
theorem dX1_lay_88 : decode cX1_lay 88 = .ok (.getfield 9, 3) := by decide +kernel
theorem dX1_lay_91 : decode cX1_lay 91 = .ok (.iload_n 1, 1) := by decide +kernel
theorem dX1_lay_92 : decode cX1_lay 92 = .ok (.iload 5, 2) := by decide +kernel
theorem dX1_lay_94 : decode cX1_lay 94 = .ok (.invokestatic 95, 3) := by decide +kernel
theorem dX1_lay_97 : decode cX1_lay 97 = .ok (.aload_n 0, 1) := by decide +kernel
theorem dX1_lay_98 : decode cX1_lay 98 = .ok (.iload_n 1, 1) := by decide +kernel
theorem dX1_lay_99 : decode cX1_lay 99 = .ok (.iconst 1, 1) := by decide +kernel
theorem dX1_lay_100 : decode cX1_lay 100 = .ok (.iadd, 1) := by decide +kernel
theorem dX1_lay_101 : decode cX1_lay 101 = .ok (.iload_n 2, 1) := by decide +kernel
theorem dX1_lay_102 : decode cX1_lay 102 = .ok (.iload 5, 2) := by decide +kernel
theorem dX1_lay_104 : decode cX1_lay 104 = .ok (.invokestatic 69, 3) := by decide +kernel
theorem dX1_lay_107 : decode cX1_lay 107 = .ok (.ior, 1) := by decide +kernel
theorem dX1_lay_108 : decode cX1_lay 108 = .ok (.iload 6, 2) := by decide +kernel
theorem dX1_lay_110 : decode cX1_lay 110 = .ok (.invokestatic 138, 3) := by decide +kernel
theorem dX1_lay_113 : decode cX1_lay 113 = .ok (.istore 7, 2) := by decide +kernel
theorem dX1_lay_115 : decode cX1_lay 115 = .ok (.iload 7, 2) := by decide +kernel
theorem dX1_lay_117 : decode cX1_lay 117 = .ok (.ifCond .le 13, 3) := by decide +kernel
theorem dX1_lay_120 : decode cX1_lay 120 = .ok (.aload_n 0, 1) := by decide +kernel
theorem dX1_lay_121 : decode cX1_lay 121 = .ok (.iload 5, 2) := by decide +kernel
theorem dX1_lay_123 : decode cX1_lay 123 = .ok (.iload_n 1, 1) := by decide +kernel
theorem dX1_lay_124 : decode cX1_lay 124 = .ok (.iload_n 2, 1) := by decide +kernel
theorem dX1_lay_125 : decode cX1_lay 125 = .ok (.iload 7, 2) := by decide +kernel
theorem dX1_lay_127 : decode cX1_lay 127 = .ok (.invokevirtual 156, 3) := by decide +kernel
theorem dX1_lay_130 : decode cX1_lay 130 = .ok (.iload 4, 2) := by decide +kernel
theorem dX1_lay_132 : decode cX1_lay 132 = .ok (.iload 7, 2) := by decide +kernel
theorem dX1_lay_134 : decode cX1_lay 134 = .ok (.iadd, 1) := by decide +kernel
theorem dX1_lay_135 : decode cX1_lay 135 = .ok (.istore 4, 2) := by decide +kernel
theorem dX1_lay_137 : decode cX1_lay 137 = .ok (.iinc 5 1, 3) := by decide +kernel
theorem dX1_lay_140 : decode cX1_lay 140 = .ok (.goto (-114), 3) := by decide +kernel
theorem dX1_lay_143 : decode cX1_lay 143 = .ok (.iload 4, 2) := by decide +kernel
theorem dX1_lay_145 : decode cX1_lay 145 = .ok (.ireturn, 1) := by decide +kernel
theorem dX1_canBeLaid_0 : decode cX1_canBeLaid 0 = .ok (.aload_n 0, 1) := by decide +kernel
theorem dX1_canBeLaid_1 : decode cX1_canBeLaid 1 = .ok (.getfield 24, 3) := by decide +kernel
theorem dX1_canBeLaid_4 : decode cX1_canBeLaid 4 = .ok (.iload_n 1, 1) := by decide +kernel
theorem dX1_canBeLaid_5 : decode cX1_canBeLaid 5 = .ok (.invokestatic 81, 3) := by decide +kernel
theorem dX1_canBeLaid_8 : decode cX1_canBeLaid 8 = .ok (.iload_n 2, 1) := by decide +kernel
theorem dX1_canBeLaid_9 : decode cX1_canBeLaid 9 = .ok (.invokestatic 145, 3) := by decide +kernel
theorem dX1_canBeLaid_12 : decode cX1_canBeLaid 12 = .ok (.ifCond .eq 18, 3) := by decide +kernel
theorem dX1_canBeLaid_15 : decode cX1_canBeLaid 15 = .ok (.aload_n 0, 1) := by decide +kernel
theorem dX1_canBeLaid_16 : decode cX1_canBeLaid 16 = .ok (.getfield 27, 3) := by decide +kernel
theorem dX1_canBeLaid_19 : decode cX1_canBeLaid 19 = .ok (.iload_n 1, 1) := by decide +kernel
theorem dX1_canBeLaid_20 : decode cX1_canBeLaid 20 = .ok (.invokestatic 81, 3) := by decide +kernel
theorem dX1_canBeLaid_23 : decode cX1_canBeLaid 23 = .ok (.iload_n 3, 1) := by decide +kernel
theorem dX1_canBeLaid_24 : decode cX1_canBeLaid 24 = .ok (.iconst (-1), 1) := by decide +kernel
theorem dX1_canBeLaid_25 : decode cX1_canBeLaid 25 = .ok (.ixor, 1) := by decide +kernel
theorem dX1_canBeLaid_26 : decode cX1_canBeLaid 26 = .ok (.iand, 1) := by decide +kernel
theorem dX1_canBeLaid_27 : decode cX1_canBeLaid 27 = .ok (.ifCond .eq 5, 3) := by decide +kernel
theorem dX1_canBeLaid_30 : decode cX1_canBeLaid 30 = .ok (.iconst 0, 1) := by decide +kernel
theorem dX1_canBeLaid_31 : decode cX1_canBeLaid 31 = .ok (.ireturn, 1) := by decide +kernel
theorem dX1_canBeLaid_32 : decode cX1_canBeLaid 32 = .ok (.aload_n 0, 1) := by decide +kernel
theorem dX1_canBeLaid_33 : decode cX1_canBeLaid 33 = .ok (.getfield 30, 3) := by decide +kernel
theorem dX1_canBeLaid_36 : decode cX1_canBeLaid 36 = .ok (.iload_n 1, 1) := by decide +kernel
theorem dX1_canBeLaid_37 : decode cX1_canBeLaid 37 = .ok (.invokestatic 81, 3) := by decide +kernel
theorem dX1_canBeLaid_40 : decode cX1_canBeLaid 40 = .ok (.istore 4, 2) := by decide +kernel
theorem dX1_canBeLaid_42 : decode cX1_canBeLaid 42 = .ok (.iload 4, 2) := by decide +kernel
theorem dX1_canBeLaid_44 : decode cX1_canBeLaid 44 = .ok (.ifCond .eq 25, 3) := by decide +kernel
theorem dX1_canBeLaid_47 : decode cX1_canBeLaid 47 = .ok (.iload_n 2, 1) := by decide +kernel
theorem dX1_canBeLaid_48 : decode cX1_canBeLaid 48 = .ok (.ifCond .le 25, 3) := by decide +kernel
theorem dX1_canBeLaid_51 : decode cX1_canBeLaid 51 = .ok (.iload 4, 2) := by decide +kernel
theorem dX1_canBeLaid_53 : decode cX1_canBeLaid 53 = .ok (.aload_n 0, 1) := by decide +kernel
theorem dX1_canBeLaid_54 : decode cX1_canBeLaid 54 = .ok (.getfield 9, 3) := by decide +kernel
theorem dX1_canBeLaid_57 : decode cX1_canBeLaid 57 = .ok (.iload_n 2, 1) := by decide +kernel
theorem dX1_canBeLaid_58 : decode cX1_canBeLaid 58 = .ok (.iconst 1, 1) := by decide +kernel
theorem dX1_canBeLaid_59 : decode cX1_canBeLaid 59 = .ok (.isub, 1) := by decide +kernel
theorem dX1_canBeLaid_60 : decode cX1_canBeLaid 60 = .ok (.invokestatic 81, 3) := by decide +kernel
theorem dX1_canBeLaid_63 : decode cX1_canBeLaid 63 = .ok (.invokestatic 69, 3) := by decide +kernel
theorem dX1_canBeLaid_66 : decode cX1_canBeLaid 66 = .ok (.if_icmp .ne 7, 3) := by decide +kernel
theorem dX1_canBeLaid_69 : decode cX1_canBeLaid 69 = .ok (.iconst 1, 1) := by decide +kernel
theorem dX1_canBeLaid_70 : decode cX1_canBeLaid 70 = .ok (.goto 4, 3) := by decide +kernel
theorem dX1_canBeLaid_73 : decode cX1_canBeLaid 73 = .ok (.iconst 0, 1) := by decide +kernel
theorem dX1_canBeLaid_74 : decode cX1_canBeLaid 74 = .ok (.ireturn, 1) := by decide +kernel
theorem dX1_canHatchIn_0 : decode cX1_canHatchIn 0 = .ok (.aload_n 0, 1) := by decide +kernel
theorem dX1_canHatchIn_1 : decode cX1_canHatchIn 1 = .ok (.getfield 39, 3) := by decide +kernel
theorem dX1_canHatchIn_4 : decode cX1_canHatchIn 4 = .ok (.iload_n 1, 1) := by decide +kernel
theorem dX1_canHatchIn_5 : decode cX1_canHatchIn 5 = .ok (.invokestatic 81, 3) := by decide +kernel
theorem dX1_canHatchIn_8 : decode cX1_canHatchIn 8 = .ok (.istore_n 3, 1) := by decide +kernel
theorem dX1_canHatchIn_9 : decode cX1_canHatchIn 9 = .ok (.iload_n 2, 1) := by decide +kernel
theorem dX1_canHatchIn_10 : decode cX1_canHatchIn 10 = .ok (.aload_n 0, 1) := by decide +kernel
theorem dX1_canHatchIn_11 : decode cX1_canHatchIn 11 = .ok (.getfield 36, 3) := by decide +kernel
theorem dX1_canHatchIn_14 : decode cX1_canHatchIn 14 = .ok (.iload_n 1, 1) := by decide +kernel
theorem dX1_canHatchIn_15 : decode cX1_canHatchIn 15 = .ok (.invokestatic 81, 3) := by decide +kernel
theorem dX1_canHatchIn_18 : decode cX1_canHatchIn 18 = .ok (.if_icmp .le 17, 3) := by decide +kernel
theorem dX1_canHatchIn_21 : decode cX1_canHatchIn 21 = .ok (.iload_n 3, 1) := by decide +kernel
theorem dX1_canHatchIn_22 : decode cX1_canHatchIn 22 = .ok (.iconst (-1), 1) := by decide +kernel
theorem dX1_canHatchIn_23 : decode cX1_canHatchIn 23 = .ok (.if_icmp .eq 8, 3) := by decide +kernel
theorem dX1_canHatchIn_26 : decode cX1_canHatchIn 26 = .ok (.iload_n 3, 1) := by decide +kernel
theorem dX1_canHatchIn_27 : decode cX1_canHatchIn 27 = .ok (.iload_n 2, 1) := by decide +kernel
theorem dX1_canHatchIn_28 : decode cX1_canHatchIn 28 = .ok (.if_icmp .ne 7, 3) := by decide +kernel
theorem dX1_canHatchIn_31 : decode cX1_canHatchIn 31 = .ok (.iconst 1, 1) := by decide +kernel
theorem dX1_canHatchIn_32 : decode cX1_canHatchIn 32 = .ok (.goto 4, 3) := by decide +kernel
theorem dX1_canHatchIn_35 : decode cX1_canHatchIn 35 = .ok (.iconst 0, 1) := by decide +kernel
theorem dX1_canHatchIn_36 : decode cX1_canHatchIn 36 = .ok (.ireturn, 1) := by decide +kernel
theorem dX1_keepIfFirst_0 : decode cX1_keepIfFirst 0 = .ok (.aload_n 0, 1) := by decide +kernel
theorem dX1_keepIfFirst_1 : decode cX1_keepIfFirst 1 = .ok (.getfield 62, 3) := by decide +kernel
theorem dX1_keepIfFirst_4 : decode cX1_keepIfFirst 4 = .ok (.ifCond .ne 14, 3) := by decide +kernel
theorem dX1_keepIfFirst_7 : decode cX1_keepIfFirst 7 = .ok (.aload_n 0, 1) := by decide +kernel
theorem dX1_keepIfFirst_8 : decode cX1_keepIfFirst 8 = .ok (.getfield 9, 3) := by decide +kernel
theorem dX1_keepIfFirst_11 : decode cX1_keepIfFirst 11 = .ok (.aload_n 0, 1) := by decide +kernel
theorem dX1_keepIfFirst_12 : decode cX1_keepIfFirst 12 = .ok (.getfield 15, 3) := by decide +kernel
theorem dX1_keepIfFirst_15 : decode cX1_keepIfFirst 15 = .ok (.invokestatic 160, 3) := by decide +kernel
theorem dX1_keepIfFirst_18 : decode cX1_keepIfFirst 18 = .ok (.aload_n 0, 1) := by decide +kernel
theorem dX1_keepIfFirst_19 : decode cX1_keepIfFirst 19 = .ok (.iconst 1, 1) := by decide +kernel
theorem dX1_keepIfFirst_20 : decode cX1_keepIfFirst 20 = .ok (.putfield 62, 3) := by decide +kernel
theorem dX1_keepIfFirst_23 : decode cX1_keepIfFirst 23 = .ok (.return_, 1) := by decide +kernel
theorem dX1_addOrders_0 : decode cX1_addOrders 0 = .ok (.iload_n 1, 1) := by decide +kernel
theorem dX1_addOrders_1 : decode cX1_addOrders 1 = .ok (.bipush 7, 2) := by decide +kernel
theorem dX1_addOrders_3 : decode cX1_addOrders 3 = .ok (.imul, 1) := by decide +kernel
theorem dX1_addOrders_4 : decode cX1_addOrders 4 = .ok (.iload_n 2, 1) := by decide +kernel
theorem dX1_addOrders_5 : decode cX1_addOrders 5 = .ok (.iadd, 1) := by decide +kernel
theorem dX1_addOrders_6 : decode cX1_addOrders 6 = .ok (.istore 5, 2) := by decide +kernel
theorem dX1_addOrders_8 : decode cX1_addOrders 8 = .ok (.aload_n 0, 1) := by decide +kernel
theorem dX1_addOrders_9 : decode cX1_addOrders 9 = .ok (.getfield 18, 3) := by decide +kernel
theorem dX1_addOrders_12 : decode cX1_addOrders 12 = .ok (.iload 5, 2) := by decide +kernel
theorem dX1_addOrders_14 : decode cX1_addOrders 14 = .ok (.aload_n 0, 1) := by decide +kernel
theorem dX1_addOrders_15 : decode cX1_addOrders 15 = .ok (.getfield 18, 3) := by decide +kernel
theorem dX1_addOrders_18 : decode cX1_addOrders 18 = .ok (.iload 5, 2) := by decide +kernel
theorem dX1_addOrders_20 : decode cX1_addOrders 20 = .ok (.invokestatic 81, 3) := by decide +kernel
theorem dX1_addOrders_23 : decode cX1_addOrders 23 = .ok (.iload 4, 2) := by decide +kernel
theorem dX1_addOrders_25 : decode cX1_addOrders 25 = .ok (.iadd, 1) := by decide +kernel
theorem dX1_addOrders_26 : decode cX1_addOrders 26 = .ok (.invokestatic 95, 3) := by decide +kernel
theorem dX1_addOrders_29 : decode cX1_addOrders 29 = .ok (.aload_n 0, 1) := by decide +kernel
theorem dX1_addOrders_30 : decode cX1_addOrders 30 = .ok (.getfield 21, 3) := by decide +kernel
theorem dX1_addOrders_33 : decode cX1_addOrders 33 = .ok (.iload_n 1, 1) := by decide +kernel
theorem dX1_addOrders_34 : decode cX1_addOrders 34 = .ok (.aload_n 0, 1) := by decide +kernel
theorem dX1_addOrders_35 : decode cX1_addOrders 35 = .ok (.getfield 21, 3) := by decide +kernel
theorem dX1_addOrders_38 : decode cX1_addOrders 38 = .ok (.iload_n 1, 1) := by decide +kernel
theorem dX1_addOrders_39 : decode cX1_addOrders 39 = .ok (.invokestatic 81, 3) := by decide +kernel
theorem dX1_addOrders_42 : decode cX1_addOrders 42 = .ok (.iload_n 3, 1) := by decide +kernel
theorem dX1_addOrders_43 : decode cX1_addOrders 43 = .ok (.ior, 1) := by decide +kernel
theorem dX1_addOrders_44 : decode cX1_addOrders 44 = .ok (.invokestatic 95, 3) := by decide +kernel
theorem dX1_addOrders_47 : decode cX1_addOrders 47 = .ok (.return_, 1) := by decide +kernel
theorem dX1_ordersWith_0 : decode cX1_ordersWith 0 = .ok (.aload_n 0, 1) := by decide +kernel
theorem dX1_ordersWith_1 : decode cX1_ordersWith 1 = .ok (.getfield 18, 3) := by decide +kernel
theorem dX1_ordersWith_4 : decode cX1_ordersWith 4 = .ok (.iload_n 1, 1) := by decide +kernel
theorem dX1_ordersWith_5 : decode cX1_ordersWith 5 = .ok (.bipush 7, 2) := by decide +kernel
theorem dX1_ordersWith_7 : decode cX1_ordersWith 7 = .ok (.imul, 1) := by decide +kernel
theorem dX1_ordersWith_8 : decode cX1_ordersWith 8 = .ok (.iload_n 2, 1) := by decide +kernel
theorem dX1_ordersWith_9 : decode cX1_ordersWith 9 = .ok (.iadd, 1) := by decide +kernel
theorem dX1_ordersWith_10 : decode cX1_ordersWith 10 = .ok (.invokestatic 81, 3) := by decide +kernel
theorem dX1_ordersWith_13 : decode cX1_ordersWith 13 = .ok (.ireturn, 1) := by decide +kernel
theorem dX1_placesOf_0 : decode cX1_placesOf 0 = .ok (.iconst 0, 1) := by decide +kernel
theorem dX1_placesOf_1 : decode cX1_placesOf 1 = .ok (.istore_n 2, 1) := by decide +kernel
theorem dX1_placesOf_2 : decode cX1_placesOf 2 = .ok (.iconst 0, 1) := by decide +kernel
theorem dX1_placesOf_3 : decode cX1_placesOf 3 = .ok (.istore_n 3, 1) := by decide +kernel
theorem dX1_placesOf_4 : decode cX1_placesOf 4 = .ok (.iload_n 3, 1) := by decide +kernel
theorem dX1_placesOf_5 : decode cX1_placesOf 5 = .ok (.aload_n 0, 1) := by decide +kernel
theorem dX1_placesOf_6 : decode cX1_placesOf 6 = .ok (.getfield 58, 3) := by decide +kernel
theorem dX1_placesOf_9 : decode cX1_placesOf 9 = .ok (.if_icmp .ge 25, 3) := by decide +kernel
theorem dX1_placesOf_12 : decode cX1_placesOf 12 = .ok (.aload_n 0, 1) := by decide +kernel
theorem dX1_placesOf_13 : decode cX1_placesOf 13 = .ok (.iload_n 1, 1) := by decide +kernel
theorem dX1_placesOf_14 : decode cX1_placesOf 14 = .ok (.iload_n 3, 1) := by decide +kernel
theorem dX1_placesOf_15 : decode cX1_placesOf 15 = .ok (.invokevirtual 164, 3) := by decide +kernel
theorem dX1_placesOf_18 : decode cX1_placesOf 18 = .ok (.ifCond .le 10, 3) := by decide +kernel
theorem dX1_placesOf_21 : decode cX1_placesOf 21 = .ok (.iload_n 2, 1) := by decide +kernel
theorem dX1_placesOf_22 : decode cX1_placesOf 22 = .ok (.iload_n 3, 1) := by decide +kernel
theorem dX1_placesOf_23 : decode cX1_placesOf 23 = .ok (.invokestatic 69, 3) := by decide +kernel
theorem dX1_placesOf_26 : decode cX1_placesOf 26 = .ok (.ior, 1) := by decide +kernel
theorem dX1_placesOf_27 : decode cX1_placesOf 27 = .ok (.istore_n 2, 1) := by decide +kernel
theorem dX1_placesOf_28 : decode cX1_placesOf 28 = .ok (.iinc 3 1, 3) := by decide +kernel
theorem dX1_placesOf_31 : decode cX1_placesOf 31 = .ok (.goto (-27), 3) := by decide +kernel
theorem dX1_placesOf_34 : decode cX1_placesOf 34 = .ok (.iload_n 2, 1) := by decide +kernel
theorem dX1_placesOf_35 : decode cX1_placesOf 35 = .ok (.ireturn, 1) := by decide +kernel
theorem dX1_eggsAtFirstPlace_0 : decode cX1_eggsAtFirstPlace 0 = .ok (.iconst 0, 1) := by decide +kernel
theorem dX1_eggsAtFirstPlace_1 : decode cX1_eggsAtFirstPlace 1 = .ok (.istore_n 1, 1) := by decide +kernel
theorem dX1_eggsAtFirstPlace_2 : decode cX1_eggsAtFirstPlace 2 = .ok (.iconst 0, 1) := by decide +kernel
theorem dX1_eggsAtFirstPlace_3 : decode cX1_eggsAtFirstPlace 3 = .ok (.istore_n 2, 1) := by decide +kernel
theorem dX1_eggsAtFirstPlace_4 : decode cX1_eggsAtFirstPlace 4 = .ok (.iload_n 2, 1) := by decide +kernel
theorem dX1_eggsAtFirstPlace_5 : decode cX1_eggsAtFirstPlace 5 = .ok (.aload_n 0, 1) := by decide +kernel
theorem dX1_eggsAtFirstPlace_6 : decode cX1_eggsAtFirstPlace 6 = .ok (.getfield 58, 3) := by decide +kernel
theorem dX1_eggsAtFirstPlace_9 : decode cX1_eggsAtFirstPlace 9 = .ok (.if_icmp .ge 25, 3) := by decide +kernel
theorem dX1_eggsAtFirstPlace_12 : decode cX1_eggsAtFirstPlace 12 = .ok (.aload_n 0, 1) := by decide +kernel
theorem dX1_eggsAtFirstPlace_13 : decode cX1_eggsAtFirstPlace 13 = .ok (.iload_n 2, 1) := by decide +kernel
theorem dX1_eggsAtFirstPlace_14 : decode cX1_eggsAtFirstPlace 14 = .ok (.iconst 0, 1) := by decide +kernel
theorem dX1_eggsAtFirstPlace_15 : decode cX1_eggsAtFirstPlace 15 = .ok (.invokevirtual 164, 3) := by decide +kernel
theorem dX1_eggsAtFirstPlace_18 : decode cX1_eggsAtFirstPlace 18 = .ok (.ifCond .le 10, 3) := by decide +kernel
theorem dX1_eggsAtFirstPlace_21 : decode cX1_eggsAtFirstPlace 21 = .ok (.iload_n 1, 1) := by decide +kernel
theorem dX1_eggsAtFirstPlace_22 : decode cX1_eggsAtFirstPlace 22 = .ok (.iload_n 2, 1) := by decide +kernel
theorem dX1_eggsAtFirstPlace_23 : decode cX1_eggsAtFirstPlace 23 = .ok (.invokestatic 69, 3) := by decide +kernel
theorem dX1_eggsAtFirstPlace_26 : decode cX1_eggsAtFirstPlace 26 = .ok (.ior, 1) := by decide +kernel
theorem dX1_eggsAtFirstPlace_27 : decode cX1_eggsAtFirstPlace 27 = .ok (.istore_n 1, 1) := by decide +kernel
theorem dX1_eggsAtFirstPlace_28 : decode cX1_eggsAtFirstPlace 28 = .ok (.iinc 2 1, 3) := by decide +kernel
theorem dX1_eggsAtFirstPlace_31 : decode cX1_eggsAtFirstPlace 31 = .ok (.goto (-27), 3) := by decide +kernel
theorem dX1_eggsAtFirstPlace_34 : decode cX1_eggsAtFirstPlace 34 = .ok (.iload_n 1, 1) := by decide +kernel
theorem dX1_eggsAtFirstPlace_35 : decode cX1_eggsAtFirstPlace 35 = .ok (.ireturn, 1) := by decide +kernel
theorem dX1_mostLeft_0 : decode cX1_mostLeft 0 = .ok (.iconst 0, 1) := by decide +kernel
theorem dX1_mostLeft_1 : decode cX1_mostLeft 1 = .ok (.istore_n 2, 1) := by decide +kernel
theorem dX1_mostLeft_2 : decode cX1_mostLeft 2 = .ok (.iconst 0, 1) := by decide +kernel
theorem dX1_mostLeft_3 : decode cX1_mostLeft 3 = .ok (.istore_n 3, 1) := by decide +kernel
theorem dX1_mostLeft_4 : decode cX1_mostLeft 4 = .ok (.iload_n 3, 1) := by decide +kernel
theorem dX1_mostLeft_5 : decode cX1_mostLeft 5 = .ok (.aload_n 0, 1) := by decide +kernel
theorem dX1_mostLeft_6 : decode cX1_mostLeft 6 = .ok (.getfield 58, 3) := by decide +kernel
theorem dX1_mostLeft_9 : decode cX1_mostLeft 9 = .ok (.if_icmp .ge 20, 3) := by decide +kernel
theorem dX1_mostLeft_12 : decode cX1_mostLeft 12 = .ok (.iload_n 2, 1) := by decide +kernel
theorem dX1_mostLeft_13 : decode cX1_mostLeft 13 = .ok (.aload_n 0, 1) := by decide +kernel
theorem dX1_mostLeft_14 : decode cX1_mostLeft 14 = .ok (.iload_n 1, 1) := by decide +kernel
theorem dX1_mostLeft_15 : decode cX1_mostLeft 15 = .ok (.iload_n 3, 1) := by decide +kernel
theorem dX1_mostLeft_16 : decode cX1_mostLeft 16 = .ok (.invokevirtual 164, 3) := by decide +kernel
theorem dX1_mostLeft_19 : decode cX1_mostLeft 19 = .ok (.invokestatic 55, 3) := by decide +kernel
theorem dX1_mostLeft_22 : decode cX1_mostLeft 22 = .ok (.istore_n 2, 1) := by decide +kernel
theorem dX1_mostLeft_23 : decode cX1_mostLeft 23 = .ok (.iinc 3 1, 3) := by decide +kernel
theorem dX1_mostLeft_26 : decode cX1_mostLeft 26 = .ok (.goto (-22), 3) := by decide +kernel
theorem dX1_mostLeft_29 : decode cX1_mostLeft 29 = .ok (.iload_n 2, 1) := by decide +kernel
theorem dX1_mostLeft_30 : decode cX1_mostLeft 30 = .ok (.ireturn, 1) := by decide +kernel
theorem dX2_init_0 : decode cX2_init 0 = .ok (.aload_n 0, 1) := by decide +kernel
theorem dX2_init_1 : decode cX2_init 1 = .ok (.invokespecial 3, 3) := by decide +kernel
theorem dX2_init_4 : decode cX2_init 4 = .ok (.aload_n 0, 1) := by decide +kernel
theorem dX2_init_5 : decode cX2_init 5 = .ok (.bipush 12, 2) := by decide +kernel
theorem dX2_init_7 : decode cX2_init 7 = .ok (.newarray .int, 2) := by decide +kernel
theorem dX2_init_9 : decode cX2_init 9 = .ok (.putfield 9, 3) := by decide +kernel
theorem dX2_init_12 : decode cX2_init 12 = .ok (.aload_n 0, 1) := by decide +kernel
theorem dX2_init_13 : decode cX2_init 13 = .ok (.bipush 12, 2) := by decide +kernel
theorem dX2_init_15 : decode cX2_init 15 = .ok (.newarray .int, 2) := by decide +kernel
theorem dX2_init_17 : decode cX2_init 17 = .ok (.putfield 15, 3) := by decide +kernel
theorem dX2_init_20 : decode cX2_init 20 = .ok (.aload_n 0, 1) := by decide +kernel
theorem dX2_init_21 : decode cX2_init 21 = .ok (.bipush 12, 2) := by decide +kernel
theorem dX2_init_23 : decode cX2_init 23 = .ok (.newarray .int, 2) := by decide +kernel
theorem dX2_init_25 : decode cX2_init 25 = .ok (.putfield 18, 3) := by decide +kernel
theorem dX2_init_28 : decode cX2_init 28 = .ok (.aload_n 0, 1) := by decide +kernel
theorem dX2_init_29 : decode cX2_init 29 = .ok (.bipush 7, 2) := by decide +kernel
theorem dX2_init_31 : decode cX2_init 31 = .ok (.newarray .int, 2) := by decide +kernel
theorem dX2_init_33 : decode cX2_init 33 = .ok (.putfield 21, 3) := by decide +kernel
theorem dX2_init_36 : decode cX2_init 36 = .ok (.aload_n 0, 1) := by decide +kernel
theorem dX2_init_37 : decode cX2_init 37 = .ok (.bipush 7, 2) := by decide +kernel
theorem dX2_init_39 : decode cX2_init 39 = .ok (.newarray .int, 2) := by decide +kernel
theorem dX2_init_41 : decode cX2_init 41 = .ok (.putfield 24, 3) := by decide +kernel
theorem dX2_init_44 : decode cX2_init 44 = .ok (.return_, 1) := by decide +kernel
theorem dX2_copyFrom_0 : decode cX2_copyFrom 0 = .ok (.aload_n 0, 1) := by decide +kernel
theorem dX2_copyFrom_1 : decode cX2_copyFrom 1 = .ok (.aload_n 1, 1) := by decide +kernel
theorem dX2_copyFrom_2 : decode cX2_copyFrom 2 = .ok (.getfield 27, 3) := by decide +kernel
theorem dX2_copyFrom_5 : decode cX2_copyFrom 5 = .ok (.putfield 27, 3) := by decide +kernel
theorem dX2_copyFrom_8 : decode cX2_copyFrom 8 = .ok (.aload_n 0, 1) := by decide +kernel
theorem dX2_copyFrom_9 : decode cX2_copyFrom 9 = .ok (.aload_n 1, 1) := by decide +kernel
theorem dX2_copyFrom_10 : decode cX2_copyFrom 10 = .ok (.getfield 31, 3) := by decide +kernel
theorem dX2_copyFrom_13 : decode cX2_copyFrom 13 = .ok (.putfield 31, 3) := by decide +kernel
theorem dX2_copyFrom_16 : decode cX2_copyFrom 16 = .ok (.aload_n 1, 1) := by decide +kernel
theorem dX2_copyFrom_17 : decode cX2_copyFrom 17 = .ok (.getfield 9, 3) := by decide +kernel
theorem dX2_copyFrom_20 : decode cX2_copyFrom 20 = .ok (.aload_n 0, 1) := by decide +kernel
theorem dX2_copyFrom_21 : decode cX2_copyFrom 21 = .ok (.getfield 9, 3) := by decide +kernel
theorem dX2_copyFrom_24 : decode cX2_copyFrom 24 = .ok (.invokestatic 34, 3) := by decide +kernel
theorem dX2_copyFrom_27 : decode cX2_copyFrom 27 = .ok (.aload_n 1, 1) := by decide +kernel
theorem dX2_copyFrom_28 : decode cX2_copyFrom 28 = .ok (.getfield 15, 3) := by decide +kernel
theorem dX2_copyFrom_31 : decode cX2_copyFrom 31 = .ok (.aload_n 0, 1) := by decide +kernel
theorem dX2_copyFrom_32 : decode cX2_copyFrom 32 = .ok (.getfield 15, 3) := by decide +kernel
theorem dX2_copyFrom_35 : decode cX2_copyFrom 35 = .ok (.invokestatic 34, 3) := by decide +kernel
theorem dX2_copyFrom_38 : decode cX2_copyFrom 38 = .ok (.aload_n 1, 1) := by decide +kernel
theorem dX2_copyFrom_39 : decode cX2_copyFrom 39 = .ok (.getfield 18, 3) := by decide +kernel
theorem dX2_copyFrom_42 : decode cX2_copyFrom 42 = .ok (.aload_n 0, 1) := by decide +kernel
theorem dX2_copyFrom_43 : decode cX2_copyFrom 43 = .ok (.getfield 18, 3) := by decide +kernel
theorem dX2_copyFrom_46 : decode cX2_copyFrom 46 = .ok (.invokestatic 34, 3) := by decide +kernel
theorem dX2_copyFrom_49 : decode cX2_copyFrom 49 = .ok (.aload_n 1, 1) := by decide +kernel
theorem dX2_copyFrom_50 : decode cX2_copyFrom 50 = .ok (.getfield 21, 3) := by decide +kernel
theorem dX2_copyFrom_53 : decode cX2_copyFrom 53 = .ok (.aload_n 0, 1) := by decide +kernel
theorem dX2_copyFrom_54 : decode cX2_copyFrom 54 = .ok (.getfield 21, 3) := by decide +kernel
theorem dX2_copyFrom_57 : decode cX2_copyFrom 57 = .ok (.invokestatic 34, 3) := by decide +kernel
theorem dX2_copyFrom_60 : decode cX2_copyFrom 60 = .ok (.aload_n 1, 1) := by decide +kernel
theorem dX2_copyFrom_61 : decode cX2_copyFrom 61 = .ok (.getfield 24, 3) := by decide +kernel
theorem dX2_copyFrom_64 : decode cX2_copyFrom 64 = .ok (.aload_n 0, 1) := by decide +kernel
theorem dX2_copyFrom_65 : decode cX2_copyFrom 65 = .ok (.getfield 24, 3) := by decide +kernel
theorem dX2_copyFrom_68 : decode cX2_copyFrom 68 = .ok (.invokestatic 34, 3) := by decide +kernel
theorem dX2_copyFrom_71 : decode cX2_copyFrom 71 = .ok (.return_, 1) := by decide +kernel
theorem dX2_addClue_0 : decode cX2_addClue 0 = .ok (.aload_n 0, 1) := by decide +kernel
theorem dX2_addClue_1 : decode cX2_addClue 1 = .ok (.getfield 27, 3) := by decide +kernel
theorem dX2_addClue_4 : decode cX2_addClue 4 = .ok (.bipush 12, 2) := by decide +kernel
theorem dX2_addClue_6 : decode cX2_addClue 6 = .ok (.if_icmp .lt 4, 3) := by decide +kernel
theorem dX2_addClue_9 : decode cX2_addClue 9 = .ok (.return_, 1) := by decide +kernel
theorem dX2_addClue_10 : decode cX2_addClue 10 = .ok (.aload_n 0, 1) := by decide +kernel
theorem dX2_addClue_11 : decode cX2_addClue 11 = .ok (.getfield 9, 3) := by decide +kernel
theorem dX2_addClue_14 : decode cX2_addClue 14 = .ok (.aload_n 0, 1) := by decide +kernel
theorem dX2_addClue_15 : decode cX2_addClue 15 = .ok (.getfield 27, 3) := by decide +kernel
theorem dX2_addClue_18 : decode cX2_addClue 18 = .ok (.iload_n 1, 1) := by decide +kernel
theorem dX2_addClue_19 : decode cX2_addClue 19 = .ok (.invokestatic 38, 3) := by decide +kernel
theorem dX2_addClue_22 : decode cX2_addClue 22 = .ok (.aload_n 0, 1) := by decide +kernel
theorem dX2_addClue_23 : decode cX2_addClue 23 = .ok (.getfield 15, 3) := by decide +kernel
theorem dX2_addClue_26 : decode cX2_addClue 26 = .ok (.aload_n 0, 1) := by decide +kernel
theorem dX2_addClue_27 : decode cX2_addClue 27 = .ok (.getfield 27, 3) := by decide +kernel
theorem dX2_addClue_30 : decode cX2_addClue 30 = .ok (.iload_n 2, 1) := by decide +kernel
theorem dX2_addClue_31 : decode cX2_addClue 31 = .ok (.invokestatic 38, 3) := by decide +kernel
theorem dX2_addClue_34 : decode cX2_addClue 34 = .ok (.aload_n 0, 1) := by decide +kernel
theorem dX2_addClue_35 : decode cX2_addClue 35 = .ok (.getfield 18, 3) := by decide +kernel
theorem dX2_addClue_38 : decode cX2_addClue 38 = .ok (.aload_n 0, 1) := by decide +kernel
theorem dX2_addClue_39 : decode cX2_addClue 39 = .ok (.getfield 27, 3) := by decide +kernel
theorem dX2_addClue_42 : decode cX2_addClue 42 = .ok (.iload_n 3, 1) := by decide +kernel
theorem dX2_addClue_43 : decode cX2_addClue 43 = .ok (.invokestatic 38, 3) := by decide +kernel
theorem dX2_addClue_46 : decode cX2_addClue 46 = .ok (.aload_n 0, 1) := by decide +kernel
theorem dX2_addClue_47 : decode cX2_addClue 47 = .ok (.dup, 1) := by decide +kernel
theorem dX2_addClue_48 : decode cX2_addClue 48 = .ok (.getfield 27, 3) := by decide +kernel
theorem dX2_addClue_51 : decode cX2_addClue 51 = .ok (.iconst 1, 1) := by decide +kernel
theorem dX2_addClue_52 : decode cX2_addClue 52 = .ok (.iadd, 1) := by decide +kernel
theorem dX2_addClue_53 : decode cX2_addClue 53 = .ok (.putfield 27, 3) := by decide +kernel
theorem dX2_addClue_56 : decode cX2_addClue 56 = .ok (.return_, 1) := by decide +kernel
theorem dX2_addSight_0 : decode cX2_addSight 0 = .ok (.aload_n 0, 1) := by decide +kernel
theorem dX2_addSight_1 : decode cX2_addSight 1 = .ok (.getfield 31, 3) := by decide +kernel
theorem dX2_addSight_4 : decode cX2_addSight 4 = .ok (.bipush 7, 2) := by decide +kernel
theorem dX2_addSight_6 : decode cX2_addSight 6 = .ok (.if_icmp .lt 4, 3) := by decide +kernel
theorem dX2_addSight_9 : decode cX2_addSight 9 = .ok (.return_, 1) := by decide +kernel
theorem dX2_addSight_10 : decode cX2_addSight 10 = .ok (.aload_n 0, 1) := by decide +kernel
theorem dX2_addSight_11 : decode cX2_addSight 11 = .ok (.getfield 21, 3) := by decide +kernel
theorem dX2_addSight_14 : decode cX2_addSight 14 = .ok (.aload_n 0, 1) := by decide +kernel
theorem dX2_addSight_15 : decode cX2_addSight 15 = .ok (.getfield 31, 3) := by decide +kernel
theorem dX2_addSight_18 : decode cX2_addSight 18 = .ok (.iload_n 1, 1) := by decide +kernel
theorem dX2_addSight_19 : decode cX2_addSight 19 = .ok (.invokestatic 38, 3) := by decide +kernel
theorem dX2_addSight_22 : decode cX2_addSight 22 = .ok (.aload_n 0, 1) := by decide +kernel
theorem dX2_addSight_23 : decode cX2_addSight 23 = .ok (.getfield 24, 3) := by decide +kernel
theorem dX2_addSight_26 : decode cX2_addSight 26 = .ok (.aload_n 0, 1) := by decide +kernel
theorem dX2_addSight_27 : decode cX2_addSight 27 = .ok (.getfield 31, 3) := by decide +kernel
theorem dX2_addSight_30 : decode cX2_addSight 30 = .ok (.iload_n 2, 1) := by decide +kernel
theorem dX2_addSight_31 : decode cX2_addSight 31 = .ok (.invokestatic 38, 3) := by decide +kernel
theorem dX2_addSight_34 : decode cX2_addSight 34 = .ok (.aload_n 0, 1) := by decide +kernel
theorem dX2_addSight_35 : decode cX2_addSight 35 = .ok (.dup, 1) := by decide +kernel
theorem dX2_addSight_36 : decode cX2_addSight 36 = .ok (.getfield 31, 3) := by decide +kernel
theorem dX2_addSight_39 : decode cX2_addSight 39 = .ok (.iconst 1, 1) := by decide +kernel
theorem dX2_addSight_40 : decode cX2_addSight 40 = .ok (.iadd, 1) := by decide +kernel
theorem dX2_addSight_41 : decode cX2_addSight 41 = .ok (.putfield 31, 3) := by decide +kernel
theorem dX2_addSight_44 : decode cX2_addSight 44 = .ok (.return_, 1) := by decide +kernel
theorem dX3_init_0 : decode cX3_init 0 = .ok (.aload_n 0, 1) := by decide +kernel
theorem dX3_init_1 : decode cX3_init 1 = .ok (.invokespecial 3, 3) := by decide +kernel
theorem dX3_init_4 : decode cX3_init 4 = .ok (.aload_n 0, 1) := by decide +kernel
theorem dX3_init_5 : decode cX3_init 5 = .ok (.bipush 60, 2) := by decide +kernel
theorem dX3_init_7 : decode cX3_init 7 = .ok (.newarray .int, 2) := by decide +kernel
theorem dX3_init_9 : decode cX3_init 9 = .ok (.putfield 9, 3) := by decide +kernel
theorem dX3_init_12 : decode cX3_init 12 = .ok (.return_, 1) := by decide +kernel
theorem dX3_add_0 : decode cX3_add 0 = .ok (.aload_n 0, 1) := by decide +kernel
theorem dX3_add_1 : decode cX3_add 1 = .ok (.getfield 15, 3) := by decide +kernel
theorem dX3_add_4 : decode cX3_add 4 = .ok (.bipush 60, 2) := by decide +kernel
theorem dX3_add_6 : decode cX3_add 6 = .ok (.if_icmp .lt 4, 3) := by decide +kernel
theorem dX3_add_9 : decode cX3_add 9 = .ok (.return_, 1) := by decide +kernel
theorem dX3_add_10 : decode cX3_add 10 = .ok (.aload_n 0, 1) := by decide +kernel
theorem dX3_add_11 : decode cX3_add 11 = .ok (.getfield 9, 3) := by decide +kernel
theorem dX3_add_14 : decode cX3_add 14 = .ok (.aload_n 0, 1) := by decide +kernel
theorem dX3_add_15 : decode cX3_add 15 = .ok (.getfield 15, 3) := by decide +kernel
theorem dX3_add_18 : decode cX3_add 18 = .ok (.iload_n 1, 1) := by decide +kernel
theorem dX3_add_19 : decode cX3_add 19 = .ok (.invokestatic 19, 3) := by decide +kernel
theorem dX3_add_22 : decode cX3_add 22 = .ok (.aload_n 0, 1) := by decide +kernel
theorem dX3_add_23 : decode cX3_add 23 = .ok (.dup, 1) := by decide +kernel
theorem dX3_add_24 : decode cX3_add 24 = .ok (.getfield 15, 3) := by decide +kernel
theorem dX3_add_27 : decode cX3_add 27 = .ok (.iconst 1, 1) := by decide +kernel
theorem dX3_add_28 : decode cX3_add 28 = .ok (.iadd, 1) := by decide +kernel
theorem dX3_add_29 : decode cX3_add 29 = .ok (.putfield 15, 3) := by decide +kernel
theorem dX3_add_32 : decode cX3_add 32 = .ok (.return_, 1) := by decide +kernel
theorem dX3_sign_0 : decode cX3_sign 0 = .ok (.aload_n 0, 1) := by decide +kernel
theorem dX3_sign_1 : decode cX3_sign 1 = .ok (.getfield 9, 3) := by decide +kernel
theorem dX3_sign_4 : decode cX3_sign 4 = .ok (.iload_n 1, 1) := by decide +kernel
theorem dX3_sign_5 : decode cX3_sign 5 = .ok (.invokestatic 23, 3) := by decide +kernel
theorem dX3_sign_8 : decode cX3_sign 8 = .ok (.ireturn, 1) := by decide +kernel
theorem dX3_isDigitOfEgg_0 : decode cX3_isDigitOfEgg 0 = .ok (.aload_n 0, 1) := by decide +kernel
theorem dX3_isDigitOfEgg_1 : decode cX3_isDigitOfEgg 1 = .ok (.iload_n 1, 1) := by decide +kernel
theorem dX3_isDigitOfEgg_2 : decode cX3_isDigitOfEgg 2 = .ok (.invokevirtual 27, 3) := by decide +kernel
theorem dX3_isDigitOfEgg_5 : decode cX3_isDigitOfEgg 5 = .ok (.bipush 48, 2) := by decide +kernel
theorem dX3_isDigitOfEgg_7 : decode cX3_isDigitOfEgg 7 = .ok (.bipush 48, 2) := by decide +kernel
theorem dX3_isDigitOfEgg_9 : decode cX3_isDigitOfEgg 9 = .ok (.iload_n 2, 1) := by decide +kernel
theorem dX3_isDigitOfEgg_10 : decode cX3_isDigitOfEgg 10 = .ok (.iadd, 1) := by decide +kernel
theorem dX3_isDigitOfEgg_11 : decode cX3_isDigitOfEgg 11 = .ok (.iconst 1, 1) := by decide +kernel
theorem dX3_isDigitOfEgg_12 : decode cX3_isDigitOfEgg 12 = .ok (.isub, 1) := by decide +kernel
theorem dX3_isDigitOfEgg_13 : decode cX3_isDigitOfEgg 13 = .ok (.invokestatic 31, 3) := by decide +kernel
theorem dX3_isDigitOfEgg_16 : decode cX3_isDigitOfEgg 16 = .ok (.ireturn, 1) := by decide +kernel
theorem dX3_orderFault_0 : decode cX3_orderFault 0 = .ok (.iconst 0, 1) := by decide +kernel
theorem dX3_orderFault_1 : decode cX3_orderFault 1 = .ok (.istore_n 2, 1) := by decide +kernel
theorem dX3_orderFault_2 : decode cX3_orderFault 2 = .ok (.iconst 0, 1) := by decide +kernel
theorem dX3_orderFault_3 : decode cX3_orderFault 3 = .ok (.istore_n 3, 1) := by decide +kernel
theorem dX3_orderFault_4 : decode cX3_orderFault 4 = .ok (.iload_n 3, 1) := by decide +kernel
theorem dX3_orderFault_5 : decode cX3_orderFault 5 = .ok (.aload_n 0, 1) := by decide +kernel
theorem dX3_orderFault_6 : decode cX3_orderFault 6 = .ok (.getfield 15, 3) := by decide +kernel
theorem dX3_orderFault_9 : decode cX3_orderFault 9 = .ok (.if_icmp .ge 54, 3) := by decide +kernel
theorem dX3_orderFault_12 : decode cX3_orderFault 12 = .ok (.iload_n 3, 1) := by decide +kernel
theorem dX3_orderFault_13 : decode cX3_orderFault 13 = .ok (.iload_n 1, 1) := by decide +kernel
theorem dX3_orderFault_14 : decode cX3_orderFault 14 = .ok (.if_icmp .ge 27, 3) := by decide +kernel
theorem dX3_orderFault_17 : decode cX3_orderFault 17 = .ok (.aload_n 0, 1) := by decide +kernel
theorem dX3_orderFault_18 : decode cX3_orderFault 18 = .ok (.iload_n 3, 1) := by decide +kernel
theorem dX3_orderFault_19 : decode cX3_orderFault 19 = .ok (.iload_n 1, 1) := by decide +kernel
theorem dX3_orderFault_20 : decode cX3_orderFault 20 = .ok (.invokevirtual 35, 3) := by decide +kernel
theorem dX3_orderFault_23 : decode cX3_orderFault 23 = .ok (.ifCond .eq 18, 3) := by decide +kernel
theorem dX3_orderFault_26 : decode cX3_orderFault 26 = .ok (.iload_n 2, 1) := by decide +kernel
theorem dX3_orderFault_27 : decode cX3_orderFault 27 = .ok (.aload_n 0, 1) := by decide +kernel
theorem dX3_orderFault_28 : decode cX3_orderFault 28 = .ok (.iload_n 3, 1) := by decide +kernel
theorem dX3_orderFault_29 : decode cX3_orderFault 29 = .ok (.invokevirtual 27, 3) := by decide +kernel
theorem dX3_orderFault_32 : decode cX3_orderFault 32 = .ok (.bipush 48, 2) := by decide +kernel
theorem dX3_orderFault_34 : decode cX3_orderFault 34 = .ok (.isub, 1) := by decide +kernel
theorem dX3_orderFault_35 : decode cX3_orderFault 35 = .ok (.invokestatic 39, 3) := by decide +kernel
theorem dX3_orderFault_38 : decode cX3_orderFault 38 = .ok (.ifCond .eq 5, 3) := by decide +kernel
theorem dX3_orderFault_41 : decode cX3_orderFault 41 = .ok (.iload_n 3, 1) := by decide +kernel
theorem dX3_orderFault_42 : decode cX3_orderFault 42 = .ok (.ireturn, 1) := by decide +kernel
theorem dX3_orderFault_43 : decode cX3_orderFault 43 = .ok (.iload_n 2, 1) := by decide +kernel
theorem dX3_orderFault_44 : decode cX3_orderFault 44 = .ok (.aload_n 0, 1) := by decide +kernel
theorem dX3_orderFault_45 : decode cX3_orderFault 45 = .ok (.iload_n 3, 1) := by decide +kernel
theorem dX3_orderFault_46 : decode cX3_orderFault 46 = .ok (.invokevirtual 27, 3) := by decide +kernel
theorem dX3_orderFault_49 : decode cX3_orderFault 49 = .ok (.bipush 48, 2) := by decide +kernel
theorem dX3_orderFault_51 : decode cX3_orderFault 51 = .ok (.isub, 1) := by decide +kernel
theorem dX3_orderFault_52 : decode cX3_orderFault 52 = .ok (.invokestatic 42, 3) := by decide +kernel
theorem dX3_orderFault_55 : decode cX3_orderFault 55 = .ok (.ior, 1) := by decide +kernel
theorem dX3_orderFault_56 : decode cX3_orderFault 56 = .ok (.istore_n 2, 1) := by decide +kernel
theorem dX3_orderFault_57 : decode cX3_orderFault 57 = .ok (.iinc 3 1, 3) := by decide +kernel
theorem dX3_orderFault_60 : decode cX3_orderFault 60 = .ok (.goto (-56), 3) := by decide +kernel
theorem dX3_orderFault_63 : decode cX3_orderFault 63 = .ok (.aload_n 0, 1) := by decide +kernel
theorem dX3_orderFault_64 : decode cX3_orderFault 64 = .ok (.getfield 15, 3) := by decide +kernel
theorem dX3_orderFault_67 : decode cX3_orderFault 67 = .ok (.iload_n 1, 1) := by decide +kernel
theorem dX3_orderFault_68 : decode cX3_orderFault 68 = .ok (.if_icmp .ge 10, 3) := by decide +kernel
theorem dX3_orderFault_71 : decode cX3_orderFault 71 = .ok (.aload_n 0, 1) := by decide +kernel
theorem dX3_orderFault_72 : decode cX3_orderFault 72 = .ok (.getfield 15, 3) := by decide +kernel
theorem dX3_orderFault_75 : decode cX3_orderFault 75 = .ok (.goto 5, 3) := by decide +kernel
theorem dX3_orderFault_78 : decode cX3_orderFault 78 = .ok (.bipush (-6), 2) := by decide +kernel
theorem dX3_orderFault_80 : decode cX3_orderFault 80 = .ok (.ireturn, 1) := by decide +kernel
theorem dX3_weekFault_0 : decode cX3_weekFault 0 = .ok (.iconst 0, 1) := by decide +kernel
theorem dX3_weekFault_1 : decode cX3_weekFault 1 = .ok (.istore_n 2, 1) := by decide +kernel
theorem dX3_weekFault_2 : decode cX3_weekFault 2 = .ok (.iconst 0, 1) := by decide +kernel
theorem dX3_weekFault_3 : decode cX3_weekFault 3 = .ok (.istore_n 3, 1) := by decide +kernel
theorem dX3_weekFault_4 : decode cX3_weekFault 4 = .ok (.iload_n 3, 1) := by decide +kernel
theorem dX3_weekFault_5 : decode cX3_weekFault 5 = .ok (.aload_n 0, 1) := by decide +kernel
theorem dX3_weekFault_6 : decode cX3_weekFault 6 = .ok (.getfield 15, 3) := by decide +kernel
theorem dX3_weekFault_9 : decode cX3_weekFault 9 = .ok (.if_icmp .ge 76, 3) := by decide +kernel
theorem dX3_weekFault_12 : decode cX3_weekFault 12 = .ok (.iload_n 2, 1) := by decide +kernel
theorem dX3_weekFault_13 : decode cX3_weekFault 13 = .ok (.ifCond .eq 29, 3) := by decide +kernel
theorem dX3_weekFault_16 : decode cX3_weekFault 16 = .ok (.aload_n 0, 1) := by decide +kernel
theorem dX3_weekFault_17 : decode cX3_weekFault 17 = .ok (.iload_n 3, 1) := by decide +kernel
theorem dX3_weekFault_18 : decode cX3_weekFault 18 = .ok (.invokevirtual 27, 3) := by decide +kernel
theorem dX3_weekFault_21 : decode cX3_weekFault 21 = .ok (.invokestatic 45, 3) := by decide +kernel
theorem dX3_weekFault_24 : decode cX3_weekFault 24 = .ok (.ifCond .ne 13, 3) := by decide +kernel
theorem dX3_weekFault_27 : decode cX3_weekFault 27 = .ok (.aload_n 0, 1) := by decide +kernel
theorem dX3_weekFault_28 : decode cX3_weekFault 28 = .ok (.iload_n 3, 1) := by decide +kernel
theorem dX3_weekFault_29 : decode cX3_weekFault 29 = .ok (.invokevirtual 49, 3) := by decide +kernel
theorem dX3_weekFault_32 : decode cX3_weekFault 32 = .ok (.ifCond .ne 5, 3) := by decide +kernel
theorem dX3_weekFault_35 : decode cX3_weekFault 35 = .ok (.iload_n 3, 1) := by decide +kernel
theorem dX3_weekFault_36 : decode cX3_weekFault 36 = .ok (.ireturn, 1) := by decide +kernel
theorem dX3_weekFault_37 : decode cX3_weekFault 37 = .ok (.iconst 0, 1) := by decide +kernel
theorem dX3_weekFault_38 : decode cX3_weekFault 38 = .ok (.istore_n 2, 1) := by decide +kernel
theorem dX3_weekFault_39 : decode cX3_weekFault 39 = .ok (.goto 40, 3) := by decide +kernel
theorem dX3_weekFault_42 : decode cX3_weekFault 42 = .ok (.aload_n 0, 1) := by decide +kernel
theorem dX3_weekFault_43 : decode cX3_weekFault 43 = .ok (.iload_n 3, 1) := by decide +kernel
theorem dX3_weekFault_44 : decode cX3_weekFault 44 = .ok (.iload_n 1, 1) := by decide +kernel
theorem dX3_weekFault_45 : decode cX3_weekFault 45 = .ok (.invokevirtual 35, 3) := by decide +kernel
theorem dX3_weekFault_48 : decode cX3_weekFault 48 = .ok (.ifCond .eq 8, 3) := by decide +kernel
theorem dX3_weekFault_51 : decode cX3_weekFault 51 = .ok (.iconst 1, 1) := by decide +kernel
theorem dX3_weekFault_52 : decode cX3_weekFault 52 = .ok (.istore_n 2, 1) := by decide +kernel
theorem dX3_weekFault_53 : decode cX3_weekFault 53 = .ok (.goto 26, 3) := by decide +kernel
theorem dX3_weekFault_56 : decode cX3_weekFault 56 = .ok (.aload_n 0, 1) := by decide +kernel
theorem dX3_weekFault_57 : decode cX3_weekFault 57 = .ok (.iload_n 3, 1) := by decide +kernel
theorem dX3_weekFault_58 : decode cX3_weekFault 58 = .ok (.invokevirtual 27, 3) := by decide +kernel
theorem dX3_weekFault_61 : decode cX3_weekFault 61 = .ok (.bipush 46, 2) := by decide +kernel
theorem dX3_weekFault_63 : decode cX3_weekFault 63 = .ok (.if_icmp .eq 16, 3) := by decide +kernel
theorem dX3_weekFault_66 : decode cX3_weekFault 66 = .ok (.aload_n 0, 1) := by decide +kernel
theorem dX3_weekFault_67 : decode cX3_weekFault 67 = .ok (.iload_n 3, 1) := by decide +kernel
theorem dX3_weekFault_68 : decode cX3_weekFault 68 = .ok (.invokevirtual 27, 3) := by decide +kernel
theorem dX3_weekFault_71 : decode cX3_weekFault 71 = .ok (.invokestatic 45, 3) := by decide +kernel
theorem dX3_weekFault_74 : decode cX3_weekFault 74 = .ok (.ifCond .ne 5, 3) := by decide +kernel
theorem dX3_weekFault_77 : decode cX3_weekFault 77 = .ok (.iload_n 3, 1) := by decide +kernel
theorem dX3_weekFault_78 : decode cX3_weekFault 78 = .ok (.ireturn, 1) := by decide +kernel
theorem dX3_weekFault_79 : decode cX3_weekFault 79 = .ok (.iinc 3 1, 3) := by decide +kernel
theorem dX3_weekFault_82 : decode cX3_weekFault 82 = .ok (.goto (-78), 3) := by decide +kernel
theorem dX3_weekFault_85 : decode cX3_weekFault 85 = .ok (.iload_n 2, 1) := by decide +kernel
theorem dX3_weekFault_86 : decode cX3_weekFault 86 = .ok (.ifCond .eq 10, 3) := by decide +kernel
theorem dX3_weekFault_89 : decode cX3_weekFault 89 = .ok (.aload_n 0, 1) := by decide +kernel
theorem dX3_weekFault_90 : decode cX3_weekFault 90 = .ok (.getfield 15, 3) := by decide +kernel
theorem dX3_weekFault_93 : decode cX3_weekFault 93 = .ok (.goto 5, 3) := by decide +kernel
theorem dX3_weekFault_96 : decode cX3_weekFault 96 = .ok (.bipush (-6), 2) := by decide +kernel
theorem dX3_weekFault_98 : decode cX3_weekFault 98 = .ok (.ireturn, 1) := by decide +kernel
theorem dX3_eatsOrMendsAt_0 : decode cX3_eatsOrMendsAt 0 = .ok (.aload_n 0, 1) := by decide +kernel
theorem dX3_eatsOrMendsAt_1 : decode cX3_eatsOrMendsAt 1 = .ok (.iload_n 1, 1) := by decide +kernel
theorem dX3_eatsOrMendsAt_2 : decode cX3_eatsOrMendsAt 2 = .ok (.invokevirtual 27, 3) := by decide +kernel
theorem dX3_eatsOrMendsAt_5 : decode cX3_eatsOrMendsAt 5 = .ok (.bipush 33, 2) := by decide +kernel
theorem dX3_eatsOrMendsAt_7 : decode cX3_eatsOrMendsAt 7 = .ok (.if_icmp .eq 13, 3) := by decide +kernel
theorem dX3_eatsOrMendsAt_10 : decode cX3_eatsOrMendsAt 10 = .ok (.aload_n 0, 1) := by decide +kernel
theorem dX3_eatsOrMendsAt_11 : decode cX3_eatsOrMendsAt 11 = .ok (.iload_n 1, 1) := by decide +kernel
theorem dX3_eatsOrMendsAt_12 : decode cX3_eatsOrMendsAt 12 = .ok (.invokevirtual 27, 3) := by decide +kernel
theorem dX3_eatsOrMendsAt_15 : decode cX3_eatsOrMendsAt 15 = .ok (.bipush 43, 2) := by decide +kernel
theorem dX3_eatsOrMendsAt_17 : decode cX3_eatsOrMendsAt 17 = .ok (.if_icmp .ne 7, 3) := by decide +kernel
theorem dX3_eatsOrMendsAt_20 : decode cX3_eatsOrMendsAt 20 = .ok (.iconst 1, 1) := by decide +kernel
theorem dX3_eatsOrMendsAt_21 : decode cX3_eatsOrMendsAt 21 = .ok (.goto 4, 3) := by decide +kernel
theorem dX3_eatsOrMendsAt_24 : decode cX3_eatsOrMendsAt 24 = .ok (.iconst 0, 1) := by decide +kernel
theorem dX3_eatsOrMendsAt_25 : decode cX3_eatsOrMendsAt 25 = .ok (.ireturn, 1) := by decide +kernel
theorem dX3_eatsOrMends_0 : decode cX3_eatsOrMends 0 = .ok (.iconst 0, 1) := by decide +kernel
theorem dX3_eatsOrMends_1 : decode cX3_eatsOrMends 1 = .ok (.istore_n 1, 1) := by decide +kernel
theorem dX3_eatsOrMends_2 : decode cX3_eatsOrMends 2 = .ok (.iload_n 1, 1) := by decide +kernel
theorem dX3_eatsOrMends_3 : decode cX3_eatsOrMends 3 = .ok (.aload_n 0, 1) := by decide +kernel
theorem dX3_eatsOrMends_4 : decode cX3_eatsOrMends 4 = .ok (.getfield 15, 3) := by decide +kernel
theorem dX3_eatsOrMends_7 : decode cX3_eatsOrMends 7 = .ok (.if_icmp .ge 19, 3) := by decide +kernel
theorem dX3_eatsOrMends_10 : decode cX3_eatsOrMends 10 = .ok (.aload_n 0, 1) := by decide +kernel
theorem dX3_eatsOrMends_11 : decode cX3_eatsOrMends 11 = .ok (.iload_n 1, 1) := by decide +kernel
theorem dX3_eatsOrMends_12 : decode cX3_eatsOrMends 12 = .ok (.invokevirtual 49, 3) := by decide +kernel
theorem dX3_eatsOrMends_15 : decode cX3_eatsOrMends 15 = .ok (.ifCond .eq 5, 3) := by decide +kernel
theorem dX3_eatsOrMends_18 : decode cX3_eatsOrMends 18 = .ok (.iconst 1, 1) := by decide +kernel
theorem dX3_eatsOrMends_19 : decode cX3_eatsOrMends 19 = .ok (.ireturn, 1) := by decide +kernel
theorem dX3_eatsOrMends_20 : decode cX3_eatsOrMends 20 = .ok (.iinc 1 1, 3) := by decide +kernel
theorem dX3_eatsOrMends_23 : decode cX3_eatsOrMends 23 = .ok (.goto (-21), 3) := by decide +kernel
theorem dX3_eatsOrMends_26 : decode cX3_eatsOrMends 26 = .ok (.iconst 0, 1) := by decide +kernel
theorem dX3_eatsOrMends_27 : decode cX3_eatsOrMends 27 = .ok (.ireturn, 1) := by decide +kernel
theorem dX4_init_0 : decode cX4_init 0 = .ok (.aload_n 0, 1) := by decide +kernel
theorem dX4_init_1 : decode cX4_init 1 = .ok (.invokespecial 1, 3) := by decide +kernel
theorem dX4_init_4 : decode cX4_init 4 = .ok (.aload_n 0, 1) := by decide +kernel
theorem dX4_init_5 : decode cX4_init 5 = .ok (.new 7, 3) := by decide +kernel
theorem dX4_init_8 : decode cX4_init 8 = .ok (.dup, 1) := by decide +kernel
theorem dX4_init_9 : decode cX4_init 9 = .ok (.invokespecial 9, 3) := by decide +kernel
theorem dX4_init_12 : decode cX4_init 12 = .ok (.putfield 10, 3) := by decide +kernel
theorem dX4_init_15 : decode cX4_init 15 = .ok (.aload_n 0, 1) := by decide +kernel
theorem dX4_init_16 : decode cX4_init 16 = .ok (.new 16, 3) := by decide +kernel
theorem dX4_init_19 : decode cX4_init 19 = .ok (.dup, 1) := by decide +kernel
theorem dX4_init_20 : decode cX4_init 20 = .ok (.invokespecial 18, 3) := by decide +kernel
theorem dX4_init_23 : decode cX4_init 23 = .ok (.putfield 19, 3) := by decide +kernel
theorem dX4_init_26 : decode cX4_init 26 = .ok (.return_, 1) := by decide +kernel
theorem dX4_copyFrom_0 : decode cX4_copyFrom 0 = .ok (.aload_n 0, 1) := by decide +kernel
theorem dX4_copyFrom_1 : decode cX4_copyFrom 1 = .ok (.getfield 10, 3) := by decide +kernel
theorem dX4_copyFrom_4 : decode cX4_copyFrom 4 = .ok (.aload_n 1, 1) := by decide +kernel
theorem dX4_copyFrom_5 : decode cX4_copyFrom 5 = .ok (.getfield 10, 3) := by decide +kernel
theorem dX4_copyFrom_8 : decode cX4_copyFrom 8 = .ok (.invokevirtual 23, 3) := by decide +kernel
theorem dX4_copyFrom_11 : decode cX4_copyFrom 11 = .ok (.aload_n 0, 1) := by decide +kernel
theorem dX4_copyFrom_12 : decode cX4_copyFrom 12 = .ok (.getfield 19, 3) := by decide +kernel
theorem dX4_copyFrom_15 : decode cX4_copyFrom 15 = .ok (.aload_n 1, 1) := by decide +kernel
theorem dX4_copyFrom_16 : decode cX4_copyFrom 16 = .ok (.getfield 19, 3) := by decide +kernel
theorem dX4_copyFrom_19 : decode cX4_copyFrom 19 = .ok (.invokevirtual 27, 3) := by decide +kernel
theorem dX4_copyFrom_22 : decode cX4_copyFrom 22 = .ok (.return_, 1) := by decide +kernel
theorem dX5_init_0 : decode cX5_init 0 = .ok (.aload_n 0, 1) := by decide +kernel
theorem dX5_init_1 : decode cX5_init 1 = .ok (.invokespecial 3, 3) := by decide +kernel
theorem dX5_init_4 : decode cX5_init 4 = .ok (.aload_n 0, 1) := by decide +kernel
theorem dX5_init_5 : decode cX5_init 5 = .ok (.new 9, 3) := by decide +kernel
theorem dX5_init_8 : decode cX5_init 8 = .ok (.dup, 1) := by decide +kernel
theorem dX5_init_9 : decode cX5_init 9 = .ok (.invokespecial 11, 3) := by decide +kernel
theorem dX5_init_12 : decode cX5_init 12 = .ok (.putfield 12, 3) := by decide +kernel
theorem dX5_init_15 : decode cX5_init 15 = .ok (.aload_n 0, 1) := by decide +kernel
theorem dX5_init_16 : decode cX5_init 16 = .ok (.bipush 7, 2) := by decide +kernel
theorem dX5_init_18 : decode cX5_init 18 = .ok (.newarray .int, 2) := by decide +kernel
theorem dX5_init_20 : decode cX5_init 20 = .ok (.putfield 18, 3) := by decide +kernel
theorem dX5_init_23 : decode cX5_init 23 = .ok (.return_, 1) := by decide +kernel
theorem dX5_run_0 : decode cX5_run 0 = .ok (.aload_n 1, 1) := by decide +kernel
theorem dX5_run_1 : decode cX5_run 1 = .ok (.aload_n 2, 1) := by decide +kernel
theorem dX5_run_2 : decode cX5_run 2 = .ok (.getfield 22, 3) := by decide +kernel
theorem dX5_run_5 : decode cX5_run 5 = .ok (.invokevirtual 26, 3) := by decide +kernel
theorem dX5_run_8 : decode cX5_run 8 = .ok (.bipush (-6), 2) := by decide +kernel
theorem dX5_run_10 : decode cX5_run 10 = .ok (.if_icmp .eq 6, 3) := by decide +kernel
