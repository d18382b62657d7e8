theorem dX7_findStop_7 : decode cX7_findStop 7 = .ok (.iconst 0, 1) := by decide +kernel
theorem dX7_findStop_8 : decode cX7_findStop 8 = .ok (.putfield 176, 3) := by decide +kernel
theorem dX7_findStop_11 : decode cX7_findStop 11 = .ok (.iconst 0, 1) := by decide +kernel
theorem dX7_findStop_12 : decode cX7_findStop 12 = .ok (.istore_n 1, 1) := by decide +kernel
theorem dX7_findStop_13 : decode cX7_findStop 13 = .ok (.iload_n 1, 1) := by decide +kernel
theorem dX7_findStop_14 : decode cX7_findStop 14 = .ok (.aload_n 0, 1) := by decide +kernel
theorem dX7_findStop_15 : decode cX7_findStop 15 = .ok (.getfield 93, 3) := by decide +kernel
theorem dX7_findStop_18 : decode cX7_findStop 18 = .ok (.if_icmp .ge 102, 3) := by decide +kernel
theorem dX7_findStop_21 : decode cX7_findStop 21 = .ok (.aload_n 0, 1) := by decide +kernel
theorem dX7_findStop_22 : decode cX7_findStop 22 = .ok (.getfield 55, 3) := by decide +kernel
theorem dX7_findStop_25 : decode cX7_findStop 25 = .ok (.iload_n 1, 1) := by decide +kernel
theorem dX7_findStop_26 : decode cX7_findStop 26 = .ok (.iaload, 1) := by decide +kernel
theorem dX7_findStop_27 : decode cX7_findStop 27 = .ok (.istore_n 2, 1) := by decide +kernel
theorem dX7_findStop_28 : decode cX7_findStop 28 = .ok (.aload_n 0, 1) := by decide +kernel
theorem dX7_findStop_29 : decode cX7_findStop 29 = .ok (.getfield 173, 3) := by decide +kernel
theorem dX7_findStop_32 : decode cX7_findStop 32 = .ok (.ifCond .lt 31, 3) := by decide +kernel
theorem dX7_findStop_35 : decode cX7_findStop 35 = .ok (.aload_n 0, 1) := by decide +kernel
theorem dX7_findStop_36 : decode cX7_findStop 36 = .ok (.getfield 22, 3) := by decide +kernel
theorem dX7_findStop_39 : decode cX7_findStop 39 = .ok (.iload_n 2, 1) := by decide +kernel
theorem dX7_findStop_40 : decode cX7_findStop 40 = .ok (.iaload, 1) := by decide +kernel
theorem dX7_findStop_41 : decode cX7_findStop 41 = .ok (.ifCond .ne 22, 3) := by decide +kernel
theorem dX7_findStop_44 : decode cX7_findStop 44 = .ok (.aload_n 0, 1) := by decide +kernel
theorem dX7_findStop_45 : decode cX7_findStop 45 = .ok (.getfield 13, 3) := by decide +kernel
theorem dX7_findStop_48 : decode cX7_findStop 48 = .ok (.iload_n 2, 1) := by decide +kernel
theorem dX7_findStop_49 : decode cX7_findStop 49 = .ok (.iaload, 1) := by decide +kernel
theorem dX7_findStop_50 : decode cX7_findStop 50 = .ok (.aload_n 0, 1) := by decide +kernel
theorem dX7_findStop_51 : decode cX7_findStop 51 = .ok (.getfield 7, 3) := by decide +kernel
theorem dX7_findStop_54 : decode cX7_findStop 54 = .ok (.iload_n 2, 1) := by decide +kernel
theorem dX7_findStop_55 : decode cX7_findStop 55 = .ok (.iaload, 1) := by decide +kernel
theorem dX7_findStop_56 : decode cX7_findStop 56 = .ok (.if_icmp .lt 7, 3) := by decide +kernel
theorem dX7_findStop_59 : decode cX7_findStop 59 = .ok (.iconst 1, 1) := by decide +kernel
theorem dX7_findStop_60 : decode cX7_findStop 60 = .ok (.goto 4, 3) := by decide +kernel
theorem dX7_findStop_63 : decode cX7_findStop 63 = .ok (.iconst 0, 1) := by decide +kernel
theorem dX7_findStop_64 : decode cX7_findStop 64 = .ok (.istore_n 3, 1) := by decide +kernel
theorem dX7_findStop_65 : decode cX7_findStop 65 = .ok (.aload_n 0, 1) := by decide +kernel
theorem dX7_findStop_66 : decode cX7_findStop 66 = .ok (.dup, 1) := by decide +kernel
theorem dX7_findStop_67 : decode cX7_findStop 67 = .ok (.getfield 176, 3) := by decide +kernel
theorem dX7_findStop_70 : decode cX7_findStop 70 = .ok (.iload_n 3, 1) := by decide +kernel
theorem dX7_findStop_71 : decode cX7_findStop 71 = .ok (.ifCond .eq 9, 3) := by decide +kernel
theorem dX7_findStop_74 : decode cX7_findStop 74 = .ok (.iconst 1, 1) := by decide +kernel
theorem dX7_findStop_75 : decode cX7_findStop 75 = .ok (.iload_n 2, 1) := by decide +kernel
theorem dX7_findStop_76 : decode cX7_findStop 76 = .ok (.ishl, 1) := by decide +kernel
theorem dX7_findStop_77 : decode cX7_findStop 77 = .ok (.goto 4, 3) := by decide +kernel
theorem dX7_findStop_80 : decode cX7_findStop 80 = .ok (.iconst 0, 1) := by decide +kernel
theorem dX7_findStop_81 : decode cX7_findStop 81 = .ok (.ior, 1) := by decide +kernel
theorem dX7_findStop_82 : decode cX7_findStop 82 = .ok (.putfield 176, 3) := by decide +kernel
theorem dX7_findStop_85 : decode cX7_findStop 85 = .ok (.aload_n 0, 1) := by decide +kernel
theorem dX7_findStop_86 : decode cX7_findStop 86 = .ok (.aload_n 0, 1) := by decide +kernel
theorem dX7_findStop_87 : decode cX7_findStop 87 = .ok (.getfield 173, 3) := by decide +kernel
theorem dX7_findStop_90 : decode cX7_findStop 90 = .ok (.ifCond .ge 17, 3) := by decide +kernel
theorem dX7_findStop_93 : decode cX7_findStop 93 = .ok (.aload_n 0, 1) := by decide +kernel
theorem dX7_findStop_94 : decode cX7_findStop 94 = .ok (.getfield 22, 3) := by decide +kernel
theorem dX7_findStop_97 : decode cX7_findStop 97 = .ok (.iload_n 2, 1) := by decide +kernel
theorem dX7_findStop_98 : decode cX7_findStop 98 = .ok (.iaload, 1) := by decide +kernel
theorem dX7_findStop_99 : decode cX7_findStop 99 = .ok (.iconst 1, 1) := by decide +kernel
theorem dX7_findStop_100 : decode cX7_findStop 100 = .ok (.if_icmp .eq 7, 3) := by decide +kernel
theorem dX7_findStop_103 : decode cX7_findStop 103 = .ok (.iload_n 2, 1) := by decide +kernel
theorem dX7_findStop_104 : decode cX7_findStop 104 = .ok (.goto 7, 3) := by decide +kernel
theorem dX7_findStop_107 : decode cX7_findStop 107 = .ok (.aload_n 0, 1) := by decide +kernel
theorem dX7_findStop_108 : decode cX7_findStop 108 = .ok (.getfield 173, 3) := by decide +kernel
theorem dX7_findStop_111 : decode cX7_findStop 111 = .ok (.putfield 173, 3) := by decide +kernel
theorem dX7_findStop_114 : decode cX7_findStop 114 = .ok (.iinc 1 1, 3) := by decide +kernel
theorem dX7_findStop_117 : decode cX7_findStop 117 = .ok (.goto (-104), 3) := by decide +kernel
theorem dX7_findStop_120 : decode cX7_findStop 120 = .ok (.return_, 1) := by decide +kernel
theorem dX7_refusal_0 : decode cX7_refusal 0 = .ok (.aload_n 0, 1) := by decide +kernel
theorem dX7_refusal_1 : decode cX7_refusal 1 = .ok (.invokevirtual 145, 3) := by decide +kernel
theorem dX7_refusal_4 : decode cX7_refusal 4 = .ok (.ifCond .lt 6, 3) := by decide +kernel
theorem dX7_refusal_7 : decode cX7_refusal 7 = .ok (.bipush (-5), 2) := by decide +kernel
theorem dX7_refusal_9 : decode cX7_refusal 9 = .ok (.ireturn, 1) := by decide +kernel
theorem dX7_refusal_10 : decode cX7_refusal 10 = .ok (.aload_n 0, 1) := by decide +kernel
theorem dX7_refusal_11 : decode cX7_refusal 11 = .ok (.invokevirtual 179, 3) := by decide +kernel
theorem dX7_refusal_14 : decode cX7_refusal 14 = .ok (.aload_n 0, 1) := by decide +kernel
theorem dX7_refusal_15 : decode cX7_refusal 15 = .ok (.invokevirtual 182, 3) := by decide +kernel
theorem dX7_refusal_18 : decode cX7_refusal 18 = .ok (.aload_n 0, 1) := by decide +kernel
theorem dX7_refusal_19 : decode cX7_refusal 19 = .ok (.invokevirtual 185, 3) := by decide +kernel
theorem dX7_refusal_22 : decode cX7_refusal 22 = .ok (.iconst 0, 1) := by decide +kernel
theorem dX7_refusal_23 : decode cX7_refusal 23 = .ok (.istore_n 1, 1) := by decide +kernel
theorem dX7_refusal_24 : decode cX7_refusal 24 = .ok (.iload_n 1, 1) := by decide +kernel
theorem dX7_refusal_25 : decode cX7_refusal 25 = .ok (.bipush 21, 2) := by decide +kernel
theorem dX7_refusal_27 : decode cX7_refusal 27 = .ok (.if_icmp .ge 25, 3) := by decide +kernel
theorem dX7_refusal_30 : decode cX7_refusal 30 = .ok (.aload_n 0, 1) := by decide +kernel
theorem dX7_refusal_31 : decode cX7_refusal 31 = .ok (.getfield 64, 3) := by decide +kernel
theorem dX7_refusal_34 : decode cX7_refusal 34 = .ok (.iload_n 1, 1) := by decide +kernel
theorem dX7_refusal_35 : decode cX7_refusal 35 = .ok (.aload_n 0, 1) := by decide +kernel
theorem dX7_refusal_36 : decode cX7_refusal 36 = .ok (.iload_n 1, 1) := by decide +kernel
theorem dX7_refusal_37 : decode cX7_refusal 37 = .ok (.iconst 3, 1) := by decide +kernel
theorem dX7_refusal_38 : decode cX7_refusal 38 = .ok (.idiv, 1) := by decide +kernel
theorem dX7_refusal_39 : decode cX7_refusal 39 = .ok (.iload_n 1, 1) := by decide +kernel
theorem dX7_refusal_40 : decode cX7_refusal 40 = .ok (.iconst 3, 1) := by decide +kernel
theorem dX7_refusal_41 : decode cX7_refusal 41 = .ok (.irem, 1) := by decide +kernel
theorem dX7_refusal_42 : decode cX7_refusal 42 = .ok (.invokevirtual 188, 3) := by decide +kernel
theorem dX7_refusal_45 : decode cX7_refusal 45 = .ok (.iastore, 1) := by decide +kernel
theorem dX7_refusal_46 : decode cX7_refusal 46 = .ok (.iinc 1 1, 3) := by decide +kernel
theorem dX7_refusal_49 : decode cX7_refusal 49 = .ok (.goto (-25), 3) := by decide +kernel
theorem dX7_refusal_52 : decode cX7_refusal 52 = .ok (.aload_n 0, 1) := by decide +kernel
theorem dX7_refusal_53 : decode cX7_refusal 53 = .ok (.invokevirtual 192, 3) := by decide +kernel
theorem dX7_refusal_56 : decode cX7_refusal 56 = .ok (.aload_n 0, 1) := by decide +kernel
theorem dX7_refusal_57 : decode cX7_refusal 57 = .ok (.invokevirtual 195, 3) := by decide +kernel
theorem dX7_refusal_60 : decode cX7_refusal 60 = .ok (.aload_n 0, 1) := by decide +kernel
theorem dX7_refusal_61 : decode cX7_refusal 61 = .ok (.getfield 161, 3) := by decide +kernel
theorem dX7_refusal_64 : decode cX7_refusal 64 = .ok (.ifCond .lt 8, 3) := by decide +kernel
theorem dX7_refusal_67 : decode cX7_refusal 67 = .ok (.bipush (-3), 2) := by decide +kernel
theorem dX7_refusal_69 : decode cX7_refusal 69 = .ok (.goto 5, 3) := by decide +kernel
theorem dX7_refusal_72 : decode cX7_refusal 72 = .ok (.bipush (-6), 2) := by decide +kernel
theorem dX7_refusal_74 : decode cX7_refusal 74 = .ok (.ireturn, 1) := by decide +kernel
theorem dX7_judge_0 : decode cX7_judge 0 = .ok (.iload_n 1, 1) := by decide +kernel
theorem dX7_judge_1 : decode cX7_judge 1 = .ok (.i2l, 1) := by decide +kernel
theorem dX7_judge_2 : decode cX7_judge 2 = .ok (.lconst 0, 1) := by decide +kernel
theorem dX7_judge_3 : decode cX7_judge 3 = .ok (.ldc2_w 118, 3) := by decide +kernel
theorem dX7_judge_6 : decode cX7_judge 6 = .ok (.invokestatic 106, 3) := by decide +kernel
theorem dX7_judge_9 : decode cX7_judge 9 = .ok (.ifCond .ne 6, 3) := by decide +kernel
theorem dX7_judge_12 : decode cX7_judge 12 = .ok (.bipush (-2), 2) := by decide +kernel
theorem dX7_judge_14 : decode cX7_judge 14 = .ok (.ireturn, 1) := by decide +kernel
theorem dX7_judge_15 : decode cX7_judge 15 = .ok (.aload_n 0, 1) := by decide +kernel
theorem dX7_judge_16 : decode cX7_judge 16 = .ok (.invokevirtual 198, 3) := by decide +kernel
theorem dX7_judge_19 : decode cX7_judge 19 = .ok (.istore_n 2, 1) := by decide +kernel
theorem dX7_judge_20 : decode cX7_judge 20 = .ok (.iload_n 2, 1) := by decide +kernel
theorem dX7_judge_21 : decode cX7_judge 21 = .ok (.bipush (-5), 2) := by decide +kernel
theorem dX7_judge_23 : decode cX7_judge 23 = .ok (.if_icmp .eq 14, 3) := by decide +kernel
theorem dX7_judge_26 : decode cX7_judge 26 = .ok (.iload_n 1, 1) := by decide +kernel
theorem dX7_judge_27 : decode cX7_judge 27 = .ok (.iconst 1, 1) := by decide +kernel
theorem dX7_judge_28 : decode cX7_judge 28 = .ok (.if_icmp .le 11, 3) := by decide +kernel
theorem dX7_judge_31 : decode cX7_judge 31 = .ok (.iload_n 2, 1) := by decide +kernel
theorem dX7_judge_32 : decode cX7_judge 32 = .ok (.bipush (-3), 2) := by decide +kernel
theorem dX7_judge_34 : decode cX7_judge 34 = .ok (.if_icmp .ne 5, 3) := by decide +kernel
theorem dX7_judge_37 : decode cX7_judge 37 = .ok (.iload_n 2, 1) := by decide +kernel
theorem dX7_judge_38 : decode cX7_judge 38 = .ok (.ireturn, 1) := by decide +kernel
theorem dX7_judge_39 : decode cX7_judge 39 = .ok (.iload_n 1, 1) := by decide +kernel
theorem dX7_judge_40 : decode cX7_judge 40 = .ok (.ifCond .ne 10, 3) := by decide +kernel
theorem dX7_judge_43 : decode cX7_judge 43 = .ok (.aload_n 0, 1) := by decide +kernel
theorem dX7_judge_44 : decode cX7_judge 44 = .ok (.getfield 161, 3) := by decide +kernel
theorem dX7_judge_47 : decode cX7_judge 47 = .ok (.goto 31, 3) := by decide +kernel
theorem dX7_judge_50 : decode cX7_judge 50 = .ok (.iload_n 1, 1) := by decide +kernel
theorem dX7_judge_51 : decode cX7_judge 51 = .ok (.iconst 1, 1) := by decide +kernel
theorem dX7_judge_52 : decode cX7_judge 52 = .ok (.if_icmp .ne 10, 3) := by decide +kernel
theorem dX7_judge_55 : decode cX7_judge 55 = .ok (.aload_n 0, 1) := by decide +kernel
theorem dX7_judge_56 : decode cX7_judge 56 = .ok (.getfield 164, 3) := by decide +kernel
theorem dX7_judge_59 : decode cX7_judge 59 = .ok (.goto 19, 3) := by decide +kernel
theorem dX7_judge_62 : decode cX7_judge 62 = .ok (.iload_n 1, 1) := by decide +kernel
theorem dX7_judge_63 : decode cX7_judge 63 = .ok (.iconst 2, 1) := by decide +kernel
theorem dX7_judge_64 : decode cX7_judge 64 = .ok (.if_icmp .ne 10, 3) := by decide +kernel
theorem dX7_judge_67 : decode cX7_judge 67 = .ok (.aload_n 0, 1) := by decide +kernel
theorem dX7_judge_68 : decode cX7_judge 68 = .ok (.getfield 152, 3) := by decide +kernel
theorem dX7_judge_71 : decode cX7_judge 71 = .ok (.goto 7, 3) := by decide +kernel
theorem dX7_judge_74 : decode cX7_judge 74 = .ok (.aload_n 0, 1) := by decide +kernel
theorem dX7_judge_75 : decode cX7_judge 75 = .ok (.getfield 155, 3) := by decide +kernel
theorem dX7_judge_78 : decode cX7_judge 78 = .ok (.ireturn, 1) := by decide +kernel
theorem dX7_behind_0 : decode cX7_behind 0 = .ok (.aload_n 0, 1) := by decide +kernel
theorem dX7_behind_1 : decode cX7_behind 1 = .ok (.iload_n 1, 1) := by decide +kernel
theorem dX7_behind_2 : decode cX7_behind 2 = .ok (.invokevirtual 114, 3) := by decide +kernel
theorem dX7_behind_5 : decode cX7_behind 5 = .ok (.ifCond .ne 5, 3) := by decide +kernel
theorem dX7_behind_8 : decode cX7_behind 8 = .ok (.iconst (-1), 1) := by decide +kernel
theorem dX7_behind_9 : decode cX7_behind 9 = .ok (.ireturn, 1) := by decide +kernel
theorem dX7_behind_10 : decode cX7_behind 10 = .ok (.iload_n 2, 1) := by decide +kernel
theorem dX7_behind_11 : decode cX7_behind 11 = .ok (.i2l, 1) := by decide +kernel
theorem dX7_behind_12 : decode cX7_behind 12 = .ok (.lconst 0, 1) := by decide +kernel
theorem dX7_behind_13 : decode cX7_behind 13 = .ok (.ldc2_w 201, 3) := by decide +kernel
theorem dX7_behind_16 : decode cX7_behind 16 = .ok (.invokestatic 106, 3) := by decide +kernel
theorem dX7_behind_19 : decode cX7_behind 19 = .ok (.ifCond .ne 6, 3) := by decide +kernel
theorem dX7_behind_22 : decode cX7_behind 22 = .ok (.bipush (-2), 2) := by decide +kernel
theorem dX7_behind_24 : decode cX7_behind 24 = .ok (.ireturn, 1) := by decide +kernel
theorem dX7_behind_25 : decode cX7_behind 25 = .ok (.aload_n 0, 1) := by decide +kernel
theorem dX7_behind_26 : decode cX7_behind 26 = .ok (.invokevirtual 198, 3) := by decide +kernel
theorem dX7_behind_29 : decode cX7_behind 29 = .ok (.istore_n 3, 1) := by decide +kernel
theorem dX7_behind_30 : decode cX7_behind 30 = .ok (.iload_n 3, 1) := by decide +kernel
theorem dX7_behind_31 : decode cX7_behind 31 = .ok (.bipush (-6), 2) := by decide +kernel
theorem dX7_behind_33 : decode cX7_behind 33 = .ok (.if_icmp .eq 7, 3) := by decide +kernel
theorem dX7_behind_36 : decode cX7_behind 36 = .ok (.iload_n 3, 1) := by decide +kernel
theorem dX7_behind_37 : decode cX7_behind 37 = .ok (.goto 13, 3) := by decide +kernel
theorem dX7_behind_40 : decode cX7_behind 40 = .ok (.aload_n 0, 1) := by decide +kernel
theorem dX7_behind_41 : decode cX7_behind 41 = .ok (.getfield 64, 3) := by decide +kernel
theorem dX7_behind_44 : decode cX7_behind 44 = .ok (.iconst 3, 1) := by decide +kernel
theorem dX7_behind_45 : decode cX7_behind 45 = .ok (.iload_n 1, 1) := by decide +kernel
theorem dX7_behind_46 : decode cX7_behind 46 = .ok (.imul, 1) := by decide +kernel
theorem dX7_behind_47 : decode cX7_behind 47 = .ok (.iload_n 2, 1) := by decide +kernel
theorem dX7_behind_48 : decode cX7_behind 48 = .ok (.iadd, 1) := by decide +kernel
theorem dX7_behind_49 : decode cX7_behind 49 = .ok (.iaload, 1) := by decide +kernel
theorem dX7_behind_50 : decode cX7_behind 50 = .ok (.ireturn, 1) := by decide +kernel
theorem dX7_hatched_0 : decode cX7_hatched 0 = .ok (.aload_n 0, 1) := by decide +kernel
theorem dX7_hatched_1 : decode cX7_hatched 1 = .ok (.iload_n 1, 1) := by decide +kernel
theorem dX7_hatched_2 : decode cX7_hatched 2 = .ok (.invokevirtual 114, 3) := by decide +kernel
theorem dX7_hatched_5 : decode cX7_hatched 5 = .ok (.ifCond .ne 5, 3) := by decide +kernel
theorem dX7_hatched_8 : decode cX7_hatched 8 = .ok (.iconst (-1), 1) := by decide +kernel
theorem dX7_hatched_9 : decode cX7_hatched 9 = .ok (.ireturn, 1) := by decide +kernel
theorem dX7_hatched_10 : decode cX7_hatched 10 = .ok (.aload_n 0, 1) := by decide +kernel
theorem dX7_hatched_11 : decode cX7_hatched 11 = .ok (.invokevirtual 198, 3) := by decide +kernel
theorem dX7_hatched_14 : decode cX7_hatched 14 = .ok (.istore_n 2, 1) := by decide +kernel
theorem dX7_hatched_15 : decode cX7_hatched 15 = .ok (.iload_n 2, 1) := by decide +kernel
theorem dX7_hatched_16 : decode cX7_hatched 16 = .ok (.bipush (-6), 2) := by decide +kernel
theorem dX7_hatched_18 : decode cX7_hatched 18 = .ok (.if_icmp .eq 7, 3) := by decide +kernel
theorem dX7_hatched_21 : decode cX7_hatched 21 = .ok (.iload_n 2, 1) := by decide +kernel
theorem dX7_hatched_22 : decode cX7_hatched 22 = .ok (.goto 9, 3) := by decide +kernel
theorem dX7_hatched_25 : decode cX7_hatched 25 = .ok (.aload_n 0, 1) := by decide +kernel
theorem dX7_hatched_26 : decode cX7_hatched 26 = .ok (.getfield 58, 3) := by decide +kernel
theorem dX7_hatched_29 : decode cX7_hatched 29 = .ok (.iload_n 1, 1) := by decide +kernel
theorem dX7_hatched_30 : decode cX7_hatched 30 = .ok (.iaload, 1) := by decide +kernel
theorem dX7_hatched_31 : decode cX7_hatched 31 = .ok (.ireturn, 1) := by decide +kernel
theorem dX7_stops_0 : decode cX7_stops 0 = .ok (.iload_n 1, 1) := by decide +kernel
theorem dX7_stops_1 : decode cX7_stops 1 = .ok (.i2l, 1) := by decide +kernel
theorem dX7_stops_2 : decode cX7_stops 2 = .ok (.lconst 0, 1) := by decide +kernel
theorem dX7_stops_3 : decode cX7_stops 3 = .ok (.lconst 1, 1) := by decide +kernel
theorem dX7_stops_4 : decode cX7_stops 4 = .ok (.invokestatic 106, 3) := by decide +kernel
theorem dX7_stops_7 : decode cX7_stops 7 = .ok (.ifCond .ne 6, 3) := by decide +kernel
theorem dX7_stops_10 : decode cX7_stops 10 = .ok (.bipush (-2), 2) := by decide +kernel
theorem dX7_stops_12 : decode cX7_stops 12 = .ok (.ireturn, 1) := by decide +kernel
theorem dX7_stops_13 : decode cX7_stops 13 = .ok (.aload_n 0, 1) := by decide +kernel
theorem dX7_stops_14 : decode cX7_stops 14 = .ok (.invokevirtual 198, 3) := by decide +kernel
theorem dX7_stops_17 : decode cX7_stops 17 = .ok (.istore_n 2, 1) := by decide +kernel
theorem dX7_stops_18 : decode cX7_stops 18 = .ok (.iload_n 2, 1) := by decide +kernel
theorem dX7_stops_19 : decode cX7_stops 19 = .ok (.bipush (-6), 2) := by decide +kernel
theorem dX7_stops_21 : decode cX7_stops 21 = .ok (.if_icmp .eq 7, 3) := by decide +kernel
theorem dX7_stops_24 : decode cX7_stops 24 = .ok (.iload_n 2, 1) := by decide +kernel
theorem dX7_stops_25 : decode cX7_stops 25 = .ok (.goto 18, 3) := by decide +kernel
theorem dX7_stops_28 : decode cX7_stops 28 = .ok (.iload_n 1, 1) := by decide +kernel
theorem dX7_stops_29 : decode cX7_stops 29 = .ok (.ifCond .ne 10, 3) := by decide +kernel
theorem dX7_stops_32 : decode cX7_stops 32 = .ok (.aload_n 0, 1) := by decide +kernel
theorem dX7_stops_33 : decode cX7_stops 33 = .ok (.getfield 173, 3) := by decide +kernel
theorem dX7_stops_36 : decode cX7_stops 36 = .ok (.goto 7, 3) := by decide +kernel
theorem dX7_stops_39 : decode cX7_stops 39 = .ok (.aload_n 0, 1) := by decide +kernel
theorem dX7_stops_40 : decode cX7_stops 40 = .ok (.getfield 176, 3) := by decide +kernel
theorem dX7_stops_43 : decode cX7_stops 43 = .ok (.ireturn, 1) := by decide +kernel
theorem dX7_done_0 : decode cX7_done 0 = .ok (.aload_n 0, 1) := by decide +kernel
theorem dX7_done_1 : decode cX7_done 1 = .ok (.invokevirtual 198, 3) := by decide +kernel
theorem dX7_done_4 : decode cX7_done 4 = .ok (.istore_n 1, 1) := by decide +kernel
theorem dX7_done_5 : decode cX7_done 5 = .ok (.iload_n 1, 1) := by decide +kernel
theorem dX7_done_6 : decode cX7_done 6 = .ok (.bipush (-6), 2) := by decide +kernel
theorem dX7_done_8 : decode cX7_done 8 = .ok (.if_icmp .eq 5, 3) := by decide +kernel
theorem dX7_done_11 : decode cX7_done 11 = .ok (.iload_n 1, 1) := by decide +kernel
theorem dX7_done_12 : decode cX7_done 12 = .ok (.ireturn, 1) := by decide +kernel
theorem dX7_done_13 : decode cX7_done 13 = .ok (.aload_n 0, 1) := by decide +kernel
theorem dX7_done_14 : decode cX7_done 14 = .ok (.invokevirtual 185, 3) := by decide +kernel
theorem dX7_done_17 : decode cX7_done 17 = .ok (.aload_n 0, 1) := by decide +kernel
theorem dX7_done_18 : decode cX7_done 18 = .ok (.iconst 0, 1) := by decide +kernel
theorem dX7_done_19 : decode cX7_done 19 = .ok (.putfield 131, 3) := by decide +kernel
theorem dX7_done_22 : decode cX7_done 22 = .ok (.aload_n 0, 1) := by decide +kernel
theorem dX7_done_23 : decode cX7_done 23 = .ok (.getfield 134, 3) := by decide +kernel
theorem dX7_done_26 : decode cX7_done 26 = .ok (.ireturn, 1) := by decide +kernel
theorem dX7_state_0 : decode cX7_state 0 = .ok (.aload_n 0, 1) := by decide +kernel
theorem dX7_state_1 : decode cX7_state 1 = .ok (.iload_n 1, 1) := by decide +kernel
theorem dX7_state_2 : decode cX7_state 2 = .ok (.invokevirtual 114, 3) := by decide +kernel
theorem dX7_state_5 : decode cX7_state 5 = .ok (.ifCond .ne 5, 3) := by decide +kernel
theorem dX7_state_8 : decode cX7_state 8 = .ok (.iconst (-1), 1) := by decide +kernel
theorem dX7_state_9 : decode cX7_state 9 = .ok (.ireturn, 1) := by decide +kernel
theorem dX7_state_10 : decode cX7_state 10 = .ok (.iload_n 2, 1) := by decide +kernel
theorem dX7_state_11 : decode cX7_state 11 = .ok (.i2l, 1) := by decide +kernel
theorem dX7_state_12 : decode cX7_state 12 = .ok (.lconst 0, 1) := by decide +kernel
theorem dX7_state_13 : decode cX7_state 13 = .ok (.ldc2_w 201, 3) := by decide +kernel
theorem dX7_state_16 : decode cX7_state 16 = .ok (.invokestatic 106, 3) := by decide +kernel
theorem dX7_state_19 : decode cX7_state 19 = .ok (.ifCond .eq 12, 3) := by decide +kernel
theorem dX7_state_22 : decode cX7_state 22 = .ok (.aload_n 0, 1) := by decide +kernel
theorem dX7_state_23 : decode cX7_state 23 = .ok (.iload_n 1, 1) := by decide +kernel
theorem dX7_state_24 : decode cX7_state 24 = .ok (.iload_n 2, 1) := by decide +kernel
theorem dX7_state_25 : decode cX7_state 25 = .ok (.invokevirtual 188, 3) := by decide +kernel
theorem dX7_state_28 : decode cX7_state 28 = .ok (.goto 5, 3) := by decide +kernel
theorem dX7_state_31 : decode cX7_state 31 = .ok (.bipush (-2), 2) := by decide +kernel
theorem dX7_state_33 : decode cX7_state 33 = .ok (.ireturn, 1) := by decide +kernel
theorem dX7_clue_0 : decode cX7_clue 0 = .ok (.iload_n 1, 1) := by decide +kernel
theorem dX7_clue_1 : decode cX7_clue 1 = .ok (.i2l, 1) := by decide +kernel
theorem dX7_clue_2 : decode cX7_clue 2 = .ok (.lconst 0, 1) := by decide +kernel
theorem dX7_clue_3 : decode cX7_clue 3 = .ok (.ldc2_w 118, 3) := by decide +kernel
theorem dX7_clue_6 : decode cX7_clue 6 = .ok (.invokestatic 106, 3) := by decide +kernel
theorem dX7_clue_9 : decode cX7_clue 9 = .ok (.ifCond .ne 6, 3) := by decide +kernel
theorem dX7_clue_12 : decode cX7_clue 12 = .ok (.bipush (-2), 2) := by decide +kernel
theorem dX7_clue_14 : decode cX7_clue 14 = .ok (.ireturn, 1) := by decide +kernel
theorem dX7_clue_15 : decode cX7_clue 15 = .ok (.aload_n 0, 1) := by decide +kernel
theorem dX7_clue_16 : decode cX7_clue 16 = .ok (.iload_n 2, 1) := by decide +kernel
theorem dX7_clue_17 : decode cX7_clue 17 = .ok (.invokevirtual 114, 3) := by decide +kernel
theorem dX7_clue_20 : decode cX7_clue 20 = .ok (.ifCond .eq 21, 3) := by decide +kernel
theorem dX7_clue_23 : decode cX7_clue 23 = .ok (.iload_n 1, 1) := by decide +kernel
theorem dX7_clue_24 : decode cX7_clue 24 = .ok (.iconst 2, 1) := by decide +kernel
theorem dX7_clue_25 : decode cX7_clue 25 = .ok (.if_icmp .ge 18, 3) := by decide +kernel
theorem dX7_clue_28 : decode cX7_clue 28 = .ok (.aload_n 0, 1) := by decide +kernel
theorem dX7_clue_29 : decode cX7_clue 29 = .ok (.iload_n 3, 1) := by decide +kernel
theorem dX7_clue_30 : decode cX7_clue 30 = .ok (.invokevirtual 114, 3) := by decide +kernel
theorem dX7_clue_33 : decode cX7_clue 33 = .ok (.ifCond .eq 8, 3) := by decide +kernel
theorem dX7_clue_36 : decode cX7_clue 36 = .ok (.iload_n 2, 1) := by decide +kernel
theorem dX7_clue_37 : decode cX7_clue 37 = .ok (.iload_n 3, 1) := by decide +kernel
theorem dX7_clue_38 : decode cX7_clue 38 = .ok (.if_icmp .ne 5, 3) := by decide +kernel
theorem dX7_clue_41 : decode cX7_clue 41 = .ok (.iconst (-1), 1) := by decide +kernel
theorem dX7_clue_42 : decode cX7_clue 42 = .ok (.ireturn, 1) := by decide +kernel
theorem dX7_clue_43 : decode cX7_clue 43 = .ok (.iload_n 1, 1) := by decide +kernel
theorem dX7_clue_44 : decode cX7_clue 44 = .ok (.iconst 1, 1) := by decide +kernel
theorem dX7_clue_45 : decode cX7_clue 45 = .ok (.if_icmp .le 14, 3) := by decide +kernel
theorem dX7_clue_48 : decode cX7_clue 48 = .ok (.aload_n 0, 1) := by decide +kernel
theorem dX7_clue_49 : decode cX7_clue 49 = .ok (.iload_n 3, 1) := by decide +kernel
theorem dX7_clue_50 : decode cX7_clue 50 = .ok (.invokevirtual 114, 3) := by decide +kernel
theorem dX7_clue_53 : decode cX7_clue 53 = .ok (.ifCond .ne 6, 3) := by decide +kernel
theorem dX7_clue_56 : decode cX7_clue 56 = .ok (.bipush (-2), 2) := by decide +kernel
theorem dX7_clue_58 : decode cX7_clue 58 = .ok (.ireturn, 1) := by decide +kernel
theorem dX7_clue_59 : decode cX7_clue 59 = .ok (.aload_n 0, 1) := by decide +kernel
theorem dX7_clue_60 : decode cX7_clue 60 = .ok (.getfield 100, 3) := by decide +kernel
theorem dX7_clue_63 : decode cX7_clue 63 = .ok (.bipush 12, 2) := by decide +kernel
theorem dX7_clue_65 : decode cX7_clue 65 = .ok (.if_icmp .ne 6, 3) := by decide +kernel
theorem dX7_clue_68 : decode cX7_clue 68 = .ok (.bipush (-4), 2) := by decide +kernel
theorem dX7_clue_70 : decode cX7_clue 70 = .ok (.ireturn, 1) := by decide +kernel
theorem dX7_clue_71 : decode cX7_clue 71 = .ok (.aload_n 0, 1) := by decide +kernel
theorem dX7_clue_72 : decode cX7_clue 72 = .ok (.getfield 28, 3) := by decide +kernel
theorem dX7_clue_75 : decode cX7_clue 75 = .ok (.aload_n 0, 1) := by decide +kernel
theorem dX7_clue_76 : decode cX7_clue 76 = .ok (.getfield 100, 3) := by decide +kernel
theorem dX7_clue_79 : decode cX7_clue 79 = .ok (.iload_n 1, 1) := by decide +kernel
theorem dX7_clue_80 : decode cX7_clue 80 = .ok (.iastore, 1) := by decide +kernel
theorem dX7_clue_81 : decode cX7_clue 81 = .ok (.aload_n 0, 1) := by decide +kernel
theorem dX7_clue_82 : decode cX7_clue 82 = .ok (.getfield 31, 3) := by decide +kernel
theorem dX7_clue_85 : decode cX7_clue 85 = .ok (.aload_n 0, 1) := by decide +kernel
theorem dX7_clue_86 : decode cX7_clue 86 = .ok (.getfield 100, 3) := by decide +kernel
theorem dX7_clue_89 : decode cX7_clue 89 = .ok (.iload_n 2, 1) := by decide +kernel
theorem dX7_clue_90 : decode cX7_clue 90 = .ok (.iastore, 1) := by decide +kernel
theorem dX7_clue_91 : decode cX7_clue 91 = .ok (.aload_n 0, 1) := by decide +kernel
theorem dX7_clue_92 : decode cX7_clue 92 = .ok (.getfield 34, 3) := by decide +kernel
theorem dX7_clue_95 : decode cX7_clue 95 = .ok (.aload_n 0, 1) := by decide +kernel
theorem dX7_clue_96 : decode cX7_clue 96 = .ok (.getfield 100, 3) := by decide +kernel
theorem dX7_clue_99 : decode cX7_clue 99 = .ok (.iload_n 3, 1) := by decide +kernel
theorem dX7_clue_100 : decode cX7_clue 100 = .ok (.iastore, 1) := by decide +kernel
theorem dX7_clue_101 : decode cX7_clue 101 = .ok (.aload_n 0, 1) := by decide +kernel
theorem dX7_clue_102 : decode cX7_clue 102 = .ok (.dup, 1) := by decide +kernel
theorem dX7_clue_103 : decode cX7_clue 103 = .ok (.getfield 100, 3) := by decide +kernel
theorem dX7_clue_106 : decode cX7_clue 106 = .ok (.iconst 1, 1) := by decide +kernel
theorem dX7_clue_107 : decode cX7_clue 107 = .ok (.iadd, 1) := by decide +kernel
theorem dX7_clue_108 : decode cX7_clue 108 = .ok (.putfield 100, 3) := by decide +kernel
theorem dX7_clue_111 : decode cX7_clue 111 = .ok (.aload_n 0, 1) := by decide +kernel
theorem dX7_clue_112 : decode cX7_clue 112 = .ok (.getfield 100, 3) := by decide +kernel
theorem dX7_clue_115 : decode cX7_clue 115 = .ok (.ireturn, 1) := by decide +kernel
theorem dX7_seen_0 : decode cX7_seen 0 = .ok (.aload_n 0, 1) := by decide +kernel
theorem dX7_seen_1 : decode cX7_seen 1 = .ok (.iload_n 1, 1) := by decide +kernel
theorem dX7_seen_2 : decode cX7_seen 2 = .ok (.invokevirtual 114, 3) := by decide +kernel
theorem dX7_seen_5 : decode cX7_seen 5 = .ok (.ifCond .ne 5, 3) := by decide +kernel
theorem dX7_seen_8 : decode cX7_seen 8 = .ok (.iconst (-1), 1) := by decide +kernel
theorem dX7_seen_9 : decode cX7_seen 9 = .ok (.ireturn, 1) := by decide +kernel
theorem dX7_seen_10 : decode cX7_seen 10 = .ok (.iload_n 2, 1) := by decide +kernel
theorem dX7_seen_11 : decode cX7_seen 11 = .ok (.i2l, 1) := by decide +kernel
theorem dX7_seen_12 : decode cX7_seen 12 = .ok (.lconst 0, 1) := by decide +kernel
theorem dX7_seen_13 : decode cX7_seen 13 = .ok (.ldc2_w 203, 3) := by decide +kernel
theorem dX7_seen_16 : decode cX7_seen 16 = .ok (.invokestatic 106, 3) := by decide +kernel
theorem dX7_seen_19 : decode cX7_seen 19 = .ok (.ifCond .ne 6, 3) := by decide +kernel
theorem dX7_seen_22 : decode cX7_seen 22 = .ok (.bipush (-2), 2) := by decide +kernel
theorem dX7_seen_24 : decode cX7_seen 24 = .ok (.ireturn, 1) := by decide +kernel
theorem dX7_seen_25 : decode cX7_seen 25 = .ok (.aload_n 0, 1) := by decide +kernel
theorem dX7_seen_26 : decode cX7_seen 26 = .ok (.getfield 103, 3) := by decide +kernel
theorem dX7_seen_29 : decode cX7_seen 29 = .ok (.bipush 7, 2) := by decide +kernel
theorem dX7_seen_31 : decode cX7_seen 31 = .ok (.if_icmp .ne 6, 3) := by decide +kernel
theorem dX7_seen_34 : decode cX7_seen 34 = .ok (.bipush (-4), 2) := by decide +kernel
theorem dX7_seen_36 : decode cX7_seen 36 = .ok (.ireturn, 1) := by decide +kernel
theorem dX7_seen_37 : decode cX7_seen 37 = .ok (.aload_n 0, 1) := by decide +kernel
theorem dX7_seen_38 : decode cX7_seen 38 = .ok (.getfield 37, 3) := by decide +kernel
theorem dX7_seen_41 : decode cX7_seen 41 = .ok (.aload_n 0, 1) := by decide +kernel
theorem dX7_seen_42 : decode cX7_seen 42 = .ok (.getfield 103, 3) := by decide +kernel
theorem dX7_seen_45 : decode cX7_seen 45 = .ok (.iload_n 1, 1) := by decide +kernel
theorem dX7_seen_46 : decode cX7_seen 46 = .ok (.iastore, 1) := by decide +kernel
theorem dX7_seen_47 : decode cX7_seen 47 = .ok (.aload_n 0, 1) := by decide +kernel
theorem dX7_seen_48 : decode cX7_seen 48 = .ok (.getfield 40, 3) := by decide +kernel
theorem dX7_seen_51 : decode cX7_seen 51 = .ok (.aload_n 0, 1) := by decide +kernel
theorem dX7_seen_52 : decode cX7_seen 52 = .ok (.getfield 103, 3) := by decide +kernel
theorem dX7_seen_55 : decode cX7_seen 55 = .ok (.iload_n 2, 1) := by decide +kernel
theorem dX7_seen_56 : decode cX7_seen 56 = .ok (.iastore, 1) := by decide +kernel
theorem dX7_seen_57 : decode cX7_seen 57 = .ok (.aload_n 0, 1) := by decide +kernel
theorem dX7_seen_58 : decode cX7_seen 58 = .ok (.dup, 1) := by decide +kernel
theorem dX7_seen_59 : decode cX7_seen 59 = .ok (.getfield 103, 3) := by decide +kernel
theorem dX7_seen_62 : decode cX7_seen 62 = .ok (.iconst 1, 1) := by decide +kernel
theorem dX7_seen_63 : decode cX7_seen 63 = .ok (.iadd, 1) := by decide +kernel
theorem dX7_seen_64 : decode cX7_seen 64 = .ok (.putfield 103, 3) := by decide +kernel
theorem dX7_seen_67 : decode cX7_seen 67 = .ok (.aload_n 0, 1) := by decide +kernel
theorem dX7_seen_68 : decode cX7_seen 68 = .ok (.getfield 103, 3) := by decide +kernel
theorem dX7_seen_71 : decode cX7_seen 71 = .ok (.ireturn, 1) := by decide +kernel
theorem dX7_forget_0 : decode cX7_forget 0 = .ok (.iload_n 1, 1) := by decide +kernel
theorem dX7_forget_1 : decode cX7_forget 1 = .ok (.i2l, 1) := by decide +kernel
theorem dX7_forget_2 : decode cX7_forget 2 = .ok (.lconst 0, 1) := by decide +kernel
theorem dX7_forget_3 : decode cX7_forget 3 = .ok (.lconst 1, 1) := by decide +kernel
theorem dX7_forget_4 : decode cX7_forget 4 = .ok (.invokestatic 106, 3) := by decide +kernel
theorem dX7_forget_7 : decode cX7_forget 7 = .ok (.ifCond .ne 6, 3) := by decide +kernel
theorem dX7_forget_10 : decode cX7_forget 10 = .ok (.bipush (-2), 2) := by decide +kernel
theorem dX7_forget_12 : decode cX7_forget 12 = .ok (.ireturn, 1) := by decide +kernel
theorem dX7_forget_13 : decode cX7_forget 13 = .ok (.iload_n 1, 1) := by decide +kernel
theorem dX7_forget_14 : decode cX7_forget 14 = .ok (.ifCond .ne 10, 3) := by decide +kernel
theorem dX7_forget_17 : decode cX7_forget 17 = .ok (.aload_n 0, 1) := by decide +kernel
theorem dX7_forget_18 : decode cX7_forget 18 = .ok (.getfield 100, 3) := by decide +kernel
theorem dX7_forget_21 : decode cX7_forget 21 = .ok (.goto 7, 3) := by decide +kernel
theorem dX7_forget_24 : decode cX7_forget 24 = .ok (.aload_n 0, 1) := by decide +kernel
theorem dX7_forget_25 : decode cX7_forget 25 = .ok (.getfield 103, 3) := by decide +kernel
theorem dX7_forget_28 : decode cX7_forget 28 = .ok (.istore_n 2, 1) := by decide +kernel
theorem dX7_forget_29 : decode cX7_forget 29 = .ok (.aload_n 0, 1) := by decide +kernel
theorem dX7_forget_30 : decode cX7_forget 30 = .ok (.iload_n 1, 1) := by decide +kernel
theorem dX7_forget_31 : decode cX7_forget 31 = .ok (.ifCond .ne 7, 3) := by decide +kernel
theorem dX7_forget_34 : decode cX7_forget 34 = .ok (.iconst 0, 1) := by decide +kernel
theorem dX7_forget_35 : decode cX7_forget 35 = .ok (.goto 7, 3) := by decide +kernel
theorem dX7_forget_38 : decode cX7_forget 38 = .ok (.aload_n 0, 1) := by decide +kernel
theorem dX7_forget_39 : decode cX7_forget 39 = .ok (.getfield 100, 3) := by decide +kernel
theorem dX7_forget_42 : decode cX7_forget 42 = .ok (.putfield 100, 3) := by decide +kernel
theorem dX7_forget_45 : decode cX7_forget 45 = .ok (.aload_n 0, 1) := by decide +kernel
theorem dX7_forget_46 : decode cX7_forget 46 = .ok (.iload_n 1, 1) := by decide +kernel
theorem dX7_forget_47 : decode cX7_forget 47 = .ok (.iconst 1, 1) := by decide +kernel
theorem dX7_forget_48 : decode cX7_forget 48 = .ok (.if_icmp .ne 7, 3) := by decide +kernel
theorem dX7_forget_51 : decode cX7_forget 51 = .ok (.iconst 0, 1) := by decide +kernel
theorem dX7_forget_52 : decode cX7_forget 52 = .ok (.goto 7, 3) := by decide +kernel
theorem dX7_forget_55 : decode cX7_forget 55 = .ok (.aload_n 0, 1) := by decide +kernel
theorem dX7_forget_56 : decode cX7_forget 56 = .ok (.getfield 103, 3) := by decide +kernel
theorem dX7_forget_59 : decode cX7_forget 59 = .ok (.putfield 103, 3) := by decide +kernel
theorem dX7_forget_62 : decode cX7_forget 62 = .ok (.iload_n 2, 1) := by decide +kernel
theorem dX7_forget_63 : decode cX7_forget 63 = .ok (.ireturn, 1) := by decide +kernel
theorem dX7_fitsClues_0 : decode cX7_fitsClues 0 = .ok (.iconst 0, 1) := by decide +kernel
theorem dX7_fitsClues_1 : decode cX7_fitsClues 1 = .ok (.istore_n 1, 1) := by decide +kernel
theorem dX7_fitsClues_2 : decode cX7_fitsClues 2 = .ok (.iload_n 1, 1) := by decide +kernel
theorem dX7_fitsClues_3 : decode cX7_fitsClues 3 = .ok (.aload_n 0, 1) := by decide +kernel
theorem dX7_fitsClues_4 : decode cX7_fitsClues 4 = .ok (.getfield 93, 3) := by decide +kernel
theorem dX7_fitsClues_7 : decode cX7_fitsClues 7 = .ok (.if_icmp .ge 21, 3) := by decide +kernel
theorem dX7_fitsClues_10 : decode cX7_fitsClues 10 = .ok (.aload_n 0, 1) := by decide +kernel
theorem dX7_fitsClues_11 : decode cX7_fitsClues 11 = .ok (.getfield 67, 3) := by decide +kernel
theorem dX7_fitsClues_14 : decode cX7_fitsClues 14 = .ok (.aload_n 0, 1) := by decide +kernel
theorem dX7_fitsClues_15 : decode cX7_fitsClues 15 = .ok (.getfield 55, 3) := by decide +kernel
theorem dX7_fitsClues_18 : decode cX7_fitsClues 18 = .ok (.iload_n 1, 1) := by decide +kernel
theorem dX7_fitsClues_19 : decode cX7_fitsClues 19 = .ok (.iaload, 1) := by decide +kernel
theorem dX7_fitsClues_20 : decode cX7_fitsClues 20 = .ok (.iload_n 1, 1) := by decide +kernel
theorem dX7_fitsClues_21 : decode cX7_fitsClues 21 = .ok (.iastore, 1) := by decide +kernel
theorem dX7_fitsClues_22 : decode cX7_fitsClues 22 = .ok (.iinc 1 1, 3) := by decide +kernel
theorem dX7_fitsClues_25 : decode cX7_fitsClues 25 = .ok (.goto (-23), 3) := by decide +kernel
theorem dX7_fitsClues_28 : decode cX7_fitsClues 28 = .ok (.iconst 1, 1) := by decide +kernel
theorem dX7_fitsClues_29 : decode cX7_fitsClues 29 = .ok (.istore_n 1, 1) := by decide +kernel
theorem dX7_fitsClues_30 : decode cX7_fitsClues 30 = .ok (.iconst 0, 1) := by decide +kernel
theorem dX7_fitsClues_31 : decode cX7_fitsClues 31 = .ok (.istore_n 2, 1) := by decide +kernel
theorem dX7_fitsClues_32 : decode cX7_fitsClues 32 = .ok (.iload_n 2, 1) := by decide +kernel
theorem dX7_fitsClues_33 : decode cX7_fitsClues 33 = .ok (.aload_n 0, 1) := by decide +kernel
theorem dX7_fitsClues_34 : decode cX7_fitsClues 34 = .ok (.getfield 100, 3) := by decide +kernel
theorem dX7_fitsClues_37 : decode cX7_fitsClues 37 = .ok (.if_icmp .ge 154, 3) := by decide +kernel
theorem dX7_fitsClues_40 : decode cX7_fitsClues 40 = .ok (.aload_n 0, 1) := by decide +kernel
theorem dX7_fitsClues_41 : decode cX7_fitsClues 41 = .ok (.getfield 67, 3) := by decide +kernel
theorem dX7_fitsClues_44 : decode cX7_fitsClues 44 = .ok (.aload_n 0, 1) := by decide +kernel
theorem dX7_fitsClues_45 : decode cX7_fitsClues 45 = .ok (.getfield 31, 3) := by decide +kernel
theorem dX7_fitsClues_48 : decode cX7_fitsClues 48 = .ok (.iload_n 2, 1) := by decide +kernel
theorem dX7_fitsClues_49 : decode cX7_fitsClues 49 = .ok (.iaload, 1) := by decide +kernel
theorem dX7_fitsClues_50 : decode cX7_fitsClues 50 = .ok (.iaload, 1) := by decide +kernel
theorem dX7_fitsClues_51 : decode cX7_fitsClues 51 = .ok (.istore_n 3, 1) := by decide +kernel
theorem dX7_fitsClues_52 : decode cX7_fitsClues 52 = .ok (.aload_n 0, 1) := by decide +kernel
theorem dX7_fitsClues_53 : decode cX7_fitsClues 53 = .ok (.getfield 28, 3) := by decide +kernel
theorem dX7_fitsClues_56 : decode cX7_fitsClues 56 = .ok (.iload_n 2, 1) := by decide +kernel
theorem dX7_fitsClues_57 : decode cX7_fitsClues 57 = .ok (.iaload, 1) := by decide +kernel
theorem dX7_fitsClues_58 : decode cX7_fitsClues 58 = .ok (.iconst 2, 1) := by decide +kernel
theorem dX7_fitsClues_59 : decode cX7_fitsClues 59 = .ok (.if_icmp .ge 17, 3) := by decide +kernel
theorem dX7_fitsClues_62 : decode cX7_fitsClues 62 = .ok (.aload_n 0, 1) := by decide +kernel
theorem dX7_fitsClues_63 : decode cX7_fitsClues 63 = .ok (.getfield 67, 3) := by decide +kernel
theorem dX7_fitsClues_66 : decode cX7_fitsClues 66 = .ok (.aload_n 0, 1) := by decide +kernel
theorem dX7_fitsClues_67 : decode cX7_fitsClues 67 = .ok (.getfield 34, 3) := by decide +kernel
theorem dX7_fitsClues_70 : decode cX7_fitsClues 70 = .ok (.iload_n 2, 1) := by decide +kernel
theorem dX7_fitsClues_71 : decode cX7_fitsClues 71 = .ok (.iaload, 1) := by decide +kernel
theorem dX7_fitsClues_72 : decode cX7_fitsClues 72 = .ok (.iaload, 1) := by decide +kernel
theorem dX7_fitsClues_73 : decode cX7_fitsClues 73 = .ok (.goto 9, 3) := by decide +kernel
theorem dX7_fitsClues_76 : decode cX7_fitsClues 76 = .ok (.aload_n 0, 1) := by decide +kernel
theorem dX7_fitsClues_77 : decode cX7_fitsClues 77 = .ok (.getfield 34, 3) := by decide +kernel
theorem dX7_fitsClues_80 : decode cX7_fitsClues 80 = .ok (.iload_n 2, 1) := by decide +kernel
theorem dX7_fitsClues_81 : decode cX7_fitsClues 81 = .ok (.iaload, 1) := by decide +kernel
theorem dX7_fitsClues_82 : decode cX7_fitsClues 82 = .ok (.istore 4, 2) := by decide +kernel
theorem dX7_fitsClues_84 : decode cX7_fitsClues 84 = .ok (.aload_n 0, 1) := by decide +kernel
theorem dX7_fitsClues_85 : decode cX7_fitsClues 85 = .ok (.getfield 28, 3) := by decide +kernel
theorem dX7_fitsClues_88 : decode cX7_fitsClues 88 = .ok (.iload_n 2, 1) := by decide +kernel
theorem dX7_fitsClues_89 : decode cX7_fitsClues 89 = .ok (.iaload, 1) := by decide +kernel
theorem dX7_fitsClues_90 : decode cX7_fitsClues 90 = .ok (.ifCond .ne 17, 3) := by decide +kernel
theorem dX7_fitsClues_93 : decode cX7_fitsClues 93 = .ok (.iload_n 3, 1) := by decide +kernel
theorem dX7_fitsClues_94 : decode cX7_fitsClues 94 = .ok (.iload 4, 2) := by decide +kernel
theorem dX7_fitsClues_96 : decode cX7_fitsClues 96 = .ok (.if_icmp .ge 7, 3) := by decide +kernel
theorem dX7_fitsClues_99 : decode cX7_fitsClues 99 = .ok (.iconst 1, 1) := by decide +kernel
theorem dX7_fitsClues_100 : decode cX7_fitsClues 100 = .ok (.goto 68, 3) := by decide +kernel
theorem dX7_fitsClues_103 : decode cX7_fitsClues 103 = .ok (.iconst 0, 1) := by decide +kernel
theorem dX7_fitsClues_104 : decode cX7_fitsClues 104 = .ok (.goto 64, 3) := by decide +kernel
theorem dX7_fitsClues_107 : decode cX7_fitsClues 107 = .ok (.aload_n 0, 1) := by decide +kernel
theorem dX7_fitsClues_108 : decode cX7_fitsClues 108 = .ok (.getfield 28, 3) := by decide +kernel
theorem dX7_fitsClues_111 : decode cX7_fitsClues 111 = .ok (.iload_n 2, 1) := by decide +kernel
theorem dX7_fitsClues_112 : decode cX7_fitsClues 112 = .ok (.iaload, 1) := by decide +kernel
theorem dX7_fitsClues_113 : decode cX7_fitsClues 113 = .ok (.iconst 1, 1) := by decide +kernel
theorem dX7_fitsClues_114 : decode cX7_fitsClues 114 = .ok (.if_icmp .ne 19, 3) := by decide +kernel
theorem dX7_fitsClues_117 : decode cX7_fitsClues 117 = .ok (.iload_n 3, 1) := by decide +kernel
theorem dX7_fitsClues_118 : decode cX7_fitsClues 118 = .ok (.iconst 1, 1) := by decide +kernel
theorem dX7_fitsClues_119 : decode cX7_fitsClues 119 = .ok (.iadd, 1) := by decide +kernel
theorem dX7_fitsClues_120 : decode cX7_fitsClues 120 = .ok (.iload 4, 2) := by decide +kernel
theorem dX7_fitsClues_122 : decode cX7_fitsClues 122 = .ok (.if_icmp .ne 7, 3) := by decide +kernel
theorem dX7_fitsClues_125 : decode cX7_fitsClues 125 = .ok (.iconst 1, 1) := by decide +kernel
theorem dX7_fitsClues_126 : decode cX7_fitsClues 126 = .ok (.goto 42, 3) := by decide +kernel
theorem dX7_fitsClues_129 : decode cX7_fitsClues 129 = .ok (.iconst 0, 1) := by decide +kernel
theorem dX7_fitsClues_130 : decode cX7_fitsClues 130 = .ok (.goto 38, 3) := by decide +kernel
theorem dX7_fitsClues_133 : decode cX7_fitsClues 133 = .ok (.aload_n 0, 1) := by decide +kernel
theorem dX7_fitsClues_134 : decode cX7_fitsClues 134 = .ok (.getfield 28, 3) := by decide +kernel
theorem dX7_fitsClues_137 : decode cX7_fitsClues 137 = .ok (.iload_n 2, 1) := by decide +kernel
theorem dX7_fitsClues_138 : decode cX7_fitsClues 138 = .ok (.iaload, 1) := by decide +kernel
theorem dX7_fitsClues_139 : decode cX7_fitsClues 139 = .ok (.iconst 2, 1) := by decide +kernel
theorem dX7_fitsClues_140 : decode cX7_fitsClues 140 = .ok (.if_icmp .ne 17, 3) := by decide +kernel
theorem dX7_fitsClues_143 : decode cX7_fitsClues 143 = .ok (.iload_n 3, 1) := by decide +kernel
theorem dX7_fitsClues_144 : decode cX7_fitsClues 144 = .ok (.iload 4, 2) := by decide +kernel
theorem dX7_fitsClues_146 : decode cX7_fitsClues 146 = .ok (.if_icmp .ne 7, 3) := by decide +kernel
theorem dX7_fitsClues_149 : decode cX7_fitsClues 149 = .ok (.iconst 1, 1) := by decide +kernel
theorem dX7_fitsClues_150 : decode cX7_fitsClues 150 = .ok (.goto 18, 3) := by decide +kernel
theorem dX7_fitsClues_153 : decode cX7_fitsClues 153 = .ok (.iconst 0, 1) := by decide +kernel
theorem dX7_fitsClues_154 : decode cX7_fitsClues 154 = .ok (.goto 14, 3) := by decide +kernel
theorem dX7_fitsClues_157 : decode cX7_fitsClues 157 = .ok (.iload_n 3, 1) := by decide +kernel
theorem dX7_fitsClues_158 : decode cX7_fitsClues 158 = .ok (.iload 4, 2) := by decide +kernel
theorem dX7_fitsClues_160 : decode cX7_fitsClues 160 = .ok (.if_icmp .eq 7, 3) := by decide +kernel
theorem dX7_fitsClues_163 : decode cX7_fitsClues 163 = .ok (.iconst 1, 1) := by decide +kernel
theorem dX7_fitsClues_164 : decode cX7_fitsClues 164 = .ok (.goto 4, 3) := by decide +kernel
theorem dX7_fitsClues_167 : decode cX7_fitsClues 167 = .ok (.iconst 0, 1) := by decide +kernel
theorem dX7_fitsClues_168 : decode cX7_fitsClues 168 = .ok (.istore 5, 2) := by decide +kernel
theorem dX7_fitsClues_170 : decode cX7_fitsClues 170 = .ok (.iload_n 1, 1) := by decide +kernel
theorem dX7_fitsClues_171 : decode cX7_fitsClues 171 = .ok (.ifCond .eq 12, 3) := by decide +kernel
theorem dX7_fitsClues_174 : decode cX7_fitsClues 174 = .ok (.iload 5, 2) := by decide +kernel
theorem dX7_fitsClues_176 : decode cX7_fitsClues 176 = .ok (.ifCond .eq 7, 3) := by decide +kernel
theorem dX7_fitsClues_179 : decode cX7_fitsClues 179 = .ok (.iconst 1, 1) := by decide +kernel
theorem dX7_fitsClues_180 : decode cX7_fitsClues 180 = .ok (.goto 4, 3) := by decide +kernel
theorem dX7_fitsClues_183 : decode cX7_fitsClues 183 = .ok (.iconst 0, 1) := by decide +kernel
theorem dX7_fitsClues_184 : decode cX7_fitsClues 184 = .ok (.istore_n 1, 1) := by decide +kernel
theorem dX7_fitsClues_185 : decode cX7_fitsClues 185 = .ok (.iinc 2 1, 3) := by decide +kernel
theorem dX7_fitsClues_188 : decode cX7_fitsClues 188 = .ok (.goto (-156), 3) := by decide +kernel
theorem dX7_fitsClues_191 : decode cX7_fitsClues 191 = .ok (.iload_n 1, 1) := by decide +kernel
theorem dX7_fitsClues_192 : decode cX7_fitsClues 192 = .ok (.ireturn, 1) := by decide +kernel
theorem dX7_fitsSights_0 : decode cX7_fitsSights 0 = .ok (.aload_n 0, 1) := by decide +kernel
theorem dX7_fitsSights_1 : decode cX7_fitsSights 1 = .ok (.getfield 103, 3) := by decide +kernel
theorem dX7_fitsSights_4 : decode cX7_fitsSights 4 = .ok (.ifCond .ne 5, 3) := by decide +kernel
theorem dX7_fitsSights_7 : decode cX7_fitsSights 7 = .ok (.iconst 1, 1) := by decide +kernel
theorem dX7_fitsSights_8 : decode cX7_fitsSights 8 = .ok (.ireturn, 1) := by decide +kernel
theorem dX7_fitsSights_9 : decode cX7_fitsSights 9 = .ok (.aload_n 0, 1) := by decide +kernel
theorem dX7_fitsSights_10 : decode cX7_fitsSights 10 = .ok (.invokevirtual 185, 3) := by decide +kernel
theorem dX7_fitsSights_13 : decode cX7_fitsSights 13 = .ok (.aload_n 0, 1) := by decide +kernel
theorem dX7_fitsSights_14 : decode cX7_fitsSights 14 = .ok (.getfield 161, 3) := by decide +kernel
theorem dX7_fitsSights_17 : decode cX7_fitsSights 17 = .ok (.ifCond .ge 7, 3) := by decide +kernel
theorem dX7_fitsSights_20 : decode cX7_fitsSights 20 = .ok (.iconst 1, 1) := by decide +kernel
theorem dX7_fitsSights_21 : decode cX7_fitsSights 21 = .ok (.goto 4, 3) := by decide +kernel
theorem dX7_fitsSights_24 : decode cX7_fitsSights 24 = .ok (.iconst 0, 1) := by decide +kernel
theorem dX7_fitsSights_25 : decode cX7_fitsSights 25 = .ok (.istore_n 1, 1) := by decide +kernel
theorem dX7_fitsSights_26 : decode cX7_fitsSights 26 = .ok (.iconst 0, 1) := by decide +kernel
theorem dX7_fitsSights_27 : decode cX7_fitsSights 27 = .ok (.istore_n 2, 1) := by decide +kernel
theorem dX7_fitsSights_28 : decode cX7_fitsSights 28 = .ok (.iload_n 2, 1) := by decide +kernel
theorem dX7_fitsSights_29 : decode cX7_fitsSights 29 = .ok (.aload_n 0, 1) := by decide +kernel
theorem dX7_fitsSights_30 : decode cX7_fitsSights 30 = .ok (.getfield 103, 3) := by decide +kernel
theorem dX7_fitsSights_33 : decode cX7_fitsSights 33 = .ok (.if_icmp .ge 57, 3) := by decide +kernel
theorem dX7_fitsSights_36 : decode cX7_fitsSights 36 = .ok (.aload_n 0, 1) := by decide +kernel
theorem dX7_fitsSights_37 : decode cX7_fitsSights 37 = .ok (.getfield 58, 3) := by decide +kernel
theorem dX7_fitsSights_40 : decode cX7_fitsSights 40 = .ok (.aload_n 0, 1) := by decide +kernel
theorem dX7_fitsSights_41 : decode cX7_fitsSights 41 = .ok (.getfield 37, 3) := by decide +kernel
theorem dX7_fitsSights_44 : decode cX7_fitsSights 44 = .ok (.iload_n 2, 1) := by decide +kernel
theorem dX7_fitsSights_45 : decode cX7_fitsSights 45 = .ok (.iaload, 1) := by decide +kernel
theorem dX7_fitsSights_46 : decode cX7_fitsSights 46 = .ok (.iaload, 1) := by decide +kernel
theorem dX7_fitsSights_47 : decode cX7_fitsSights 47 = .ok (.istore_n 3, 1) := by decide +kernel
theorem dX7_fitsSights_48 : decode cX7_fitsSights 48 = .ok (.iload_n 1, 1) := by decide +kernel
theorem dX7_fitsSights_49 : decode cX7_fitsSights 49 = .ok (.ifCond .eq 33, 3) := by decide +kernel
theorem dX7_fitsSights_52 : decode cX7_fitsSights 52 = .ok (.aload_n 0, 1) := by decide +kernel
theorem dX7_fitsSights_53 : decode cX7_fitsSights 53 = .ok (.getfield 40, 3) := by decide +kernel
theorem dX7_fitsSights_56 : decode cX7_fitsSights 56 = .ok (.iload_n 2, 1) := by decide +kernel
theorem dX7_fitsSights_57 : decode cX7_fitsSights 57 = .ok (.iaload, 1) := by decide +kernel
theorem dX7_fitsSights_58 : decode cX7_fitsSights 58 = .ok (.ifCond .ne 10, 3) := by decide +kernel
theorem dX7_fitsSights_61 : decode cX7_fitsSights 61 = .ok (.iload_n 3, 1) := by decide +kernel
theorem dX7_fitsSights_62 : decode cX7_fitsSights 62 = .ok (.ifCond .ge 20, 3) := by decide +kernel
theorem dX7_fitsSights_65 : decode cX7_fitsSights 65 = .ok (.goto 13, 3) := by decide +kernel
theorem dX7_fitsSights_68 : decode cX7_fitsSights 68 = .ok (.iload_n 3, 1) := by decide +kernel
theorem dX7_fitsSights_69 : decode cX7_fitsSights 69 = .ok (.aload_n 0, 1) := by decide +kernel
theorem dX7_fitsSights_70 : decode cX7_fitsSights 70 = .ok (.getfield 40, 3) := by decide +kernel
theorem dX7_fitsSights_73 : decode cX7_fitsSights 73 = .ok (.iload_n 2, 1) := by decide +kernel
theorem dX7_fitsSights_74 : decode cX7_fitsSights 74 = .ok (.iaload, 1) := by decide +kernel
theorem dX7_fitsSights_75 : decode cX7_fitsSights 75 = .ok (.if_icmp .ne 7, 3) := by decide +kernel
theorem dX7_fitsSights_78 : decode cX7_fitsSights 78 = .ok (.iconst 1, 1) := by decide +kernel
theorem dX7_fitsSights_79 : decode cX7_fitsSights 79 = .ok (.goto 4, 3) := by decide +kernel
theorem dX7_fitsSights_82 : decode cX7_fitsSights 82 = .ok (.iconst 0, 1) := by decide +kernel
theorem dX7_fitsSights_83 : decode cX7_fitsSights 83 = .ok (.istore_n 1, 1) := by decide +kernel
theorem dX7_fitsSights_84 : decode cX7_fitsSights 84 = .ok (.iinc 2 1, 3) := by decide +kernel
theorem dX7_fitsSights_87 : decode cX7_fitsSights 87 = .ok (.goto (-59), 3) := by decide +kernel
theorem dX7_fitsSights_90 : decode cX7_fitsSights 90 = .ok (.aload_n 0, 1) := by decide +kernel
theorem dX7_fitsSights_91 : decode cX7_fitsSights 91 = .ok (.invokevirtual 195, 3) := by decide +kernel
theorem dX7_fitsSights_94 : decode cX7_fitsSights 94 = .ok (.iload_n 1, 1) := by decide +kernel
theorem dX7_fitsSights_95 : decode cX7_fitsSights 95 = .ok (.ireturn, 1) := by decide +kernel
theorem dX7_change_0 : decode cX7_change 0 = .ok (.aload_n 0, 1) := by decide +kernel
theorem dX7_change_1 : decode cX7_change 1 = .ok (.getfield 55, 3) := by decide +kernel
theorem dX7_change_4 : decode cX7_change 4 = .ok (.iload_n 1, 1) := by decide +kernel
theorem dX7_change_5 : decode cX7_change 5 = .ok (.iaload, 1) := by decide +kernel
theorem dX7_change_6 : decode cX7_change 6 = .ok (.istore_n 3, 1) := by decide +kernel
theorem dX7_change_7 : decode cX7_change 7 = .ok (.aload_n 0, 1) := by decide +kernel
theorem dX7_change_8 : decode cX7_change 8 = .ok (.getfield 55, 3) := by decide +kernel
theorem dX7_change_11 : decode cX7_change 11 = .ok (.iload_n 1, 1) := by decide +kernel
theorem dX7_change_12 : decode cX7_change 12 = .ok (.aload_n 0, 1) := by decide +kernel
theorem dX7_change_13 : decode cX7_change 13 = .ok (.getfield 55, 3) := by decide +kernel
theorem dX7_change_16 : decode cX7_change 16 = .ok (.iload_n 2, 1) := by decide +kernel
theorem dX7_change_17 : decode cX7_change 17 = .ok (.iaload, 1) := by decide +kernel
theorem dX7_change_18 : decode cX7_change 18 = .ok (.iastore, 1) := by decide +kernel
theorem dX7_change_19 : decode cX7_change 19 = .ok (.aload_n 0, 1) := by decide +kernel
theorem dX7_change_20 : decode cX7_change 20 = .ok (.getfield 55, 3) := by decide +kernel
theorem dX7_change_23 : decode cX7_change 23 = .ok (.iload_n 2, 1) := by decide +kernel
theorem dX7_change_24 : decode cX7_change 24 = .ok (.iload_n 3, 1) := by decide +kernel
theorem dX7_change_25 : decode cX7_change 25 = .ok (.iastore, 1) := by decide +kernel
theorem dX7_change_26 : decode cX7_change 26 = .ok (.return_, 1) := by decide +kernel
theorem dX7_nextRow_0 : decode cX7_nextRow 0 = .ok (.aload_n 0, 1) := by decide +kernel
theorem dX7_nextRow_1 : decode cX7_nextRow 1 = .ok (.getfield 93, 3) := by decide +kernel
theorem dX7_nextRow_4 : decode cX7_nextRow 4 = .ok (.iconst 2, 1) := by decide +kernel
theorem dX7_nextRow_5 : decode cX7_nextRow 5 = .ok (.isub, 1) := by decide +kernel
theorem dX7_nextRow_6 : decode cX7_nextRow 6 = .ok (.istore_n 1, 1) := by decide +kernel
theorem dX7_nextRow_7 : decode cX7_nextRow 7 = .ok (.iload_n 1, 1) := by decide +kernel
theorem dX7_nextRow_8 : decode cX7_nextRow 8 = .ok (.ifCond .lt 26, 3) := by decide +kernel
theorem dX7_nextRow_11 : decode cX7_nextRow 11 = .ok (.aload_n 0, 1) := by decide +kernel
theorem dX7_nextRow_12 : decode cX7_nextRow 12 = .ok (.getfield 55, 3) := by decide +kernel
theorem dX7_nextRow_15 : decode cX7_nextRow 15 = .ok (.iload_n 1, 1) := by decide +kernel
theorem dX7_nextRow_16 : decode cX7_nextRow 16 = .ok (.iaload, 1) := by decide +kernel
theorem dX7_nextRow_17 : decode cX7_nextRow 17 = .ok (.aload_n 0, 1) := by decide +kernel
theorem dX7_nextRow_18 : decode cX7_nextRow 18 = .ok (.getfield 55, 3) := by decide +kernel
theorem dX7_nextRow_21 : decode cX7_nextRow 21 = .ok (.iload_n 1, 1) := by decide +kernel
theorem dX7_nextRow_22 : decode cX7_nextRow 22 = .ok (.iconst 1, 1) := by decide +kernel
theorem dX7_nextRow_23 : decode cX7_nextRow 23 = .ok (.iadd, 1) := by decide +kernel
theorem dX7_nextRow_24 : decode cX7_nextRow 24 = .ok (.iaload, 1) := by decide +kernel
theorem dX7_nextRow_25 : decode cX7_nextRow 25 = .ok (.if_icmp .le 9, 3) := by decide +kernel
theorem dX7_nextRow_28 : decode cX7_nextRow 28 = .ok (.iinc 1 (-1), 3) := by decide +kernel
theorem dX7_nextRow_31 : decode cX7_nextRow 31 = .ok (.goto (-24), 3) := by decide +kernel
theorem dX7_nextRow_34 : decode cX7_nextRow 34 = .ok (.iload_n 1, 1) := by decide +kernel
theorem dX7_nextRow_35 : decode cX7_nextRow 35 = .ok (.ifCond .ge 5, 3) := by decide +kernel
theorem dX7_nextRow_38 : decode cX7_nextRow 38 = .ok (.iconst 0, 1) := by decide +kernel
theorem dX7_nextRow_39 : decode cX7_nextRow 39 = .ok (.ireturn, 1) := by decide +kernel
theorem dX7_nextRow_40 : decode cX7_nextRow 40 = .ok (.aload_n 0, 1) := by decide +kernel
theorem dX7_nextRow_41 : decode cX7_nextRow 41 = .ok (.getfield 93, 3) := by decide +kernel
theorem dX7_nextRow_44 : decode cX7_nextRow 44 = .ok (.iconst 1, 1) := by decide +kernel
theorem dX7_nextRow_45 : decode cX7_nextRow 45 = .ok (.isub, 1) := by decide +kernel
theorem dX7_nextRow_46 : decode cX7_nextRow 46 = .ok (.istore_n 2, 1) := by decide +kernel
theorem dX7_nextRow_47 : decode cX7_nextRow 47 = .ok (.aload_n 0, 1) := by decide +kernel
theorem dX7_nextRow_48 : decode cX7_nextRow 48 = .ok (.getfield 55, 3) := by decide +kernel
theorem dX7_nextRow_51 : decode cX7_nextRow 51 = .ok (.iload_n 2, 1) := by decide +kernel
theorem dX7_nextRow_52 : decode cX7_nextRow 52 = .ok (.iaload, 1) := by decide +kernel
theorem dX7_nextRow_53 : decode cX7_nextRow 53 = .ok (.aload_n 0, 1) := by decide +kernel
theorem dX7_nextRow_54 : decode cX7_nextRow 54 = .ok (.getfield 55, 3) := by decide +kernel
theorem dX7_nextRow_57 : decode cX7_nextRow 57 = .ok (.iload_n 1, 1) := by decide +kernel
theorem dX7_nextRow_58 : decode cX7_nextRow 58 = .ok (.iaload, 1) := by decide +kernel
theorem dX7_nextRow_59 : decode cX7_nextRow 59 = .ok (.if_icmp .ge 9, 3) := by decide +kernel
theorem dX7_nextRow_62 : decode cX7_nextRow 62 = .ok (.iinc 2 (-1), 3) := by decide +kernel
theorem dX7_nextRow_65 : decode cX7_nextRow 65 = .ok (.goto (-18), 3) := by decide +kernel
theorem dX7_nextRow_68 : decode cX7_nextRow 68 = .ok (.aload_n 0, 1) := by decide +kernel
theorem dX7_nextRow_69 : decode cX7_nextRow 69 = .ok (.iload_n 1, 1) := by decide +kernel
theorem dX7_nextRow_70 : decode cX7_nextRow 70 = .ok (.iload_n 2, 1) := by decide +kernel
theorem dX7_nextRow_71 : decode cX7_nextRow 71 = .ok (.invokevirtual 205, 3) := by decide +kernel
theorem dX7_nextRow_74 : decode cX7_nextRow 74 = .ok (.iload_n 1, 1) := by decide +kernel
theorem dX7_nextRow_75 : decode cX7_nextRow 75 = .ok (.iconst 1, 1) := by decide +kernel
theorem dX7_nextRow_76 : decode cX7_nextRow 76 = .ok (.iadd, 1) := by decide +kernel
theorem dX7_nextRow_77 : decode cX7_nextRow 77 = .ok (.istore_n 3, 1) := by decide +kernel
theorem dX7_nextRow_78 : decode cX7_nextRow 78 = .ok (.aload_n 0, 1) := by decide +kernel
theorem dX7_nextRow_79 : decode cX7_nextRow 79 = .ok (.getfield 93, 3) := by decide +kernel
theorem dX7_nextRow_82 : decode cX7_nextRow 82 = .ok (.iconst 1, 1) := by decide +kernel
theorem dX7_nextRow_83 : decode cX7_nextRow 83 = .ok (.isub, 1) := by decide +kernel
theorem dX7_nextRow_84 : decode cX7_nextRow 84 = .ok (.istore 4, 2) := by decide +kernel
theorem dX7_nextRow_86 : decode cX7_nextRow 86 = .ok (.iload_n 3, 1) := by decide +kernel
theorem dX7_nextRow_87 : decode cX7_nextRow 87 = .ok (.iload 4, 2) := by decide +kernel
theorem dX7_nextRow_89 : decode cX7_nextRow 89 = .ok (.if_icmp .ge 19, 3) := by decide +kernel
theorem dX7_nextRow_92 : decode cX7_nextRow 92 = .ok (.aload_n 0, 1) := by decide +kernel
theorem dX7_nextRow_93 : decode cX7_nextRow 93 = .ok (.iload_n 3, 1) := by decide +kernel
theorem dX7_nextRow_94 : decode cX7_nextRow 94 = .ok (.iload 4, 2) := by decide +kernel
theorem dX7_nextRow_96 : decode cX7_nextRow 96 = .ok (.invokevirtual 205, 3) := by decide +kernel
theorem dX7_nextRow_99 : decode cX7_nextRow 99 = .ok (.iinc 3 1, 3) := by decide +kernel
theorem dX7_nextRow_102 : decode cX7_nextRow 102 = .ok (.iinc 4 (-1), 3) := by decide +kernel
theorem dX7_nextRow_105 : decode cX7_nextRow 105 = .ok (.goto (-19), 3) := by decide +kernel
theorem dX7_nextRow_108 : decode cX7_nextRow 108 = .ok (.iconst 1, 1) := by decide +kernel
theorem dX7_nextRow_109 : decode cX7_nextRow 109 = .ok (.ireturn, 1) := by decide +kernel
theorem dX7_countFit_0 : decode cX7_countFit 0 = .ok (.iconst 0, 1) := by decide +kernel
theorem dX7_countFit_1 : decode cX7_countFit 1 = .ok (.istore_n 1, 1) := by decide +kernel
theorem dX7_countFit_2 : decode cX7_countFit 2 = .ok (.iload_n 1, 1) := by decide +kernel
theorem dX7_countFit_3 : decode cX7_countFit 3 = .ok (.aload_n 0, 1) := by decide +kernel
theorem dX7_countFit_4 : decode cX7_countFit 4 = .ok (.getfield 93, 3) := by decide +kernel
theorem dX7_countFit_7 : decode cX7_countFit 7 = .ok (.if_icmp .ge 100, 3) := by decide +kernel
theorem dX7_countFit_10 : decode cX7_countFit 10 = .ok (.aload_n 0, 1) := by decide +kernel
theorem dX7_countFit_11 : decode cX7_countFit 11 = .ok (.getfield 70, 3) := by decide +kernel
theorem dX7_countFit_14 : decode cX7_countFit 14 = .ok (.iload_n 1, 1) := by decide +kernel
theorem dX7_countFit_15 : decode cX7_countFit 15 = .ok (.aload_n 0, 1) := by decide +kernel
theorem dX7_countFit_16 : decode cX7_countFit 16 = .ok (.getfield 209, 3) := by decide +kernel
theorem dX7_countFit_19 : decode cX7_countFit 19 = .ok (.ifCond .ne 12, 3) := by decide +kernel
theorem dX7_countFit_22 : decode cX7_countFit 22 = .ok (.aload_n 0, 1) := by decide +kernel
theorem dX7_countFit_23 : decode cX7_countFit 23 = .ok (.getfield 55, 3) := by decide +kernel
theorem dX7_countFit_26 : decode cX7_countFit 26 = .ok (.iload_n 1, 1) := by decide +kernel
theorem dX7_countFit_27 : decode cX7_countFit 27 = .ok (.iaload, 1) := by decide +kernel
theorem dX7_countFit_28 : decode cX7_countFit 28 = .ok (.goto 9, 3) := by decide +kernel
theorem dX7_countFit_31 : decode cX7_countFit 31 = .ok (.aload_n 0, 1) := by decide +kernel
theorem dX7_countFit_32 : decode cX7_countFit 32 = .ok (.getfield 70, 3) := by decide +kernel
theorem dX7_countFit_35 : decode cX7_countFit 35 = .ok (.iload_n 1, 1) := by decide +kernel
theorem dX7_countFit_36 : decode cX7_countFit 36 = .ok (.iaload, 1) := by decide +kernel
theorem dX7_countFit_37 : decode cX7_countFit 37 = .ok (.iastore, 1) := by decide +kernel
theorem dX7_countFit_38 : decode cX7_countFit 38 = .ok (.aload_n 0, 1) := by decide +kernel
theorem dX7_countFit_39 : decode cX7_countFit 39 = .ok (.getfield 73, 3) := by decide +kernel
theorem dX7_countFit_42 : decode cX7_countFit 42 = .ok (.bipush 7, 2) := by decide +kernel
theorem dX7_countFit_44 : decode cX7_countFit 44 = .ok (.aload_n 0, 1) := by decide +kernel
theorem dX7_countFit_45 : decode cX7_countFit 45 = .ok (.getfield 55, 3) := by decide +kernel
theorem dX7_countFit_48 : decode cX7_countFit 48 = .ok (.iload_n 1, 1) := by decide +kernel
theorem dX7_countFit_49 : decode cX7_countFit 49 = .ok (.iaload, 1) := by decide +kernel
theorem dX7_countFit_50 : decode cX7_countFit 50 = .ok (.imul, 1) := by decide +kernel
theorem dX7_countFit_51 : decode cX7_countFit 51 = .ok (.iload_n 1, 1) := by decide +kernel
theorem dX7_countFit_52 : decode cX7_countFit 52 = .ok (.iadd, 1) := by decide +kernel
theorem dX7_countFit_53 : decode cX7_countFit 53 = .ok (.dup2, 1) := by decide +kernel
theorem dX7_countFit_54 : decode cX7_countFit 54 = .ok (.iaload, 1) := by decide +kernel
theorem dX7_countFit_55 : decode cX7_countFit 55 = .ok (.iconst 1, 1) := by decide +kernel
theorem dX7_countFit_56 : decode cX7_countFit 56 = .ok (.iadd, 1) := by decide +kernel
theorem dX7_countFit_57 : decode cX7_countFit 57 = .ok (.iastore, 1) := by decide +kernel
theorem dX7_countFit_58 : decode cX7_countFit 58 = .ok (.iload_n 1, 1) := by decide +kernel
theorem dX7_countFit_59 : decode cX7_countFit 59 = .ok (.iconst 1, 1) := by decide +kernel
theorem dX7_countFit_60 : decode cX7_countFit 60 = .ok (.iadd, 1) := by decide +kernel
theorem dX7_countFit_61 : decode cX7_countFit 61 = .ok (.istore_n 2, 1) := by decide +kernel
theorem dX7_countFit_62 : decode cX7_countFit 62 = .ok (.iload_n 2, 1) := by decide +kernel
theorem dX7_countFit_63 : decode cX7_countFit 63 = .ok (.aload_n 0, 1) := by decide +kernel
theorem dX7_countFit_64 : decode cX7_countFit 64 = .ok (.getfield 93, 3) := by decide +kernel
theorem dX7_countFit_67 : decode cX7_countFit 67 = .ok (.if_icmp .ge 34, 3) := by decide +kernel
theorem dX7_countFit_70 : decode cX7_countFit 70 = .ok (.aload_n 0, 1) := by decide +kernel
theorem dX7_countFit_71 : decode cX7_countFit 71 = .ok (.getfield 76, 3) := by decide +kernel
theorem dX7_countFit_74 : decode cX7_countFit 74 = .ok (.bipush 7, 2) := by decide +kernel
theorem dX7_countFit_76 : decode cX7_countFit 76 = .ok (.aload_n 0, 1) := by decide +kernel
theorem dX7_countFit_77 : decode cX7_countFit 77 = .ok (.getfield 55, 3) := by decide +kernel
theorem dX7_countFit_80 : decode cX7_countFit 80 = .ok (.iload_n 1, 1) := by decide +kernel
theorem dX7_countFit_81 : decode cX7_countFit 81 = .ok (.iaload, 1) := by decide +kernel
theorem dX7_countFit_82 : decode cX7_countFit 82 = .ok (.imul, 1) := by decide +kernel
theorem dX7_countFit_83 : decode cX7_countFit 83 = .ok (.aload_n 0, 1) := by decide +kernel
theorem dX7_countFit_84 : decode cX7_countFit 84 = .ok (.getfield 55, 3) := by decide +kernel
theorem dX7_countFit_87 : decode cX7_countFit 87 = .ok (.iload_n 2, 1) := by decide +kernel
theorem dX7_countFit_88 : decode cX7_countFit 88 = .ok (.iaload, 1) := by decide +kernel
theorem dX7_countFit_89 : decode cX7_countFit 89 = .ok (.iadd, 1) := by decide +kernel
theorem dX7_countFit_90 : decode cX7_countFit 90 = .ok (.dup2, 1) := by decide +kernel
theorem dX7_countFit_91 : decode cX7_countFit 91 = .ok (.iaload, 1) := by decide +kernel
theorem dX7_countFit_92 : decode cX7_countFit 92 = .ok (.iconst 1, 1) := by decide +kernel
theorem dX7_countFit_93 : decode cX7_countFit 93 = .ok (.iadd, 1) := by decide +kernel
theorem dX7_countFit_94 : decode cX7_countFit 94 = .ok (.iastore, 1) := by decide +kernel
theorem dX7_countFit_95 : decode cX7_countFit 95 = .ok (.iinc 2 1, 3) := by decide +kernel
theorem dX7_countFit_98 : decode cX7_countFit 98 = .ok (.goto (-36), 3) := by decide +kernel
theorem dX7_countFit_101 : decode cX7_countFit 101 = .ok (.iinc 1 1, 3) := by decide +kernel
theorem dX7_countFit_104 : decode cX7_countFit 104 = .ok (.goto (-102), 3) := by decide +kernel
theorem dX7_countFit_107 : decode cX7_countFit 107 = .ok (.aload_n 0, 1) := by decide +kernel
theorem dX7_countFit_108 : decode cX7_countFit 108 = .ok (.dup, 1) := by decide +kernel
theorem dX7_countFit_109 : decode cX7_countFit 109 = .ok (.getfield 209, 3) := by decide +kernel
theorem dX7_countFit_112 : decode cX7_countFit 112 = .ok (.iconst 1, 1) := by decide +kernel
theorem dX7_countFit_113 : decode cX7_countFit 113 = .ok (.iadd, 1) := by decide +kernel
theorem dX7_countFit_114 : decode cX7_countFit 114 = .ok (.putfield 209, 3) := by decide +kernel
theorem dX7_countFit_117 : decode cX7_countFit 117 = .ok (.return_, 1) := by decide +kernel
theorem dX7_goFits_0 : decode cX7_goFits 0 = .ok (.aload_n 0, 1) := by decide +kernel
theorem dX7_goFits_1 : decode cX7_goFits 1 = .ok (.getfield 103, 3) := by decide +kernel
theorem dX7_goFits_4 : decode cX7_goFits 4 = .ok (.ifCond .le 20, 3) := by decide +kernel
theorem dX7_goFits_7 : decode cX7_goFits 7 = .ok (.aload_n 0, 1) := by decide +kernel
theorem dX7_goFits_8 : decode cX7_goFits 8 = .ok (.invokevirtual 145, 3) := by decide +kernel
theorem dX7_goFits_11 : decode cX7_goFits 11 = .ok (.ifCond .ge 10, 3) := by decide +kernel
theorem dX7_goFits_14 : decode cX7_goFits 14 = .ok (.aload_n 0, 1) := by decide +kernel
theorem dX7_goFits_15 : decode cX7_goFits 15 = .ok (.getfield 137, 3) := by decide +kernel
theorem dX7_goFits_18 : decode cX7_goFits 18 = .ok (.ifCond .eq 6, 3) := by decide +kernel
theorem dX7_goFits_21 : decode cX7_goFits 21 = .ok (.bipush (-5), 2) := by decide +kernel
theorem dX7_goFits_23 : decode cX7_goFits 23 = .ok (.ireturn, 1) := by decide +kernel
theorem dX7_goFits_24 : decode cX7_goFits 24 = .ok (.aload_n 0, 1) := by decide +kernel
theorem dX7_goFits_25 : decode cX7_goFits 25 = .ok (.getfield 103, 3) := by decide +kernel
theorem dX7_goFits_28 : decode cX7_goFits 28 = .ok (.ifCond .le 13, 3) := by decide +kernel
theorem dX7_goFits_31 : decode cX7_goFits 31 = .ok (.aload_n 0, 1) := by decide +kernel
theorem dX7_goFits_32 : decode cX7_goFits 32 = .ok (.invokevirtual 148, 3) := by decide +kernel
theorem dX7_goFits_35 : decode cX7_goFits 35 = .ok (.ifCond .ne 6, 3) := by decide +kernel
theorem dX7_goFits_38 : decode cX7_goFits 38 = .ok (.bipush (-3), 2) := by decide +kernel
theorem dX7_goFits_40 : decode cX7_goFits 40 = .ok (.ireturn, 1) := by decide +kernel
theorem dX7_goFits_41 : decode cX7_goFits 41 = .ok (.aload_n 0, 1) := by decide +kernel
theorem dX7_goFits_42 : decode cX7_goFits 42 = .ok (.invokevirtual 182, 3) := by decide +kernel
theorem dX7_goFits_45 : decode cX7_goFits 45 = .ok (.aload_n 0, 1) := by decide +kernel
theorem dX7_goFits_46 : decode cX7_goFits 46 = .ok (.iconst 0, 1) := by decide +kernel
theorem dX7_goFits_47 : decode cX7_goFits 47 = .ok (.putfield 209, 3) := by decide +kernel
theorem dX7_goFits_50 : decode cX7_goFits 50 = .ok (.iconst 0, 1) := by decide +kernel
theorem dX7_goFits_51 : decode cX7_goFits 51 = .ok (.istore_n 1, 1) := by decide +kernel
theorem dX7_goFits_52 : decode cX7_goFits 52 = .ok (.iload_n 1, 1) := by decide +kernel
theorem dX7_goFits_53 : decode cX7_goFits 53 = .ok (.bipush 49, 2) := by decide +kernel
theorem dX7_goFits_55 : decode cX7_goFits 55 = .ok (.if_icmp .ge 23, 3) := by decide +kernel
theorem dX7_goFits_58 : decode cX7_goFits 58 = .ok (.aload_n 0, 1) := by decide +kernel
theorem dX7_goFits_59 : decode cX7_goFits 59 = .ok (.getfield 73, 3) := by decide +kernel
theorem dX7_goFits_62 : decode cX7_goFits 62 = .ok (.iload_n 1, 1) := by decide +kernel
theorem dX7_goFits_63 : decode cX7_goFits 63 = .ok (.iconst 0, 1) := by decide +kernel
theorem dX7_goFits_64 : decode cX7_goFits 64 = .ok (.iastore, 1) := by decide +kernel
theorem dX7_goFits_65 : decode cX7_goFits 65 = .ok (.aload_n 0, 1) := by decide +kernel
theorem dX7_goFits_66 : decode cX7_goFits 66 = .ok (.getfield 76, 3) := by decide +kernel
theorem dX7_goFits_69 : decode cX7_goFits 69 = .ok (.iload_n 1, 1) := by decide +kernel
theorem dX7_goFits_70 : decode cX7_goFits 70 = .ok (.iconst 0, 1) := by decide +kernel
theorem dX7_goFits_71 : decode cX7_goFits 71 = .ok (.iastore, 1) := by decide +kernel
theorem dX7_goFits_72 : decode cX7_goFits 72 = .ok (.iinc 1 1, 3) := by decide +kernel
theorem dX7_goFits_75 : decode cX7_goFits 75 = .ok (.goto (-23), 3) := by decide +kernel
theorem dX7_goFits_78 : decode cX7_goFits 78 = .ok (.iconst 0, 1) := by decide +kernel
theorem dX7_goFits_79 : decode cX7_goFits 79 = .ok (.istore_n 1, 1) := by decide +kernel
theorem dX7_goFits_80 : decode cX7_goFits 80 = .ok (.iload_n 1, 1) := by decide +kernel
theorem dX7_goFits_81 : decode cX7_goFits 81 = .ok (.aload_n 0, 1) := by decide +kernel
theorem dX7_goFits_82 : decode cX7_goFits 82 = .ok (.getfield 93, 3) := by decide +kernel
theorem dX7_goFits_85 : decode cX7_goFits 85 = .ok (.if_icmp .ge 16, 3) := by decide +kernel
theorem dX7_goFits_88 : decode cX7_goFits 88 = .ok (.aload_n 0, 1) := by decide +kernel
theorem dX7_goFits_89 : decode cX7_goFits 89 = .ok (.getfield 55, 3) := by decide +kernel
theorem dX7_goFits_92 : decode cX7_goFits 92 = .ok (.iload_n 1, 1) := by decide +kernel
theorem dX7_goFits_93 : decode cX7_goFits 93 = .ok (.iload_n 1, 1) := by decide +kernel
theorem dX7_goFits_94 : decode cX7_goFits 94 = .ok (.iastore, 1) := by decide +kernel
theorem dX7_goFits_95 : decode cX7_goFits 95 = .ok (.iinc 1 1, 3) := by decide +kernel
theorem dX7_goFits_98 : decode cX7_goFits 98 = .ok (.goto (-18), 3) := by decide +kernel
theorem dX7_goFits_101 : decode cX7_goFits 101 = .ok (.iconst 1, 1) := by decide +kernel
theorem dX7_goFits_102 : decode cX7_goFits 102 = .ok (.istore_n 1, 1) := by decide +kernel
theorem dX7_goFits_103 : decode cX7_goFits 103 = .ok (.iload_n 1, 1) := by decide +kernel
theorem dX7_goFits_104 : decode cX7_goFits 104 = .ok (.ifCond .eq 29, 3) := by decide +kernel
theorem dX7_goFits_107 : decode cX7_goFits 107 = .ok (.aload_n 0, 1) := by decide +kernel
theorem dX7_goFits_108 : decode cX7_goFits 108 = .ok (.invokevirtual 212, 3) := by decide +kernel
theorem dX7_goFits_111 : decode cX7_goFits 111 = .ok (.ifCond .eq 14, 3) := by decide +kernel
theorem dX7_goFits_114 : decode cX7_goFits 114 = .ok (.aload_n 0, 1) := by decide +kernel
theorem dX7_goFits_115 : decode cX7_goFits 115 = .ok (.invokevirtual 215, 3) := by decide +kernel
theorem dX7_goFits_118 : decode cX7_goFits 118 = .ok (.ifCond .eq 7, 3) := by decide +kernel
theorem dX7_goFits_121 : decode cX7_goFits 121 = .ok (.aload_n 0, 1) := by decide +kernel
theorem dX7_goFits_122 : decode cX7_goFits 122 = .ok (.invokevirtual 218, 3) := by decide +kernel
theorem dX7_goFits_125 : decode cX7_goFits 125 = .ok (.aload_n 0, 1) := by decide +kernel
theorem dX7_goFits_126 : decode cX7_goFits 126 = .ok (.invokevirtual 221, 3) := by decide +kernel
theorem dX7_goFits_129 : decode cX7_goFits 129 = .ok (.istore_n 1, 1) := by decide +kernel
theorem dX7_goFits_130 : decode cX7_goFits 130 = .ok (.goto (-27), 3) := by decide +kernel
theorem dX7_goFits_133 : decode cX7_goFits 133 = .ok (.bipush (-6), 2) := by decide +kernel
theorem dX7_goFits_135 : decode cX7_goFits 135 = .ok (.ireturn, 1) := by decide +kernel
theorem dX7_fits_0 : decode cX7_fits 0 = .ok (.aload_n 0, 1) := by decide +kernel
theorem dX7_fits_1 : decode cX7_fits 1 = .ok (.invokevirtual 224, 3) := by decide +kernel
theorem dX7_fits_4 : decode cX7_fits 4 = .ok (.istore_n 2, 1) := by decide +kernel
theorem dX7_fits_5 : decode cX7_fits 5 = .ok (.iload_n 2, 1) := by decide +kernel
theorem dX7_fits_6 : decode cX7_fits 6 = .ok (.bipush (-6), 2) := by decide +kernel
theorem dX7_fits_8 : decode cX7_fits 8 = .ok (.if_icmp .eq 5, 3) := by decide +kernel
theorem dX7_fits_11 : decode cX7_fits 11 = .ok (.iload_n 2, 1) := by decide +kernel
theorem dX7_fits_12 : decode cX7_fits 12 = .ok (.ireturn, 1) := by decide +kernel
theorem dX7_fits_13 : decode cX7_fits 13 = .ok (.iload_n 1, 1) := by decide +kernel
theorem dX7_fits_14 : decode cX7_fits 14 = .ok (.iconst (-1), 1) := by decide +kernel
theorem dX7_fits_15 : decode cX7_fits 15 = .ok (.if_icmp .ne 10, 3) := by decide +kernel
theorem dX7_fits_18 : decode cX7_fits 18 = .ok (.aload_n 0, 1) := by decide +kernel
theorem dX7_fits_19 : decode cX7_fits 19 = .ok (.getfield 209, 3) := by decide +kernel
theorem dX7_fits_22 : decode cX7_fits 22 = .ok (.goto 29, 3) := by decide +kernel
theorem dX7_fits_25 : decode cX7_fits 25 = .ok (.aload_n 0, 1) := by decide +kernel
theorem dX7_fits_26 : decode cX7_fits 26 = .ok (.getfield 209, 3) := by decide +kernel
theorem dX7_fits_29 : decode cX7_fits 29 = .ok (.ifCond .le 20, 3) := by decide +kernel
theorem dX7_fits_32 : decode cX7_fits 32 = .ok (.aload_n 0, 1) := by decide +kernel
theorem dX7_fits_33 : decode cX7_fits 33 = .ok (.iload_n 1, 1) := by decide +kernel
theorem dX7_fits_34 : decode cX7_fits 34 = .ok (.invokevirtual 114, 3) := by decide +kernel
theorem dX7_fits_37 : decode cX7_fits 37 = .ok (.ifCond .eq 12, 3) := by decide +kernel
theorem dX7_fits_40 : decode cX7_fits 40 = .ok (.aload_n 0, 1) := by decide +kernel
theorem dX7_fits_41 : decode cX7_fits 41 = .ok (.getfield 70, 3) := by decide +kernel
theorem dX7_fits_44 : decode cX7_fits 44 = .ok (.iload_n 1, 1) := by decide +kernel
theorem dX7_fits_45 : decode cX7_fits 45 = .ok (.iaload, 1) := by decide +kernel
theorem dX7_fits_46 : decode cX7_fits 46 = .ok (.goto 5, 3) := by decide +kernel
theorem dX7_fits_49 : decode cX7_fits 49 = .ok (.bipush (-6), 2) := by decide +kernel
theorem dX7_fits_51 : decode cX7_fits 51 = .ok (.ireturn, 1) := by decide +kernel
theorem dX7_places_0 : decode cX7_places 0 = .ok (.aload_n 0, 1) := by decide +kernel
theorem dX7_places_1 : decode cX7_places 1 = .ok (.iload_n 1, 1) := by decide +kernel
theorem dX7_places_2 : decode cX7_places 2 = .ok (.invokevirtual 114, 3) := by decide +kernel
theorem dX7_places_5 : decode cX7_places 5 = .ok (.ifCond .ne 5, 3) := by decide +kernel
theorem dX7_places_8 : decode cX7_places 8 = .ok (.iconst (-1), 1) := by decide +kernel
theorem dX7_places_9 : decode cX7_places 9 = .ok (.ireturn, 1) := by decide +kernel
theorem dX7_places_10 : decode cX7_places 10 = .ok (.aload_n 0, 1) := by decide +kernel
theorem dX7_places_11 : decode cX7_places 11 = .ok (.invokevirtual 224, 3) := by decide +kernel
theorem dX7_places_14 : decode cX7_places 14 = .ok (.istore_n 2, 1) := by decide +kernel
theorem dX7_places_15 : decode cX7_places 15 = .ok (.iload_n 2, 1) := by decide +kernel
theorem dX7_places_16 : decode cX7_places 16 = .ok (.bipush (-6), 2) := by decide +kernel
theorem dX7_places_18 : decode cX7_places 18 = .ok (.if_icmp .eq 5, 3) := by decide +kernel
theorem dX7_places_21 : decode cX7_places 21 = .ok (.iload_n 2, 1) := by decide +kernel
theorem dX7_places_22 : decode cX7_places 22 = .ok (.ireturn, 1) := by decide +kernel
theorem dX7_places_23 : decode cX7_places 23 = .ok (.iconst 0, 1) := by decide +kernel
theorem dX7_places_24 : decode cX7_places 24 = .ok (.istore_n 3, 1) := by decide +kernel
theorem dX7_places_25 : decode cX7_places 25 = .ok (.iconst 0, 1) := by decide +kernel
theorem dX7_places_26 : decode cX7_places 26 = .ok (.istore 4, 2) := by decide +kernel
theorem dX7_places_28 : decode cX7_places 28 = .ok (.iload 4, 2) := by decide +kernel
theorem dX7_places_30 : decode cX7_places 30 = .ok (.aload_n 0, 1) := by decide +kernel
theorem dX7_places_31 : decode cX7_places 31 = .ok (.getfield 93, 3) := by decide +kernel
theorem dX7_places_34 : decode cX7_places 34 = .ok (.if_icmp .ge 35, 3) := by decide +kernel
theorem dX7_places_37 : decode cX7_places 37 = .ok (.iload_n 3, 1) := by decide +kernel
theorem dX7_places_38 : decode cX7_places 38 = .ok (.aload_n 0, 1) := by decide +kernel
theorem dX7_places_39 : decode cX7_places 39 = .ok (.getfield 73, 3) := by decide +kernel
theorem dX7_places_42 : decode cX7_places 42 = .ok (.bipush 7, 2) := by decide +kernel
theorem dX7_places_44 : decode cX7_places 44 = .ok (.iload_n 1, 1) := by decide +kernel
theorem dX7_places_45 : decode cX7_places 45 = .ok (.imul, 1) := by decide +kernel
theorem dX7_places_46 : decode cX7_places 46 = .ok (.iload 4, 2) := by decide +kernel
theorem dX7_places_48 : decode cX7_places 48 = .ok (.iadd, 1) := by decide +kernel
theorem dX7_places_49 : decode cX7_places 49 = .ok (.iaload, 1) := by decide +kernel
theorem dX7_places_50 : decode cX7_places 50 = .ok (.ifCond .le 10, 3) := by decide +kernel
theorem dX7_places_53 : decode cX7_places 53 = .ok (.iconst 1, 1) := by decide +kernel
theorem dX7_places_54 : decode cX7_places 54 = .ok (.iload 4, 2) := by decide +kernel
theorem dX7_places_56 : decode cX7_places 56 = .ok (.ishl, 1) := by decide +kernel
theorem dX7_places_57 : decode cX7_places 57 = .ok (.goto 4, 3) := by decide +kernel
theorem dX7_places_60 : decode cX7_places 60 = .ok (.iconst 0, 1) := by decide +kernel
theorem dX7_places_61 : decode cX7_places 61 = .ok (.ior, 1) := by decide +kernel
theorem dX7_places_62 : decode cX7_places 62 = .ok (.istore_n 3, 1) := by decide +kernel
theorem dX7_places_63 : decode cX7_places 63 = .ok (.iinc 4 1, 3) := by decide +kernel
theorem dX7_places_66 : decode cX7_places 66 = .ok (.goto (-38), 3) := by decide +kernel
theorem dX7_places_69 : decode cX7_places 69 = .ok (.iload_n 3, 1) := by decide +kernel
theorem dX7_places_70 : decode cX7_places 70 = .ok (.ireturn, 1) := by decide +kernel
theorem dX7_firsts_0 : decode cX7_firsts 0 = .ok (.aload_n 0, 1) := by decide +kernel
theorem dX7_firsts_1 : decode cX7_firsts 1 = .ok (.invokevirtual 224, 3) := by decide +kernel
theorem dX7_firsts_4 : decode cX7_firsts 4 = .ok (.istore_n 1, 1) := by decide +kernel
theorem dX7_firsts_5 : decode cX7_firsts 5 = .ok (.iload_n 1, 1) := by decide +kernel
theorem dX7_firsts_6 : decode cX7_firsts 6 = .ok (.bipush (-6), 2) := by decide +kernel
theorem dX7_firsts_8 : decode cX7_firsts 8 = .ok (.if_icmp .eq 5, 3) := by decide +kernel
theorem dX7_firsts_11 : decode cX7_firsts 11 = .ok (.iload_n 1, 1) := by decide +kernel
theorem dX7_firsts_12 : decode cX7_firsts 12 = .ok (.ireturn, 1) := by decide +kernel
theorem dX7_firsts_13 : decode cX7_firsts 13 = .ok (.iconst 0, 1) := by decide +kernel
theorem dX7_firsts_14 : decode cX7_firsts 14 = .ok (.istore_n 2, 1) := by decide +kernel
theorem dX7_firsts_15 : decode cX7_firsts 15 = .ok (.iconst 0, 1) := by decide +kernel
theorem dX7_firsts_16 : decode cX7_firsts 16 = .ok (.istore_n 3, 1) := by decide +kernel
theorem dX7_firsts_17 : decode cX7_firsts 17 = .ok (.iload_n 3, 1) := by decide +kernel
theorem dX7_firsts_18 : decode cX7_firsts 18 = .ok (.aload_n 0, 1) := by decide +kernel
theorem dX7_firsts_19 : decode cX7_firsts 19 = .ok (.getfield 93, 3) := by decide +kernel
theorem dX7_firsts_22 : decode cX7_firsts 22 = .ok (.if_icmp .ge 31, 3) := by decide +kernel
theorem dX7_firsts_25 : decode cX7_firsts 25 = .ok (.iload_n 2, 1) := by decide +kernel
theorem dX7_firsts_26 : decode cX7_firsts 26 = .ok (.aload_n 0, 1) := by decide +kernel
theorem dX7_firsts_27 : decode cX7_firsts 27 = .ok (.getfield 73, 3) := by decide +kernel
theorem dX7_firsts_30 : decode cX7_firsts 30 = .ok (.bipush 7, 2) := by decide +kernel
theorem dX7_firsts_32 : decode cX7_firsts 32 = .ok (.iload_n 3, 1) := by decide +kernel
theorem dX7_firsts_33 : decode cX7_firsts 33 = .ok (.imul, 1) := by decide +kernel
theorem dX7_firsts_34 : decode cX7_firsts 34 = .ok (.iaload, 1) := by decide +kernel
theorem dX7_firsts_35 : decode cX7_firsts 35 = .ok (.ifCond .le 9, 3) := by decide +kernel
theorem dX7_firsts_38 : decode cX7_firsts 38 = .ok (.iconst 1, 1) := by decide +kernel
theorem dX7_firsts_39 : decode cX7_firsts 39 = .ok (.iload_n 3, 1) := by decide +kernel
theorem dX7_firsts_40 : decode cX7_firsts 40 = .ok (.ishl, 1) := by decide +kernel
theorem dX7_firsts_41 : decode cX7_firsts 41 = .ok (.goto 4, 3) := by decide +kernel
theorem dX7_firsts_44 : decode cX7_firsts 44 = .ok (.iconst 0, 1) := by decide +kernel
theorem dX7_firsts_45 : decode cX7_firsts 45 = .ok (.ior, 1) := by decide +kernel
theorem dX7_firsts_46 : decode cX7_firsts 46 = .ok (.istore_n 2, 1) := by decide +kernel
theorem dX7_firsts_47 : decode cX7_firsts 47 = .ok (.iinc 3 1, 3) := by decide +kernel
theorem dX7_firsts_50 : decode cX7_firsts 50 = .ok (.goto (-33), 3) := by decide +kernel
theorem dX7_firsts_53 : decode cX7_firsts 53 = .ok (.iload_n 2, 1) := by decide +kernel
theorem dX7_firsts_54 : decode cX7_firsts 54 = .ok (.ireturn, 1) := by decide +kernel
theorem dX7_certain_0 : decode cX7_certain 0 = .ok (.aload_n 0, 1) := by decide +kernel
theorem dX7_certain_1 : decode cX7_certain 1 = .ok (.iload_n 1, 1) := by decide +kernel
theorem dX7_certain_2 : decode cX7_certain 2 = .ok (.invokevirtual 114, 3) := by decide +kernel
theorem dX7_certain_5 : decode cX7_certain 5 = .ok (.ifCond .eq 16, 3) := by decide +kernel
theorem dX7_certain_8 : decode cX7_certain 8 = .ok (.aload_n 0, 1) := by decide +kernel
theorem dX7_certain_9 : decode cX7_certain 9 = .ok (.iload_n 2, 1) := by decide +kernel
theorem dX7_certain_10 : decode cX7_certain 10 = .ok (.invokevirtual 114, 3) := by decide +kernel
theorem dX7_certain_13 : decode cX7_certain 13 = .ok (.ifCond .eq 8, 3) := by decide +kernel
theorem dX7_certain_16 : decode cX7_certain 16 = .ok (.iload_n 1, 1) := by decide +kernel
theorem dX7_certain_17 : decode cX7_certain 17 = .ok (.iload_n 2, 1) := by decide +kernel
theorem dX7_certain_18 : decode cX7_certain 18 = .ok (.if_icmp .ne 5, 3) := by decide +kernel
theorem dX7_certain_21 : decode cX7_certain 21 = .ok (.iconst (-1), 1) := by decide +kernel
theorem dX7_certain_22 : decode cX7_certain 22 = .ok (.ireturn, 1) := by decide +kernel
theorem dX7_certain_23 : decode cX7_certain 23 = .ok (.aload_n 0, 1) := by decide +kernel
theorem dX7_certain_24 : decode cX7_certain 24 = .ok (.invokevirtual 224, 3) := by decide +kernel
theorem dX7_certain_27 : decode cX7_certain 27 = .ok (.istore_n 3, 1) := by decide +kernel
theorem dX7_certain_28 : decode cX7_certain 28 = .ok (.iload_n 3, 1) := by decide +kernel
theorem dX7_certain_29 : decode cX7_certain 29 = .ok (.bipush (-6), 2) := by decide +kernel
theorem dX7_certain_31 : decode cX7_certain 31 = .ok (.if_icmp .eq 5, 3) := by decide +kernel
theorem dX7_certain_34 : decode cX7_certain 34 = .ok (.iload_n 3, 1) := by decide +kernel
theorem dX7_certain_35 : decode cX7_certain 35 = .ok (.ireturn, 1) := by decide +kernel
theorem dX7_certain_36 : decode cX7_certain 36 = .ok (.aload_n 0, 1) := by decide +kernel
theorem dX7_certain_37 : decode cX7_certain 37 = .ok (.getfield 76, 3) := by decide +kernel
theorem dX7_certain_40 : decode cX7_certain 40 = .ok (.bipush 7, 2) := by decide +kernel
theorem dX7_certain_42 : decode cX7_certain 42 = .ok (.iload_n 1, 1) := by decide +kernel
theorem dX7_certain_43 : decode cX7_certain 43 = .ok (.imul, 1) := by decide +kernel
theorem dX7_certain_44 : decode cX7_certain 44 = .ok (.iload_n 2, 1) := by decide +kernel
theorem dX7_certain_45 : decode cX7_certain 45 = .ok (.iadd, 1) := by decide +kernel
theorem dX7_certain_46 : decode cX7_certain 46 = .ok (.iaload, 1) := by decide +kernel
theorem dX7_certain_47 : decode cX7_certain 47 = .ok (.istore 4, 2) := by decide +kernel
theorem dX7_certain_49 : decode cX7_certain 49 = .ok (.aload_n 0, 1) := by decide +kernel
theorem dX7_certain_50 : decode cX7_certain 50 = .ok (.getfield 209, 3) := by decide +kernel
theorem dX7_certain_53 : decode cX7_certain 53 = .ok (.ifCond .ne 8, 3) := by decide +kernel
theorem dX7_certain_56 : decode cX7_certain 56 = .ok (.bipush (-6), 2) := by decide +kernel
theorem dX7_certain_58 : decode cX7_certain 58 = .ok (.goto 26, 3) := by decide +kernel
theorem dX7_certain_61 : decode cX7_certain 61 = .ok (.iload 4, 2) := by decide +kernel
theorem dX7_certain_63 : decode cX7_certain 63 = .ok (.aload_n 0, 1) := by decide +kernel
theorem dX7_certain_64 : decode cX7_certain 64 = .ok (.getfield 209, 3) := by decide +kernel
theorem dX7_certain_67 : decode cX7_certain 67 = .ok (.if_icmp .ne 7, 3) := by decide +kernel
theorem dX7_certain_70 : decode cX7_certain 70 = .ok (.iconst 1, 1) := by decide +kernel
theorem dX7_certain_71 : decode cX7_certain 71 = .ok (.goto 13, 3) := by decide +kernel
theorem dX7_certain_74 : decode cX7_certain 74 = .ok (.iload 4, 2) := by decide +kernel
theorem dX7_certain_76 : decode cX7_certain 76 = .ok (.ifCond .ne 7, 3) := by decide +kernel
theorem dX7_certain_79 : decode cX7_certain 79 = .ok (.iconst 2, 1) := by decide +kernel
theorem dX7_certain_80 : decode cX7_certain 80 = .ok (.goto 4, 3) := by decide +kernel
theorem dX7_certain_83 : decode cX7_certain 83 = .ok (.iconst 0, 1) := by decide +kernel
theorem dX7_certain_84 : decode cX7_certain 84 = .ok (.ireturn, 1) := by decide +kernel
theorem dX7_mostAt_0 : decode cX7_mostAt 0 = .ok (.iconst 0, 1) := by decide +kernel
theorem dX7_mostAt_1 : decode cX7_mostAt 1 = .ok (.istore_n 2, 1) := by decide +kernel
theorem dX7_mostAt_2 : decode cX7_mostAt 2 = .ok (.iconst 0, 1) := by decide +kernel
theorem dX7_mostAt_3 : decode cX7_mostAt 3 = .ok (.istore_n 3, 1) := by decide +kernel
theorem dX7_mostAt_4 : decode cX7_mostAt 4 = .ok (.iload_n 3, 1) := by decide +kernel
theorem dX7_mostAt_5 : decode cX7_mostAt 5 = .ok (.aload_n 0, 1) := by decide +kernel
theorem dX7_mostAt_6 : decode cX7_mostAt 6 = .ok (.getfield 93, 3) := by decide +kernel
theorem dX7_mostAt_9 : decode cX7_mostAt 9 = .ok (.if_icmp .ge 40, 3) := by decide +kernel
theorem dX7_mostAt_12 : decode cX7_mostAt 12 = .ok (.aload_n 0, 1) := by decide +kernel
theorem dX7_mostAt_13 : decode cX7_mostAt 13 = .ok (.getfield 73, 3) := by decide +kernel
theorem dX7_mostAt_16 : decode cX7_mostAt 16 = .ok (.bipush 7, 2) := by decide +kernel
theorem dX7_mostAt_18 : decode cX7_mostAt 18 = .ok (.iload_n 1, 1) := by decide +kernel
theorem dX7_mostAt_19 : decode cX7_mostAt 19 = .ok (.imul, 1) := by decide +kernel
theorem dX7_mostAt_20 : decode cX7_mostAt 20 = .ok (.iload_n 3, 1) := by decide +kernel
theorem dX7_mostAt_21 : decode cX7_mostAt 21 = .ok (.iadd, 1) := by decide +kernel
theorem dX7_mostAt_22 : decode cX7_mostAt 22 = .ok (.iaload, 1) := by decide +kernel
theorem dX7_mostAt_23 : decode cX7_mostAt 23 = .ok (.iload_n 2, 1) := by decide +kernel
theorem dX7_mostAt_24 : decode cX7_mostAt 24 = .ok (.if_icmp .le 17, 3) := by decide +kernel
theorem dX7_mostAt_27 : decode cX7_mostAt 27 = .ok (.aload_n 0, 1) := by decide +kernel
theorem dX7_mostAt_28 : decode cX7_mostAt 28 = .ok (.getfield 73, 3) := by decide +kernel
theorem dX7_mostAt_31 : decode cX7_mostAt 31 = .ok (.bipush 7, 2) := by decide +kernel
theorem dX7_mostAt_33 : decode cX7_mostAt 33 = .ok (.iload_n 1, 1) := by decide +kernel
theorem dX7_mostAt_34 : decode cX7_mostAt 34 = .ok (.imul, 1) := by decide +kernel
theorem dX7_mostAt_35 : decode cX7_mostAt 35 = .ok (.iload_n 3, 1) := by decide +kernel
theorem dX7_mostAt_36 : decode cX7_mostAt 36 = .ok (.iadd, 1) := by decide +kernel
theorem dX7_mostAt_37 : decode cX7_mostAt 37 = .ok (.iaload, 1) := by decide +kernel
theorem dX7_mostAt_38 : decode cX7_mostAt 38 = .ok (.goto 4, 3) := by decide +kernel
theorem dX7_mostAt_41 : decode cX7_mostAt 41 = .ok (.iload_n 2, 1) := by decide +kernel
theorem dX7_mostAt_42 : decode cX7_mostAt 42 = .ok (.istore_n 2, 1) := by decide +kernel
theorem dX7_mostAt_43 : decode cX7_mostAt 43 = .ok (.iinc 3 1, 3) := by decide +kernel
theorem dX7_mostAt_46 : decode cX7_mostAt 46 = .ok (.goto (-42), 3) := by decide +kernel
theorem dX7_mostAt_49 : decode cX7_mostAt 49 = .ok (.iload_n 2, 1) := by decide +kernel
theorem dX7_mostAt_50 : decode cX7_mostAt 50 = .ok (.ireturn, 1) := by decide +kernel
theorem dX7_ask_0 : decode cX7_ask 0 = .ok (.iload_n 1, 1) := by decide +kernel
theorem dX7_ask_1 : decode cX7_ask 1 = .ok (.i2l, 1) := by decide +kernel
theorem dX7_ask_2 : decode cX7_ask 2 = .ok (.lconst 0, 1) := by decide +kernel
theorem dX7_ask_3 : decode cX7_ask 3 = .ok (.lconst 1, 1) := by decide +kernel
theorem dX7_ask_4 : decode cX7_ask 4 = .ok (.invokestatic 106, 3) := by decide +kernel
theorem dX7_ask_7 : decode cX7_ask 7 = .ok (.ifCond .ne 6, 3) := by decide +kernel
theorem dX7_ask_10 : decode cX7_ask 10 = .ok (.bipush (-2), 2) := by decide +kernel
theorem dX7_ask_12 : decode cX7_ask 12 = .ok (.ireturn, 1) := by decide +kernel
theorem dX7_ask_13 : decode cX7_ask 13 = .ok (.aload_n 0, 1) := by decide +kernel
theorem dX7_ask_14 : decode cX7_ask 14 = .ok (.invokevirtual 224, 3) := by decide +kernel
theorem dX7_ask_17 : decode cX7_ask 17 = .ok (.istore_n 2, 1) := by decide +kernel
theorem dX7_ask_18 : decode cX7_ask 18 = .ok (.iload_n 2, 1) := by decide +kernel
theorem dX7_ask_19 : decode cX7_ask 19 = .ok (.bipush (-6), 2) := by decide +kernel
theorem dX7_ask_21 : decode cX7_ask 21 = .ok (.if_icmp .eq 5, 3) := by decide +kernel
theorem dX7_ask_24 : decode cX7_ask 24 = .ok (.iload_n 2, 1) := by decide +kernel
theorem dX7_ask_25 : decode cX7_ask 25 = .ok (.ireturn, 1) := by decide +kernel
theorem dX7_ask_26 : decode cX7_ask 26 = .ok (.aload_n 0, 1) := by decide +kernel
theorem dX7_ask_27 : decode cX7_ask 27 = .ok (.getfield 209, 3) := by decide +kernel
theorem dX7_ask_30 : decode cX7_ask 30 = .ok (.ifCond .ne 6, 3) := by decide +kernel
theorem dX7_ask_33 : decode cX7_ask 33 = .ok (.bipush (-6), 2) := by decide +kernel
theorem dX7_ask_35 : decode cX7_ask 35 = .ok (.ireturn, 1) := by decide +kernel
theorem dX7_ask_36 : decode cX7_ask 36 = .ok (.iconst 0, 1) := by decide +kernel
theorem dX7_ask_37 : decode cX7_ask 37 = .ok (.istore_n 3, 1) := by decide +kernel
theorem dX7_ask_38 : decode cX7_ask 38 = .ok (.iconst 1, 1) := by decide +kernel
theorem dX7_ask_39 : decode cX7_ask 39 = .ok (.istore 4, 2) := by decide +kernel
theorem dX7_ask_41 : decode cX7_ask 41 = .ok (.iload 4, 2) := by decide +kernel
theorem dX7_ask_43 : decode cX7_ask 43 = .ok (.aload_n 0, 1) := by decide +kernel
theorem dX7_ask_44 : decode cX7_ask 44 = .ok (.getfield 93, 3) := by decide +kernel
theorem dX7_ask_47 : decode cX7_ask 47 = .ok (.if_icmp .ge 30, 3) := by decide +kernel
theorem dX7_ask_50 : decode cX7_ask 50 = .ok (.aload_n 0, 1) := by decide +kernel
theorem dX7_ask_51 : decode cX7_ask 51 = .ok (.iload 4, 2) := by decide +kernel
theorem dX7_ask_53 : decode cX7_ask 53 = .ok (.invokevirtual 227, 3) := by decide +kernel
theorem dX7_ask_56 : decode cX7_ask 56 = .ok (.aload_n 0, 1) := by decide +kernel
theorem dX7_ask_57 : decode cX7_ask 57 = .ok (.iload_n 3, 1) := by decide +kernel
theorem dX7_ask_58 : decode cX7_ask 58 = .ok (.invokevirtual 227, 3) := by decide +kernel
theorem dX7_ask_61 : decode cX7_ask 61 = .ok (.if_icmp .ge 8, 3) := by decide +kernel
theorem dX7_ask_64 : decode cX7_ask 64 = .ok (.iload 4, 2) := by decide +kernel
theorem dX7_ask_66 : decode cX7_ask 66 = .ok (.goto 4, 3) := by decide +kernel
theorem dX7_ask_69 : decode cX7_ask 69 = .ok (.iload_n 3, 1) := by decide +kernel
theorem dX7_ask_70 : decode cX7_ask 70 = .ok (.istore_n 3, 1) := by decide +kernel
theorem dX7_ask_71 : decode cX7_ask 71 = .ok (.iinc 4 1, 3) := by decide +kernel
theorem dX7_ask_74 : decode cX7_ask 74 = .ok (.goto (-33), 3) := by decide +kernel
theorem dX7_ask_77 : decode cX7_ask 77 = .ok (.iload_n 1, 1) := by decide +kernel
theorem dX7_ask_78 : decode cX7_ask 78 = .ok (.ifCond .ne 7, 3) := by decide +kernel
theorem dX7_ask_81 : decode cX7_ask 81 = .ok (.iload_n 3, 1) := by decide +kernel
theorem dX7_ask_82 : decode cX7_ask 82 = .ok (.goto 8, 3) := by decide +kernel
theorem dX7_ask_85 : decode cX7_ask 85 = .ok (.aload_n 0, 1) := by decide +kernel
theorem dX7_ask_86 : decode cX7_ask 86 = .ok (.iload_n 3, 1) := by decide +kernel
theorem dX7_ask_87 : decode cX7_ask 87 = .ok (.invokevirtual 227, 3) := by decide +kernel
theorem dX7_ask_90 : decode cX7_ask 90 = .ok (.ireturn, 1) := by decide +kernel
theorem dX7_mend_0 : decode cX7_mend 0 = .ok (.iload_n 1, 1) := by decide +kernel
theorem dX7_mend_1 : decode cX7_mend 1 = .ok (.i2l, 1) := by decide +kernel
theorem dX7_mend_2 : decode cX7_mend 2 = .ok (.lconst 0, 1) := by decide +kernel
theorem dX7_mend_3 : decode cX7_mend 3 = .ok (.lconst 1, 1) := by decide +kernel
theorem dX7_mend_4 : decode cX7_mend 4 = .ok (.invokestatic 106, 3) := by decide +kernel
theorem dX7_mend_7 : decode cX7_mend 7 = .ok (.ifCond .ne 6, 3) := by decide +kernel
theorem dX7_mend_10 : decode cX7_mend 10 = .ok (.bipush (-2), 2) := by decide +kernel
theorem dX7_mend_12 : decode cX7_mend 12 = .ok (.ireturn, 1) := by decide +kernel
theorem dX7_mend_13 : decode cX7_mend 13 = .ok (.iconst 0, 1) := by decide +kernel
theorem dX7_mend_14 : decode cX7_mend 14 = .ok (.istore_n 2, 1) := by decide +kernel
theorem dX7_mend_15 : decode cX7_mend 15 = .ok (.iconst 0, 1) := by decide +kernel
theorem dX7_mend_16 : decode cX7_mend 16 = .ok (.istore_n 3, 1) := by decide +kernel
theorem dX7_mend_17 : decode cX7_mend 17 = .ok (.aload_n 0, 1) := by decide +kernel
theorem dX7_mend_18 : decode cX7_mend 18 = .ok (.getfield 93, 3) := by decide +kernel
theorem dX7_mend_21 : decode cX7_mend 21 = .ok (.iconst 1, 1) := by decide +kernel
theorem dX7_mend_22 : decode cX7_mend 22 = .ok (.isub, 1) := by decide +kernel
theorem dX7_mend_23 : decode cX7_mend 23 = .ok (.istore 4, 2) := by decide +kernel
theorem dX7_mend_25 : decode cX7_mend 25 = .ok (.iload 4, 2) := by decide +kernel
theorem dX7_mend_27 : decode cX7_mend 27 = .ok (.ifCond .lt 64, 3) := by decide +kernel
theorem dX7_mend_30 : decode cX7_mend 30 = .ok (.aload_n 0, 1) := by decide +kernel
theorem dX7_mend_31 : decode cX7_mend 31 = .ok (.getfield 25, 3) := by decide +kernel
theorem dX7_mend_34 : decode cX7_mend 34 = .ok (.iload 4, 2) := by decide +kernel
theorem dX7_mend_36 : decode cX7_mend 36 = .ok (.iaload, 1) := by decide +kernel
theorem dX7_mend_37 : decode cX7_mend 37 = .ok (.istore 5, 2) := by decide +kernel
theorem dX7_mend_39 : decode cX7_mend 39 = .ok (.iload_n 2, 1) := by decide +kernel
theorem dX7_mend_40 : decode cX7_mend 40 = .ok (.iload_n 3, 1) := by decide +kernel
theorem dX7_mend_41 : decode cX7_mend 41 = .ok (.ifCond .eq 21, 3) := by decide +kernel
theorem dX7_mend_44 : decode cX7_mend 44 = .ok (.aload_n 0, 1) := by decide +kernel
theorem dX7_mend_45 : decode cX7_mend 45 = .ok (.getfield 22, 3) := by decide +kernel
theorem dX7_mend_48 : decode cX7_mend 48 = .ok (.iload 5, 2) := by decide +kernel
theorem dX7_mend_50 : decode cX7_mend 50 = .ok (.iaload, 1) := by decide +kernel
theorem dX7_mend_51 : decode cX7_mend 51 = .ok (.iconst 2, 1) := by decide +kernel
theorem dX7_mend_52 : decode cX7_mend 52 = .ok (.if_icmp .ne 10, 3) := by decide +kernel
theorem dX7_mend_55 : decode cX7_mend 55 = .ok (.iconst 1, 1) := by decide +kernel
theorem dX7_mend_56 : decode cX7_mend 56 = .ok (.iload 5, 2) := by decide +kernel
theorem dX7_mend_58 : decode cX7_mend 58 = .ok (.ishl, 1) := by decide +kernel
theorem dX7_mend_59 : decode cX7_mend 59 = .ok (.goto 4, 3) := by decide +kernel
theorem dX7_mend_62 : decode cX7_mend 62 = .ok (.iconst 0, 1) := by decide +kernel
theorem dX7_mend_63 : decode cX7_mend 63 = .ok (.ior, 1) := by decide +kernel
theorem dX7_mend_64 : decode cX7_mend 64 = .ok (.istore_n 2, 1) := by decide +kernel
theorem dX7_mend_65 : decode cX7_mend 65 = .ok (.iload_n 3, 1) := by decide +kernel
theorem dX7_mend_66 : decode cX7_mend 66 = .ok (.ifCond .ne 13, 3) := by decide +kernel
theorem dX7_mend_69 : decode cX7_mend 69 = .ok (.aload_n 0, 1) := by decide +kernel
theorem dX7_mend_70 : decode cX7_mend 70 = .ok (.getfield 22, 3) := by decide +kernel
theorem dX7_mend_73 : decode cX7_mend 73 = .ok (.iload 5, 2) := by decide +kernel
theorem dX7_mend_75 : decode cX7_mend 75 = .ok (.iaload, 1) := by decide +kernel
theorem dX7_mend_76 : decode cX7_mend 76 = .ok (.ifCond .ne 7, 3) := by decide +kernel
theorem dX7_mend_79 : decode cX7_mend 79 = .ok (.iconst 1, 1) := by decide +kernel
theorem dX7_mend_80 : decode cX7_mend 80 = .ok (.goto 4, 3) := by decide +kernel
theorem dX7_mend_83 : decode cX7_mend 83 = .ok (.iconst 0, 1) := by decide +kernel
theorem dX7_mend_84 : decode cX7_mend 84 = .ok (.istore_n 3, 1) := by decide +kernel
theorem dX7_mend_85 : decode cX7_mend 85 = .ok (.iinc 4 (-1), 3) := by decide +kernel
theorem dX7_mend_88 : decode cX7_mend 88 = .ok (.goto (-63), 3) := by decide +kernel
theorem dX7_mend_91 : decode cX7_mend 91 = .ok (.iload_n 1, 1) := by decide +kernel
theorem dX7_mend_92 : decode cX7_mend 92 = .ok (.ifCond .ne 10, 3) := by decide +kernel
theorem dX7_mend_95 : decode cX7_mend 95 = .ok (.iload_n 2, 1) := by decide +kernel
theorem dX7_mend_96 : decode cX7_mend 96 = .ok (.invokestatic 230, 3) := by decide +kernel
theorem dX7_mend_99 : decode cX7_mend 99 = .ok (.goto 4, 3) := by decide +kernel
theorem dX7_mend_102 : decode cX7_mend 102 = .ok (.iload_n 2, 1) := by decide +kernel
theorem dX7_mend_103 : decode cX7_mend 103 = .ok (.ireturn, 1) := by decide +kernel
theorem dX7_soonest_0 : decode cX7_soonest 0 = .ok (.iload_n 1, 1) := by decide +kernel
theorem dX7_soonest_1 : decode cX7_soonest 1 = .ok (.i2l, 1) := by decide +kernel
theorem dX7_soonest_2 : decode cX7_soonest 2 = .ok (.lconst 1, 1) := by decide +kernel
theorem dX7_soonest_3 : decode cX7_soonest 3 = .ok (.ldc2_w 233, 3) := by decide +kernel
theorem dX7_soonest_6 : decode cX7_soonest 6 = .ok (.invokestatic 106, 3) := by decide +kernel
theorem dX7_soonest_9 : decode cX7_soonest 9 = .ok (.ifCond .ne 6, 3) := by decide +kernel
theorem dX7_soonest_12 : decode cX7_soonest 12 = .ok (.bipush (-2), 2) := by decide +kernel
theorem dX7_soonest_14 : decode cX7_soonest 14 = .ok (.ireturn, 1) := by decide +kernel
theorem dX7_soonest_15 : decode cX7_soonest 15 = .ok (.iconst 0, 1) := by decide +kernel
theorem dX7_soonest_16 : decode cX7_soonest 16 = .ok (.istore_n 2, 1) := by decide +kernel
theorem dX7_soonest_17 : decode cX7_soonest 17 = .ok (.iconst 0, 1) := by decide +kernel
theorem dX7_soonest_18 : decode cX7_soonest 18 = .ok (.istore_n 3, 1) := by decide +kernel
theorem dX7_soonest_19 : decode cX7_soonest 19 = .ok (.iconst 0, 1) := by decide +kernel
theorem dX7_soonest_20 : decode cX7_soonest 20 = .ok (.istore 4, 2) := by decide +kernel
theorem dX7_soonest_22 : decode cX7_soonest 22 = .ok (.iload 4, 2) := by decide +kernel
theorem dX7_soonest_24 : decode cX7_soonest 24 = .ok (.bipush 6, 2) := by decide +kernel
theorem dX7_soonest_26 : decode cX7_soonest 26 = .ok (.if_icmp .ge 107, 3) := by decide +kernel
theorem dX7_soonest_29 : decode cX7_soonest 29 = .ok (.iconst 0, 1) := by decide +kernel
theorem dX7_soonest_30 : decode cX7_soonest 30 = .ok (.istore 5, 2) := by decide +kernel
theorem dX7_soonest_32 : decode cX7_soonest 32 = .ok (.iconst 0, 1) := by decide +kernel
theorem dX7_soonest_33 : decode cX7_soonest 33 = .ok (.istore 6, 2) := by decide +kernel
theorem dX7_soonest_35 : decode cX7_soonest 35 = .ok (.iload 6, 2) := by decide +kernel
theorem dX7_soonest_37 : decode cX7_soonest 37 = .ok (.aload_n 0, 1) := by decide +kernel
theorem dX7_soonest_38 : decode cX7_soonest 38 = .ok (.getfield 93, 3) := by decide +kernel
theorem dX7_soonest_41 : decode cX7_soonest 41 = .ok (.if_icmp .ge 68, 3) := by decide +kernel
theorem dX7_soonest_44 : decode cX7_soonest 44 = .ok (.aload_n 0, 1) := by decide +kernel
theorem dX7_soonest_45 : decode cX7_soonest 45 = .ok (.getfield 19, 3) := by decide +kernel
theorem dX7_soonest_48 : decode cX7_soonest 48 = .ok (.iload 6, 2) := by decide +kernel
theorem dX7_soonest_50 : decode cX7_soonest 50 = .ok (.iaload, 1) := by decide +kernel
theorem dX7_soonest_51 : decode cX7_soonest 51 = .ok (.iload 4, 2) := by decide +kernel
theorem dX7_soonest_53 : decode cX7_soonest 53 = .ok (.if_icmp .ne 31, 3) := by decide +kernel
theorem dX7_soonest_56 : decode cX7_soonest 56 = .ok (.aload_n 0, 1) := by decide +kernel
theorem dX7_soonest_57 : decode cX7_soonest 57 = .ok (.getfield 22, 3) := by decide +kernel
theorem dX7_soonest_60 : decode cX7_soonest 60 = .ok (.iload 6, 2) := by decide +kernel
theorem dX7_soonest_62 : decode cX7_soonest 62 = .ok (.iaload, 1) := by decide +kernel
theorem dX7_soonest_63 : decode cX7_soonest 63 = .ok (.ifCond .ne 21, 3) := by decide +kernel
theorem dX7_soonest_66 : decode cX7_soonest 66 = .ok (.aload_n 0, 1) := by decide +kernel
theorem dX7_soonest_67 : decode cX7_soonest 67 = .ok (.getfield 7, 3) := by decide +kernel
theorem dX7_soonest_70 : decode cX7_soonest 70 = .ok (.iload 6, 2) := by decide +kernel
theorem dX7_soonest_72 : decode cX7_soonest 72 = .ok (.iaload, 1) := by decide +kernel
theorem dX7_soonest_73 : decode cX7_soonest 73 = .ok (.aload_n 0, 1) := by decide +kernel
theorem dX7_soonest_74 : decode cX7_soonest 74 = .ok (.getfield 13, 3) := by decide +kernel
theorem dX7_soonest_77 : decode cX7_soonest 77 = .ok (.iload 6, 2) := by decide +kernel
theorem dX7_soonest_79 : decode cX7_soonest 79 = .ok (.iaload, 1) := by decide +kernel
theorem dX7_soonest_80 : decode cX7_soonest 80 = .ok (.isub, 1) := by decide +kernel
theorem dX7_soonest_81 : decode cX7_soonest 81 = .ok (.goto 4, 3) := by decide +kernel
theorem dX7_soonest_84 : decode cX7_soonest 84 = .ok (.iconst 0, 1) := by decide +kernel
theorem dX7_soonest_85 : decode cX7_soonest 85 = .ok (.istore 7, 2) := by decide +kernel
theorem dX7_soonest_87 : decode cX7_soonest 87 = .ok (.iload 7, 2) := by decide +kernel
theorem dX7_soonest_89 : decode cX7_soonest 89 = .ok (.iload 5, 2) := by decide +kernel
theorem dX7_soonest_91 : decode cX7_soonest 91 = .ok (.if_icmp .le 8, 3) := by decide +kernel
theorem dX7_soonest_94 : decode cX7_soonest 94 = .ok (.iload 7, 2) := by decide +kernel
theorem dX7_soonest_96 : decode cX7_soonest 96 = .ok (.goto 5, 3) := by decide +kernel
theorem dX7_soonest_99 : decode cX7_soonest 99 = .ok (.iload 5, 2) := by decide +kernel
theorem dX7_soonest_101 : decode cX7_soonest 101 = .ok (.istore 5, 2) := by decide +kernel
theorem dX7_soonest_103 : decode cX7_soonest 103 = .ok (.iinc 6 1, 3) := by decide +kernel
theorem dX7_soonest_106 : decode cX7_soonest 106 = .ok (.goto (-71), 3) := by decide +kernel
theorem dX7_soonest_109 : decode cX7_soonest 109 = .ok (.iload_n 3, 1) := by decide +kernel
theorem dX7_soonest_110 : decode cX7_soonest 110 = .ok (.iload 5, 2) := by decide +kernel
theorem dX7_soonest_112 : decode cX7_soonest 112 = .ok (.iadd, 1) := by decide +kernel
theorem dX7_soonest_113 : decode cX7_soonest 113 = .ok (.istore_n 3, 1) := by decide +kernel
theorem dX7_soonest_114 : decode cX7_soonest 114 = .ok (.iload 5, 2) := by decide +kernel
theorem dX7_soonest_116 : decode cX7_soonest 116 = .ok (.iload_n 2, 1) := by decide +kernel
theorem dX7_soonest_117 : decode cX7_soonest 117 = .ok (.if_icmp .le 8, 3) := by decide +kernel
theorem dX7_soonest_120 : decode cX7_soonest 120 = .ok (.iload 5, 2) := by decide +kernel
theorem dX7_soonest_122 : decode cX7_soonest 122 = .ok (.goto 4, 3) := by decide +kernel
theorem dX7_soonest_125 : decode cX7_soonest 125 = .ok (.iload_n 2, 1) := by decide +kernel
theorem dX7_soonest_126 : decode cX7_soonest 126 = .ok (.istore_n 2, 1) := by decide +kernel
theorem dX7_soonest_127 : decode cX7_soonest 127 = .ok (.iinc 4 1, 3) := by decide +kernel
theorem dX7_soonest_130 : decode cX7_soonest 130 = .ok (.goto (-108), 3) := by decide +kernel
theorem dX7_soonest_133 : decode cX7_soonest 133 = .ok (.iload_n 3, 1) := by decide +kernel
theorem dX7_soonest_134 : decode cX7_soonest 134 = .ok (.iload_n 1, 1) := by decide +kernel
theorem dX7_soonest_135 : decode cX7_soonest 135 = .ok (.iadd, 1) := by decide +kernel
theorem dX7_soonest_136 : decode cX7_soonest 136 = .ok (.iconst 1, 1) := by decide +kernel
theorem dX7_soonest_137 : decode cX7_soonest 137 = .ok (.isub, 1) := by decide +kernel
theorem dX7_soonest_138 : decode cX7_soonest 138 = .ok (.iload_n 1, 1) := by decide +kernel
theorem dX7_soonest_139 : decode cX7_soonest 139 = .ok (.idiv, 1) := by decide +kernel
theorem dX7_soonest_140 : decode cX7_soonest 140 = .ok (.istore 4, 2) := by decide +kernel
theorem dX7_soonest_142 : decode cX7_soonest 142 = .ok (.iload 4, 2) := by decide +kernel
theorem dX7_soonest_144 : decode cX7_soonest 144 = .ok (.iload_n 2, 1) := by decide +kernel
theorem dX7_soonest_145 : decode cX7_soonest 145 = .ok (.if_icmp .le 8, 3) := by decide +kernel
theorem dX7_soonest_148 : decode cX7_soonest 148 = .ok (.iload 4, 2) := by decide +kernel
theorem dX7_soonest_150 : decode cX7_soonest 150 = .ok (.goto 4, 3) := by decide +kernel
theorem dX7_soonest_153 : decode cX7_soonest 153 = .ok (.iload_n 2, 1) := by decide +kernel
theorem dX7_soonest_154 : decode cX7_soonest 154 = .ok (.ireturn, 1) := by decide +kernel
theorem dX7_findWorth_0 : decode cX7_findWorth 0 = .ok (.iconst 0, 1) := by decide +kernel
theorem dX7_findWorth_1 : decode cX7_findWorth 1 = .ok (.istore_n 2, 1) := by decide +kernel
theorem dX7_findWorth_2 : decode cX7_findWorth 2 = .ok (.iload_n 2, 1) := by decide +kernel
theorem dX7_findWorth_3 : decode cX7_findWorth 3 = .ok (.bipush 6, 2) := by decide +kernel
theorem dX7_findWorth_5 : decode cX7_findWorth 5 = .ok (.if_icmp .ge 16, 3) := by decide +kernel
theorem dX7_findWorth_8 : decode cX7_findWorth 8 = .ok (.aload_n 0, 1) := by decide +kernel
theorem dX7_findWorth_9 : decode cX7_findWorth 9 = .ok (.getfield 79, 3) := by decide +kernel
theorem dX7_findWorth_12 : decode cX7_findWorth 12 = .ok (.iload_n 2, 1) := by decide +kernel
theorem dX7_findWorth_13 : decode cX7_findWorth 13 = .ok (.iconst 0, 1) := by decide +kernel
theorem dX7_findWorth_14 : decode cX7_findWorth 14 = .ok (.iastore, 1) := by decide +kernel
theorem dX7_findWorth_15 : decode cX7_findWorth 15 = .ok (.iinc 2 1, 3) := by decide +kernel
theorem dX7_findWorth_18 : decode cX7_findWorth 18 = .ok (.goto (-16), 3) := by decide +kernel
theorem dX7_findWorth_21 : decode cX7_findWorth 21 = .ok (.iconst 0, 1) := by decide +kernel
theorem dX7_findWorth_22 : decode cX7_findWorth 22 = .ok (.istore_n 2, 1) := by decide +kernel
theorem dX7_findWorth_23 : decode cX7_findWorth 23 = .ok (.iconst 1, 1) := by decide +kernel
theorem dX7_findWorth_24 : decode cX7_findWorth 24 = .ok (.istore_n 3, 1) := by decide +kernel
theorem dX7_findWorth_25 : decode cX7_findWorth 25 = .ok (.iconst 0, 1) := by decide +kernel
theorem dX7_findWorth_26 : decode cX7_findWorth 26 = .ok (.istore 4, 2) := by decide +kernel
theorem dX7_findWorth_28 : decode cX7_findWorth 28 = .ok (.iload 4, 2) := by decide +kernel
theorem dX7_findWorth_30 : decode cX7_findWorth 30 = .ok (.aload_n 0, 1) := by decide +kernel
theorem dX7_findWorth_31 : decode cX7_findWorth 31 = .ok (.getfield 93, 3) := by decide +kernel
theorem dX7_findWorth_34 : decode cX7_findWorth 34 = .ok (.if_icmp .ge 155, 3) := by decide +kernel
theorem dX7_findWorth_37 : decode cX7_findWorth 37 = .ok (.iload_n 3, 1) := by decide +kernel
theorem dX7_findWorth_38 : decode cX7_findWorth 38 = .ok (.ifCond .eq 151, 3) := by decide +kernel
theorem dX7_findWorth_41 : decode cX7_findWorth 41 = .ok (.aload_n 0, 1) := by decide +kernel
theorem dX7_findWorth_42 : decode cX7_findWorth 42 = .ok (.getfield 25, 3) := by decide +kernel
theorem dX7_findWorth_45 : decode cX7_findWorth 45 = .ok (.iload 4, 2) := by decide +kernel
theorem dX7_findWorth_47 : decode cX7_findWorth 47 = .ok (.iaload, 1) := by decide +kernel
theorem dX7_findWorth_48 : decode cX7_findWorth 48 = .ok (.istore 5, 2) := by decide +kernel
theorem dX7_findWorth_50 : decode cX7_findWorth 50 = .ok (.aload_n 0, 1) := by decide +kernel
theorem dX7_findWorth_51 : decode cX7_findWorth 51 = .ok (.getfield 13, 3) := by decide +kernel
theorem dX7_findWorth_54 : decode cX7_findWorth 54 = .ok (.iload 5, 2) := by decide +kernel
theorem dX7_findWorth_56 : decode cX7_findWorth 56 = .ok (.iaload, 1) := by decide +kernel
theorem dX7_findWorth_57 : decode cX7_findWorth 57 = .ok (.aload_n 0, 1) := by decide +kernel
theorem dX7_findWorth_58 : decode cX7_findWorth 58 = .ok (.getfield 7, 3) := by decide +kernel
theorem dX7_findWorth_61 : decode cX7_findWorth 61 = .ok (.iload 5, 2) := by decide +kernel
theorem dX7_findWorth_63 : decode cX7_findWorth 63 = .ok (.iaload, 1) := by decide +kernel
theorem dX7_findWorth_64 : decode cX7_findWorth 64 = .ok (.if_icmp .ge 18, 3) := by decide +kernel
theorem dX7_findWorth_67 : decode cX7_findWorth 67 = .ok (.iload_n 1, 1) := by decide +kernel
theorem dX7_findWorth_68 : decode cX7_findWorth 68 = .ok (.aload_n 0, 1) := by decide +kernel
theorem dX7_findWorth_69 : decode cX7_findWorth 69 = .ok (.getfield 19, 3) := by decide +kernel
theorem dX7_findWorth_72 : decode cX7_findWorth 72 = .ok (.iload 5, 2) := by decide +kernel
theorem dX7_findWorth_74 : decode cX7_findWorth 74 = .ok (.iaload, 1) := by decide +kernel
theorem dX7_findWorth_75 : decode cX7_findWorth 75 = .ok (.ishr, 1) := by decide +kernel
theorem dX7_findWorth_76 : decode cX7_findWorth 76 = .ok (.iconst 1, 1) := by decide +kernel
theorem dX7_findWorth_77 : decode cX7_findWorth 77 = .ok (.iand, 1) := by decide +kernel
theorem dX7_findWorth_78 : decode cX7_findWorth 78 = .ok (.iconst 1, 1) := by decide +kernel
theorem dX7_findWorth_79 : decode cX7_findWorth 79 = .ok (.if_icmp .ne 7, 3) := by decide +kernel
theorem dX7_findWorth_82 : decode cX7_findWorth 82 = .ok (.iconst 1, 1) := by decide +kernel
theorem dX7_findWorth_83 : decode cX7_findWorth 83 = .ok (.goto 4, 3) := by decide +kernel
theorem dX7_findWorth_86 : decode cX7_findWorth 86 = .ok (.iconst 0, 1) := by decide +kernel
theorem dX7_findWorth_87 : decode cX7_findWorth 87 = .ok (.istore 6, 2) := by decide +kernel
theorem dX7_findWorth_89 : decode cX7_findWorth 89 = .ok (.aload_n 0, 1) := by decide +kernel
theorem dX7_findWorth_90 : decode cX7_findWorth 90 = .ok (.getfield 22, 3) := by decide +kernel
theorem dX7_findWorth_93 : decode cX7_findWorth 93 = .ok (.iload 5, 2) := by decide +kernel
theorem dX7_findWorth_95 : decode cX7_findWorth 95 = .ok (.iaload, 1) := by decide +kernel
theorem dX7_findWorth_96 : decode cX7_findWorth 96 = .ok (.ifCond .ne 12, 3) := by decide +kernel
theorem dX7_findWorth_99 : decode cX7_findWorth 99 = .ok (.iload 6, 2) := by decide +kernel
theorem dX7_findWorth_101 : decode cX7_findWorth 101 = .ok (.ifCond .eq 7, 3) := by decide +kernel
theorem dX7_findWorth_104 : decode cX7_findWorth 104 = .ok (.iconst 1, 1) := by decide +kernel
theorem dX7_findWorth_105 : decode cX7_findWorth 105 = .ok (.goto 4, 3) := by decide +kernel
theorem dX7_findWorth_108 : decode cX7_findWorth 108 = .ok (.iconst 0, 1) := by decide +kernel
theorem dX7_findWorth_109 : decode cX7_findWorth 109 = .ok (.istore 7, 2) := by decide +kernel
theorem dX7_findWorth_111 : decode cX7_findWorth 111 = .ok (.aload_n 0, 1) := by decide +kernel
theorem dX7_findWorth_112 : decode cX7_findWorth 112 = .ok (.getfield 79, 3) := by decide +kernel
theorem dX7_findWorth_115 : decode cX7_findWorth 115 = .ok (.aload_n 0, 1) := by decide +kernel
theorem dX7_findWorth_116 : decode cX7_findWorth 116 = .ok (.getfield 19, 3) := by decide +kernel
theorem dX7_findWorth_119 : decode cX7_findWorth 119 = .ok (.iload 5, 2) := by decide +kernel
theorem dX7_findWorth_121 : decode cX7_findWorth 121 = .ok (.iaload, 1) := by decide +kernel
theorem dX7_findWorth_122 : decode cX7_findWorth 122 = .ok (.dup2, 1) := by decide +kernel
theorem dX7_findWorth_123 : decode cX7_findWorth 123 = .ok (.iaload, 1) := by decide +kernel
theorem dX7_findWorth_124 : decode cX7_findWorth 124 = .ok (.iload 7, 2) := by decide +kernel
theorem dX7_findWorth_126 : decode cX7_findWorth 126 = .ok (.ifCond .eq 13, 3) := by decide +kernel
theorem dX7_findWorth_129 : decode cX7_findWorth 129 = .ok (.aload_n 0, 1) := by decide +kernel
theorem dX7_findWorth_130 : decode cX7_findWorth 130 = .ok (.getfield 16, 3) := by decide +kernel
theorem dX7_findWorth_133 : decode cX7_findWorth 133 = .ok (.iload 5, 2) := by decide +kernel
theorem dX7_findWorth_135 : decode cX7_findWorth 135 = .ok (.iaload, 1) := by decide +kernel
theorem dX7_findWorth_136 : decode cX7_findWorth 136 = .ok (.goto 4, 3) := by decide +kernel
theorem dX7_findWorth_139 : decode cX7_findWorth 139 = .ok (.iconst 0, 1) := by decide +kernel
theorem dX7_findWorth_140 : decode cX7_findWorth 140 = .ok (.iadd, 1) := by decide +kernel
theorem dX7_findWorth_141 : decode cX7_findWorth 141 = .ok (.iastore, 1) := by decide +kernel
theorem dX7_findWorth_142 : decode cX7_findWorth 142 = .ok (.iload_n 2, 1) := by decide +kernel
theorem dX7_findWorth_143 : decode cX7_findWorth 143 = .ok (.iload 7, 2) := by decide +kernel
theorem dX7_findWorth_145 : decode cX7_findWorth 145 = .ok (.ifCond .eq 13, 3) := by decide +kernel
theorem dX7_findWorth_148 : decode cX7_findWorth 148 = .ok (.aload_n 0, 1) := by decide +kernel
theorem dX7_findWorth_149 : decode cX7_findWorth 149 = .ok (.getfield 16, 3) := by decide +kernel
theorem dX7_findWorth_152 : decode cX7_findWorth 152 = .ok (.iload 5, 2) := by decide +kernel
theorem dX7_findWorth_154 : decode cX7_findWorth 154 = .ok (.iaload, 1) := by decide +kernel
theorem dX7_findWorth_155 : decode cX7_findWorth 155 = .ok (.goto 4, 3) := by decide +kernel
theorem dX7_findWorth_158 : decode cX7_findWorth 158 = .ok (.iconst 0, 1) := by decide +kernel
theorem dX7_findWorth_159 : decode cX7_findWorth 159 = .ok (.iadd, 1) := by decide +kernel
theorem dX7_findWorth_160 : decode cX7_findWorth 160 = .ok (.istore_n 2, 1) := by decide +kernel
theorem dX7_findWorth_161 : decode cX7_findWorth 161 = .ok (.iload 7, 2) := by decide +kernel
theorem dX7_findWorth_163 : decode cX7_findWorth 163 = .ok (.ifCond .ne 14, 3) := by decide +kernel
theorem dX7_findWorth_166 : decode cX7_findWorth 166 = .ok (.aload_n 0, 1) := by decide +kernel
theorem dX7_findWorth_167 : decode cX7_findWorth 167 = .ok (.getfield 22, 3) := by decide +kernel
theorem dX7_findWorth_170 : decode cX7_findWorth 170 = .ok (.iload 5, 2) := by decide +kernel
theorem dX7_findWorth_172 : decode cX7_findWorth 172 = .ok (.iaload, 1) := by decide +kernel
theorem dX7_findWorth_173 : decode cX7_findWorth 173 = .ok (.iconst 1, 1) := by decide +kernel
theorem dX7_findWorth_174 : decode cX7_findWorth 174 = .ok (.if_icmp .ne 7, 3) := by decide +kernel
theorem dX7_findWorth_177 : decode cX7_findWorth 177 = .ok (.iconst 1, 1) := by decide +kernel
theorem dX7_findWorth_178 : decode cX7_findWorth 178 = .ok (.goto 4, 3) := by decide +kernel
theorem dX7_findWorth_181 : decode cX7_findWorth 181 = .ok (.iconst 0, 1) := by decide +kernel
theorem dX7_findWorth_182 : decode cX7_findWorth 182 = .ok (.istore_n 3, 1) := by decide +kernel
theorem dX7_findWorth_183 : decode cX7_findWorth 183 = .ok (.iinc 4 1, 3) := by decide +kernel
theorem dX7_findWorth_186 : decode cX7_findWorth 186 = .ok (.goto (-158), 3) := by decide +kernel
theorem dX7_findWorth_189 : decode cX7_findWorth 189 = .ok (.iload_n 2, 1) := by decide +kernel
theorem dX7_findWorth_190 : decode cX7_findWorth 190 = .ok (.ireturn, 1) := by decide +kernel
theorem dX7_gainOf_0 : decode cX7_gainOf 0 = .ok (.aload_n 0, 1) := by decide +kernel
theorem dX7_gainOf_1 : decode cX7_gainOf 1 = .ok (.iload_n 2, 1) := by decide +kernel
theorem dX7_gainOf_2 : decode cX7_gainOf 2 = .ok (.invokevirtual 235, 3) := by decide +kernel
theorem dX7_gainOf_5 : decode cX7_gainOf 5 = .ok (.pop, 1) := by decide +kernel
theorem dX7_gainOf_6 : decode cX7_gainOf 6 = .ok (.aload_n 0, 1) := by decide +kernel
theorem dX7_gainOf_7 : decode cX7_gainOf 7 = .ok (.getfield 79, 3) := by decide +kernel
theorem dX7_gainOf_10 : decode cX7_gainOf 10 = .ok (.iload_n 1, 1) := by decide +kernel
theorem dX7_gainOf_11 : decode cX7_gainOf 11 = .ok (.iaload, 1) := by decide +kernel
theorem dX7_gainOf_12 : decode cX7_gainOf 12 = .ok (.iload_n 2, 1) := by decide +kernel
theorem dX7_gainOf_13 : decode cX7_gainOf 13 = .ok (.iload_n 1, 1) := by decide +kernel
theorem dX7_gainOf_14 : decode cX7_gainOf 14 = .ok (.ishr, 1) := by decide +kernel
theorem dX7_gainOf_15 : decode cX7_gainOf 15 = .ok (.iconst 1, 1) := by decide +kernel
theorem dX7_gainOf_16 : decode cX7_gainOf 16 = .ok (.iand, 1) := by decide +kernel
theorem dX7_gainOf_17 : decode cX7_gainOf 17 = .ok (.iconst 1, 1) := by decide +kernel
theorem dX7_gainOf_18 : decode cX7_gainOf 18 = .ok (.if_icmp .ne 7, 3) := by decide +kernel
theorem dX7_gainOf_21 : decode cX7_gainOf 21 = .ok (.iload_n 3, 1) := by decide +kernel
theorem dX7_gainOf_22 : decode cX7_gainOf 22 = .ok (.goto 4, 3) := by decide +kernel
theorem dX7_gainOf_25 : decode cX7_gainOf 25 = .ok (.iconst 0, 1) := by decide +kernel
theorem dX7_gainOf_26 : decode cX7_gainOf 26 = .ok (.isub, 1) := by decide +kernel
theorem dX7_gainOf_27 : decode cX7_gainOf 27 = .ok (.ireturn, 1) := by decide +kernel
theorem dX7_housesWithWhole_0 : decode cX7_housesWithWhole 0 = .ok (.iconst 0, 1) := by decide +kernel
theorem dX7_housesWithWhole_1 : decode cX7_housesWithWhole 1 = .ok (.istore_n 1, 1) := by decide +kernel
theorem dX7_housesWithWhole_2 : decode cX7_housesWithWhole 2 = .ok (.iconst 0, 1) := by decide +kernel
theorem dX7_housesWithWhole_3 : decode cX7_housesWithWhole 3 = .ok (.istore_n 2, 1) := by decide +kernel
theorem dX7_housesWithWhole_4 : decode cX7_housesWithWhole 4 = .ok (.iload_n 2, 1) := by decide +kernel
theorem dX7_housesWithWhole_5 : decode cX7_housesWithWhole 5 = .ok (.aload_n 0, 1) := by decide +kernel
theorem dX7_housesWithWhole_6 : decode cX7_housesWithWhole 6 = .ok (.getfield 93, 3) := by decide +kernel
theorem dX7_housesWithWhole_9 : decode cX7_housesWithWhole 9 = .ok (.if_icmp .ge 33, 3) := by decide +kernel
theorem dX7_housesWithWhole_12 : decode cX7_housesWithWhole 12 = .ok (.iload_n 1, 1) := by decide +kernel
theorem dX7_housesWithWhole_13 : decode cX7_housesWithWhole 13 = .ok (.aload_n 0, 1) := by decide +kernel
theorem dX7_housesWithWhole_14 : decode cX7_housesWithWhole 14 = .ok (.getfield 22, 3) := by decide +kernel
theorem dX7_housesWithWhole_17 : decode cX7_housesWithWhole 17 = .ok (.iload_n 2, 1) := by decide +kernel
theorem dX7_housesWithWhole_18 : decode cX7_housesWithWhole 18 = .ok (.iaload, 1) := by decide +kernel
theorem dX7_housesWithWhole_19 : decode cX7_housesWithWhole 19 = .ok (.ifCond .ne 14, 3) := by decide +kernel
theorem dX7_housesWithWhole_22 : decode cX7_housesWithWhole 22 = .ok (.iconst 1, 1) := by decide +kernel
theorem dX7_housesWithWhole_23 : decode cX7_housesWithWhole 23 = .ok (.aload_n 0, 1) := by decide +kernel
theorem dX7_housesWithWhole_24 : decode cX7_housesWithWhole 24 = .ok (.getfield 19, 3) := by decide +kernel
theorem dX7_housesWithWhole_27 : decode cX7_housesWithWhole 27 = .ok (.iload_n 2, 1) := by decide +kernel
theorem dX7_housesWithWhole_28 : decode cX7_housesWithWhole 28 = .ok (.iaload, 1) := by decide +kernel
theorem dX7_housesWithWhole_29 : decode cX7_housesWithWhole 29 = .ok (.ishl, 1) := by decide +kernel
theorem dX7_housesWithWhole_30 : decode cX7_housesWithWhole 30 = .ok (.goto 4, 3) := by decide +kernel
theorem dX7_housesWithWhole_33 : decode cX7_housesWithWhole 33 = .ok (.iconst 0, 1) := by decide +kernel
theorem dX7_housesWithWhole_34 : decode cX7_housesWithWhole 34 = .ok (.ior, 1) := by decide +kernel
theorem dX7_housesWithWhole_35 : decode cX7_housesWithWhole 35 = .ok (.istore_n 1, 1) := by decide +kernel
theorem dX7_housesWithWhole_36 : decode cX7_housesWithWhole 36 = .ok (.iinc 2 1, 3) := by decide +kernel
theorem dX7_housesWithWhole_39 : decode cX7_housesWithWhole 39 = .ok (.goto (-35), 3) := by decide +kernel
theorem dX7_housesWithWhole_42 : decode cX7_housesWithWhole 42 = .ok (.iload_n 1, 1) := by decide +kernel
theorem dX7_housesWithWhole_43 : decode cX7_housesWithWhole 43 = .ok (.ireturn, 1) := by decide +kernel
theorem dX7_isRest_0 : decode cX7_isRest 0 = .ok (.iconst 1, 1) := by decide +kernel
theorem dX7_isRest_1 : decode cX7_isRest 1 = .ok (.istore 4, 2) := by decide +kernel
theorem dX7_isRest_3 : decode cX7_isRest 3 = .ok (.iconst 0, 1) := by decide +kernel
theorem dX7_isRest_4 : decode cX7_isRest 4 = .ok (.istore 5, 2) := by decide +kernel
theorem dX7_isRest_6 : decode cX7_isRest 6 = .ok (.iload 5, 2) := by decide +kernel
theorem dX7_isRest_8 : decode cX7_isRest 8 = .ok (.bipush 6, 2) := by decide +kernel
theorem dX7_isRest_10 : decode cX7_isRest 10 = .ok (.if_icmp .ge 55, 3) := by decide +kernel
theorem dX7_isRest_13 : decode cX7_isRest 13 = .ok (.iload_n 2, 1) := by decide +kernel
theorem dX7_isRest_14 : decode cX7_isRest 14 = .ok (.iload 5, 2) := by decide +kernel
theorem dX7_isRest_16 : decode cX7_isRest 16 = .ok (.ishr, 1) := by decide +kernel
theorem dX7_isRest_17 : decode cX7_isRest 17 = .ok (.iconst 1, 1) := by decide +kernel
theorem dX7_isRest_18 : decode cX7_isRest 18 = .ok (.iand, 1) := by decide +kernel
theorem dX7_isRest_19 : decode cX7_isRest 19 = .ok (.iconst 1, 1) := by decide +kernel
theorem dX7_isRest_20 : decode cX7_isRest 20 = .ok (.if_icmp .ne 39, 3) := by decide +kernel
theorem dX7_isRest_23 : decode cX7_isRest 23 = .ok (.iload 4, 2) := by decide +kernel
theorem dX7_isRest_25 : decode cX7_isRest 25 = .ok (.ifCond .eq 31, 3) := by decide +kernel
theorem dX7_isRest_28 : decode cX7_isRest 28 = .ok (.aload_n 0, 1) := by decide +kernel
theorem dX7_isRest_29 : decode cX7_isRest 29 = .ok (.iload 5, 2) := by decide +kernel
theorem dX7_isRest_31 : decode cX7_isRest 31 = .ok (.iload_n 1, 1) := by decide +kernel
theorem dX7_isRest_32 : decode cX7_isRest 32 = .ok (.iconst 1, 1) := by decide +kernel
theorem dX7_isRest_33 : decode cX7_isRest 33 = .ok (.iload 5, 2) := by decide +kernel
theorem dX7_isRest_35 : decode cX7_isRest 35 = .ok (.ishl, 1) := by decide +kernel
theorem dX7_isRest_36 : decode cX7_isRest 36 = .ok (.ixor, 1) := by decide +kernel
theorem dX7_isRest_37 : decode cX7_isRest 37 = .ok (.iload_n 3, 1) := by decide +kernel
theorem dX7_isRest_38 : decode cX7_isRest 38 = .ok (.invokevirtual 238, 3) := by decide +kernel
theorem dX7_isRest_41 : decode cX7_isRest 41 = .ok (.aload_n 0, 1) := by decide +kernel
theorem dX7_isRest_42 : decode cX7_isRest 42 = .ok (.iload 5, 2) := by decide +kernel
theorem dX7_isRest_44 : decode cX7_isRest 44 = .ok (.iload_n 1, 1) := by decide +kernel
theorem dX7_isRest_45 : decode cX7_isRest 45 = .ok (.iload_n 3, 1) := by decide +kernel
theorem dX7_isRest_46 : decode cX7_isRest 46 = .ok (.invokevirtual 238, 3) := by decide +kernel
theorem dX7_isRest_49 : decode cX7_isRest 49 = .ok (.if_icmp .gt 7, 3) := by decide +kernel
theorem dX7_isRest_52 : decode cX7_isRest 52 = .ok (.iconst 1, 1) := by decide +kernel
theorem dX7_isRest_53 : decode cX7_isRest 53 = .ok (.goto 4, 3) := by decide +kernel
theorem dX7_isRest_56 : decode cX7_isRest 56 = .ok (.iconst 0, 1) := by decide +kernel
theorem dX7_isRest_57 : decode cX7_isRest 57 = .ok (.istore 4, 2) := by decide +kernel
theorem dX7_isRest_59 : decode cX7_isRest 59 = .ok (.iinc 5 1, 3) := by decide +kernel
theorem dX7_isRest_62 : decode cX7_isRest 62 = .ok (.goto (-56), 3) := by decide +kernel
theorem dX7_isRest_65 : decode cX7_isRest 65 = .ok (.iload 4, 2) := by decide +kernel
theorem dX7_isRest_67 : decode cX7_isRest 67 = .ok (.ireturn, 1) := by decide +kernel
theorem dX7_rests_0 : decode cX7_rests 0 = .ok (.iload_n 1, 1) := by decide +kernel
theorem dX7_rests_1 : decode cX7_rests 1 = .ok (.i2l, 1) := by decide +kernel
theorem dX7_rests_2 : decode cX7_rests 2 = .ok (.lconst 0, 1) := by decide +kernel
theorem dX7_rests_3 : decode cX7_rests 3 = .ok (.ldc2_w 242, 3) := by decide +kernel
theorem dX7_rests_6 : decode cX7_rests 6 = .ok (.invokestatic 106, 3) := by decide +kernel
theorem dX7_rests_9 : decode cX7_rests 9 = .ok (.ifCond .ne 6, 3) := by decide +kernel
theorem dX7_rests_12 : decode cX7_rests 12 = .ok (.bipush (-2), 2) := by decide +kernel
theorem dX7_rests_14 : decode cX7_rests 14 = .ok (.ireturn, 1) := by decide +kernel
theorem dX7_rests_15 : decode cX7_rests 15 = .ok (.aload_n 0, 1) := by decide +kernel
theorem dX7_rests_16 : decode cX7_rests 16 = .ok (.invokevirtual 244, 3) := by decide +kernel
theorem dX7_rests_19 : decode cX7_rests 19 = .ok (.istore_n 3, 1) := by decide +kernel
theorem dX7_rests_20 : decode cX7_rests 20 = .ok (.iconst 0, 1) := by decide +kernel
theorem dX7_rests_21 : decode cX7_rests 21 = .ok (.istore 4, 2) := by decide +kernel
theorem dX7_rests_23 : decode cX7_rests 23 = .ok (.iconst 0, 1) := by decide +kernel
theorem dX7_rests_24 : decode cX7_rests 24 = .ok (.istore 5, 2) := by decide +kernel
theorem dX7_rests_26 : decode cX7_rests 26 = .ok (.iload 5, 2) := by decide +kernel
theorem dX7_rests_28 : decode cX7_rests 28 = .ok (.bipush 64, 2) := by decide +kernel
theorem dX7_rests_30 : decode cX7_rests 30 = .ok (.if_icmp .ge 41, 3) := by decide +kernel
theorem dX7_rests_33 : decode cX7_rests 33 = .ok (.iload 5, 2) := by decide +kernel
theorem dX7_rests_35 : decode cX7_rests 35 = .ok (.iload_n 3, 1) := by decide +kernel
theorem dX7_rests_36 : decode cX7_rests 36 = .ok (.iconst (-1), 1) := by decide +kernel
theorem dX7_rests_37 : decode cX7_rests 37 = .ok (.ixor, 1) := by decide +kernel
theorem dX7_rests_38 : decode cX7_rests 38 = .ok (.iand, 1) := by decide +kernel
theorem dX7_rests_39 : decode cX7_rests 39 = .ok (.ifCond .ne 26, 3) := by decide +kernel
theorem dX7_rests_42 : decode cX7_rests 42 = .ok (.aload_n 0, 1) := by decide +kernel
theorem dX7_rests_43 : decode cX7_rests 43 = .ok (.iload 5, 2) := by decide +kernel
theorem dX7_rests_45 : decode cX7_rests 45 = .ok (.iload_n 3, 1) := by decide +kernel
theorem dX7_rests_46 : decode cX7_rests 46 = .ok (.iload_n 1, 1) := by decide +kernel
theorem dX7_rests_47 : decode cX7_rests 47 = .ok (.invokevirtual 247, 3) := by decide +kernel
theorem dX7_rests_50 : decode cX7_rests 50 = .ok (.ifCond .eq 15, 3) := by decide +kernel
theorem dX7_rests_53 : decode cX7_rests 53 = .ok (.iload 4, 2) := by decide +kernel
theorem dX7_rests_55 : decode cX7_rests 55 = .ok (.iload_n 2, 1) := by decide +kernel
