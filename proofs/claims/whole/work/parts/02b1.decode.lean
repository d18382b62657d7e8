theorem dX5_run_13 : decode cX5_run 13 = .ok (.bipush (-5), 2) := by decide +kernel
theorem dX5_run_15 : decode cX5_run 15 = .ok (.ireturn, 1) := by decide +kernel
theorem dX5_run_16 : decode cX5_run 16 = .ok (.aload_n 0, 1) := by decide +kernel
theorem dX5_run_17 : decode cX5_run 17 = .ok (.aload_n 2, 1) := by decide +kernel
theorem dX5_run_18 : decode cX5_run 18 = .ok (.invokevirtual 32, 3) := by decide +kernel
theorem dX5_run_21 : decode cX5_run 21 = .ok (.iconst 0, 1) := by decide +kernel
theorem dX5_run_22 : decode cX5_run 22 = .ok (.istore_n 3, 1) := by decide +kernel
theorem dX5_run_23 : decode cX5_run 23 = .ok (.iload_n 3, 1) := by decide +kernel
theorem dX5_run_24 : decode cX5_run 24 = .ok (.aload_n 1, 1) := by decide +kernel
theorem dX5_run_25 : decode cX5_run 25 = .ok (.getfield 36, 3) := by decide +kernel
theorem dX5_run_28 : decode cX5_run 28 = .ok (.if_icmp .ge 98, 3) := by decide +kernel
theorem dX5_run_31 : decode cX5_run 31 = .ok (.aload_n 0, 1) := by decide +kernel
theorem dX5_run_32 : decode cX5_run 32 = .ok (.getfield 37, 3) := by decide +kernel
theorem dX5_run_35 : decode cX5_run 35 = .ok (.ifCond .ne 91, 3) := by decide +kernel
theorem dX5_run_38 : decode cX5_run 38 = .ok (.aload_n 1, 1) := by decide +kernel
theorem dX5_run_39 : decode cX5_run 39 = .ok (.iload_n 3, 1) := by decide +kernel
theorem dX5_run_40 : decode cX5_run 40 = .ok (.invokevirtual 40, 3) := by decide +kernel
theorem dX5_run_43 : decode cX5_run 43 = .ok (.istore 4, 2) := by decide +kernel
theorem dX5_run_45 : decode cX5_run 45 = .ok (.iload 4, 2) := by decide +kernel
theorem dX5_run_47 : decode cX5_run 47 = .ok (.bipush 46, 2) := by decide +kernel
theorem dX5_run_49 : decode cX5_run 49 = .ok (.if_icmp .ne 10, 3) := by decide +kernel
theorem dX5_run_52 : decode cX5_run 52 = .ok (.aload_n 0, 1) := by decide +kernel
theorem dX5_run_53 : decode cX5_run 53 = .ok (.invokevirtual 43, 3) := by decide +kernel
theorem dX5_run_56 : decode cX5_run 56 = .ok (.goto 47, 3) := by decide +kernel
theorem dX5_run_59 : decode cX5_run 59 = .ok (.iload 4, 2) := by decide +kernel
theorem dX5_run_61 : decode cX5_run 61 = .ok (.invokestatic 46, 3) := by decide +kernel
theorem dX5_run_64 : decode cX5_run 64 = .ok (.ifCond .eq 18, 3) := by decide +kernel
theorem dX5_run_67 : decode cX5_run 67 = .ok (.aload_n 0, 1) := by decide +kernel
theorem dX5_run_68 : decode cX5_run 68 = .ok (.getfield 12, 3) := by decide +kernel
theorem dX5_run_71 : decode cX5_run 71 = .ok (.iload 4, 2) := by decide +kernel
theorem dX5_run_73 : decode cX5_run 73 = .ok (.bipush 65, 2) := by decide +kernel
theorem dX5_run_75 : decode cX5_run 75 = .ok (.isub, 1) := by decide +kernel
theorem dX5_run_76 : decode cX5_run 76 = .ok (.invokevirtual 50, 3) := by decide +kernel
theorem dX5_run_79 : decode cX5_run 79 = .ok (.goto 24, 3) := by decide +kernel
theorem dX5_run_82 : decode cX5_run 82 = .ok (.aload_n 0, 1) := by decide +kernel
theorem dX5_run_83 : decode cX5_run 83 = .ok (.aload_n 0, 1) := by decide +kernel
theorem dX5_run_84 : decode cX5_run 84 = .ok (.iload 4, 2) := by decide +kernel
theorem dX5_run_86 : decode cX5_run 86 = .ok (.bipush 48, 2) := by decide +kernel
theorem dX5_run_88 : decode cX5_run 88 = .ok (.isub, 1) := by decide +kernel
theorem dX5_run_89 : decode cX5_run 89 = .ok (.aload_n 1, 1) := by decide +kernel
theorem dX5_run_90 : decode cX5_run 90 = .ok (.iinc 3 1, 3) := by decide +kernel
theorem dX5_run_93 : decode cX5_run 93 = .ok (.iload_n 3, 1) := by decide +kernel
theorem dX5_run_94 : decode cX5_run 94 = .ok (.invokevirtual 40, 3) := by decide +kernel
theorem dX5_run_97 : decode cX5_run 97 = .ok (.invokevirtual 54, 3) := by decide +kernel
theorem dX5_run_100 : decode cX5_run 100 = .ok (.putfield 37, 3) := by decide +kernel
theorem dX5_run_103 : decode cX5_run 103 = .ok (.aload_n 0, 1) := by decide +kernel
theorem dX5_run_104 : decode cX5_run 104 = .ok (.getfield 37, 3) := by decide +kernel
theorem dX5_run_107 : decode cX5_run 107 = .ok (.ifCond .ne 13, 3) := by decide +kernel
theorem dX5_run_110 : decode cX5_run 110 = .ok (.aload_n 0, 1) := by decide +kernel
theorem dX5_run_111 : decode cX5_run 111 = .ok (.dup, 1) := by decide +kernel
theorem dX5_run_112 : decode cX5_run 112 = .ok (.getfield 58, 3) := by decide +kernel
theorem dX5_run_115 : decode cX5_run 115 = .ok (.iconst 1, 1) := by decide +kernel
theorem dX5_run_116 : decode cX5_run 116 = .ok (.iadd, 1) := by decide +kernel
theorem dX5_run_117 : decode cX5_run 117 = .ok (.putfield 58, 3) := by decide +kernel
theorem dX5_run_120 : decode cX5_run 120 = .ok (.iinc 3 1, 3) := by decide +kernel
theorem dX5_run_123 : decode cX5_run 123 = .ok (.goto (-100), 3) := by decide +kernel
theorem dX5_run_126 : decode cX5_run 126 = .ok (.aload_n 0, 1) := by decide +kernel
theorem dX5_run_127 : decode cX5_run 127 = .ok (.getfield 37, 3) := by decide +kernel
theorem dX5_run_130 : decode cX5_run 130 = .ok (.ifCond .ne 7, 3) := by decide +kernel
theorem dX5_run_133 : decode cX5_run 133 = .ok (.iconst 0, 1) := by decide +kernel
theorem dX5_run_134 : decode cX5_run 134 = .ok (.goto 5, 3) := by decide +kernel
theorem dX5_run_137 : decode cX5_run 137 = .ok (.bipush (-3), 2) := by decide +kernel
theorem dX5_run_139 : decode cX5_run 139 = .ok (.ireturn, 1) := by decide +kernel
theorem dX5_startFrom_0 : decode cX5_startFrom 0 = .ok (.aload_n 0, 1) := by decide +kernel
theorem dX5_startFrom_1 : decode cX5_startFrom 1 = .ok (.getfield 12, 3) := by decide +kernel
theorem dX5_startFrom_4 : decode cX5_startFrom 4 = .ok (.aload_n 1, 1) := by decide +kernel
theorem dX5_startFrom_5 : decode cX5_startFrom 5 = .ok (.invokevirtual 61, 3) := by decide +kernel
theorem dX5_startFrom_8 : decode cX5_startFrom 8 = .ok (.aload_n 0, 1) := by decide +kernel
theorem dX5_startFrom_9 : decode cX5_startFrom 9 = .ok (.iconst 0, 1) := by decide +kernel
theorem dX5_startFrom_10 : decode cX5_startFrom 10 = .ok (.putfield 58, 3) := by decide +kernel
theorem dX5_startFrom_13 : decode cX5_startFrom 13 = .ok (.aload_n 0, 1) := by decide +kernel
theorem dX5_startFrom_14 : decode cX5_startFrom 14 = .ok (.iconst 0, 1) := by decide +kernel
theorem dX5_startFrom_15 : decode cX5_startFrom 15 = .ok (.putfield 64, 3) := by decide +kernel
theorem dX5_startFrom_18 : decode cX5_startFrom 18 = .ok (.aload_n 0, 1) := by decide +kernel
theorem dX5_startFrom_19 : decode cX5_startFrom 19 = .ok (.iconst 0, 1) := by decide +kernel
theorem dX5_startFrom_20 : decode cX5_startFrom 20 = .ok (.putfield 67, 3) := by decide +kernel
theorem dX5_startFrom_23 : decode cX5_startFrom 23 = .ok (.aload_n 0, 1) := by decide +kernel
theorem dX5_startFrom_24 : decode cX5_startFrom 24 = .ok (.iconst 0, 1) := by decide +kernel
theorem dX5_startFrom_25 : decode cX5_startFrom 25 = .ok (.putfield 37, 3) := by decide +kernel
theorem dX5_startFrom_28 : decode cX5_startFrom 28 = .ok (.iconst 0, 1) := by decide +kernel
theorem dX5_startFrom_29 : decode cX5_startFrom 29 = .ok (.istore_n 2, 1) := by decide +kernel
theorem dX5_startFrom_30 : decode cX5_startFrom 30 = .ok (.iload_n 2, 1) := by decide +kernel
theorem dX5_startFrom_31 : decode cX5_startFrom 31 = .ok (.bipush 7, 2) := by decide +kernel
theorem dX5_startFrom_33 : decode cX5_startFrom 33 = .ok (.if_icmp .ge 36, 3) := by decide +kernel
theorem dX5_startFrom_36 : decode cX5_startFrom 36 = .ok (.aload_n 0, 1) := by decide +kernel
theorem dX5_startFrom_37 : decode cX5_startFrom 37 = .ok (.getfield 18, 3) := by decide +kernel
theorem dX5_startFrom_40 : decode cX5_startFrom 40 = .ok (.iload_n 2, 1) := by decide +kernel
theorem dX5_startFrom_41 : decode cX5_startFrom 41 = .ok (.aload_n 0, 1) := by decide +kernel
theorem dX5_startFrom_42 : decode cX5_startFrom 42 = .ok (.getfield 12, 3) := by decide +kernel
theorem dX5_startFrom_45 : decode cX5_startFrom 45 = .ok (.iload_n 2, 1) := by decide +kernel
theorem dX5_startFrom_46 : decode cX5_startFrom 46 = .ok (.iconst 4, 1) := by decide +kernel
theorem dX5_startFrom_47 : decode cX5_startFrom 47 = .ok (.invokevirtual 70, 3) := by decide +kernel
theorem dX5_startFrom_50 : decode cX5_startFrom 50 = .ok (.iconst 1, 1) := by decide +kernel
theorem dX5_startFrom_51 : decode cX5_startFrom 51 = .ok (.if_icmp .ne 7, 3) := by decide +kernel
theorem dX5_startFrom_54 : decode cX5_startFrom 54 = .ok (.iconst 0, 1) := by decide +kernel
theorem dX5_startFrom_55 : decode cX5_startFrom 55 = .ok (.goto 5, 3) := by decide +kernel
theorem dX5_startFrom_58 : decode cX5_startFrom 58 = .ok (.bipush (-6), 2) := by decide +kernel
theorem dX5_startFrom_60 : decode cX5_startFrom 60 = .ok (.invokestatic 73, 3) := by decide +kernel
theorem dX5_startFrom_63 : decode cX5_startFrom 63 = .ok (.iinc 2 1, 3) := by decide +kernel
theorem dX5_startFrom_66 : decode cX5_startFrom 66 = .ok (.goto (-36), 3) := by decide +kernel
theorem dX5_startFrom_69 : decode cX5_startFrom 69 = .ok (.return_, 1) := by decide +kernel
theorem dX5_spendHour_0 : decode cX5_spendHour 0 = .ok (.aload_n 0, 1) := by decide +kernel
theorem dX5_spendHour_1 : decode cX5_spendHour 1 = .ok (.dup, 1) := by decide +kernel
theorem dX5_spendHour_2 : decode cX5_spendHour 2 = .ok (.getfield 64, 3) := by decide +kernel
theorem dX5_spendHour_5 : decode cX5_spendHour 5 = .ok (.iconst 1, 1) := by decide +kernel
theorem dX5_spendHour_6 : decode cX5_spendHour 6 = .ok (.iadd, 1) := by decide +kernel
theorem dX5_spendHour_7 : decode cX5_spendHour 7 = .ok (.putfield 64, 3) := by decide +kernel
theorem dX5_spendHour_10 : decode cX5_spendHour 10 = .ok (.aload_n 0, 1) := by decide +kernel
theorem dX5_spendHour_11 : decode cX5_spendHour 11 = .ok (.getfield 12, 3) := by decide +kernel
theorem dX5_spendHour_14 : decode cX5_spendHour 14 = .ok (.invokevirtual 77, 3) := by decide +kernel
theorem dX5_spendHour_17 : decode cX5_spendHour 17 = .ok (.istore_n 1, 1) := by decide +kernel
theorem dX5_spendHour_18 : decode cX5_spendHour 18 = .ok (.aload_n 0, 1) := by decide +kernel
theorem dX5_spendHour_19 : decode cX5_spendHour 19 = .ok (.dup, 1) := by decide +kernel
theorem dX5_spendHour_20 : decode cX5_spendHour 20 = .ok (.getfield 67, 3) := by decide +kernel
theorem dX5_spendHour_23 : decode cX5_spendHour 23 = .ok (.iload_n 1, 1) := by decide +kernel
theorem dX5_spendHour_24 : decode cX5_spendHour 24 = .ok (.invokestatic 81, 3) := by decide +kernel
theorem dX5_spendHour_27 : decode cX5_spendHour 27 = .ok (.iadd, 1) := by decide +kernel
theorem dX5_spendHour_28 : decode cX5_spendHour 28 = .ok (.putfield 67, 3) := by decide +kernel
theorem dX5_spendHour_31 : decode cX5_spendHour 31 = .ok (.iconst 0, 1) := by decide +kernel
theorem dX5_spendHour_32 : decode cX5_spendHour 32 = .ok (.istore_n 2, 1) := by decide +kernel
theorem dX5_spendHour_33 : decode cX5_spendHour 33 = .ok (.iload_n 2, 1) := by decide +kernel
theorem dX5_spendHour_34 : decode cX5_spendHour 34 = .ok (.bipush 7, 2) := by decide +kernel
theorem dX5_spendHour_36 : decode cX5_spendHour 36 = .ok (.if_icmp .ge 29, 3) := by decide +kernel
theorem dX5_spendHour_39 : decode cX5_spendHour 39 = .ok (.iload_n 1, 1) := by decide +kernel
theorem dX5_spendHour_40 : decode cX5_spendHour 40 = .ok (.iload_n 2, 1) := by decide +kernel
theorem dX5_spendHour_41 : decode cX5_spendHour 41 = .ok (.invokestatic 86, 3) := by decide +kernel
theorem dX5_spendHour_44 : decode cX5_spendHour 44 = .ok (.ifCond .eq 15, 3) := by decide +kernel
theorem dX5_spendHour_47 : decode cX5_spendHour 47 = .ok (.aload_n 0, 1) := by decide +kernel
theorem dX5_spendHour_48 : decode cX5_spendHour 48 = .ok (.getfield 18, 3) := by decide +kernel
theorem dX5_spendHour_51 : decode cX5_spendHour 51 = .ok (.iload_n 2, 1) := by decide +kernel
theorem dX5_spendHour_52 : decode cX5_spendHour 52 = .ok (.aload_n 0, 1) := by decide +kernel
theorem dX5_spendHour_53 : decode cX5_spendHour 53 = .ok (.getfield 64, 3) := by decide +kernel
theorem dX5_spendHour_56 : decode cX5_spendHour 56 = .ok (.invokestatic 73, 3) := by decide +kernel
theorem dX5_spendHour_59 : decode cX5_spendHour 59 = .ok (.iinc 2 1, 3) := by decide +kernel
theorem dX5_spendHour_62 : decode cX5_spendHour 62 = .ok (.goto (-29), 3) := by decide +kernel
theorem dX5_spendHour_65 : decode cX5_spendHour 65 = .ok (.return_, 1) := by decide +kernel
theorem dX5_handle_0 : decode cX5_handle 0 = .ok (.aload_n 0, 1) := by decide +kernel
theorem dX5_handle_1 : decode cX5_handle 1 = .ok (.getfield 12, 3) := by decide +kernel
theorem dX5_handle_4 : decode cX5_handle 4 = .ok (.iload_n 1, 1) := by decide +kernel
theorem dX5_handle_5 : decode cX5_handle 5 = .ok (.iconst 4, 1) := by decide +kernel
theorem dX5_handle_6 : decode cX5_handle 6 = .ok (.invokevirtual 70, 3) := by decide +kernel
theorem dX5_handle_9 : decode cX5_handle 9 = .ok (.istore_n 3, 1) := by decide +kernel
theorem dX5_handle_10 : decode cX5_handle 10 = .ok (.iload_n 3, 1) := by decide +kernel
theorem dX5_handle_11 : decode cX5_handle 11 = .ok (.iconst 1, 1) := by decide +kernel
theorem dX5_handle_12 : decode cX5_handle 12 = .ok (.if_icmp .ne 5, 3) := by decide +kernel
theorem dX5_handle_15 : decode cX5_handle 15 = .ok (.iconst 1, 1) := by decide +kernel
theorem dX5_handle_16 : decode cX5_handle 16 = .ok (.ireturn, 1) := by decide +kernel
theorem dX5_handle_17 : decode cX5_handle 17 = .ok (.iload_n 3, 1) := by decide +kernel
theorem dX5_handle_18 : decode cX5_handle 18 = .ok (.iconst 2, 1) := by decide +kernel
theorem dX5_handle_19 : decode cX5_handle 19 = .ok (.if_icmp .ne 11, 3) := by decide +kernel
theorem dX5_handle_22 : decode cX5_handle 22 = .ok (.iload_n 2, 1) := by decide +kernel
theorem dX5_handle_23 : decode cX5_handle 23 = .ok (.bipush 43, 2) := by decide +kernel
theorem dX5_handle_25 : decode cX5_handle 25 = .ok (.if_icmp .eq 5, 3) := by decide +kernel
theorem dX5_handle_28 : decode cX5_handle 28 = .ok (.iconst 2, 1) := by decide +kernel
theorem dX5_handle_29 : decode cX5_handle 29 = .ok (.ireturn, 1) := by decide +kernel
theorem dX5_handle_30 : decode cX5_handle 30 = .ok (.iload_n 3, 1) := by decide +kernel
theorem dX5_handle_31 : decode cX5_handle 31 = .ok (.ifCond .ne 11, 3) := by decide +kernel
theorem dX5_handle_34 : decode cX5_handle 34 = .ok (.iload_n 2, 1) := by decide +kernel
theorem dX5_handle_35 : decode cX5_handle 35 = .ok (.bipush 43, 2) := by decide +kernel
theorem dX5_handle_37 : decode cX5_handle 37 = .ok (.if_icmp .ne 5, 3) := by decide +kernel
theorem dX5_handle_40 : decode cX5_handle 40 = .ok (.iconst 3, 1) := by decide +kernel
theorem dX5_handle_41 : decode cX5_handle 41 = .ok (.ireturn, 1) := by decide +kernel
theorem dX5_handle_42 : decode cX5_handle 42 = .ok (.iload_n 2, 1) := by decide +kernel
theorem dX5_handle_43 : decode cX5_handle 43 = .ok (.bipush 43, 2) := by decide +kernel
theorem dX5_handle_45 : decode cX5_handle 45 = .ok (.if_icmp .ne 25, 3) := by decide +kernel
theorem dX5_handle_48 : decode cX5_handle 48 = .ok (.aload_n 0, 1) := by decide +kernel
theorem dX5_handle_49 : decode cX5_handle 49 = .ok (.getfield 12, 3) := by decide +kernel
theorem dX5_handle_52 : decode cX5_handle 52 = .ok (.iload_n 1, 1) := by decide +kernel
theorem dX5_handle_53 : decode cX5_handle 53 = .ok (.iconst 4, 1) := by decide +kernel
theorem dX5_handle_54 : decode cX5_handle 54 = .ok (.iconst 1, 1) := by decide +kernel
theorem dX5_handle_55 : decode cX5_handle 55 = .ok (.invokevirtual 90, 3) := by decide +kernel
theorem dX5_handle_58 : decode cX5_handle 58 = .ok (.aload_n 0, 1) := by decide +kernel
theorem dX5_handle_59 : decode cX5_handle 59 = .ok (.getfield 18, 3) := by decide +kernel
theorem dX5_handle_62 : decode cX5_handle 62 = .ok (.iload_n 1, 1) := by decide +kernel
theorem dX5_handle_63 : decode cX5_handle 63 = .ok (.iconst 0, 1) := by decide +kernel
theorem dX5_handle_64 : decode cX5_handle 64 = .ok (.invokestatic 73, 3) := by decide +kernel
theorem dX5_handle_67 : decode cX5_handle 67 = .ok (.goto 35, 3) := by decide +kernel
theorem dX5_handle_70 : decode cX5_handle 70 = .ok (.iload_n 2, 1) := by decide +kernel
theorem dX5_handle_71 : decode cX5_handle 71 = .ok (.bipush 33, 2) := by decide +kernel
theorem dX5_handle_73 : decode cX5_handle 73 = .ok (.if_icmp .ne 16, 3) := by decide +kernel
theorem dX5_handle_76 : decode cX5_handle 76 = .ok (.aload_n 0, 1) := by decide +kernel
theorem dX5_handle_77 : decode cX5_handle 77 = .ok (.getfield 12, 3) := by decide +kernel
theorem dX5_handle_80 : decode cX5_handle 80 = .ok (.iload_n 1, 1) := by decide +kernel
theorem dX5_handle_81 : decode cX5_handle 81 = .ok (.iconst 4, 1) := by decide +kernel
theorem dX5_handle_82 : decode cX5_handle 82 = .ok (.iconst 2, 1) := by decide +kernel
theorem dX5_handle_83 : decode cX5_handle 83 = .ok (.invokevirtual 90, 3) := by decide +kernel
theorem dX5_handle_86 : decode cX5_handle 86 = .ok (.goto 16, 3) := by decide +kernel
theorem dX5_handle_89 : decode cX5_handle 89 = .ok (.aload_n 0, 1) := by decide +kernel
theorem dX5_handle_90 : decode cX5_handle 90 = .ok (.getfield 12, 3) := by decide +kernel
theorem dX5_handle_93 : decode cX5_handle 93 = .ok (.iload_n 1, 1) := by decide +kernel
theorem dX5_handle_94 : decode cX5_handle 94 = .ok (.iconst 3, 1) := by decide +kernel
theorem dX5_handle_95 : decode cX5_handle 95 = .ok (.iload_n 2, 1) := by decide +kernel
theorem dX5_handle_96 : decode cX5_handle 96 = .ok (.bipush 65, 2) := by decide +kernel
theorem dX5_handle_98 : decode cX5_handle 98 = .ok (.isub, 1) := by decide +kernel
theorem dX5_handle_99 : decode cX5_handle 99 = .ok (.invokevirtual 90, 3) := by decide +kernel
theorem dX5_handle_102 : decode cX5_handle 102 = .ok (.iconst 0, 1) := by decide +kernel
theorem dX5_handle_103 : decode cX5_handle 103 = .ok (.ireturn, 1) := by decide +kernel
theorem dX6_init_0 : decode cX6_init 0 = .ok (.aload_n 0, 1) := by decide +kernel
theorem dX6_init_1 : decode cX6_init 1 = .ok (.invokespecial 1, 3) := by decide +kernel
theorem dX6_init_4 : decode cX6_init 4 = .ok (.aload_n 0, 1) := by decide +kernel
theorem dX6_init_5 : decode cX6_init 5 = .ok (.new 7, 3) := by decide +kernel
theorem dX6_init_8 : decode cX6_init 8 = .ok (.dup, 1) := by decide +kernel
theorem dX6_init_9 : decode cX6_init 9 = .ok (.invokespecial 9, 3) := by decide +kernel
theorem dX6_init_12 : decode cX6_init 12 = .ok (.putfield 10, 3) := by decide +kernel
theorem dX6_init_15 : decode cX6_init 15 = .ok (.aload_n 0, 1) := by decide +kernel
theorem dX6_init_16 : decode cX6_init 16 = .ok (.new 7, 3) := by decide +kernel
theorem dX6_init_19 : decode cX6_init 19 = .ok (.dup, 1) := by decide +kernel
theorem dX6_init_20 : decode cX6_init 20 = .ok (.invokespecial 9, 3) := by decide +kernel
theorem dX6_init_23 : decode cX6_init 23 = .ok (.putfield 16, 3) := by decide +kernel
theorem dX6_init_26 : decode cX6_init 26 = .ok (.aload_n 0, 1) := by decide +kernel
theorem dX6_init_27 : decode cX6_init 27 = .ok (.new 7, 3) := by decide +kernel
theorem dX6_init_30 : decode cX6_init 30 = .ok (.dup, 1) := by decide +kernel
theorem dX6_init_31 : decode cX6_init 31 = .ok (.invokespecial 9, 3) := by decide +kernel
theorem dX6_init_34 : decode cX6_init 34 = .ok (.putfield 19, 3) := by decide +kernel
theorem dX6_init_37 : decode cX6_init 37 = .ok (.aload_n 0, 1) := by decide +kernel
theorem dX6_init_38 : decode cX6_init 38 = .ok (.new 22, 3) := by decide +kernel
theorem dX6_init_41 : decode cX6_init 41 = .ok (.dup, 1) := by decide +kernel
theorem dX6_init_42 : decode cX6_init 42 = .ok (.invokespecial 24, 3) := by decide +kernel
theorem dX6_init_45 : decode cX6_init 45 = .ok (.putfield 25, 3) := by decide +kernel
theorem dX6_init_48 : decode cX6_init 48 = .ok (.aload_n 0, 1) := by decide +kernel
theorem dX6_init_49 : decode cX6_init 49 = .ok (.new 29, 3) := by decide +kernel
theorem dX6_init_52 : decode cX6_init 52 = .ok (.dup, 1) := by decide +kernel
theorem dX6_init_53 : decode cX6_init 53 = .ok (.invokespecial 31, 3) := by decide +kernel
theorem dX6_init_56 : decode cX6_init 56 = .ok (.putfield 32, 3) := by decide +kernel
theorem dX6_init_59 : decode cX6_init 59 = .ok (.aload_n 0, 1) := by decide +kernel
theorem dX6_init_60 : decode cX6_init 60 = .ok (.new 36, 3) := by decide +kernel
theorem dX6_init_63 : decode cX6_init 63 = .ok (.dup, 1) := by decide +kernel
theorem dX6_init_64 : decode cX6_init 64 = .ok (.invokespecial 38, 3) := by decide +kernel
theorem dX6_init_67 : decode cX6_init 67 = .ok (.putfield 39, 3) := by decide +kernel
theorem dX6_init_70 : decode cX6_init 70 = .ok (.aload_n 0, 1) := by decide +kernel
theorem dX6_init_71 : decode cX6_init 71 = .ok (.new 43, 3) := by decide +kernel
theorem dX6_init_74 : decode cX6_init 74 = .ok (.dup, 1) := by decide +kernel
theorem dX6_init_75 : decode cX6_init 75 = .ok (.invokespecial 45, 3) := by decide +kernel
theorem dX6_init_78 : decode cX6_init 78 = .ok (.putfield 46, 3) := by decide +kernel
theorem dX6_init_81 : decode cX6_init 81 = .ok (.aload_n 0, 1) := by decide +kernel
theorem dX6_init_82 : decode cX6_init 82 = .ok (.getfield 10, 3) := by decide +kernel
theorem dX6_init_85 : decode cX6_init 85 = .ok (.getfield 50, 3) := by decide +kernel
theorem dX6_init_88 : decode cX6_init 88 = .ok (.iconst 4, 1) := by decide +kernel
theorem dX6_init_89 : decode cX6_init 89 = .ok (.invokevirtual 53, 3) := by decide +kernel
theorem dX6_init_92 : decode cX6_init 92 = .ok (.return_, 1) := by decide +kernel
theorem dX6_eggs_0 : decode cX6_eggs 0 = .ok (.iload_n 1, 1) := by decide +kernel
theorem dX6_eggs_1 : decode cX6_eggs 1 = .ok (.iconst 1, 1) := by decide +kernel
theorem dX6_eggs_2 : decode cX6_eggs 2 = .ok (.bipush 7, 2) := by decide +kernel
theorem dX6_eggs_4 : decode cX6_eggs 4 = .ok (.invokestatic 57, 3) := by decide +kernel
theorem dX6_eggs_7 : decode cX6_eggs 7 = .ok (.ifCond .ne 6, 3) := by decide +kernel
theorem dX6_eggs_10 : decode cX6_eggs 10 = .ok (.bipush (-2), 2) := by decide +kernel
theorem dX6_eggs_12 : decode cX6_eggs 12 = .ok (.ireturn, 1) := by decide +kernel
theorem dX6_eggs_13 : decode cX6_eggs 13 = .ok (.aload_n 0, 1) := by decide +kernel
theorem dX6_eggs_14 : decode cX6_eggs 14 = .ok (.getfield 10, 3) := by decide +kernel
theorem dX6_eggs_17 : decode cX6_eggs 17 = .ok (.getfield 50, 3) := by decide +kernel
theorem dX6_eggs_20 : decode cX6_eggs 20 = .ok (.getfield 61, 3) := by decide +kernel
theorem dX6_eggs_23 : decode cX6_eggs 23 = .ok (.istore_n 2, 1) := by decide +kernel
theorem dX6_eggs_24 : decode cX6_eggs 24 = .ok (.aload_n 0, 1) := by decide +kernel
theorem dX6_eggs_25 : decode cX6_eggs 25 = .ok (.getfield 10, 3) := by decide +kernel
theorem dX6_eggs_28 : decode cX6_eggs 28 = .ok (.getfield 50, 3) := by decide +kernel
theorem dX6_eggs_31 : decode cX6_eggs 31 = .ok (.iload_n 1, 1) := by decide +kernel
theorem dX6_eggs_32 : decode cX6_eggs 32 = .ok (.invokevirtual 53, 3) := by decide +kernel
theorem dX6_eggs_35 : decode cX6_eggs 35 = .ok (.aload_n 0, 1) := by decide +kernel
theorem dX6_eggs_36 : decode cX6_eggs 36 = .ok (.getfield 10, 3) := by decide +kernel
theorem dX6_eggs_39 : decode cX6_eggs 39 = .ok (.getfield 65, 3) := by decide +kernel
theorem dX6_eggs_42 : decode cX6_eggs 42 = .ok (.iconst 0, 1) := by decide +kernel
theorem dX6_eggs_43 : decode cX6_eggs 43 = .ok (.putfield 69, 3) := by decide +kernel
theorem dX6_eggs_46 : decode cX6_eggs 46 = .ok (.aload_n 0, 1) := by decide +kernel
theorem dX6_eggs_47 : decode cX6_eggs 47 = .ok (.getfield 10, 3) := by decide +kernel
theorem dX6_eggs_50 : decode cX6_eggs 50 = .ok (.getfield 65, 3) := by decide +kernel
theorem dX6_eggs_53 : decode cX6_eggs 53 = .ok (.iconst 0, 1) := by decide +kernel
theorem dX6_eggs_54 : decode cX6_eggs 54 = .ok (.putfield 74, 3) := by decide +kernel
theorem dX6_eggs_57 : decode cX6_eggs 57 = .ok (.iload_n 2, 1) := by decide +kernel
theorem dX6_eggs_58 : decode cX6_eggs 58 = .ok (.ireturn, 1) := by decide +kernel
theorem dX6_egg_0 : decode cX6_egg 0 = .ok (.aload_n 0, 1) := by decide +kernel
theorem dX6_egg_1 : decode cX6_egg 1 = .ok (.getfield 10, 3) := by decide +kernel
theorem dX6_egg_4 : decode cX6_egg 4 = .ok (.getfield 50, 3) := by decide +kernel
theorem dX6_egg_7 : decode cX6_egg 7 = .ok (.iload_n 1, 1) := by decide +kernel
theorem dX6_egg_8 : decode cX6_egg 8 = .ok (.invokevirtual 77, 3) := by decide +kernel
theorem dX6_egg_11 : decode cX6_egg 11 = .ok (.ifCond .ne 5, 3) := by decide +kernel
theorem dX6_egg_14 : decode cX6_egg 14 = .ok (.iconst (-1), 1) := by decide +kernel
theorem dX6_egg_15 : decode cX6_egg 15 = .ok (.ireturn, 1) := by decide +kernel
theorem dX6_egg_16 : decode cX6_egg 16 = .ok (.iload_n 2, 1) := by decide +kernel
theorem dX6_egg_17 : decode cX6_egg 17 = .ok (.iload_n 3, 1) := by decide +kernel
theorem dX6_egg_18 : decode cX6_egg 18 = .ok (.invokestatic 81, 3) := by decide +kernel
theorem dX6_egg_21 : decode cX6_egg 21 = .ok (.ifCond .ne 6, 3) := by decide +kernel
theorem dX6_egg_24 : decode cX6_egg 24 = .ok (.bipush (-2), 2) := by decide +kernel
theorem dX6_egg_26 : decode cX6_egg 26 = .ok (.ireturn, 1) := by decide +kernel
theorem dX6_egg_27 : decode cX6_egg 27 = .ok (.iload_n 2, 1) := by decide +kernel
theorem dX6_egg_28 : decode cX6_egg 28 = .ok (.iconst 1, 1) := by decide +kernel
theorem dX6_egg_29 : decode cX6_egg 29 = .ok (.if_icmp .ne 20, 3) := by decide +kernel
theorem dX6_egg_32 : decode cX6_egg 32 = .ok (.aload_n 0, 1) := by decide +kernel
theorem dX6_egg_33 : decode cX6_egg 33 = .ok (.getfield 10, 3) := by decide +kernel
theorem dX6_egg_36 : decode cX6_egg 36 = .ok (.getfield 50, 3) := by decide +kernel
theorem dX6_egg_39 : decode cX6_egg 39 = .ok (.iload_n 1, 1) := by decide +kernel
theorem dX6_egg_40 : decode cX6_egg 40 = .ok (.invokevirtual 85, 3) := by decide +kernel
theorem dX6_egg_43 : decode cX6_egg 43 = .ok (.ifCond .ne 6, 3) := by decide +kernel
theorem dX6_egg_46 : decode cX6_egg 46 = .ok (.bipush (-3), 2) := by decide +kernel
theorem dX6_egg_48 : decode cX6_egg 48 = .ok (.ireturn, 1) := by decide +kernel
theorem dX6_egg_49 : decode cX6_egg 49 = .ok (.aload_n 0, 1) := by decide +kernel
theorem dX6_egg_50 : decode cX6_egg 50 = .ok (.getfield 10, 3) := by decide +kernel
theorem dX6_egg_53 : decode cX6_egg 53 = .ok (.getfield 50, 3) := by decide +kernel
theorem dX6_egg_56 : decode cX6_egg 56 = .ok (.iload_n 1, 1) := by decide +kernel
theorem dX6_egg_57 : decode cX6_egg 57 = .ok (.iload_n 2, 1) := by decide +kernel
theorem dX6_egg_58 : decode cX6_egg 58 = .ok (.invokevirtual 88, 3) := by decide +kernel
theorem dX6_egg_61 : decode cX6_egg 61 = .ok (.istore 4, 2) := by decide +kernel
theorem dX6_egg_63 : decode cX6_egg 63 = .ok (.aload_n 0, 1) := by decide +kernel
theorem dX6_egg_64 : decode cX6_egg 64 = .ok (.getfield 10, 3) := by decide +kernel
theorem dX6_egg_67 : decode cX6_egg 67 = .ok (.getfield 50, 3) := by decide +kernel
theorem dX6_egg_70 : decode cX6_egg 70 = .ok (.iload_n 1, 1) := by decide +kernel
theorem dX6_egg_71 : decode cX6_egg 71 = .ok (.iload_n 2, 1) := by decide +kernel
theorem dX6_egg_72 : decode cX6_egg 72 = .ok (.iload_n 3, 1) := by decide +kernel
theorem dX6_egg_73 : decode cX6_egg 73 = .ok (.invokevirtual 92, 3) := by decide +kernel
theorem dX6_egg_76 : decode cX6_egg 76 = .ok (.iload 4, 2) := by decide +kernel
theorem dX6_egg_78 : decode cX6_egg 78 = .ok (.ireturn, 1) := by decide +kernel
theorem dX6_stove_0 : decode cX6_stove 0 = .ok (.iload_n 1, 1) := by decide +kernel
theorem dX6_stove_1 : decode cX6_stove 1 = .ok (.iconst 0, 1) := by decide +kernel
theorem dX6_stove_2 : decode cX6_stove 2 = .ok (.iconst 5, 1) := by decide +kernel
theorem dX6_stove_3 : decode cX6_stove 3 = .ok (.invokestatic 57, 3) := by decide +kernel
theorem dX6_stove_6 : decode cX6_stove 6 = .ok (.ifCond .ne 5, 3) := by decide +kernel
theorem dX6_stove_9 : decode cX6_stove 9 = .ok (.iconst (-1), 1) := by decide +kernel
theorem dX6_stove_10 : decode cX6_stove 10 = .ok (.ireturn, 1) := by decide +kernel
theorem dX6_stove_11 : decode cX6_stove 11 = .ok (.aload_n 0, 1) := by decide +kernel
theorem dX6_stove_12 : decode cX6_stove 12 = .ok (.getfield 10, 3) := by decide +kernel
theorem dX6_stove_15 : decode cX6_stove 15 = .ok (.getfield 50, 3) := by decide +kernel
theorem dX6_stove_18 : decode cX6_stove 18 = .ok (.getfield 96, 3) := by decide +kernel
theorem dX6_stove_21 : decode cX6_stove 21 = .ok (.iload_n 1, 1) := by decide +kernel
theorem dX6_stove_22 : decode cX6_stove 22 = .ok (.invokestatic 99, 3) := by decide +kernel
theorem dX6_stove_25 : decode cX6_stove 25 = .ok (.iload_n 2, 1) := by decide +kernel
theorem dX6_stove_26 : decode cX6_stove 26 = .ok (.if_icmp .eq 14, 3) := by decide +kernel
theorem dX6_stove_29 : decode cX6_stove 29 = .ok (.aload_n 0, 1) := by decide +kernel
theorem dX6_stove_30 : decode cX6_stove 30 = .ok (.getfield 10, 3) := by decide +kernel
theorem dX6_stove_33 : decode cX6_stove 33 = .ok (.getfield 50, 3) := by decide +kernel
theorem dX6_stove_36 : decode cX6_stove 36 = .ok (.iload_n 1, 1) := by decide +kernel
theorem dX6_stove_37 : decode cX6_stove 37 = .ok (.invokevirtual 102, 3) := by decide +kernel
theorem dX6_stove_40 : decode cX6_stove 40 = .ok (.aload_n 0, 1) := by decide +kernel
theorem dX6_stove_41 : decode cX6_stove 41 = .ok (.getfield 10, 3) := by decide +kernel
theorem dX6_stove_44 : decode cX6_stove 44 = .ok (.getfield 50, 3) := by decide +kernel
theorem dX6_stove_47 : decode cX6_stove 47 = .ok (.getfield 96, 3) := by decide +kernel
theorem dX6_stove_50 : decode cX6_stove 50 = .ok (.ireturn, 1) := by decide +kernel
theorem dX6_say_0 : decode cX6_say 0 = .ok (.iload_n 1, 1) := by decide +kernel
theorem dX6_say_1 : decode cX6_say 1 = .ok (.bipush 33, 2) := by decide +kernel
theorem dX6_say_3 : decode cX6_say 3 = .ok (.bipush 126, 2) := by decide +kernel
theorem dX6_say_5 : decode cX6_say 5 = .ok (.invokestatic 57, 3) := by decide +kernel
theorem dX6_say_8 : decode cX6_say 8 = .ok (.ifCond .ne 6, 3) := by decide +kernel
theorem dX6_say_11 : decode cX6_say 11 = .ok (.bipush (-2), 2) := by decide +kernel
theorem dX6_say_13 : decode cX6_say 13 = .ok (.ireturn, 1) := by decide +kernel
theorem dX6_say_14 : decode cX6_say 14 = .ok (.aload_n 0, 1) := by decide +kernel
theorem dX6_say_15 : decode cX6_say 15 = .ok (.getfield 25, 3) := by decide +kernel
theorem dX6_say_18 : decode cX6_say 18 = .ok (.getfield 105, 3) := by decide +kernel
theorem dX6_say_21 : decode cX6_say 21 = .ok (.bipush 60, 2) := by decide +kernel
theorem dX6_say_23 : decode cX6_say 23 = .ok (.if_icmp .lt 6, 3) := by decide +kernel
theorem dX6_say_26 : decode cX6_say 26 = .ok (.bipush (-4), 2) := by decide +kernel
theorem dX6_say_28 : decode cX6_say 28 = .ok (.ireturn, 1) := by decide +kernel
theorem dX6_say_29 : decode cX6_say 29 = .ok (.aload_n 0, 1) := by decide +kernel
theorem dX6_say_30 : decode cX6_say 30 = .ok (.getfield 25, 3) := by decide +kernel
theorem dX6_say_33 : decode cX6_say 33 = .ok (.iload_n 1, 1) := by decide +kernel
theorem dX6_say_34 : decode cX6_say 34 = .ok (.invokevirtual 106, 3) := by decide +kernel
theorem dX6_say_37 : decode cX6_say 37 = .ok (.aload_n 0, 1) := by decide +kernel
theorem dX6_say_38 : decode cX6_say 38 = .ok (.getfield 25, 3) := by decide +kernel
theorem dX6_say_41 : decode cX6_say 41 = .ok (.getfield 105, 3) := by decide +kernel
theorem dX6_say_44 : decode cX6_say 44 = .ok (.ireturn, 1) := by decide +kernel
theorem dX6_wipe_0 : decode cX6_wipe 0 = .ok (.aload_n 0, 1) := by decide +kernel
theorem dX6_wipe_1 : decode cX6_wipe 1 = .ok (.getfield 25, 3) := by decide +kernel
theorem dX6_wipe_4 : decode cX6_wipe 4 = .ok (.getfield 105, 3) := by decide +kernel
theorem dX6_wipe_7 : decode cX6_wipe 7 = .ok (.istore_n 1, 1) := by decide +kernel
theorem dX6_wipe_8 : decode cX6_wipe 8 = .ok (.aload_n 0, 1) := by decide +kernel
theorem dX6_wipe_9 : decode cX6_wipe 9 = .ok (.getfield 25, 3) := by decide +kernel
theorem dX6_wipe_12 : decode cX6_wipe 12 = .ok (.iconst 0, 1) := by decide +kernel
theorem dX6_wipe_13 : decode cX6_wipe 13 = .ok (.putfield 105, 3) := by decide +kernel
theorem dX6_wipe_16 : decode cX6_wipe 16 = .ok (.iload_n 1, 1) := by decide +kernel
theorem dX6_wipe_17 : decode cX6_wipe 17 = .ok (.ireturn, 1) := by decide +kernel
theorem dX6_fault_0 : decode cX6_fault 0 = .ok (.iload_n 1, 1) := by decide +kernel
theorem dX6_fault_1 : decode cX6_fault 1 = .ok (.iconst 0, 1) := by decide +kernel
theorem dX6_fault_2 : decode cX6_fault 2 = .ok (.iconst 1, 1) := by decide +kernel
theorem dX6_fault_3 : decode cX6_fault 3 = .ok (.invokestatic 57, 3) := by decide +kernel
theorem dX6_fault_6 : decode cX6_fault 6 = .ok (.ifCond .ne 6, 3) := by decide +kernel
theorem dX6_fault_9 : decode cX6_fault 9 = .ok (.bipush (-2), 2) := by decide +kernel
theorem dX6_fault_11 : decode cX6_fault 11 = .ok (.ireturn, 1) := by decide +kernel
theorem dX6_fault_12 : decode cX6_fault 12 = .ok (.iload_n 1, 1) := by decide +kernel
theorem dX6_fault_13 : decode cX6_fault 13 = .ok (.ifCond .ne 23, 3) := by decide +kernel
theorem dX6_fault_16 : decode cX6_fault 16 = .ok (.aload_n 0, 1) := by decide +kernel
theorem dX6_fault_17 : decode cX6_fault 17 = .ok (.getfield 25, 3) := by decide +kernel
theorem dX6_fault_20 : decode cX6_fault 20 = .ok (.aload_n 0, 1) := by decide +kernel
theorem dX6_fault_21 : decode cX6_fault 21 = .ok (.getfield 10, 3) := by decide +kernel
theorem dX6_fault_24 : decode cX6_fault 24 = .ok (.getfield 50, 3) := by decide +kernel
theorem dX6_fault_27 : decode cX6_fault 27 = .ok (.getfield 61, 3) := by decide +kernel
theorem dX6_fault_30 : decode cX6_fault 30 = .ok (.invokevirtual 109, 3) := by decide +kernel
theorem dX6_fault_33 : decode cX6_fault 33 = .ok (.goto 20, 3) := by decide +kernel
theorem dX6_fault_36 : decode cX6_fault 36 = .ok (.aload_n 0, 1) := by decide +kernel
theorem dX6_fault_37 : decode cX6_fault 37 = .ok (.getfield 25, 3) := by decide +kernel
theorem dX6_fault_40 : decode cX6_fault 40 = .ok (.aload_n 0, 1) := by decide +kernel
theorem dX6_fault_41 : decode cX6_fault 41 = .ok (.getfield 10, 3) := by decide +kernel
theorem dX6_fault_44 : decode cX6_fault 44 = .ok (.getfield 50, 3) := by decide +kernel
theorem dX6_fault_47 : decode cX6_fault 47 = .ok (.getfield 61, 3) := by decide +kernel
theorem dX6_fault_50 : decode cX6_fault 50 = .ok (.invokevirtual 113, 3) := by decide +kernel
theorem dX6_fault_53 : decode cX6_fault 53 = .ok (.ireturn, 1) := by decide +kernel
theorem dX6_order_0 : decode cX6_order 0 = .ok (.aload_n 0, 1) := by decide +kernel
theorem dX6_order_1 : decode cX6_order 1 = .ok (.getfield 25, 3) := by decide +kernel
theorem dX6_order_4 : decode cX6_order 4 = .ok (.aload_n 0, 1) := by decide +kernel
theorem dX6_order_5 : decode cX6_order 5 = .ok (.getfield 10, 3) := by decide +kernel
theorem dX6_order_8 : decode cX6_order 8 = .ok (.getfield 50, 3) := by decide +kernel
theorem dX6_order_11 : decode cX6_order 11 = .ok (.getfield 61, 3) := by decide +kernel
theorem dX6_order_14 : decode cX6_order 14 = .ok (.invokevirtual 109, 3) := by decide +kernel
theorem dX6_order_17 : decode cX6_order 17 = .ok (.bipush (-6), 2) := by decide +kernel
theorem dX6_order_19 : decode cX6_order 19 = .ok (.if_icmp .eq 6, 3) := by decide +kernel
theorem dX6_order_22 : decode cX6_order 22 = .ok (.bipush (-5), 2) := by decide +kernel
theorem dX6_order_24 : decode cX6_order 24 = .ok (.ireturn, 1) := by decide +kernel
theorem dX6_order_25 : decode cX6_order 25 = .ok (.aload_n 0, 1) := by decide +kernel
theorem dX6_order_26 : decode cX6_order 26 = .ok (.getfield 10, 3) := by decide +kernel
theorem dX6_order_29 : decode cX6_order 29 = .ok (.getfield 50, 3) := by decide +kernel
theorem dX6_order_32 : decode cX6_order 32 = .ok (.invokevirtual 116, 3) := by decide +kernel
theorem dX6_order_35 : decode cX6_order 35 = .ok (.ifCond .ne 6, 3) := by decide +kernel
theorem dX6_order_38 : decode cX6_order 38 = .ok (.bipush (-3), 2) := by decide +kernel
theorem dX6_order_40 : decode cX6_order 40 = .ok (.ireturn, 1) := by decide +kernel
theorem dX6_order_41 : decode cX6_order 41 = .ok (.iconst 0, 1) := by decide +kernel
theorem dX6_order_42 : decode cX6_order 42 = .ok (.istore_n 1, 1) := by decide +kernel
theorem dX6_order_43 : decode cX6_order 43 = .ok (.iload_n 1, 1) := by decide +kernel
theorem dX6_order_44 : decode cX6_order 44 = .ok (.aload_n 0, 1) := by decide +kernel
theorem dX6_order_45 : decode cX6_order 45 = .ok (.getfield 10, 3) := by decide +kernel
theorem dX6_order_48 : decode cX6_order 48 = .ok (.getfield 50, 3) := by decide +kernel
theorem dX6_order_51 : decode cX6_order 51 = .ok (.getfield 61, 3) := by decide +kernel
theorem dX6_order_54 : decode cX6_order 54 = .ok (.if_icmp .ge 34, 3) := by decide +kernel
theorem dX6_order_57 : decode cX6_order 57 = .ok (.aload_n 0, 1) := by decide +kernel
theorem dX6_order_58 : decode cX6_order 58 = .ok (.getfield 10, 3) := by decide +kernel
theorem dX6_order_61 : decode cX6_order 61 = .ok (.getfield 50, 3) := by decide +kernel
theorem dX6_order_64 : decode cX6_order 64 = .ok (.getfield 120, 3) := by decide +kernel
theorem dX6_order_67 : decode cX6_order 67 = .ok (.iload_n 1, 1) := by decide +kernel
theorem dX6_order_68 : decode cX6_order 68 = .ok (.aload_n 0, 1) := by decide +kernel
theorem dX6_order_69 : decode cX6_order 69 = .ok (.getfield 25, 3) := by decide +kernel
theorem dX6_order_72 : decode cX6_order 72 = .ok (.iload_n 1, 1) := by decide +kernel
theorem dX6_order_73 : decode cX6_order 73 = .ok (.invokevirtual 124, 3) := by decide +kernel
theorem dX6_order_76 : decode cX6_order 76 = .ok (.bipush 48, 2) := by decide +kernel
theorem dX6_order_78 : decode cX6_order 78 = .ok (.isub, 1) := by decide +kernel
theorem dX6_order_79 : decode cX6_order 79 = .ok (.invokestatic 127, 3) := by decide +kernel
theorem dX6_order_82 : decode cX6_order 82 = .ok (.iinc 1 1, 3) := by decide +kernel
theorem dX6_order_85 : decode cX6_order 85 = .ok (.goto (-42), 3) := by decide +kernel
theorem dX6_order_88 : decode cX6_order 88 = .ok (.aload_n 0, 1) := by decide +kernel
theorem dX6_order_89 : decode cX6_order 89 = .ok (.getfield 25, 3) := by decide +kernel
theorem dX6_order_92 : decode cX6_order 92 = .ok (.iconst 0, 1) := by decide +kernel
theorem dX6_order_93 : decode cX6_order 93 = .ok (.putfield 105, 3) := by decide +kernel
theorem dX6_order_96 : decode cX6_order 96 = .ok (.iconst 1, 1) := by decide +kernel
theorem dX6_order_97 : decode cX6_order 97 = .ok (.ireturn, 1) := by decide +kernel
theorem dX6_judge_0 : decode cX6_judge 0 = .ok (.iload_n 1, 1) := by decide +kernel
theorem dX6_judge_1 : decode cX6_judge 1 = .ok (.iconst 0, 1) := by decide +kernel
theorem dX6_judge_2 : decode cX6_judge 2 = .ok (.iconst 3, 1) := by decide +kernel
theorem dX6_judge_3 : decode cX6_judge 3 = .ok (.invokestatic 57, 3) := by decide +kernel
theorem dX6_judge_6 : decode cX6_judge 6 = .ok (.ifCond .ne 6, 3) := by decide +kernel
theorem dX6_judge_9 : decode cX6_judge 9 = .ok (.bipush (-2), 2) := by decide +kernel
theorem dX6_judge_11 : decode cX6_judge 11 = .ok (.ireturn, 1) := by decide +kernel
theorem dX6_judge_12 : decode cX6_judge 12 = .ok (.aload_n 0, 1) := by decide +kernel
theorem dX6_judge_13 : decode cX6_judge 13 = .ok (.getfield 32, 3) := by decide +kernel
theorem dX6_judge_16 : decode cX6_judge 16 = .ok (.aload_n 0, 1) := by decide +kernel
theorem dX6_judge_17 : decode cX6_judge 17 = .ok (.getfield 25, 3) := by decide +kernel
theorem dX6_judge_20 : decode cX6_judge 20 = .ok (.aload_n 0, 1) := by decide +kernel
theorem dX6_judge_21 : decode cX6_judge 21 = .ok (.getfield 10, 3) := by decide +kernel
theorem dX6_judge_24 : decode cX6_judge 24 = .ok (.getfield 50, 3) := by decide +kernel
theorem dX6_judge_27 : decode cX6_judge 27 = .ok (.invokevirtual 131, 3) := by decide +kernel
theorem dX6_judge_30 : decode cX6_judge 30 = .ok (.istore_n 2, 1) := by decide +kernel
theorem dX6_judge_31 : decode cX6_judge 31 = .ok (.iload_n 2, 1) := by decide +kernel
theorem dX6_judge_32 : decode cX6_judge 32 = .ok (.bipush (-5), 2) := by decide +kernel
theorem dX6_judge_34 : decode cX6_judge 34 = .ok (.if_icmp .eq 14, 3) := by decide +kernel
theorem dX6_judge_37 : decode cX6_judge 37 = .ok (.iload_n 2, 1) := by decide +kernel
theorem dX6_judge_38 : decode cX6_judge 38 = .ok (.bipush (-3), 2) := by decide +kernel
theorem dX6_judge_40 : decode cX6_judge 40 = .ok (.if_icmp .ne 10, 3) := by decide +kernel
theorem dX6_judge_43 : decode cX6_judge 43 = .ok (.iload_n 1, 1) := by decide +kernel
theorem dX6_judge_44 : decode cX6_judge 44 = .ok (.iconst 2, 1) := by decide +kernel
theorem dX6_judge_45 : decode cX6_judge 45 = .ok (.if_icmp .lt 5, 3) := by decide +kernel
theorem dX6_judge_48 : decode cX6_judge 48 = .ok (.iload_n 2, 1) := by decide +kernel
theorem dX6_judge_49 : decode cX6_judge 49 = .ok (.ireturn, 1) := by decide +kernel
theorem dX6_judge_50 : decode cX6_judge 50 = .ok (.iload_n 1, 1) := by decide +kernel
theorem dX6_judge_51 : decode cX6_judge 51 = .ok (.tableswitch 79 0 2 #[25, 48, 71], 25) := by decide +kernel
theorem dX6_judge_76 : decode cX6_judge 76 = .ok (.aload_n 0, 1) := by decide +kernel
theorem dX6_judge_77 : decode cX6_judge 77 = .ok (.getfield 32, 3) := by decide +kernel
theorem dX6_judge_80 : decode cX6_judge 80 = .ok (.getfield 135, 3) := by decide +kernel
theorem dX6_judge_83 : decode cX6_judge 83 = .ok (.ifCond .ne 8, 3) := by decide +kernel
theorem dX6_judge_86 : decode cX6_judge 86 = .ok (.bipush (-6), 2) := by decide +kernel
theorem dX6_judge_88 : decode cX6_judge 88 = .ok (.goto 10, 3) := by decide +kernel
theorem dX6_judge_91 : decode cX6_judge 91 = .ok (.aload_n 0, 1) := by decide +kernel
theorem dX6_judge_92 : decode cX6_judge 92 = .ok (.getfield 32, 3) := by decide +kernel
theorem dX6_judge_95 : decode cX6_judge 95 = .ok (.getfield 138, 3) := by decide +kernel
theorem dX6_judge_98 : decode cX6_judge 98 = .ok (.ireturn, 1) := by decide +kernel
theorem dX6_judge_99 : decode cX6_judge 99 = .ok (.aload_n 0, 1) := by decide +kernel
theorem dX6_judge_100 : decode cX6_judge 100 = .ok (.getfield 32, 3) := by decide +kernel
theorem dX6_judge_103 : decode cX6_judge 103 = .ok (.getfield 135, 3) := by decide +kernel
theorem dX6_judge_106 : decode cX6_judge 106 = .ok (.ifCond .ne 8, 3) := by decide +kernel
theorem dX6_judge_109 : decode cX6_judge 109 = .ok (.bipush (-6), 2) := by decide +kernel
theorem dX6_judge_111 : decode cX6_judge 111 = .ok (.goto 10, 3) := by decide +kernel
theorem dX6_judge_114 : decode cX6_judge 114 = .ok (.aload_n 0, 1) := by decide +kernel
theorem dX6_judge_115 : decode cX6_judge 115 = .ok (.getfield 32, 3) := by decide +kernel
theorem dX6_judge_118 : decode cX6_judge 118 = .ok (.getfield 135, 3) := by decide +kernel
theorem dX6_judge_121 : decode cX6_judge 121 = .ok (.ireturn, 1) := by decide +kernel
theorem dX6_judge_122 : decode cX6_judge 122 = .ok (.aload_n 0, 1) := by decide +kernel
theorem dX6_judge_123 : decode cX6_judge 123 = .ok (.getfield 32, 3) := by decide +kernel
theorem dX6_judge_126 : decode cX6_judge 126 = .ok (.getfield 141, 3) := by decide +kernel
theorem dX6_judge_129 : decode cX6_judge 129 = .ok (.ireturn, 1) := by decide +kernel
theorem dX6_judge_130 : decode cX6_judge 130 = .ok (.aload_n 0, 1) := by decide +kernel
theorem dX6_judge_131 : decode cX6_judge 131 = .ok (.getfield 32, 3) := by decide +kernel
theorem dX6_judge_134 : decode cX6_judge 134 = .ok (.getfield 144, 3) := by decide +kernel
theorem dX6_judge_137 : decode cX6_judge 137 = .ok (.ireturn, 1) := by decide +kernel
theorem dX6_behind_0 : decode cX6_behind 0 = .ok (.aload_n 0, 1) := by decide +kernel
theorem dX6_behind_1 : decode cX6_behind 1 = .ok (.getfield 10, 3) := by decide +kernel
theorem dX6_behind_4 : decode cX6_behind 4 = .ok (.getfield 50, 3) := by decide +kernel
theorem dX6_behind_7 : decode cX6_behind 7 = .ok (.iload_n 1, 1) := by decide +kernel
theorem dX6_behind_8 : decode cX6_behind 8 = .ok (.invokevirtual 77, 3) := by decide +kernel
theorem dX6_behind_11 : decode cX6_behind 11 = .ok (.ifCond .ne 5, 3) := by decide +kernel
theorem dX6_behind_14 : decode cX6_behind 14 = .ok (.iconst (-1), 1) := by decide +kernel
theorem dX6_behind_15 : decode cX6_behind 15 = .ok (.ireturn, 1) := by decide +kernel
theorem dX6_behind_16 : decode cX6_behind 16 = .ok (.iload_n 2, 1) := by decide +kernel
theorem dX6_behind_17 : decode cX6_behind 17 = .ok (.iconst 0, 1) := by decide +kernel
theorem dX6_behind_18 : decode cX6_behind 18 = .ok (.iconst 2, 1) := by decide +kernel
theorem dX6_behind_19 : decode cX6_behind 19 = .ok (.invokestatic 57, 3) := by decide +kernel
theorem dX6_behind_22 : decode cX6_behind 22 = .ok (.ifCond .ne 6, 3) := by decide +kernel
theorem dX6_behind_25 : decode cX6_behind 25 = .ok (.bipush (-2), 2) := by decide +kernel
theorem dX6_behind_27 : decode cX6_behind 27 = .ok (.ireturn, 1) := by decide +kernel
theorem dX6_behind_28 : decode cX6_behind 28 = .ok (.aload_n 0, 1) := by decide +kernel
theorem dX6_behind_29 : decode cX6_behind 29 = .ok (.getfield 32, 3) := by decide +kernel
theorem dX6_behind_32 : decode cX6_behind 32 = .ok (.aload_n 0, 1) := by decide +kernel
theorem dX6_behind_33 : decode cX6_behind 33 = .ok (.getfield 25, 3) := by decide +kernel
theorem dX6_behind_36 : decode cX6_behind 36 = .ok (.aload_n 0, 1) := by decide +kernel
theorem dX6_behind_37 : decode cX6_behind 37 = .ok (.getfield 10, 3) := by decide +kernel
theorem dX6_behind_40 : decode cX6_behind 40 = .ok (.getfield 50, 3) := by decide +kernel
theorem dX6_behind_43 : decode cX6_behind 43 = .ok (.invokevirtual 131, 3) := by decide +kernel
theorem dX6_behind_46 : decode cX6_behind 46 = .ok (.istore_n 3, 1) := by decide +kernel
theorem dX6_behind_47 : decode cX6_behind 47 = .ok (.iload_n 3, 1) := by decide +kernel
theorem dX6_behind_48 : decode cX6_behind 48 = .ok (.ifCond .eq 7, 3) := by decide +kernel
theorem dX6_behind_51 : decode cX6_behind 51 = .ok (.iload_n 3, 1) := by decide +kernel
theorem dX6_behind_52 : decode cX6_behind 52 = .ok (.goto 15, 3) := by decide +kernel
theorem dX6_behind_55 : decode cX6_behind 55 = .ok (.aload_n 0, 1) := by decide +kernel
theorem dX6_behind_56 : decode cX6_behind 56 = .ok (.getfield 32, 3) := by decide +kernel
theorem dX6_behind_59 : decode cX6_behind 59 = .ok (.getfield 147, 3) := by decide +kernel
theorem dX6_behind_62 : decode cX6_behind 62 = .ok (.iload_n 1, 1) := by decide +kernel
theorem dX6_behind_63 : decode cX6_behind 63 = .ok (.iload_n 2, 1) := by decide +kernel
theorem dX6_behind_64 : decode cX6_behind 64 = .ok (.invokevirtual 148, 3) := by decide +kernel
theorem dX6_behind_67 : decode cX6_behind 67 = .ok (.ireturn, 1) := by decide +kernel
theorem dX6_hatched_0 : decode cX6_hatched 0 = .ok (.aload_n 0, 1) := by decide +kernel
theorem dX6_hatched_1 : decode cX6_hatched 1 = .ok (.getfield 10, 3) := by decide +kernel
theorem dX6_hatched_4 : decode cX6_hatched 4 = .ok (.getfield 50, 3) := by decide +kernel
theorem dX6_hatched_7 : decode cX6_hatched 7 = .ok (.iload_n 1, 1) := by decide +kernel
theorem dX6_hatched_8 : decode cX6_hatched 8 = .ok (.invokevirtual 77, 3) := by decide +kernel
theorem dX6_hatched_11 : decode cX6_hatched 11 = .ok (.ifCond .ne 5, 3) := by decide +kernel
theorem dX6_hatched_14 : decode cX6_hatched 14 = .ok (.iconst (-1), 1) := by decide +kernel
theorem dX6_hatched_15 : decode cX6_hatched 15 = .ok (.ireturn, 1) := by decide +kernel
theorem dX6_hatched_16 : decode cX6_hatched 16 = .ok (.aload_n 0, 1) := by decide +kernel
theorem dX6_hatched_17 : decode cX6_hatched 17 = .ok (.getfield 32, 3) := by decide +kernel
theorem dX6_hatched_20 : decode cX6_hatched 20 = .ok (.aload_n 0, 1) := by decide +kernel
theorem dX6_hatched_21 : decode cX6_hatched 21 = .ok (.getfield 25, 3) := by decide +kernel
theorem dX6_hatched_24 : decode cX6_hatched 24 = .ok (.aload_n 0, 1) := by decide +kernel
theorem dX6_hatched_25 : decode cX6_hatched 25 = .ok (.getfield 10, 3) := by decide +kernel
theorem dX6_hatched_28 : decode cX6_hatched 28 = .ok (.getfield 50, 3) := by decide +kernel
theorem dX6_hatched_31 : decode cX6_hatched 31 = .ok (.invokevirtual 131, 3) := by decide +kernel
theorem dX6_hatched_34 : decode cX6_hatched 34 = .ok (.istore_n 2, 1) := by decide +kernel
theorem dX6_hatched_35 : decode cX6_hatched 35 = .ok (.iload_n 2, 1) := by decide +kernel
theorem dX6_hatched_36 : decode cX6_hatched 36 = .ok (.ifCond .eq 7, 3) := by decide +kernel
theorem dX6_hatched_39 : decode cX6_hatched 39 = .ok (.iload_n 2, 1) := by decide +kernel
theorem dX6_hatched_40 : decode cX6_hatched 40 = .ok (.goto 14, 3) := by decide +kernel
theorem dX6_hatched_43 : decode cX6_hatched 43 = .ok (.aload_n 0, 1) := by decide +kernel
theorem dX6_hatched_44 : decode cX6_hatched 44 = .ok (.getfield 32, 3) := by decide +kernel
theorem dX6_hatched_47 : decode cX6_hatched 47 = .ok (.getfield 151, 3) := by decide +kernel
theorem dX6_hatched_50 : decode cX6_hatched 50 = .ok (.iload_n 1, 1) := by decide +kernel
theorem dX6_hatched_51 : decode cX6_hatched 51 = .ok (.invokestatic 154, 3) := by decide +kernel
theorem dX6_hatched_54 : decode cX6_hatched 54 = .ok (.ireturn, 1) := by decide +kernel
theorem dX6_stops_0 : decode cX6_stops 0 = .ok (.iload_n 1, 1) := by decide +kernel
theorem dX6_stops_1 : decode cX6_stops 1 = .ok (.iconst 0, 1) := by decide +kernel
theorem dX6_stops_2 : decode cX6_stops 2 = .ok (.iconst 1, 1) := by decide +kernel
theorem dX6_stops_3 : decode cX6_stops 3 = .ok (.invokestatic 57, 3) := by decide +kernel
theorem dX6_stops_6 : decode cX6_stops 6 = .ok (.ifCond .ne 6, 3) := by decide +kernel
theorem dX6_stops_9 : decode cX6_stops 9 = .ok (.bipush (-2), 2) := by decide +kernel
theorem dX6_stops_11 : decode cX6_stops 11 = .ok (.ireturn, 1) := by decide +kernel
theorem dX6_stops_12 : decode cX6_stops 12 = .ok (.aload_n 0, 1) := by decide +kernel
theorem dX6_stops_13 : decode cX6_stops 13 = .ok (.getfield 32, 3) := by decide +kernel
theorem dX6_stops_16 : decode cX6_stops 16 = .ok (.aload_n 0, 1) := by decide +kernel
theorem dX6_stops_17 : decode cX6_stops 17 = .ok (.getfield 25, 3) := by decide +kernel
theorem dX6_stops_20 : decode cX6_stops 20 = .ok (.aload_n 0, 1) := by decide +kernel
theorem dX6_stops_21 : decode cX6_stops 21 = .ok (.getfield 10, 3) := by decide +kernel
theorem dX6_stops_24 : decode cX6_stops 24 = .ok (.getfield 50, 3) := by decide +kernel
theorem dX6_stops_27 : decode cX6_stops 27 = .ok (.invokevirtual 131, 3) := by decide +kernel
theorem dX6_stops_30 : decode cX6_stops 30 = .ok (.istore_n 2, 1) := by decide +kernel
theorem dX6_stops_31 : decode cX6_stops 31 = .ok (.iload_n 2, 1) := by decide +kernel
theorem dX6_stops_32 : decode cX6_stops 32 = .ok (.ifCond .eq 5, 3) := by decide +kernel
theorem dX6_stops_35 : decode cX6_stops 35 = .ok (.iload_n 2, 1) := by decide +kernel
theorem dX6_stops_36 : decode cX6_stops 36 = .ok (.ireturn, 1) := by decide +kernel
theorem dX6_stops_37 : decode cX6_stops 37 = .ok (.aload_n 0, 1) := by decide +kernel
theorem dX6_stops_38 : decode cX6_stops 38 = .ok (.getfield 32, 3) := by decide +kernel
theorem dX6_stops_41 : decode cX6_stops 41 = .ok (.getfield 147, 3) := by decide +kernel
theorem dX6_stops_44 : decode cX6_stops 44 = .ok (.invokevirtual 158, 3) := by decide +kernel
theorem dX6_stops_47 : decode cX6_stops 47 = .ok (.istore_n 3, 1) := by decide +kernel
theorem dX6_stops_48 : decode cX6_stops 48 = .ok (.iload_n 1, 1) := by decide +kernel
theorem dX6_stops_49 : decode cX6_stops 49 = .ok (.iconst 1, 1) := by decide +kernel
theorem dX6_stops_50 : decode cX6_stops 50 = .ok (.if_icmp .ne 15, 3) := by decide +kernel
theorem dX6_stops_53 : decode cX6_stops 53 = .ok (.aload_n 0, 1) := by decide +kernel
theorem dX6_stops_54 : decode cX6_stops 54 = .ok (.getfield 32, 3) := by decide +kernel
theorem dX6_stops_57 : decode cX6_stops 57 = .ok (.getfield 147, 3) := by decide +kernel
theorem dX6_stops_60 : decode cX6_stops 60 = .ok (.iload_n 3, 1) := by decide +kernel
theorem dX6_stops_61 : decode cX6_stops 61 = .ok (.invokevirtual 162, 3) := by decide +kernel
theorem dX6_stops_64 : decode cX6_stops 64 = .ok (.ireturn, 1) := by decide +kernel
theorem dX6_stops_65 : decode cX6_stops 65 = .ok (.iload_n 3, 1) := by decide +kernel
theorem dX6_stops_66 : decode cX6_stops 66 = .ok (.aload_n 0, 1) := by decide +kernel
theorem dX6_stops_67 : decode cX6_stops 67 = .ok (.getfield 32, 3) := by decide +kernel
theorem dX6_stops_70 : decode cX6_stops 70 = .ok (.getfield 147, 3) := by decide +kernel
theorem dX6_stops_73 : decode cX6_stops 73 = .ok (.getfield 61, 3) := by decide +kernel
theorem dX6_stops_76 : decode cX6_stops 76 = .ok (.if_icmp .ge 20, 3) := by decide +kernel
theorem dX6_stops_79 : decode cX6_stops 79 = .ok (.aload_n 0, 1) := by decide +kernel
theorem dX6_stops_80 : decode cX6_stops 80 = .ok (.getfield 32, 3) := by decide +kernel
theorem dX6_stops_83 : decode cX6_stops 83 = .ok (.getfield 147, 3) := by decide +kernel
theorem dX6_stops_86 : decode cX6_stops 86 = .ok (.getfield 120, 3) := by decide +kernel
theorem dX6_stops_89 : decode cX6_stops 89 = .ok (.iload_n 3, 1) := by decide +kernel
theorem dX6_stops_90 : decode cX6_stops 90 = .ok (.invokestatic 154, 3) := by decide +kernel
theorem dX6_stops_93 : decode cX6_stops 93 = .ok (.goto 5, 3) := by decide +kernel
theorem dX6_stops_96 : decode cX6_stops 96 = .ok (.bipush (-6), 2) := by decide +kernel
theorem dX6_stops_98 : decode cX6_stops 98 = .ok (.ireturn, 1) := by decide +kernel
theorem dX6_done_0 : decode cX6_done 0 = .ok (.aload_n 0, 1) := by decide +kernel
theorem dX6_done_1 : decode cX6_done 1 = .ok (.getfield 32, 3) := by decide +kernel
theorem dX6_done_4 : decode cX6_done 4 = .ok (.aload_n 0, 1) := by decide +kernel
theorem dX6_done_5 : decode cX6_done 5 = .ok (.getfield 25, 3) := by decide +kernel
theorem dX6_done_8 : decode cX6_done 8 = .ok (.aload_n 0, 1) := by decide +kernel
theorem dX6_done_9 : decode cX6_done 9 = .ok (.getfield 10, 3) := by decide +kernel
theorem dX6_done_12 : decode cX6_done 12 = .ok (.getfield 50, 3) := by decide +kernel
theorem dX6_done_15 : decode cX6_done 15 = .ok (.invokevirtual 131, 3) := by decide +kernel
theorem dX6_done_18 : decode cX6_done 18 = .ok (.istore_n 1, 1) := by decide +kernel
theorem dX6_done_19 : decode cX6_done 19 = .ok (.iload_n 1, 1) := by decide +kernel
theorem dX6_done_20 : decode cX6_done 20 = .ok (.ifCond .eq 5, 3) := by decide +kernel
theorem dX6_done_23 : decode cX6_done 23 = .ok (.iload_n 1, 1) := by decide +kernel
theorem dX6_done_24 : decode cX6_done 24 = .ok (.ireturn, 1) := by decide +kernel
theorem dX6_done_25 : decode cX6_done 25 = .ok (.aload_n 0, 1) := by decide +kernel
theorem dX6_done_26 : decode cX6_done 26 = .ok (.getfield 10, 3) := by decide +kernel
theorem dX6_done_29 : decode cX6_done 29 = .ok (.getfield 50, 3) := by decide +kernel
theorem dX6_done_32 : decode cX6_done 32 = .ok (.aload_n 0, 1) := by decide +kernel
theorem dX6_done_33 : decode cX6_done 33 = .ok (.getfield 32, 3) := by decide +kernel
theorem dX6_done_36 : decode cX6_done 36 = .ok (.getfield 147, 3) := by decide +kernel
theorem dX6_done_39 : decode cX6_done 39 = .ok (.invokevirtual 165, 3) := by decide +kernel
theorem dX6_done_42 : decode cX6_done 42 = .ok (.aload_n 0, 1) := by decide +kernel
theorem dX6_done_43 : decode cX6_done 43 = .ok (.getfield 25, 3) := by decide +kernel
theorem dX6_done_46 : decode cX6_done 46 = .ok (.iconst 0, 1) := by decide +kernel
theorem dX6_done_47 : decode cX6_done 47 = .ok (.putfield 105, 3) := by decide +kernel
theorem dX6_done_50 : decode cX6_done 50 = .ok (.aload_n 0, 1) := by decide +kernel
theorem dX6_done_51 : decode cX6_done 51 = .ok (.getfield 32, 3) := by decide +kernel
theorem dX6_done_54 : decode cX6_done 54 = .ok (.getfield 138, 3) := by decide +kernel
theorem dX6_done_57 : decode cX6_done 57 = .ok (.ireturn, 1) := by decide +kernel
theorem dX6_state_0 : decode cX6_state 0 = .ok (.aload_n 0, 1) := by decide +kernel
theorem dX6_state_1 : decode cX6_state 1 = .ok (.getfield 10, 3) := by decide +kernel
theorem dX6_state_4 : decode cX6_state 4 = .ok (.getfield 50, 3) := by decide +kernel
theorem dX6_state_7 : decode cX6_state 7 = .ok (.iload_n 1, 1) := by decide +kernel
theorem dX6_state_8 : decode cX6_state 8 = .ok (.invokevirtual 77, 3) := by decide +kernel
theorem dX6_state_11 : decode cX6_state 11 = .ok (.ifCond .ne 5, 3) := by decide +kernel
theorem dX6_state_14 : decode cX6_state 14 = .ok (.iconst (-1), 1) := by decide +kernel
theorem dX6_state_15 : decode cX6_state 15 = .ok (.ireturn, 1) := by decide +kernel
theorem dX6_state_16 : decode cX6_state 16 = .ok (.iload_n 2, 1) := by decide +kernel
theorem dX6_state_17 : decode cX6_state 17 = .ok (.iconst 0, 1) := by decide +kernel
theorem dX6_state_18 : decode cX6_state 18 = .ok (.iconst 2, 1) := by decide +kernel
theorem dX6_state_19 : decode cX6_state 19 = .ok (.invokestatic 57, 3) := by decide +kernel
theorem dX6_state_22 : decode cX6_state 22 = .ok (.ifCond .ne 6, 3) := by decide +kernel
theorem dX6_state_25 : decode cX6_state 25 = .ok (.bipush (-2), 2) := by decide +kernel
theorem dX6_state_27 : decode cX6_state 27 = .ok (.ireturn, 1) := by decide +kernel
theorem dX6_state_28 : decode cX6_state 28 = .ok (.aload_n 0, 1) := by decide +kernel
theorem dX6_state_29 : decode cX6_state 29 = .ok (.getfield 10, 3) := by decide +kernel
theorem dX6_state_32 : decode cX6_state 32 = .ok (.getfield 50, 3) := by decide +kernel
theorem dX6_state_35 : decode cX6_state 35 = .ok (.iload_n 1, 1) := by decide +kernel
theorem dX6_state_36 : decode cX6_state 36 = .ok (.iload_n 2, 1) := by decide +kernel
theorem dX6_state_37 : decode cX6_state 37 = .ok (.invokevirtual 148, 3) := by decide +kernel
theorem dX6_state_40 : decode cX6_state 40 = .ok (.ireturn, 1) := by decide +kernel
theorem dX6_clue_0 : decode cX6_clue 0 = .ok (.iload_n 1, 1) := by decide +kernel
theorem dX6_clue_1 : decode cX6_clue 1 = .ok (.iconst 0, 1) := by decide +kernel
theorem dX6_clue_2 : decode cX6_clue 2 = .ok (.iconst 3, 1) := by decide +kernel
theorem dX6_clue_3 : decode cX6_clue 3 = .ok (.invokestatic 57, 3) := by decide +kernel
theorem dX6_clue_6 : decode cX6_clue 6 = .ok (.ifCond .ne 6, 3) := by decide +kernel
theorem dX6_clue_9 : decode cX6_clue 9 = .ok (.bipush (-2), 2) := by decide +kernel
theorem dX6_clue_11 : decode cX6_clue 11 = .ok (.ireturn, 1) := by decide +kernel
theorem dX6_clue_12 : decode cX6_clue 12 = .ok (.aload_n 0, 1) := by decide +kernel
theorem dX6_clue_13 : decode cX6_clue 13 = .ok (.getfield 10, 3) := by decide +kernel
theorem dX6_clue_16 : decode cX6_clue 16 = .ok (.getfield 50, 3) := by decide +kernel
theorem dX6_clue_19 : decode cX6_clue 19 = .ok (.iload_n 2, 1) := by decide +kernel
theorem dX6_clue_20 : decode cX6_clue 20 = .ok (.invokevirtual 77, 3) := by decide +kernel
theorem dX6_clue_23 : decode cX6_clue 23 = .ok (.ifCond .ne 5, 3) := by decide +kernel
theorem dX6_clue_26 : decode cX6_clue 26 = .ok (.iconst (-1), 1) := by decide +kernel
theorem dX6_clue_27 : decode cX6_clue 27 = .ok (.ireturn, 1) := by decide +kernel
theorem dX6_clue_28 : decode cX6_clue 28 = .ok (.iload_n 1, 1) := by decide +kernel
theorem dX6_clue_29 : decode cX6_clue 29 = .ok (.ifCond .eq 8, 3) := by decide +kernel
theorem dX6_clue_32 : decode cX6_clue 32 = .ok (.iload_n 1, 1) := by decide +kernel
theorem dX6_clue_33 : decode cX6_clue 33 = .ok (.iconst 1, 1) := by decide +kernel
theorem dX6_clue_34 : decode cX6_clue 34 = .ok (.if_icmp .ne 7, 3) := by decide +kernel
theorem dX6_clue_37 : decode cX6_clue 37 = .ok (.iconst 1, 1) := by decide +kernel
theorem dX6_clue_38 : decode cX6_clue 38 = .ok (.goto 4, 3) := by decide +kernel
theorem dX6_clue_41 : decode cX6_clue 41 = .ok (.iconst 0, 1) := by decide +kernel
theorem dX6_clue_42 : decode cX6_clue 42 = .ok (.istore 4, 2) := by decide +kernel
theorem dX6_clue_44 : decode cX6_clue 44 = .ok (.iload 4, 2) := by decide +kernel
theorem dX6_clue_46 : decode cX6_clue 46 = .ok (.ifCond .eq 24, 3) := by decide +kernel
theorem dX6_clue_49 : decode cX6_clue 49 = .ok (.aload_n 0, 1) := by decide +kernel
theorem dX6_clue_50 : decode cX6_clue 50 = .ok (.getfield 10, 3) := by decide +kernel
theorem dX6_clue_53 : decode cX6_clue 53 = .ok (.getfield 50, 3) := by decide +kernel
theorem dX6_clue_56 : decode cX6_clue 56 = .ok (.iload_n 3, 1) := by decide +kernel
theorem dX6_clue_57 : decode cX6_clue 57 = .ok (.invokevirtual 77, 3) := by decide +kernel
theorem dX6_clue_60 : decode cX6_clue 60 = .ok (.ifCond .eq 8, 3) := by decide +kernel
theorem dX6_clue_63 : decode cX6_clue 63 = .ok (.iload_n 3, 1) := by decide +kernel
theorem dX6_clue_64 : decode cX6_clue 64 = .ok (.iload_n 2, 1) := by decide +kernel
theorem dX6_clue_65 : decode cX6_clue 65 = .ok (.if_icmp .ne 5, 3) := by decide +kernel
theorem dX6_clue_68 : decode cX6_clue 68 = .ok (.iconst (-1), 1) := by decide +kernel
theorem dX6_clue_69 : decode cX6_clue 69 = .ok (.ireturn, 1) := by decide +kernel
theorem dX6_clue_70 : decode cX6_clue 70 = .ok (.iload 4, 2) := by decide +kernel
theorem dX6_clue_72 : decode cX6_clue 72 = .ok (.ifCond .ne 26, 3) := by decide +kernel
theorem dX6_clue_75 : decode cX6_clue 75 = .ok (.iload_n 3, 1) := by decide +kernel
theorem dX6_clue_76 : decode cX6_clue 76 = .ok (.iconst 0, 1) := by decide +kernel
theorem dX6_clue_77 : decode cX6_clue 77 = .ok (.aload_n 0, 1) := by decide +kernel
theorem dX6_clue_78 : decode cX6_clue 78 = .ok (.getfield 10, 3) := by decide +kernel
theorem dX6_clue_81 : decode cX6_clue 81 = .ok (.getfield 50, 3) := by decide +kernel
theorem dX6_clue_84 : decode cX6_clue 84 = .ok (.getfield 61, 3) := by decide +kernel
theorem dX6_clue_87 : decode cX6_clue 87 = .ok (.iconst 1, 1) := by decide +kernel
theorem dX6_clue_88 : decode cX6_clue 88 = .ok (.isub, 1) := by decide +kernel
theorem dX6_clue_89 : decode cX6_clue 89 = .ok (.invokestatic 57, 3) := by decide +kernel
theorem dX6_clue_92 : decode cX6_clue 92 = .ok (.ifCond .ne 6, 3) := by decide +kernel
theorem dX6_clue_95 : decode cX6_clue 95 = .ok (.bipush (-2), 2) := by decide +kernel
theorem dX6_clue_97 : decode cX6_clue 97 = .ok (.ireturn, 1) := by decide +kernel
theorem dX6_clue_98 : decode cX6_clue 98 = .ok (.aload_n 0, 1) := by decide +kernel
theorem dX6_clue_99 : decode cX6_clue 99 = .ok (.getfield 10, 3) := by decide +kernel
theorem dX6_clue_102 : decode cX6_clue 102 = .ok (.getfield 65, 3) := by decide +kernel
theorem dX6_clue_105 : decode cX6_clue 105 = .ok (.getfield 69, 3) := by decide +kernel
theorem dX6_clue_108 : decode cX6_clue 108 = .ok (.bipush 12, 2) := by decide +kernel
theorem dX6_clue_110 : decode cX6_clue 110 = .ok (.if_icmp .lt 6, 3) := by decide +kernel
theorem dX6_clue_113 : decode cX6_clue 113 = .ok (.bipush (-4), 2) := by decide +kernel
theorem dX6_clue_115 : decode cX6_clue 115 = .ok (.ireturn, 1) := by decide +kernel
theorem dX6_clue_116 : decode cX6_clue 116 = .ok (.aload_n 0, 1) := by decide +kernel
theorem dX6_clue_117 : decode cX6_clue 117 = .ok (.getfield 10, 3) := by decide +kernel
theorem dX6_clue_120 : decode cX6_clue 120 = .ok (.getfield 65, 3) := by decide +kernel
theorem dX6_clue_123 : decode cX6_clue 123 = .ok (.iload_n 1, 1) := by decide +kernel
theorem dX6_clue_124 : decode cX6_clue 124 = .ok (.iload_n 2, 1) := by decide +kernel
theorem dX6_clue_125 : decode cX6_clue 125 = .ok (.iload_n 3, 1) := by decide +kernel
theorem dX6_clue_126 : decode cX6_clue 126 = .ok (.invokevirtual 169, 3) := by decide +kernel
theorem dX6_clue_129 : decode cX6_clue 129 = .ok (.aload_n 0, 1) := by decide +kernel
theorem dX6_clue_130 : decode cX6_clue 130 = .ok (.getfield 10, 3) := by decide +kernel
theorem dX6_clue_133 : decode cX6_clue 133 = .ok (.getfield 65, 3) := by decide +kernel
theorem dX6_clue_136 : decode cX6_clue 136 = .ok (.getfield 69, 3) := by decide +kernel
theorem dX6_clue_139 : decode cX6_clue 139 = .ok (.ireturn, 1) := by decide +kernel
theorem dX6_seen_0 : decode cX6_seen 0 = .ok (.aload_n 0, 1) := by decide +kernel
theorem dX6_seen_1 : decode cX6_seen 1 = .ok (.getfield 10, 3) := by decide +kernel
theorem dX6_seen_4 : decode cX6_seen 4 = .ok (.getfield 50, 3) := by decide +kernel
theorem dX6_seen_7 : decode cX6_seen 7 = .ok (.iload_n 1, 1) := by decide +kernel
theorem dX6_seen_8 : decode cX6_seen 8 = .ok (.invokevirtual 77, 3) := by decide +kernel
theorem dX6_seen_11 : decode cX6_seen 11 = .ok (.ifCond .ne 5, 3) := by decide +kernel
theorem dX6_seen_14 : decode cX6_seen 14 = .ok (.iconst (-1), 1) := by decide +kernel
theorem dX6_seen_15 : decode cX6_seen 15 = .ok (.ireturn, 1) := by decide +kernel
theorem dX6_seen_16 : decode cX6_seen 16 = .ok (.iload_n 2, 1) := by decide +kernel
theorem dX6_seen_17 : decode cX6_seen 17 = .ok (.iconst 0, 1) := by decide +kernel
theorem dX6_seen_18 : decode cX6_seen 18 = .ok (.bipush 60, 2) := by decide +kernel
theorem dX6_seen_20 : decode cX6_seen 20 = .ok (.invokestatic 57, 3) := by decide +kernel
theorem dX6_seen_23 : decode cX6_seen 23 = .ok (.ifCond .ne 6, 3) := by decide +kernel
theorem dX6_seen_26 : decode cX6_seen 26 = .ok (.bipush (-2), 2) := by decide +kernel
theorem dX6_seen_28 : decode cX6_seen 28 = .ok (.ireturn, 1) := by decide +kernel
theorem dX6_seen_29 : decode cX6_seen 29 = .ok (.aload_n 0, 1) := by decide +kernel
theorem dX6_seen_30 : decode cX6_seen 30 = .ok (.getfield 10, 3) := by decide +kernel
theorem dX6_seen_33 : decode cX6_seen 33 = .ok (.getfield 65, 3) := by decide +kernel
theorem dX6_seen_36 : decode cX6_seen 36 = .ok (.getfield 74, 3) := by decide +kernel
theorem dX6_seen_39 : decode cX6_seen 39 = .ok (.bipush 7, 2) := by decide +kernel
theorem dX6_seen_41 : decode cX6_seen 41 = .ok (.if_icmp .lt 6, 3) := by decide +kernel
theorem dX6_seen_44 : decode cX6_seen 44 = .ok (.bipush (-4), 2) := by decide +kernel
theorem dX6_seen_46 : decode cX6_seen 46 = .ok (.ireturn, 1) := by decide +kernel
theorem dX6_seen_47 : decode cX6_seen 47 = .ok (.aload_n 0, 1) := by decide +kernel
theorem dX6_seen_48 : decode cX6_seen 48 = .ok (.getfield 10, 3) := by decide +kernel
theorem dX6_seen_51 : decode cX6_seen 51 = .ok (.getfield 65, 3) := by decide +kernel
theorem dX6_seen_54 : decode cX6_seen 54 = .ok (.iload_n 1, 1) := by decide +kernel
theorem dX6_seen_55 : decode cX6_seen 55 = .ok (.iload_n 2, 1) := by decide +kernel
theorem dX6_seen_56 : decode cX6_seen 56 = .ok (.invokevirtual 172, 3) := by decide +kernel
theorem dX6_seen_59 : decode cX6_seen 59 = .ok (.aload_n 0, 1) := by decide +kernel
theorem dX6_seen_60 : decode cX6_seen 60 = .ok (.getfield 10, 3) := by decide +kernel
theorem dX6_seen_63 : decode cX6_seen 63 = .ok (.getfield 65, 3) := by decide +kernel
theorem dX6_seen_66 : decode cX6_seen 66 = .ok (.getfield 74, 3) := by decide +kernel
theorem dX6_seen_69 : decode cX6_seen 69 = .ok (.ireturn, 1) := by decide +kernel
theorem dX6_forget_0 : decode cX6_forget 0 = .ok (.iload_n 1, 1) := by decide +kernel
theorem dX6_forget_1 : decode cX6_forget 1 = .ok (.iconst 0, 1) := by decide +kernel
theorem dX6_forget_2 : decode cX6_forget 2 = .ok (.iconst 1, 1) := by decide +kernel
theorem dX6_forget_3 : decode cX6_forget 3 = .ok (.invokestatic 57, 3) := by decide +kernel
theorem dX6_forget_6 : decode cX6_forget 6 = .ok (.ifCond .ne 6, 3) := by decide +kernel
theorem dX6_forget_9 : decode cX6_forget 9 = .ok (.bipush (-2), 2) := by decide +kernel
theorem dX6_forget_11 : decode cX6_forget 11 = .ok (.ireturn, 1) := by decide +kernel
theorem dX6_forget_12 : decode cX6_forget 12 = .ok (.iload_n 1, 1) := by decide +kernel
theorem dX6_forget_13 : decode cX6_forget 13 = .ok (.ifCond .ne 16, 3) := by decide +kernel
theorem dX6_forget_16 : decode cX6_forget 16 = .ok (.aload_n 0, 1) := by decide +kernel
theorem dX6_forget_17 : decode cX6_forget 17 = .ok (.getfield 10, 3) := by decide +kernel
theorem dX6_forget_20 : decode cX6_forget 20 = .ok (.getfield 65, 3) := by decide +kernel
theorem dX6_forget_23 : decode cX6_forget 23 = .ok (.getfield 69, 3) := by decide +kernel
theorem dX6_forget_26 : decode cX6_forget 26 = .ok (.goto 13, 3) := by decide +kernel
theorem dX6_forget_29 : decode cX6_forget 29 = .ok (.aload_n 0, 1) := by decide +kernel
theorem dX6_forget_30 : decode cX6_forget 30 = .ok (.getfield 10, 3) := by decide +kernel
theorem dX6_forget_33 : decode cX6_forget 33 = .ok (.getfield 65, 3) := by decide +kernel
theorem dX6_forget_36 : decode cX6_forget 36 = .ok (.getfield 74, 3) := by decide +kernel
theorem dX6_forget_39 : decode cX6_forget 39 = .ok (.istore_n 2, 1) := by decide +kernel
theorem dX6_forget_40 : decode cX6_forget 40 = .ok (.iload_n 1, 1) := by decide +kernel
theorem dX6_forget_41 : decode cX6_forget 41 = .ok (.ifCond .ne 17, 3) := by decide +kernel
theorem dX6_forget_44 : decode cX6_forget 44 = .ok (.aload_n 0, 1) := by decide +kernel
theorem dX6_forget_45 : decode cX6_forget 45 = .ok (.getfield 10, 3) := by decide +kernel
theorem dX6_forget_48 : decode cX6_forget 48 = .ok (.getfield 65, 3) := by decide +kernel
theorem dX6_forget_51 : decode cX6_forget 51 = .ok (.iconst 0, 1) := by decide +kernel
theorem dX6_forget_52 : decode cX6_forget 52 = .ok (.putfield 69, 3) := by decide +kernel
theorem dX6_forget_55 : decode cX6_forget 55 = .ok (.goto 14, 3) := by decide +kernel
theorem dX6_forget_58 : decode cX6_forget 58 = .ok (.aload_n 0, 1) := by decide +kernel
theorem dX6_forget_59 : decode cX6_forget 59 = .ok (.getfield 10, 3) := by decide +kernel
theorem dX6_forget_62 : decode cX6_forget 62 = .ok (.getfield 65, 3) := by decide +kernel
theorem dX6_forget_65 : decode cX6_forget 65 = .ok (.iconst 0, 1) := by decide +kernel
theorem dX6_forget_66 : decode cX6_forget 66 = .ok (.putfield 74, 3) := by decide +kernel
theorem dX6_forget_69 : decode cX6_forget 69 = .ok (.iload_n 2, 1) := by decide +kernel
theorem dX6_forget_70 : decode cX6_forget 70 = .ok (.ireturn, 1) := by decide +kernel
theorem dX6_fits_0 : decode cX6_fits 0 = .ok (.aload_n 0, 1) := by decide +kernel
theorem dX6_fits_1 : decode cX6_fits 1 = .ok (.invokevirtual 176, 3) := by decide +kernel
theorem dX6_fits_4 : decode cX6_fits 4 = .ok (.istore_n 2, 1) := by decide +kernel
theorem dX6_fits_5 : decode cX6_fits 5 = .ok (.iload_n 2, 1) := by decide +kernel
theorem dX6_fits_6 : decode cX6_fits 6 = .ok (.ifCond .eq 5, 3) := by decide +kernel
theorem dX6_fits_9 : decode cX6_fits 9 = .ok (.iload_n 2, 1) := by decide +kernel
theorem dX6_fits_10 : decode cX6_fits 10 = .ok (.ireturn, 1) := by decide +kernel
theorem dX6_fits_11 : decode cX6_fits 11 = .ok (.iload_n 1, 1) := by decide +kernel
theorem dX6_fits_12 : decode cX6_fits 12 = .ok (.iconst (-1), 1) := by decide +kernel
theorem dX6_fits_13 : decode cX6_fits 13 = .ok (.if_icmp .ne 11, 3) := by decide +kernel
theorem dX6_fits_16 : decode cX6_fits 16 = .ok (.aload_n 0, 1) := by decide +kernel
theorem dX6_fits_17 : decode cX6_fits 17 = .ok (.getfield 39, 3) := by decide +kernel
theorem dX6_fits_20 : decode cX6_fits 20 = .ok (.getfield 179, 3) := by decide +kernel
theorem dX6_fits_23 : decode cX6_fits 23 = .ok (.ireturn, 1) := by decide +kernel
theorem dX6_fits_24 : decode cX6_fits 24 = .ok (.aload_n 0, 1) := by decide +kernel
theorem dX6_fits_25 : decode cX6_fits 25 = .ok (.getfield 39, 3) := by decide +kernel
theorem dX6_fits_28 : decode cX6_fits 28 = .ok (.getfield 179, 3) := by decide +kernel
theorem dX6_fits_31 : decode cX6_fits 31 = .ok (.ifCond .eq 23, 3) := by decide +kernel
theorem dX6_fits_34 : decode cX6_fits 34 = .ok (.iload_n 1, 1) := by decide +kernel
theorem dX6_fits_35 : decode cX6_fits 35 = .ok (.iconst 0, 1) := by decide +kernel
theorem dX6_fits_36 : decode cX6_fits 36 = .ok (.aload_n 0, 1) := by decide +kernel
theorem dX6_fits_37 : decode cX6_fits 37 = .ok (.getfield 10, 3) := by decide +kernel
theorem dX6_fits_40 : decode cX6_fits 40 = .ok (.getfield 50, 3) := by decide +kernel
theorem dX6_fits_43 : decode cX6_fits 43 = .ok (.getfield 61, 3) := by decide +kernel
theorem dX6_fits_46 : decode cX6_fits 46 = .ok (.iconst 1, 1) := by decide +kernel
theorem dX6_fits_47 : decode cX6_fits 47 = .ok (.isub, 1) := by decide +kernel
theorem dX6_fits_48 : decode cX6_fits 48 = .ok (.invokestatic 57, 3) := by decide +kernel
theorem dX6_fits_51 : decode cX6_fits 51 = .ok (.ifCond .ne 6, 3) := by decide +kernel
theorem dX6_fits_54 : decode cX6_fits 54 = .ok (.bipush (-6), 2) := by decide +kernel
theorem dX6_fits_56 : decode cX6_fits 56 = .ok (.ireturn, 1) := by decide +kernel
theorem dX6_fits_57 : decode cX6_fits 57 = .ok (.aload_n 0, 1) := by decide +kernel
theorem dX6_fits_58 : decode cX6_fits 58 = .ok (.getfield 39, 3) := by decide +kernel
theorem dX6_fits_61 : decode cX6_fits 61 = .ok (.getfield 182, 3) := by decide +kernel
theorem dX6_fits_64 : decode cX6_fits 64 = .ok (.iload_n 1, 1) := by decide +kernel
theorem dX6_fits_65 : decode cX6_fits 65 = .ok (.invokestatic 154, 3) := by decide +kernel
theorem dX6_fits_68 : decode cX6_fits 68 = .ok (.ireturn, 1) := by decide +kernel
theorem dX6_places_0 : decode cX6_places 0 = .ok (.aload_n 0, 1) := by decide +kernel
theorem dX6_places_1 : decode cX6_places 1 = .ok (.getfield 10, 3) := by decide +kernel
theorem dX6_places_4 : decode cX6_places 4 = .ok (.getfield 50, 3) := by decide +kernel
theorem dX6_places_7 : decode cX6_places 7 = .ok (.iload_n 1, 1) := by decide +kernel
theorem dX6_places_8 : decode cX6_places 8 = .ok (.invokevirtual 77, 3) := by decide +kernel
theorem dX6_places_11 : decode cX6_places 11 = .ok (.ifCond .ne 5, 3) := by decide +kernel
theorem dX6_places_14 : decode cX6_places 14 = .ok (.iconst (-1), 1) := by decide +kernel
theorem dX6_places_15 : decode cX6_places 15 = .ok (.ireturn, 1) := by decide +kernel
theorem dX6_places_16 : decode cX6_places 16 = .ok (.aload_n 0, 1) := by decide +kernel
theorem dX6_places_17 : decode cX6_places 17 = .ok (.invokevirtual 176, 3) := by decide +kernel
theorem dX6_places_20 : decode cX6_places 20 = .ok (.istore_n 2, 1) := by decide +kernel
theorem dX6_places_21 : decode cX6_places 21 = .ok (.iload_n 2, 1) := by decide +kernel
theorem dX6_places_22 : decode cX6_places 22 = .ok (.ifCond .eq 7, 3) := by decide +kernel
theorem dX6_places_25 : decode cX6_places 25 = .ok (.iload_n 2, 1) := by decide +kernel
theorem dX6_places_26 : decode cX6_places 26 = .ok (.goto 11, 3) := by decide +kernel
theorem dX6_places_29 : decode cX6_places 29 = .ok (.aload_n 0, 1) := by decide +kernel
theorem dX6_places_30 : decode cX6_places 30 = .ok (.getfield 39, 3) := by decide +kernel
theorem dX6_places_33 : decode cX6_places 33 = .ok (.iload_n 1, 1) := by decide +kernel
theorem dX6_places_34 : decode cX6_places 34 = .ok (.invokevirtual 185, 3) := by decide +kernel
theorem dX6_places_37 : decode cX6_places 37 = .ok (.ireturn, 1) := by decide +kernel
theorem dX6_firsts_0 : decode cX6_firsts 0 = .ok (.aload_n 0, 1) := by decide +kernel
theorem dX6_firsts_1 : decode cX6_firsts 1 = .ok (.invokevirtual 176, 3) := by decide +kernel
theorem dX6_firsts_4 : decode cX6_firsts 4 = .ok (.istore_n 1, 1) := by decide +kernel
theorem dX6_firsts_5 : decode cX6_firsts 5 = .ok (.iload_n 1, 1) := by decide +kernel
theorem dX6_firsts_6 : decode cX6_firsts 6 = .ok (.ifCond .eq 7, 3) := by decide +kernel
theorem dX6_firsts_9 : decode cX6_firsts 9 = .ok (.iload_n 1, 1) := by decide +kernel
theorem dX6_firsts_10 : decode cX6_firsts 10 = .ok (.goto 10, 3) := by decide +kernel
theorem dX6_firsts_13 : decode cX6_firsts 13 = .ok (.aload_n 0, 1) := by decide +kernel
theorem dX6_firsts_14 : decode cX6_firsts 14 = .ok (.getfield 39, 3) := by decide +kernel
theorem dX6_firsts_17 : decode cX6_firsts 17 = .ok (.invokevirtual 188, 3) := by decide +kernel
theorem dX6_firsts_20 : decode cX6_firsts 20 = .ok (.ireturn, 1) := by decide +kernel
theorem dX6_certain_0 : decode cX6_certain 0 = .ok (.aload_n 0, 1) := by decide +kernel
theorem dX6_certain_1 : decode cX6_certain 1 = .ok (.getfield 10, 3) := by decide +kernel
theorem dX6_certain_4 : decode cX6_certain 4 = .ok (.getfield 50, 3) := by decide +kernel
theorem dX6_certain_7 : decode cX6_certain 7 = .ok (.iload_n 1, 1) := by decide +kernel
theorem dX6_certain_8 : decode cX6_certain 8 = .ok (.invokevirtual 77, 3) := by decide +kernel
theorem dX6_certain_11 : decode cX6_certain 11 = .ok (.ifCond .eq 22, 3) := by decide +kernel
theorem dX6_certain_14 : decode cX6_certain 14 = .ok (.aload_n 0, 1) := by decide +kernel
theorem dX6_certain_15 : decode cX6_certain 15 = .ok (.getfield 10, 3) := by decide +kernel
theorem dX6_certain_18 : decode cX6_certain 18 = .ok (.getfield 50, 3) := by decide +kernel
theorem dX6_certain_21 : decode cX6_certain 21 = .ok (.iload_n 2, 1) := by decide +kernel
theorem dX6_certain_22 : decode cX6_certain 22 = .ok (.invokevirtual 77, 3) := by decide +kernel
theorem dX6_certain_25 : decode cX6_certain 25 = .ok (.ifCond .eq 8, 3) := by decide +kernel
theorem dX6_certain_28 : decode cX6_certain 28 = .ok (.iload_n 1, 1) := by decide +kernel
theorem dX6_certain_29 : decode cX6_certain 29 = .ok (.iload_n 2, 1) := by decide +kernel
theorem dX6_certain_30 : decode cX6_certain 30 = .ok (.if_icmp .ne 5, 3) := by decide +kernel
theorem dX6_certain_33 : decode cX6_certain 33 = .ok (.iconst (-1), 1) := by decide +kernel
theorem dX6_certain_34 : decode cX6_certain 34 = .ok (.ireturn, 1) := by decide +kernel
theorem dX6_certain_35 : decode cX6_certain 35 = .ok (.aload_n 0, 1) := by decide +kernel
theorem dX6_certain_36 : decode cX6_certain 36 = .ok (.invokevirtual 176, 3) := by decide +kernel
theorem dX6_certain_39 : decode cX6_certain 39 = .ok (.istore_n 3, 1) := by decide +kernel
theorem dX6_certain_40 : decode cX6_certain 40 = .ok (.iload_n 3, 1) := by decide +kernel
theorem dX6_certain_41 : decode cX6_certain 41 = .ok (.ifCond .eq 5, 3) := by decide +kernel
theorem dX6_certain_44 : decode cX6_certain 44 = .ok (.iload_n 3, 1) := by decide +kernel
theorem dX6_certain_45 : decode cX6_certain 45 = .ok (.ireturn, 1) := by decide +kernel
theorem dX6_certain_46 : decode cX6_certain 46 = .ok (.aload_n 0, 1) := by decide +kernel
theorem dX6_certain_47 : decode cX6_certain 47 = .ok (.getfield 39, 3) := by decide +kernel
theorem dX6_certain_50 : decode cX6_certain 50 = .ok (.getfield 179, 3) := by decide +kernel
theorem dX6_certain_53 : decode cX6_certain 53 = .ok (.ifCond .ne 6, 3) := by decide +kernel
theorem dX6_certain_56 : decode cX6_certain 56 = .ok (.bipush (-6), 2) := by decide +kernel
theorem dX6_certain_58 : decode cX6_certain 58 = .ok (.ireturn, 1) := by decide +kernel
theorem dX6_certain_59 : decode cX6_certain 59 = .ok (.aload_n 0, 1) := by decide +kernel
theorem dX6_certain_60 : decode cX6_certain 60 = .ok (.getfield 39, 3) := by decide +kernel
theorem dX6_certain_63 : decode cX6_certain 63 = .ok (.getfield 191, 3) := by decide +kernel
theorem dX6_certain_66 : decode cX6_certain 66 = .ok (.iload_n 1, 1) := by decide +kernel
theorem dX6_certain_67 : decode cX6_certain 67 = .ok (.invokestatic 154, 3) := by decide +kernel
theorem dX6_certain_70 : decode cX6_certain 70 = .ok (.iload_n 2, 1) := by decide +kernel
theorem dX6_certain_71 : decode cX6_certain 71 = .ok (.invokestatic 99, 3) := by decide +kernel
theorem dX6_certain_74 : decode cX6_certain 74 = .ok (.ifCond .ne 5, 3) := by decide +kernel
theorem dX6_certain_77 : decode cX6_certain 77 = .ok (.iconst 1, 1) := by decide +kernel
theorem dX6_certain_78 : decode cX6_certain 78 = .ok (.ireturn, 1) := by decide +kernel
theorem dX6_certain_79 : decode cX6_certain 79 = .ok (.aload_n 0, 1) := by decide +kernel
theorem dX6_certain_80 : decode cX6_certain 80 = .ok (.getfield 39, 3) := by decide +kernel
theorem dX6_certain_83 : decode cX6_certain 83 = .ok (.getfield 191, 3) := by decide +kernel
theorem dX6_certain_86 : decode cX6_certain 86 = .ok (.iload_n 2, 1) := by decide +kernel
theorem dX6_certain_87 : decode cX6_certain 87 = .ok (.invokestatic 154, 3) := by decide +kernel
theorem dX6_certain_90 : decode cX6_certain 90 = .ok (.iload_n 1, 1) := by decide +kernel
theorem dX6_certain_91 : decode cX6_certain 91 = .ok (.invokestatic 99, 3) := by decide +kernel
theorem dX6_certain_94 : decode cX6_certain 94 = .ok (.ifCond .eq 7, 3) := by decide +kernel
theorem dX6_certain_97 : decode cX6_certain 97 = .ok (.iconst 0, 1) := by decide +kernel
theorem dX6_certain_98 : decode cX6_certain 98 = .ok (.goto 4, 3) := by decide +kernel
theorem dX6_certain_101 : decode cX6_certain 101 = .ok (.iconst 2, 1) := by decide +kernel
theorem dX6_certain_102 : decode cX6_certain 102 = .ok (.ireturn, 1) := by decide +kernel
theorem dX6_ask_0 : decode cX6_ask 0 = .ok (.iload_n 1, 1) := by decide +kernel
theorem dX6_ask_1 : decode cX6_ask 1 = .ok (.iconst 0, 1) := by decide +kernel
theorem dX6_ask_2 : decode cX6_ask 2 = .ok (.iconst 1, 1) := by decide +kernel
theorem dX6_ask_3 : decode cX6_ask 3 = .ok (.invokestatic 57, 3) := by decide +kernel
theorem dX6_ask_6 : decode cX6_ask 6 = .ok (.ifCond .ne 6, 3) := by decide +kernel
theorem dX6_ask_9 : decode cX6_ask 9 = .ok (.bipush (-2), 2) := by decide +kernel
theorem dX6_ask_11 : decode cX6_ask 11 = .ok (.ireturn, 1) := by decide +kernel
theorem dX6_ask_12 : decode cX6_ask 12 = .ok (.aload_n 0, 1) := by decide +kernel
theorem dX6_ask_13 : decode cX6_ask 13 = .ok (.invokevirtual 176, 3) := by decide +kernel
theorem dX6_ask_16 : decode cX6_ask 16 = .ok (.istore_n 2, 1) := by decide +kernel
theorem dX6_ask_17 : decode cX6_ask 17 = .ok (.iload_n 2, 1) := by decide +kernel
theorem dX6_ask_18 : decode cX6_ask 18 = .ok (.ifCond .eq 5, 3) := by decide +kernel
theorem dX6_ask_21 : decode cX6_ask 21 = .ok (.iload_n 2, 1) := by decide +kernel
theorem dX6_ask_22 : decode cX6_ask 22 = .ok (.ireturn, 1) := by decide +kernel
theorem dX6_ask_23 : decode cX6_ask 23 = .ok (.aload_n 0, 1) := by decide +kernel
theorem dX6_ask_24 : decode cX6_ask 24 = .ok (.getfield 39, 3) := by decide +kernel
theorem dX6_ask_27 : decode cX6_ask 27 = .ok (.getfield 179, 3) := by decide +kernel
theorem dX6_ask_30 : decode cX6_ask 30 = .ok (.ifCond .ne 6, 3) := by decide +kernel
theorem dX6_ask_33 : decode cX6_ask 33 = .ok (.bipush (-6), 2) := by decide +kernel
theorem dX6_ask_35 : decode cX6_ask 35 = .ok (.ireturn, 1) := by decide +kernel
theorem dX6_ask_36 : decode cX6_ask 36 = .ok (.iconst 0, 1) := by decide +kernel
theorem dX6_ask_37 : decode cX6_ask 37 = .ok (.istore_n 3, 1) := by decide +kernel
theorem dX6_ask_38 : decode cX6_ask 38 = .ok (.iconst 1, 1) := by decide +kernel
theorem dX6_ask_39 : decode cX6_ask 39 = .ok (.istore 4, 2) := by decide +kernel
theorem dX6_ask_41 : decode cX6_ask 41 = .ok (.iload 4, 2) := by decide +kernel
theorem dX6_ask_43 : decode cX6_ask 43 = .ok (.aload_n 0, 1) := by decide +kernel
theorem dX6_ask_44 : decode cX6_ask 44 = .ok (.getfield 10, 3) := by decide +kernel
theorem dX6_ask_47 : decode cX6_ask 47 = .ok (.getfield 50, 3) := by decide +kernel
theorem dX6_ask_50 : decode cX6_ask 50 = .ok (.getfield 61, 3) := by decide +kernel
theorem dX6_ask_53 : decode cX6_ask 53 = .ok (.if_icmp .ge 32, 3) := by decide +kernel
theorem dX6_ask_56 : decode cX6_ask 56 = .ok (.aload_n 0, 1) := by decide +kernel
theorem dX6_ask_57 : decode cX6_ask 57 = .ok (.getfield 39, 3) := by decide +kernel
theorem dX6_ask_60 : decode cX6_ask 60 = .ok (.iload 4, 2) := by decide +kernel
theorem dX6_ask_62 : decode cX6_ask 62 = .ok (.invokevirtual 194, 3) := by decide +kernel
theorem dX6_ask_65 : decode cX6_ask 65 = .ok (.aload_n 0, 1) := by decide +kernel
theorem dX6_ask_66 : decode cX6_ask 66 = .ok (.getfield 39, 3) := by decide +kernel
theorem dX6_ask_69 : decode cX6_ask 69 = .ok (.iload_n 3, 1) := by decide +kernel
theorem dX6_ask_70 : decode cX6_ask 70 = .ok (.invokevirtual 194, 3) := by decide +kernel
theorem dX6_ask_73 : decode cX6_ask 73 = .ok (.if_icmp .ge 6, 3) := by decide +kernel
theorem dX6_ask_76 : decode cX6_ask 76 = .ok (.iload 4, 2) := by decide +kernel
theorem dX6_ask_78 : decode cX6_ask 78 = .ok (.istore_n 3, 1) := by decide +kernel
theorem dX6_ask_79 : decode cX6_ask 79 = .ok (.iinc 4 1, 3) := by decide +kernel
theorem dX6_ask_82 : decode cX6_ask 82 = .ok (.goto (-41), 3) := by decide +kernel
theorem dX6_ask_85 : decode cX6_ask 85 = .ok (.iload_n 1, 1) := by decide +kernel
theorem dX6_ask_86 : decode cX6_ask 86 = .ok (.ifCond .ne 7, 3) := by decide +kernel
theorem dX6_ask_89 : decode cX6_ask 89 = .ok (.iload_n 3, 1) := by decide +kernel
theorem dX6_ask_90 : decode cX6_ask 90 = .ok (.goto 11, 3) := by decide +kernel
theorem dX6_ask_93 : decode cX6_ask 93 = .ok (.aload_n 0, 1) := by decide +kernel
theorem dX6_ask_94 : decode cX6_ask 94 = .ok (.getfield 39, 3) := by decide +kernel
theorem dX6_ask_97 : decode cX6_ask 97 = .ok (.iload_n 3, 1) := by decide +kernel
theorem dX6_ask_98 : decode cX6_ask 98 = .ok (.invokevirtual 194, 3) := by decide +kernel
theorem dX6_ask_101 : decode cX6_ask 101 = .ok (.ireturn, 1) := by decide +kernel
theorem dX6_mend_0 : decode cX6_mend 0 = .ok (.iload_n 1, 1) := by decide +kernel
theorem dX6_mend_1 : decode cX6_mend 1 = .ok (.iconst 0, 1) := by decide +kernel
theorem dX6_mend_2 : decode cX6_mend 2 = .ok (.iconst 1, 1) := by decide +kernel
theorem dX6_mend_3 : decode cX6_mend 3 = .ok (.invokestatic 57, 3) := by decide +kernel
theorem dX6_mend_6 : decode cX6_mend 6 = .ok (.ifCond .ne 6, 3) := by decide +kernel
theorem dX6_mend_9 : decode cX6_mend 9 = .ok (.bipush (-2), 2) := by decide +kernel
theorem dX6_mend_11 : decode cX6_mend 11 = .ok (.ireturn, 1) := by decide +kernel
theorem dX6_mend_12 : decode cX6_mend 12 = .ok (.aload_n 0, 1) := by decide +kernel
theorem dX6_mend_13 : decode cX6_mend 13 = .ok (.getfield 10, 3) := by decide +kernel
theorem dX6_mend_16 : decode cX6_mend 16 = .ok (.getfield 50, 3) := by decide +kernel
theorem dX6_mend_19 : decode cX6_mend 19 = .ok (.invokevirtual 197, 3) := by decide +kernel
theorem dX6_mend_22 : decode cX6_mend 22 = .ok (.istore_n 2, 1) := by decide +kernel
theorem dX6_mend_23 : decode cX6_mend 23 = .ok (.iload_n 1, 1) := by decide +kernel
theorem dX6_mend_24 : decode cX6_mend 24 = .ok (.ifCond .ne 10, 3) := by decide +kernel
theorem dX6_mend_27 : decode cX6_mend 27 = .ok (.iload_n 2, 1) := by decide +kernel
theorem dX6_mend_28 : decode cX6_mend 28 = .ok (.invokestatic 200, 3) := by decide +kernel
theorem dX6_mend_31 : decode cX6_mend 31 = .ok (.goto 4, 3) := by decide +kernel
theorem dX6_mend_34 : decode cX6_mend 34 = .ok (.iload_n 2, 1) := by decide +kernel
theorem dX6_mend_35 : decode cX6_mend 35 = .ok (.ireturn, 1) := by decide +kernel
theorem dX6_soonest_0 : decode cX6_soonest 0 = .ok (.iload_n 1, 1) := by decide +kernel
theorem dX6_soonest_1 : decode cX6_soonest 1 = .ok (.iconst 1, 1) := by decide +kernel
theorem dX6_soonest_2 : decode cX6_soonest 2 = .ok (.bipush 6, 2) := by decide +kernel
theorem dX6_soonest_4 : decode cX6_soonest 4 = .ok (.invokestatic 57, 3) := by decide +kernel
theorem dX6_soonest_7 : decode cX6_soonest 7 = .ok (.ifCond .ne 6, 3) := by decide +kernel
theorem dX6_soonest_10 : decode cX6_soonest 10 = .ok (.bipush (-2), 2) := by decide +kernel
theorem dX6_soonest_12 : decode cX6_soonest 12 = .ok (.ireturn, 1) := by decide +kernel
theorem dX6_soonest_13 : decode cX6_soonest 13 = .ok (.iconst 0, 1) := by decide +kernel
theorem dX6_soonest_14 : decode cX6_soonest 14 = .ok (.istore_n 2, 1) := by decide +kernel
theorem dX6_soonest_15 : decode cX6_soonest 15 = .ok (.iconst 0, 1) := by decide +kernel
theorem dX6_soonest_16 : decode cX6_soonest 16 = .ok (.istore_n 3, 1) := by decide +kernel
theorem dX6_soonest_17 : decode cX6_soonest 17 = .ok (.iconst 0, 1) := by decide +kernel
theorem dX6_soonest_18 : decode cX6_soonest 18 = .ok (.istore 4, 2) := by decide +kernel
theorem dX6_soonest_20 : decode cX6_soonest 20 = .ok (.iload 4, 2) := by decide +kernel
theorem dX6_soonest_22 : decode cX6_soonest 22 = .ok (.bipush 6, 2) := by decide +kernel
theorem dX6_soonest_24 : decode cX6_soonest 24 = .ok (.if_icmp .ge 35, 3) := by decide +kernel
theorem dX6_soonest_27 : decode cX6_soonest 27 = .ok (.aload_n 0, 1) := by decide +kernel
theorem dX6_soonest_28 : decode cX6_soonest 28 = .ok (.getfield 10, 3) := by decide +kernel
theorem dX6_soonest_31 : decode cX6_soonest 31 = .ok (.getfield 50, 3) := by decide +kernel
theorem dX6_soonest_34 : decode cX6_soonest 34 = .ok (.iload 4, 2) := by decide +kernel
theorem dX6_soonest_36 : decode cX6_soonest 36 = .ok (.invokevirtual 205, 3) := by decide +kernel
theorem dX6_soonest_39 : decode cX6_soonest 39 = .ok (.istore 5, 2) := by decide +kernel
theorem dX6_soonest_41 : decode cX6_soonest 41 = .ok (.iload_n 2, 1) := by decide +kernel
theorem dX6_soonest_42 : decode cX6_soonest 42 = .ok (.iload 5, 2) := by decide +kernel
theorem dX6_soonest_44 : decode cX6_soonest 44 = .ok (.invokestatic 208, 3) := by decide +kernel
theorem dX6_soonest_47 : decode cX6_soonest 47 = .ok (.istore_n 2, 1) := by decide +kernel
theorem dX6_soonest_48 : decode cX6_soonest 48 = .ok (.iload_n 3, 1) := by decide +kernel
theorem dX6_soonest_49 : decode cX6_soonest 49 = .ok (.iload 5, 2) := by decide +kernel
theorem dX6_soonest_51 : decode cX6_soonest 51 = .ok (.iadd, 1) := by decide +kernel
theorem dX6_soonest_52 : decode cX6_soonest 52 = .ok (.istore_n 3, 1) := by decide +kernel
theorem dX6_soonest_53 : decode cX6_soonest 53 = .ok (.iinc 4 1, 3) := by decide +kernel
theorem dX6_soonest_56 : decode cX6_soonest 56 = .ok (.goto (-36), 3) := by decide +kernel
theorem dX6_soonest_59 : decode cX6_soonest 59 = .ok (.iload_n 2, 1) := by decide +kernel
theorem dX6_soonest_60 : decode cX6_soonest 60 = .ok (.iload_n 3, 1) := by decide +kernel
theorem dX6_soonest_61 : decode cX6_soonest 61 = .ok (.iload_n 1, 1) := by decide +kernel
theorem dX6_soonest_62 : decode cX6_soonest 62 = .ok (.iadd, 1) := by decide +kernel
theorem dX6_soonest_63 : decode cX6_soonest 63 = .ok (.iconst 1, 1) := by decide +kernel
theorem dX6_soonest_64 : decode cX6_soonest 64 = .ok (.isub, 1) := by decide +kernel
theorem dX6_soonest_65 : decode cX6_soonest 65 = .ok (.iload_n 1, 1) := by decide +kernel
theorem dX6_soonest_66 : decode cX6_soonest 66 = .ok (.idiv, 1) := by decide +kernel
theorem dX6_soonest_67 : decode cX6_soonest 67 = .ok (.invokestatic 208, 3) := by decide +kernel
theorem dX6_soonest_70 : decode cX6_soonest 70 = .ok (.ireturn, 1) := by decide +kernel
theorem dX6_rests_0 : decode cX6_rests 0 = .ok (.iload_n 1, 1) := by decide +kernel
theorem dX6_rests_1 : decode cX6_rests 1 = .ok (.iconst 0, 1) := by decide +kernel
theorem dX6_rests_2 : decode cX6_rests 2 = .ok (.bipush 99, 2) := by decide +kernel
theorem dX6_rests_4 : decode cX6_rests 4 = .ok (.invokestatic 57, 3) := by decide +kernel
theorem dX6_rests_7 : decode cX6_rests 7 = .ok (.ifCond .ne 6, 3) := by decide +kernel
theorem dX6_rests_10 : decode cX6_rests 10 = .ok (.bipush (-2), 2) := by decide +kernel
theorem dX6_rests_12 : decode cX6_rests 12 = .ok (.ireturn, 1) := by decide +kernel
theorem dX6_rests_13 : decode cX6_rests 13 = .ok (.aload_n 0, 1) := by decide +kernel
theorem dX6_rests_14 : decode cX6_rests 14 = .ok (.getfield 10, 3) := by decide +kernel
theorem dX6_rests_17 : decode cX6_rests 17 = .ok (.getfield 50, 3) := by decide +kernel
theorem dX6_rests_20 : decode cX6_rests 20 = .ok (.invokevirtual 213, 3) := by decide +kernel
theorem dX6_rests_23 : decode cX6_rests 23 = .ok (.istore_n 3, 1) := by decide +kernel
theorem dX6_rests_24 : decode cX6_rests 24 = .ok (.iconst 0, 1) := by decide +kernel
theorem dX6_rests_25 : decode cX6_rests 25 = .ok (.istore 4, 2) := by decide +kernel
theorem dX6_rests_27 : decode cX6_rests 27 = .ok (.iconst 0, 1) := by decide +kernel
theorem dX6_rests_28 : decode cX6_rests 28 = .ok (.istore 5, 2) := by decide +kernel
theorem dX6_rests_30 : decode cX6_rests 30 = .ok (.iload 5, 2) := by decide +kernel
theorem dX6_rests_32 : decode cX6_rests 32 = .ok (.bipush 64, 2) := by decide +kernel
theorem dX6_rests_34 : decode cX6_rests 34 = .ok (.if_icmp .ge 44, 3) := by decide +kernel
theorem dX6_rests_37 : decode cX6_rests 37 = .ok (.iload 5, 2) := by decide +kernel
theorem dX6_rests_39 : decode cX6_rests 39 = .ok (.iload_n 3, 1) := by decide +kernel
theorem dX6_rests_40 : decode cX6_rests 40 = .ok (.iconst (-1), 1) := by decide +kernel
theorem dX6_rests_41 : decode cX6_rests 41 = .ok (.ixor, 1) := by decide +kernel
theorem dX6_rests_42 : decode cX6_rests 42 = .ok (.iand, 1) := by decide +kernel
theorem dX6_rests_43 : decode cX6_rests 43 = .ok (.ifCond .ne 29, 3) := by decide +kernel
theorem dX6_rests_46 : decode cX6_rests 46 = .ok (.aload_n 0, 1) := by decide +kernel
theorem dX6_rests_47 : decode cX6_rests 47 = .ok (.iload 5, 2) := by decide +kernel
theorem dX6_rests_49 : decode cX6_rests 49 = .ok (.iload_n 3, 1) := by decide +kernel
theorem dX6_rests_50 : decode cX6_rests 50 = .ok (.iload_n 1, 1) := by decide +kernel
theorem dX6_rests_51 : decode cX6_rests 51 = .ok (.invokevirtual 216, 3) := by decide +kernel
theorem dX6_rests_54 : decode cX6_rests 54 = .ok (.ifCond .ne 6, 3) := by decide +kernel
theorem dX6_rests_57 : decode cX6_rests 57 = .ok (.goto 15, 3) := by decide +kernel
theorem dX6_rests_60 : decode cX6_rests 60 = .ok (.iload 4, 2) := by decide +kernel
theorem dX6_rests_62 : decode cX6_rests 62 = .ok (.iload_n 2, 1) := by decide +kernel
theorem dX6_rests_63 : decode cX6_rests 63 = .ok (.if_icmp .ne 6, 3) := by decide +kernel
theorem dX6_rests_66 : decode cX6_rests 66 = .ok (.iload 5, 2) := by decide +kernel
theorem dX6_rests_68 : decode cX6_rests 68 = .ok (.ireturn, 1) := by decide +kernel
theorem dX6_rests_69 : decode cX6_rests 69 = .ok (.iinc 4 1, 3) := by decide +kernel
theorem dX6_rests_72 : decode cX6_rests 72 = .ok (.iinc 5 1, 3) := by decide +kernel
theorem dX6_rests_75 : decode cX6_rests 75 = .ok (.goto (-45), 3) := by decide +kernel
theorem dX6_rests_78 : decode cX6_rests 78 = .ok (.iload_n 2, 1) := by decide +kernel
theorem dX6_rests_79 : decode cX6_rests 79 = .ok (.iconst (-1), 1) := by decide +kernel
theorem dX6_rests_80 : decode cX6_rests 80 = .ok (.if_icmp .ne 8, 3) := by decide +kernel
theorem dX6_rests_83 : decode cX6_rests 83 = .ok (.iload 4, 2) := by decide +kernel
theorem dX6_rests_85 : decode cX6_rests 85 = .ok (.goto 5, 3) := by decide +kernel
theorem dX6_rests_88 : decode cX6_rests 88 = .ok (.bipush (-6), 2) := by decide +kernel
theorem dX6_rests_90 : decode cX6_rests 90 = .ok (.ireturn, 1) := by decide +kernel
theorem dX6_shapley_0 : decode cX6_shapley 0 = .ok (.iload_n 1, 1) := by decide +kernel
theorem dX6_shapley_1 : decode cX6_shapley 1 = .ok (.iconst 0, 1) := by decide +kernel
theorem dX6_shapley_2 : decode cX6_shapley 2 = .ok (.iconst 5, 1) := by decide +kernel
theorem dX6_shapley_3 : decode cX6_shapley 3 = .ok (.invokestatic 57, 3) := by decide +kernel
theorem dX6_shapley_6 : decode cX6_shapley 6 = .ok (.ifCond .ne 7, 3) := by decide +kernel
theorem dX6_shapley_9 : decode cX6_shapley 9 = .ok (.ldc2_w 219, 3) := by decide +kernel
theorem dX6_shapley_12 : decode cX6_shapley 12 = .ok (.lreturn, 1) := by decide +kernel
theorem dX6_shapley_13 : decode cX6_shapley 13 = .ok (.iload_n 2, 1) := by decide +kernel
theorem dX6_shapley_14 : decode cX6_shapley 14 = .ok (.iconst 0, 1) := by decide +kernel
theorem dX6_shapley_15 : decode cX6_shapley 15 = .ok (.iconst 1, 1) := by decide +kernel
theorem dX6_shapley_16 : decode cX6_shapley 16 = .ok (.invokestatic 57, 3) := by decide +kernel
theorem dX6_shapley_19 : decode cX6_shapley 19 = .ok (.ifCond .ne 7, 3) := by decide +kernel
theorem dX6_shapley_22 : decode cX6_shapley 22 = .ok (.ldc2_w 221, 3) := by decide +kernel
theorem dX6_shapley_25 : decode cX6_shapley 25 = .ok (.lreturn, 1) := by decide +kernel
theorem dX6_shapley_26 : decode cX6_shapley 26 = .ok (.lconst 0, 1) := by decide +kernel
theorem dX6_shapley_27 : decode cX6_shapley 27 = .ok (.lstore_n 3, 1) := by decide +kernel
theorem dX6_shapley_28 : decode cX6_shapley 28 = .ok (.iconst 0, 1) := by decide +kernel
theorem dX6_shapley_29 : decode cX6_shapley 29 = .ok (.istore 5, 2) := by decide +kernel
theorem dX6_shapley_31 : decode cX6_shapley 31 = .ok (.iload 5, 2) := by decide +kernel
theorem dX6_shapley_33 : decode cX6_shapley 33 = .ok (.bipush 64, 2) := by decide +kernel
theorem dX6_shapley_35 : decode cX6_shapley 35 = .ok (.if_icmp .ge 60, 3) := by decide +kernel
theorem dX6_shapley_38 : decode cX6_shapley 38 = .ok (.iload 5, 2) := by decide +kernel
theorem dX6_shapley_40 : decode cX6_shapley 40 = .ok (.iload_n 1, 1) := by decide +kernel
theorem dX6_shapley_41 : decode cX6_shapley 41 = .ok (.invokestatic 99, 3) := by decide +kernel
theorem dX6_shapley_44 : decode cX6_shapley 44 = .ok (.ifCond .eq 6, 3) := by decide +kernel
theorem dX6_shapley_47 : decode cX6_shapley 47 = .ok (.goto 42, 3) := by decide +kernel
theorem dX6_shapley_50 : decode cX6_shapley 50 = .ok (.aload_n 0, 1) := by decide +kernel
theorem dX6_shapley_51 : decode cX6_shapley 51 = .ok (.iload 5, 2) := by decide +kernel
theorem dX6_shapley_53 : decode cX6_shapley 53 = .ok (.iload_n 1, 1) := by decide +kernel
theorem dX6_shapley_54 : decode cX6_shapley 54 = .ok (.invokestatic 223, 3) := by decide +kernel
theorem dX6_shapley_57 : decode cX6_shapley 57 = .ok (.ior, 1) := by decide +kernel
theorem dX6_shapley_58 : decode cX6_shapley 58 = .ok (.invokevirtual 226, 3) := by decide +kernel
theorem dX6_shapley_61 : decode cX6_shapley 61 = .ok (.aload_n 0, 1) := by decide +kernel
theorem dX6_shapley_62 : decode cX6_shapley 62 = .ok (.iload 5, 2) := by decide +kernel
theorem dX6_shapley_64 : decode cX6_shapley 64 = .ok (.invokevirtual 226, 3) := by decide +kernel
theorem dX6_shapley_67 : decode cX6_shapley 67 = .ok (.isub, 1) := by decide +kernel
theorem dX6_shapley_68 : decode cX6_shapley 68 = .ok (.istore 6, 2) := by decide +kernel
theorem dX6_shapley_70 : decode cX6_shapley 70 = .ok (.lload_n 3, 1) := by decide +kernel
theorem dX6_shapley_71 : decode cX6_shapley 71 = .ok (.getstatic 229, 3) := by decide +kernel
theorem dX6_shapley_74 : decode cX6_shapley 74 = .ok (.iload 5, 2) := by decide +kernel
theorem dX6_shapley_76 : decode cX6_shapley 76 = .ok (.invokestatic 200, 3) := by decide +kernel
theorem dX6_shapley_79 : decode cX6_shapley 79 = .ok (.invokestatic 154, 3) := by decide +kernel
theorem dX6_shapley_82 : decode cX6_shapley 82 = .ok (.i2l, 1) := by decide +kernel
theorem dX6_shapley_83 : decode cX6_shapley 83 = .ok (.iload 6, 2) := by decide +kernel
theorem dX6_shapley_85 : decode cX6_shapley 85 = .ok (.i2l, 1) := by decide +kernel
theorem dX6_shapley_86 : decode cX6_shapley 86 = .ok (.lmul, 1) := by decide +kernel
theorem dX6_shapley_87 : decode cX6_shapley 87 = .ok (.ladd, 1) := by decide +kernel
theorem dX6_shapley_88 : decode cX6_shapley 88 = .ok (.lstore_n 3, 1) := by decide +kernel
theorem dX6_shapley_89 : decode cX6_shapley 89 = .ok (.iinc 5 1, 3) := by decide +kernel
theorem dX6_shapley_92 : decode cX6_shapley 92 = .ok (.goto (-61), 3) := by decide +kernel
theorem dX6_shapley_95 : decode cX6_shapley 95 = .ok (.lload_n 3, 1) := by decide +kernel
theorem dX6_shapley_96 : decode cX6_shapley 96 = .ok (.ldc2_w 232, 3) := by decide +kernel
theorem dX6_shapley_99 : decode cX6_shapley 99 = .ok (.iload_n 2, 1) := by decide +kernel
theorem dX6_shapley_100 : decode cX6_shapley 100 = .ok (.invokestatic 234, 3) := by decide +kernel
theorem dX6_shapley_103 : decode cX6_shapley 103 = .ok (.lreturn, 1) := by decide +kernel
theorem dX6_hope_0 : decode cX6_hope 0 = .ok (.iload_n 1, 1) := by decide +kernel
theorem dX6_hope_1 : decode cX6_hope 1 = .ok (.iconst 0, 1) := by decide +kernel
theorem dX6_hope_2 : decode cX6_hope 2 = .ok (.bipush 10, 2) := by decide +kernel
theorem dX6_hope_4 : decode cX6_hope 4 = .ok (.invokestatic 57, 3) := by decide +kernel
theorem dX6_hope_7 : decode cX6_hope 7 = .ok (.ifCond .eq 21, 3) := by decide +kernel
theorem dX6_hope_10 : decode cX6_hope 10 = .ok (.iload_n 2, 1) := by decide +kernel
theorem dX6_hope_11 : decode cX6_hope 11 = .ok (.iconst 0, 1) := by decide +kernel
theorem dX6_hope_12 : decode cX6_hope 12 = .ok (.iconst 1, 1) := by decide +kernel
theorem dX6_hope_13 : decode cX6_hope 13 = .ok (.invokestatic 57, 3) := by decide +kernel
theorem dX6_hope_16 : decode cX6_hope 16 = .ok (.ifCond .eq 12, 3) := by decide +kernel
theorem dX6_hope_19 : decode cX6_hope 19 = .ok (.iload_n 3, 1) := by decide +kernel
theorem dX6_hope_20 : decode cX6_hope 20 = .ok (.iconst 0, 1) := by decide +kernel
theorem dX6_hope_21 : decode cX6_hope 21 = .ok (.iconst 1, 1) := by decide +kernel
theorem dX6_hope_22 : decode cX6_hope 22 = .ok (.invokestatic 57, 3) := by decide +kernel
theorem dX6_hope_25 : decode cX6_hope 25 = .ok (.ifCond .ne 7, 3) := by decide +kernel
theorem dX6_hope_28 : decode cX6_hope 28 = .ok (.ldc2_w 221, 3) := by decide +kernel
theorem dX6_hope_31 : decode cX6_hope 31 = .ok (.lreturn, 1) := by decide +kernel
theorem dX6_hope_32 : decode cX6_hope 32 = .ok (.aload_n 0, 1) := by decide +kernel
theorem dX6_hope_33 : decode cX6_hope 33 = .ok (.getfield 10, 3) := by decide +kernel
theorem dX6_hope_36 : decode cX6_hope 36 = .ok (.getfield 50, 3) := by decide +kernel
theorem dX6_hope_39 : decode cX6_hope 39 = .ok (.invokevirtual 238, 3) := by decide +kernel
theorem dX6_hope_42 : decode cX6_hope 42 = .ok (.istore 4, 2) := by decide +kernel
theorem dX6_hope_44 : decode cX6_hope 44 = .ok (.aload_n 0, 1) := by decide +kernel
theorem dX6_hope_45 : decode cX6_hope 45 = .ok (.getfield 10, 3) := by decide +kernel
theorem dX6_hope_48 : decode cX6_hope 48 = .ok (.getfield 50, 3) := by decide +kernel
theorem dX6_hope_51 : decode cX6_hope 51 = .ok (.invokevirtual 241, 3) := by decide +kernel
theorem dX6_hope_54 : decode cX6_hope 54 = .ok (.istore 5, 2) := by decide +kernel
theorem dX6_hope_56 : decode cX6_hope 56 = .ok (.lconst 1, 1) := by decide +kernel
theorem dX6_hope_57 : decode cX6_hope 57 = .ok (.lstore 6, 2) := by decide +kernel
theorem dX6_hope_59 : decode cX6_hope 59 = .ok (.lconst 1, 1) := by decide +kernel
theorem dX6_hope_60 : decode cX6_hope 60 = .ok (.lstore 8, 2) := by decide +kernel
theorem dX6_hope_62 : decode cX6_hope 62 = .ok (.lconst 0, 1) := by decide +kernel
theorem dX6_hope_63 : decode cX6_hope 63 = .ok (.lstore 10, 2) := by decide +kernel
theorem dX6_hope_65 : decode cX6_hope 65 = .ok (.iconst 0, 1) := by decide +kernel
theorem dX6_hope_66 : decode cX6_hope 66 = .ok (.istore 12, 2) := by decide +kernel
theorem dX6_hope_68 : decode cX6_hope 68 = .ok (.iload 12, 2) := by decide +kernel
theorem dX6_hope_70 : decode cX6_hope 70 = .ok (.iload 5, 2) := by decide +kernel
theorem dX6_hope_72 : decode cX6_hope 72 = .ok (.if_icmp .ge 45, 3) := by decide +kernel
theorem dX6_hope_75 : decode cX6_hope 75 = .ok (.iload 12, 2) := by decide +kernel
theorem dX6_hope_77 : decode cX6_hope 77 = .ok (.bipush 7, 2) := by decide +kernel
theorem dX6_hope_79 : decode cX6_hope 79 = .ok (.if_icmp .ge 38, 3) := by decide +kernel
theorem dX6_hope_82 : decode cX6_hope 82 = .ok (.lload 6, 2) := by decide +kernel
theorem dX6_hope_84 : decode cX6_hope 84 = .ok (.ldc2_w 244, 3) := by decide +kernel
theorem dX6_hope_87 : decode cX6_hope 87 = .ok (.lmul, 1) := by decide +kernel
theorem dX6_hope_88 : decode cX6_hope 88 = .ok (.lstore 6, 2) := by decide +kernel
theorem dX6_hope_90 : decode cX6_hope 90 = .ok (.lload 8, 2) := by decide +kernel
theorem dX6_hope_92 : decode cX6_hope 92 = .ok (.bipush 10, 2) := by decide +kernel
theorem dX6_hope_94 : decode cX6_hope 94 = .ok (.iload_n 1, 1) := by decide +kernel
theorem dX6_hope_95 : decode cX6_hope 95 = .ok (.isub, 1) := by decide +kernel
theorem dX6_hope_96 : decode cX6_hope 96 = .ok (.i2l, 1) := by decide +kernel
theorem dX6_hope_97 : decode cX6_hope 97 = .ok (.lmul, 1) := by decide +kernel
theorem dX6_hope_98 : decode cX6_hope 98 = .ok (.lstore 8, 2) := by decide +kernel
theorem dX6_hope_100 : decode cX6_hope 100 = .ok (.lload 10, 2) := by decide +kernel
theorem dX6_hope_102 : decode cX6_hope 102 = .ok (.ldc2_w 244, 3) := by decide +kernel
theorem dX6_hope_105 : decode cX6_hope 105 = .ok (.lmul, 1) := by decide +kernel
theorem dX6_hope_106 : decode cX6_hope 106 = .ok (.lload 8, 2) := by decide +kernel
theorem dX6_hope_108 : decode cX6_hope 108 = .ok (.ladd, 1) := by decide +kernel
theorem dX6_hope_109 : decode cX6_hope 109 = .ok (.lstore 10, 2) := by decide +kernel
theorem dX6_hope_111 : decode cX6_hope 111 = .ok (.iinc 12 1, 3) := by decide +kernel
theorem dX6_hope_114 : decode cX6_hope 114 = .ok (.goto (-46), 3) := by decide +kernel
theorem dX6_hope_117 : decode cX6_hope 117 = .ok (.iload_n 2, 1) := by decide +kernel
theorem dX6_hope_118 : decode cX6_hope 118 = .ok (.ifCond .ne 12, 3) := by decide +kernel
theorem dX6_hope_121 : decode cX6_hope 121 = .ok (.lload 10, 2) := by decide +kernel
theorem dX6_hope_123 : decode cX6_hope 123 = .ok (.lload 6, 2) := by decide +kernel
theorem dX6_hope_125 : decode cX6_hope 125 = .ok (.iload_n 3, 1) := by decide +kernel
theorem dX6_hope_126 : decode cX6_hope 126 = .ok (.invokestatic 234, 3) := by decide +kernel
theorem dX6_hope_129 : decode cX6_hope 129 = .ok (.lreturn, 1) := by decide +kernel
theorem dX6_hope_130 : decode cX6_hope 130 = .ok (.iload 5, 2) := by decide +kernel
theorem dX6_hope_132 : decode cX6_hope 132 = .ok (.iload 4, 2) := by decide +kernel
theorem dX6_hope_134 : decode cX6_hope 134 = .ok (.if_icmp .ne 8, 3) := by decide +kernel
theorem dX6_hope_137 : decode cX6_hope 137 = .ok (.lload 8, 2) := by decide +kernel
theorem dX6_hope_139 : decode cX6_hope 139 = .ok (.goto 4, 3) := by decide +kernel
theorem dX6_hope_142 : decode cX6_hope 142 = .ok (.lconst 0, 1) := by decide +kernel
theorem dX6_hope_143 : decode cX6_hope 143 = .ok (.lload 6, 2) := by decide +kernel
theorem dX6_hope_145 : decode cX6_hope 145 = .ok (.iload_n 3, 1) := by decide +kernel
theorem dX6_hope_146 : decode cX6_hope 146 = .ok (.invokestatic 234, 3) := by decide +kernel
theorem dX6_hope_149 : decode cX6_hope 149 = .ok (.lreturn, 1) := by decide +kernel
theorem dX6_year_0 : decode cX6_year 0 = .ok (.iload_n 1, 1) := by decide +kernel
theorem dX6_year_1 : decode cX6_year 1 = .ok (.iconst 0, 1) := by decide +kernel
theorem dX6_year_2 : decode cX6_year 2 = .ok (.sipush 9999, 3) := by decide +kernel
theorem dX6_year_5 : decode cX6_year 5 = .ok (.invokestatic 57, 3) := by decide +kernel
theorem dX6_year_8 : decode cX6_year 8 = .ok (.ifCond .eq 22, 3) := by decide +kernel
theorem dX6_year_11 : decode cX6_year 11 = .ok (.iload_n 2, 1) := by decide +kernel
theorem dX6_year_12 : decode cX6_year 12 = .ok (.iconst 1, 1) := by decide +kernel
theorem dX6_year_13 : decode cX6_year 13 = .ok (.bipush 99, 2) := by decide +kernel
theorem dX6_year_15 : decode cX6_year 15 = .ok (.invokestatic 57, 3) := by decide +kernel
theorem dX6_year_18 : decode cX6_year 18 = .ok (.ifCond .eq 12, 3) := by decide +kernel
theorem dX6_year_21 : decode cX6_year 21 = .ok (.iload_n 3, 1) := by decide +kernel
theorem dX6_year_22 : decode cX6_year 22 = .ok (.iconst 0, 1) := by decide +kernel
theorem dX6_year_23 : decode cX6_year 23 = .ok (.iconst 2, 1) := by decide +kernel
theorem dX6_year_24 : decode cX6_year 24 = .ok (.invokestatic 57, 3) := by decide +kernel
theorem dX6_year_27 : decode cX6_year 27 = .ok (.ifCond .ne 6, 3) := by decide +kernel
theorem dX6_year_30 : decode cX6_year 30 = .ok (.bipush (-2), 2) := by decide +kernel
theorem dX6_year_32 : decode cX6_year 32 = .ok (.ireturn, 1) := by decide +kernel
theorem dX6_year_33 : decode cX6_year 33 = .ok (.aload_n 0, 1) := by decide +kernel
theorem dX6_year_34 : decode cX6_year 34 = .ok (.getfield 46, 3) := by decide +kernel
theorem dX6_year_37 : decode cX6_year 37 = .ok (.aload_n 0, 1) := by decide +kernel
theorem dX6_year_38 : decode cX6_year 38 = .ok (.getfield 10, 3) := by decide +kernel
theorem dX6_year_41 : decode cX6_year 41 = .ok (.getfield 50, 3) := by decide +kernel
theorem dX6_year_44 : decode cX6_year 44 = .ok (.invokevirtual 165, 3) := by decide +kernel
theorem dX6_year_47 : decode cX6_year 47 = .ok (.iload_n 1, 1) := by decide +kernel
theorem dX6_year_48 : decode cX6_year 48 = .ok (.istore 4, 2) := by decide +kernel
theorem dX6_year_50 : decode cX6_year 50 = .ok (.iconst 0, 1) := by decide +kernel
theorem dX6_year_51 : decode cX6_year 51 = .ok (.istore 5, 2) := by decide +kernel
theorem dX6_year_53 : decode cX6_year 53 = .ok (.iconst 0, 1) := by decide +kernel
theorem dX6_year_54 : decode cX6_year 54 = .ok (.istore 6, 2) := by decide +kernel
theorem dX6_year_56 : decode cX6_year 56 = .ok (.iconst 0, 1) := by decide +kernel
theorem dX6_year_57 : decode cX6_year 57 = .ok (.istore 7, 2) := by decide +kernel
theorem dX6_year_59 : decode cX6_year 59 = .ok (.iconst 1, 1) := by decide +kernel
theorem dX6_year_60 : decode cX6_year 60 = .ok (.istore 8, 2) := by decide +kernel
theorem dX6_year_62 : decode cX6_year 62 = .ok (.iload 8, 2) := by decide +kernel
theorem dX6_year_64 : decode cX6_year 64 = .ok (.iload_n 2, 1) := by decide +kernel
theorem dX6_year_65 : decode cX6_year 65 = .ok (.if_icmp .gt 77, 3) := by decide +kernel
theorem dX6_year_68 : decode cX6_year 68 = .ok (.bipush 75, 2) := by decide +kernel
theorem dX6_year_70 : decode cX6_year 70 = .ok (.iload 4, 2) := by decide +kernel
theorem dX6_year_72 : decode cX6_year 72 = .ok (.imul, 1) := by decide +kernel
theorem dX6_year_73 : decode cX6_year 73 = .ok (.bipush 74, 2) := by decide +kernel
theorem dX6_year_75 : decode cX6_year 75 = .ok (.iadd, 1) := by decide +kernel
theorem dX6_year_76 : decode cX6_year 76 = .ok (.ldc 246, 2) := by decide +kernel
theorem dX6_year_78 : decode cX6_year 78 = .ok (.irem, 1) := by decide +kernel
theorem dX6_year_79 : decode cX6_year 79 = .ok (.istore 4, 2) := by decide +kernel
theorem dX6_year_81 : decode cX6_year 81 = .ok (.aload_n 0, 1) := by decide +kernel
theorem dX6_year_82 : decode cX6_year 82 = .ok (.getfield 46, 3) := by decide +kernel
theorem dX6_year_85 : decode cX6_year 85 = .ok (.iload 4, 2) := by decide +kernel
theorem dX6_year_87 : decode cX6_year 87 = .ok (.bipush 6, 2) := by decide +kernel
theorem dX6_year_89 : decode cX6_year 89 = .ok (.irem, 1) := by decide +kernel
theorem dX6_year_90 : decode cX6_year 90 = .ok (.invokevirtual 102, 3) := by decide +kernel
theorem dX6_year_93 : decode cX6_year 93 = .ok (.iload 7, 2) := by decide +kernel
theorem dX6_year_95 : decode cX6_year 95 = .ok (.aload_n 0, 1) := by decide +kernel
theorem dX6_year_96 : decode cX6_year 96 = .ok (.getfield 46, 3) := by decide +kernel
theorem dX6_year_99 : decode cX6_year 99 = .ok (.getfield 96, 3) := by decide +kernel
theorem dX6_year_102 : decode cX6_year 102 = .ok (.invokestatic 200, 3) := by decide +kernel
theorem dX6_year_105 : decode cX6_year 105 = .ok (.iadd, 1) := by decide +kernel
theorem dX6_year_106 : decode cX6_year 106 = .ok (.istore 7, 2) := by decide +kernel
theorem dX6_year_108 : decode cX6_year 108 = .ok (.aload_n 0, 1) := by decide +kernel
theorem dX6_year_109 : decode cX6_year 109 = .ok (.getfield 46, 3) := by decide +kernel
theorem dX6_year_112 : decode cX6_year 112 = .ok (.invokevirtual 247, 3) := by decide +kernel
theorem dX6_year_115 : decode cX6_year 115 = .ok (.invokestatic 200, 3) := by decide +kernel
theorem dX6_year_118 : decode cX6_year 118 = .ok (.istore 9, 2) := by decide +kernel
theorem dX6_year_120 : decode cX6_year 120 = .ok (.iload 5, 2) := by decide +kernel
theorem dX6_year_122 : decode cX6_year 122 = .ok (.iload 9, 2) := by decide +kernel
theorem dX6_year_124 : decode cX6_year 124 = .ok (.iadd, 1) := by decide +kernel
theorem dX6_year_125 : decode cX6_year 125 = .ok (.istore 5, 2) := by decide +kernel
theorem dX6_year_127 : decode cX6_year 127 = .ok (.iload 9, 2) := by decide +kernel
theorem dX6_year_129 : decode cX6_year 129 = .ok (.ifCond .le 7, 3) := by decide +kernel
theorem dX6_year_132 : decode cX6_year 132 = .ok (.iload 8, 2) := by decide +kernel
theorem dX6_year_134 : decode cX6_year 134 = .ok (.istore 6, 2) := by decide +kernel
theorem dX6_year_136 : decode cX6_year 136 = .ok (.iinc 8 1, 3) := by decide +kernel
theorem dX6_year_139 : decode cX6_year 139 = .ok (.goto (-77), 3) := by decide +kernel
theorem dX6_year_142 : decode cX6_year 142 = .ok (.iload_n 3, 1) := by decide +kernel
theorem dX6_year_143 : decode cX6_year 143 = .ok (.ifCond .ne 6, 3) := by decide +kernel
theorem dX6_year_146 : decode cX6_year 146 = .ok (.iload 5, 2) := by decide +kernel
theorem dX6_year_148 : decode cX6_year 148 = .ok (.ireturn, 1) := by decide +kernel
theorem dX6_year_149 : decode cX6_year 149 = .ok (.iload_n 3, 1) := by decide +kernel
theorem dX6_year_150 : decode cX6_year 150 = .ok (.iconst 1, 1) := by decide +kernel
theorem dX6_year_151 : decode cX6_year 151 = .ok (.if_icmp .ne 8, 3) := by decide +kernel
theorem dX6_year_154 : decode cX6_year 154 = .ok (.iload 6, 2) := by decide +kernel
theorem dX6_year_156 : decode cX6_year 156 = .ok (.goto 5, 3) := by decide +kernel
theorem dX6_year_159 : decode cX6_year 159 = .ok (.iload 7, 2) := by decide +kernel
theorem dX6_year_161 : decode cX6_year 161 = .ok (.ireturn, 1) := by decide +kernel
theorem dX6_image_0 : decode cX6_image 0 = .ok (.iload_n 1, 1) := by decide +kernel
theorem dX6_image_1 : decode cX6_image 1 = .ok (.iconst 0, 1) := by decide +kernel
theorem dX6_image_2 : decode cX6_image 2 = .ok (.iconst 1, 1) := by decide +kernel
theorem dX6_image_3 : decode cX6_image 3 = .ok (.invokestatic 57, 3) := by decide +kernel
theorem dX6_image_6 : decode cX6_image 6 = .ok (.ifCond .ne 6, 3) := by decide +kernel
theorem dX6_image_9 : decode cX6_image 9 = .ok (.bipush (-2), 2) := by decide +kernel
theorem dX6_image_11 : decode cX6_image 11 = .ok (.ireturn, 1) := by decide +kernel
theorem dX6_image_12 : decode cX6_image 12 = .ok (.iload_n 1, 1) := by decide +kernel
theorem dX6_image_13 : decode cX6_image 13 = .ok (.ifCond .ne 10, 3) := by decide +kernel
theorem dX6_image_16 : decode cX6_image 16 = .ok (.aload_n 0, 1) := by decide +kernel
theorem dX6_image_17 : decode cX6_image 17 = .ok (.getfield 16, 3) := by decide +kernel
theorem dX6_image_20 : decode cX6_image 20 = .ok (.goto 7, 3) := by decide +kernel
theorem dX6_image_23 : decode cX6_image 23 = .ok (.aload_n 0, 1) := by decide +kernel
theorem dX6_image_24 : decode cX6_image 24 = .ok (.getfield 19, 3) := by decide +kernel
theorem dX6_image_27 : decode cX6_image 27 = .ok (.astore_n 2, 1) := by decide +kernel
theorem dX6_image_28 : decode cX6_image 28 = .ok (.aload_n 2, 1) := by decide +kernel
theorem dX6_image_29 : decode cX6_image 29 = .ok (.aload_n 0, 1) := by decide +kernel
theorem dX6_image_30 : decode cX6_image 30 = .ok (.getfield 10, 3) := by decide +kernel
theorem dX6_image_33 : decode cX6_image 33 = .ok (.invokevirtual 250, 3) := by decide +kernel
theorem dX6_image_36 : decode cX6_image 36 = .ok (.aload_n 2, 1) := by decide +kernel
theorem dX6_image_37 : decode cX6_image 37 = .ok (.iconst 1, 1) := by decide +kernel
theorem dX6_image_38 : decode cX6_image 38 = .ok (.putfield 253, 3) := by decide +kernel
theorem dX6_image_41 : decode cX6_image 41 = .ok (.iconst 1, 1) := by decide +kernel
theorem dX6_image_42 : decode cX6_image 42 = .ok (.ireturn, 1) := by decide +kernel
theorem dX6_restore_0 : decode cX6_restore 0 = .ok (.iload_n 1, 1) := by decide +kernel
theorem dX6_restore_1 : decode cX6_restore 1 = .ok (.iconst 0, 1) := by decide +kernel
theorem dX6_restore_2 : decode cX6_restore 2 = .ok (.iconst 1, 1) := by decide +kernel
theorem dX6_restore_3 : decode cX6_restore 3 = .ok (.invokestatic 57, 3) := by decide +kernel
theorem dX6_restore_6 : decode cX6_restore 6 = .ok (.ifCond .ne 6, 3) := by decide +kernel
theorem dX6_restore_9 : decode cX6_restore 9 = .ok (.bipush (-2), 2) := by decide +kernel
theorem dX6_restore_11 : decode cX6_restore 11 = .ok (.ireturn, 1) := by decide +kernel
theorem dX6_restore_12 : decode cX6_restore 12 = .ok (.iload_n 1, 1) := by decide +kernel
theorem dX6_restore_13 : decode cX6_restore 13 = .ok (.ifCond .ne 10, 3) := by decide +kernel
theorem dX6_restore_16 : decode cX6_restore 16 = .ok (.aload_n 0, 1) := by decide +kernel
theorem dX6_restore_17 : decode cX6_restore 17 = .ok (.getfield 16, 3) := by decide +kernel
theorem dX6_restore_20 : decode cX6_restore 20 = .ok (.goto 7, 3) := by decide +kernel
theorem dX6_restore_23 : decode cX6_restore 23 = .ok (.aload_n 0, 1) := by decide +kernel
theorem dX6_restore_24 : decode cX6_restore 24 = .ok (.getfield 19, 3) := by decide +kernel
theorem dX6_restore_27 : decode cX6_restore 27 = .ok (.astore_n 2, 1) := by decide +kernel
theorem dX6_restore_28 : decode cX6_restore 28 = .ok (.aload_n 2, 1) := by decide +kernel
theorem dX6_restore_29 : decode cX6_restore 29 = .ok (.getfield 253, 3) := by decide +kernel
theorem dX6_restore_32 : decode cX6_restore 32 = .ok (.ifCond .ne 6, 3) := by decide +kernel
theorem dX6_restore_35 : decode cX6_restore 35 = .ok (.bipush (-3), 2) := by decide +kernel
theorem dX6_restore_37 : decode cX6_restore 37 = .ok (.ireturn, 1) := by decide +kernel
theorem dX6_restore_38 : decode cX6_restore 38 = .ok (.aload_n 0, 1) := by decide +kernel
theorem dX6_restore_39 : decode cX6_restore 39 = .ok (.getfield 10, 3) := by decide +kernel
theorem dX6_restore_42 : decode cX6_restore 42 = .ok (.aload_n 2, 1) := by decide +kernel
theorem dX6_restore_43 : decode cX6_restore 43 = .ok (.invokevirtual 250, 3) := by decide +kernel
theorem dX6_restore_46 : decode cX6_restore 46 = .ok (.iconst 1, 1) := by decide +kernel
theorem dX6_restore_47 : decode cX6_restore 47 = .ok (.ireturn, 1) := by decide +kernel
theorem dX6_told_0 : decode cX6_told 0 = .ok (.iload_n 1, 1) := by decide +kernel
theorem dX6_told_1 : decode cX6_told 1 = .ok (.tableswitch 87 0 4 #[35, 43, 54, 65, 76], 35) := by decide +kernel
theorem dX6_told_36 : decode cX6_told 36 = .ok (.aload_n 0, 1) := by decide +kernel
theorem dX6_told_37 : decode cX6_told 37 = .ok (.getfield 25, 3) := by decide +kernel
theorem dX6_told_40 : decode cX6_told 40 = .ok (.getfield 105, 3) := by decide +kernel
theorem dX6_told_43 : decode cX6_told 43 = .ok (.ireturn, 1) := by decide +kernel
theorem dX6_told_44 : decode cX6_told 44 = .ok (.aload_n 0, 1) := by decide +kernel
theorem dX6_told_45 : decode cX6_told 45 = .ok (.getfield 10, 3) := by decide +kernel
theorem dX6_told_48 : decode cX6_told 48 = .ok (.getfield 50, 3) := by decide +kernel
theorem dX6_told_51 : decode cX6_told 51 = .ok (.getfield 61, 3) := by decide +kernel
theorem dX6_told_54 : decode cX6_told 54 = .ok (.ireturn, 1) := by decide +kernel
theorem dX6_told_55 : decode cX6_told 55 = .ok (.aload_n 0, 1) := by decide +kernel
theorem dX6_told_56 : decode cX6_told 56 = .ok (.getfield 10, 3) := by decide +kernel
theorem dX6_told_59 : decode cX6_told 59 = .ok (.getfield 50, 3) := by decide +kernel
theorem dX6_told_62 : decode cX6_told 62 = .ok (.getfield 96, 3) := by decide +kernel
theorem dX6_told_65 : decode cX6_told 65 = .ok (.ireturn, 1) := by decide +kernel
theorem dX6_told_66 : decode cX6_told 66 = .ok (.aload_n 0, 1) := by decide +kernel
theorem dX6_told_67 : decode cX6_told 67 = .ok (.getfield 10, 3) := by decide +kernel
theorem dX6_told_70 : decode cX6_told 70 = .ok (.getfield 65, 3) := by decide +kernel
theorem dX6_told_73 : decode cX6_told 73 = .ok (.getfield 69, 3) := by decide +kernel
theorem dX6_told_76 : decode cX6_told 76 = .ok (.ireturn, 1) := by decide +kernel
theorem dX6_told_77 : decode cX6_told 77 = .ok (.aload_n 0, 1) := by decide +kernel
theorem dX6_told_78 : decode cX6_told 78 = .ok (.getfield 10, 3) := by decide +kernel
theorem dX6_told_81 : decode cX6_told 81 = .ok (.getfield 65, 3) := by decide +kernel
theorem dX6_told_84 : decode cX6_told 84 = .ok (.getfield 74, 3) := by decide +kernel
theorem dX6_told_87 : decode cX6_told 87 = .ok (.ireturn, 1) := by decide +kernel
theorem dX6_told_88 : decode cX6_told 88 = .ok (.iload_n 1, 1) := by decide +kernel
theorem dX6_told_89 : decode cX6_told 89 = .ok (.bipush 10, 2) := by decide +kernel
theorem dX6_told_91 : decode cX6_told 91 = .ok (.bipush 10, 2) := by decide +kernel
theorem dX6_told_93 : decode cX6_told 93 = .ok (.aload_n 0, 1) := by decide +kernel
theorem dX6_told_94 : decode cX6_told 94 = .ok (.getfield 10, 3) := by decide +kernel
theorem dX6_told_97 : decode cX6_told 97 = .ok (.getfield 50, 3) := by decide +kernel
theorem dX6_told_100 : decode cX6_told 100 = .ok (.getfield 61, 3) := by decide +kernel
theorem dX6_told_103 : decode cX6_told 103 = .ok (.iadd, 1) := by decide +kernel
theorem dX6_told_104 : decode cX6_told 104 = .ok (.iconst 1, 1) := by decide +kernel
theorem dX6_told_105 : decode cX6_told 105 = .ok (.isub, 1) := by decide +kernel
theorem dX6_told_106 : decode cX6_told 106 = .ok (.invokestatic 57, 3) := by decide +kernel
theorem dX6_told_109 : decode cX6_told 109 = .ok (.ifCond .eq 21, 3) := by decide +kernel
theorem dX6_told_112 : decode cX6_told 112 = .ok (.aload_n 0, 1) := by decide +kernel
theorem dX6_told_113 : decode cX6_told 113 = .ok (.getfield 10, 3) := by decide +kernel
theorem dX6_told_116 : decode cX6_told 116 = .ok (.getfield 50, 3) := by decide +kernel
theorem dX6_told_119 : decode cX6_told 119 = .ok (.getfield 120, 3) := by decide +kernel
theorem dX6_told_122 : decode cX6_told 122 = .ok (.iload_n 1, 1) := by decide +kernel
theorem dX6_told_123 : decode cX6_told 123 = .ok (.bipush 10, 2) := by decide +kernel
theorem dX6_told_125 : decode cX6_told 125 = .ok (.isub, 1) := by decide +kernel
theorem dX6_told_126 : decode cX6_told 126 = .ok (.invokestatic 154, 3) := by decide +kernel
theorem dX6_told_129 : decode cX6_told 129 = .ok (.ireturn, 1) := by decide +kernel
theorem dX6_told_130 : decode cX6_told 130 = .ok (.iload_n 1, 1) := by decide +kernel
theorem dX6_told_131 : decode cX6_told 131 = .ok (.bipush 20, 2) := by decide +kernel
theorem dX6_told_133 : decode cX6_told 133 = .ok (.if_icmp .ge 6, 3) := by decide +kernel
theorem dX6_told_136 : decode cX6_told 136 = .ok (.bipush (-2), 2) := by decide +kernel
theorem dX6_told_138 : decode cX6_told 138 = .ok (.ireturn, 1) := by decide +kernel
theorem dX6_told_139 : decode cX6_told 139 = .ok (.iload_n 1, 1) := by decide +kernel
theorem dX6_told_140 : decode cX6_told 140 = .ok (.bipush 10, 2) := by decide +kernel
theorem dX6_told_142 : decode cX6_told 142 = .ok (.idiv, 1) := by decide +kernel
theorem dX6_told_143 : decode cX6_told 143 = .ok (.iconst 2, 1) := by decide +kernel
theorem dX6_told_144 : decode cX6_told 144 = .ok (.isub, 1) := by decide +kernel
theorem dX6_told_145 : decode cX6_told 145 = .ok (.istore_n 2, 1) := by decide +kernel
theorem dX6_told_146 : decode cX6_told 146 = .ok (.iload_n 1, 1) := by decide +kernel
theorem dX6_told_147 : decode cX6_told 147 = .ok (.bipush 10, 2) := by decide +kernel
theorem dX6_told_149 : decode cX6_told 149 = .ok (.irem, 1) := by decide +kernel
