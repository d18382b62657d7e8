theorem dX7_rests_56 : decode cX7_rests 56 = .ok (.if_icmp .ne 6, 3) := by decide +kernel
theorem dX7_rests_59 : decode cX7_rests 59 = .ok (.iload 5, 2) := by decide +kernel
theorem dX7_rests_61 : decode cX7_rests 61 = .ok (.ireturn, 1) := by decide +kernel
theorem dX7_rests_62 : decode cX7_rests 62 = .ok (.iinc 4 1, 3) := by decide +kernel
theorem dX7_rests_65 : decode cX7_rests 65 = .ok (.iinc 5 1, 3) := by decide +kernel
theorem dX7_rests_68 : decode cX7_rests 68 = .ok (.goto (-42), 3) := by decide +kernel
theorem dX7_rests_71 : decode cX7_rests 71 = .ok (.iload_n 2, 1) := by decide +kernel
theorem dX7_rests_72 : decode cX7_rests 72 = .ok (.iconst (-1), 1) := by decide +kernel
theorem dX7_rests_73 : decode cX7_rests 73 = .ok (.if_icmp .ne 8, 3) := by decide +kernel
theorem dX7_rests_76 : decode cX7_rests 76 = .ok (.iload 4, 2) := by decide +kernel
theorem dX7_rests_78 : decode cX7_rests 78 = .ok (.goto 5, 3) := by decide +kernel
theorem dX7_rests_81 : decode cX7_rests 81 = .ok (.bipush (-6), 2) := by decide +kernel
theorem dX7_rests_83 : decode cX7_rests 83 = .ok (.ireturn, 1) := by decide +kernel
theorem dX7_lowest_0 : decode cX7_lowest 0 = .ok (.lload_n 2, 1) := by decide +kernel
theorem dX7_lowest_1 : decode cX7_lowest 1 = .ok (.lstore 5, 2) := by decide +kernel
theorem dX7_lowest_3 : decode cX7_lowest 3 = .ok (.lload_n 0, 1) := by decide +kernel
theorem dX7_lowest_4 : decode cX7_lowest 4 = .ok (.lstore 7, 2) := by decide +kernel
theorem dX7_lowest_6 : decode cX7_lowest 6 = .ok (.lload 7, 2) := by decide +kernel
theorem dX7_lowest_8 : decode cX7_lowest 8 = .ok (.lconst 0, 1) := by decide +kernel
theorem dX7_lowest_9 : decode cX7_lowest 9 = .ok (.lcmp, 1) := by decide +kernel
theorem dX7_lowest_10 : decode cX7_lowest 10 = .ok (.ifCond .eq 21, 3) := by decide +kernel
theorem dX7_lowest_13 : decode cX7_lowest 13 = .ok (.lload 5, 2) := by decide +kernel
theorem dX7_lowest_15 : decode cX7_lowest 15 = .ok (.lload 7, 2) := by decide +kernel
theorem dX7_lowest_17 : decode cX7_lowest 17 = .ok (.lrem, 1) := by decide +kernel
theorem dX7_lowest_18 : decode cX7_lowest 18 = .ok (.lstore 9, 2) := by decide +kernel
theorem dX7_lowest_20 : decode cX7_lowest 20 = .ok (.lload 7, 2) := by decide +kernel
theorem dX7_lowest_22 : decode cX7_lowest 22 = .ok (.lstore 5, 2) := by decide +kernel
theorem dX7_lowest_24 : decode cX7_lowest 24 = .ok (.lload 9, 2) := by decide +kernel
theorem dX7_lowest_26 : decode cX7_lowest 26 = .ok (.lstore 7, 2) := by decide +kernel
theorem dX7_lowest_28 : decode cX7_lowest 28 = .ok (.goto (-22), 3) := by decide +kernel
theorem dX7_lowest_31 : decode cX7_lowest 31 = .ok (.iload 4, 2) := by decide +kernel
theorem dX7_lowest_33 : decode cX7_lowest 33 = .ok (.ifCond .ne 10, 3) := by decide +kernel
theorem dX7_lowest_36 : decode cX7_lowest 36 = .ok (.lload_n 0, 1) := by decide +kernel
theorem dX7_lowest_37 : decode cX7_lowest 37 = .ok (.lload 5, 2) := by decide +kernel
theorem dX7_lowest_39 : decode cX7_lowest 39 = .ok (.ldiv, 1) := by decide +kernel
theorem dX7_lowest_40 : decode cX7_lowest 40 = .ok (.goto 7, 3) := by decide +kernel
theorem dX7_lowest_43 : decode cX7_lowest 43 = .ok (.lload_n 2, 1) := by decide +kernel
theorem dX7_lowest_44 : decode cX7_lowest 44 = .ok (.lload 5, 2) := by decide +kernel
theorem dX7_lowest_46 : decode cX7_lowest 46 = .ok (.ldiv, 1) := by decide +kernel
theorem dX7_lowest_47 : decode cX7_lowest 47 = .ok (.lreturn, 1) := by decide +kernel
theorem dX7_rowsOf_0 : decode cX7_rowsOf 0 = .ok (.iconst 1, 1) := by decide +kernel
theorem dX7_rowsOf_1 : decode cX7_rowsOf 1 = .ok (.istore_n 1, 1) := by decide +kernel
theorem dX7_rowsOf_2 : decode cX7_rowsOf 2 = .ok (.iconst 2, 1) := by decide +kernel
theorem dX7_rowsOf_3 : decode cX7_rowsOf 3 = .ok (.istore_n 2, 1) := by decide +kernel
theorem dX7_rowsOf_4 : decode cX7_rowsOf 4 = .ok (.iload_n 2, 1) := by decide +kernel
theorem dX7_rowsOf_5 : decode cX7_rowsOf 5 = .ok (.iload_n 0, 1) := by decide +kernel
theorem dX7_rowsOf_6 : decode cX7_rowsOf 6 = .ok (.if_icmp .gt 13, 3) := by decide +kernel
theorem dX7_rowsOf_9 : decode cX7_rowsOf 9 = .ok (.iload_n 1, 1) := by decide +kernel
theorem dX7_rowsOf_10 : decode cX7_rowsOf 10 = .ok (.iload_n 2, 1) := by decide +kernel
theorem dX7_rowsOf_11 : decode cX7_rowsOf 11 = .ok (.imul, 1) := by decide +kernel
theorem dX7_rowsOf_12 : decode cX7_rowsOf 12 = .ok (.istore_n 1, 1) := by decide +kernel
theorem dX7_rowsOf_13 : decode cX7_rowsOf 13 = .ok (.iinc 2 1, 3) := by decide +kernel
theorem dX7_rowsOf_16 : decode cX7_rowsOf 16 = .ok (.goto (-12), 3) := by decide +kernel
theorem dX7_rowsOf_19 : decode cX7_rowsOf 19 = .ok (.iload_n 1, 1) := by decide +kernel
theorem dX7_rowsOf_20 : decode cX7_rowsOf 20 = .ok (.ireturn, 1) := by decide +kernel
theorem dX7_shapley_0 : decode cX7_shapley 0 = .ok (.iload_n 1, 1) := by decide +kernel
theorem dX7_shapley_1 : decode cX7_shapley 1 = .ok (.invokestatic 124, 3) := by decide +kernel
theorem dX7_shapley_4 : decode cX7_shapley 4 = .ok (.ifCond .ne 7, 3) := by decide +kernel
theorem dX7_shapley_7 : decode cX7_shapley 7 = .ok (.ldc2_w 251, 3) := by decide +kernel
theorem dX7_shapley_10 : decode cX7_shapley 10 = .ok (.lreturn, 1) := by decide +kernel
theorem dX7_shapley_11 : decode cX7_shapley 11 = .ok (.iload_n 2, 1) := by decide +kernel
theorem dX7_shapley_12 : decode cX7_shapley 12 = .ok (.i2l, 1) := by decide +kernel
theorem dX7_shapley_13 : decode cX7_shapley 13 = .ok (.lconst 0, 1) := by decide +kernel
theorem dX7_shapley_14 : decode cX7_shapley 14 = .ok (.lconst 1, 1) := by decide +kernel
theorem dX7_shapley_15 : decode cX7_shapley 15 = .ok (.invokestatic 106, 3) := by decide +kernel
theorem dX7_shapley_18 : decode cX7_shapley 18 = .ok (.ifCond .ne 7, 3) := by decide +kernel
theorem dX7_shapley_21 : decode cX7_shapley 21 = .ok (.ldc2_w 253, 3) := by decide +kernel
theorem dX7_shapley_24 : decode cX7_shapley 24 = .ok (.lreturn, 1) := by decide +kernel
theorem dX7_shapley_25 : decode cX7_shapley 25 = .ok (.lconst 0, 1) := by decide +kernel
theorem dX7_shapley_26 : decode cX7_shapley 26 = .ok (.lstore_n 3, 1) := by decide +kernel
theorem dX7_shapley_27 : decode cX7_shapley 27 = .ok (.iconst 0, 1) := by decide +kernel
theorem dX7_shapley_28 : decode cX7_shapley 28 = .ok (.istore 5, 2) := by decide +kernel
theorem dX7_shapley_30 : decode cX7_shapley 30 = .ok (.iload 5, 2) := by decide +kernel
theorem dX7_shapley_32 : decode cX7_shapley 32 = .ok (.bipush 64, 2) := by decide +kernel
theorem dX7_shapley_34 : decode cX7_shapley 34 = .ok (.if_icmp .ge 63, 3) := by decide +kernel
theorem dX7_shapley_37 : decode cX7_shapley 37 = .ok (.iload 5, 2) := by decide +kernel
theorem dX7_shapley_39 : decode cX7_shapley 39 = .ok (.iload_n 1, 1) := by decide +kernel
theorem dX7_shapley_40 : decode cX7_shapley 40 = .ok (.ishr, 1) := by decide +kernel
theorem dX7_shapley_41 : decode cX7_shapley 41 = .ok (.iconst 1, 1) := by decide +kernel
theorem dX7_shapley_42 : decode cX7_shapley 42 = .ok (.iand, 1) := by decide +kernel
theorem dX7_shapley_43 : decode cX7_shapley 43 = .ok (.ifCond .ne 48, 3) := by decide +kernel
theorem dX7_shapley_46 : decode cX7_shapley 46 = .ok (.iload 5, 2) := by decide +kernel
theorem dX7_shapley_48 : decode cX7_shapley 48 = .ok (.invokestatic 230, 3) := by decide +kernel
theorem dX7_shapley_51 : decode cX7_shapley 51 = .ok (.invokestatic 255, 3) := by decide +kernel
theorem dX7_shapley_54 : decode cX7_shapley 54 = .ok (.iconst 5, 1) := by decide +kernel
theorem dX7_shapley_55 : decode cX7_shapley 55 = .ok (.iload 5, 2) := by decide +kernel
theorem dX7_shapley_57 : decode cX7_shapley 57 = .ok (.invokestatic 230, 3) := by decide +kernel
theorem dX7_shapley_60 : decode cX7_shapley 60 = .ok (.isub, 1) := by decide +kernel
theorem dX7_shapley_61 : decode cX7_shapley 61 = .ok (.invokestatic 255, 3) := by decide +kernel
theorem dX7_shapley_64 : decode cX7_shapley 64 = .ok (.imul, 1) := by decide +kernel
theorem dX7_shapley_65 : decode cX7_shapley 65 = .ok (.istore 6, 2) := by decide +kernel
theorem dX7_shapley_67 : decode cX7_shapley 67 = .ok (.lload_n 3, 1) := by decide +kernel
theorem dX7_shapley_68 : decode cX7_shapley 68 = .ok (.iload 6, 2) := by decide +kernel
theorem dX7_shapley_70 : decode cX7_shapley 70 = .ok (.aload_n 0, 1) := by decide +kernel
theorem dX7_shapley_71 : decode cX7_shapley 71 = .ok (.iload 5, 2) := by decide +kernel
theorem dX7_shapley_73 : decode cX7_shapley 73 = .ok (.iconst 1, 1) := by decide +kernel
theorem dX7_shapley_74 : decode cX7_shapley 74 = .ok (.iload_n 1, 1) := by decide +kernel
theorem dX7_shapley_75 : decode cX7_shapley 75 = .ok (.ishl, 1) := by decide +kernel
theorem dX7_shapley_76 : decode cX7_shapley 76 = .ok (.ior, 1) := by decide +kernel
theorem dX7_shapley_77 : decode cX7_shapley 77 = .ok (.invokevirtual 235, 3) := by decide +kernel
theorem dX7_shapley_80 : decode cX7_shapley 80 = .ok (.aload_n 0, 1) := by decide +kernel
theorem dX7_shapley_81 : decode cX7_shapley 81 = .ok (.iload 5, 2) := by decide +kernel
theorem dX7_shapley_83 : decode cX7_shapley 83 = .ok (.invokevirtual 235, 3) := by decide +kernel
theorem dX7_shapley_86 : decode cX7_shapley 86 = .ok (.isub, 1) := by decide +kernel
theorem dX7_shapley_87 : decode cX7_shapley 87 = .ok (.imul, 1) := by decide +kernel
theorem dX7_shapley_88 : decode cX7_shapley 88 = .ok (.i2l, 1) := by decide +kernel
theorem dX7_shapley_89 : decode cX7_shapley 89 = .ok (.ladd, 1) := by decide +kernel
theorem dX7_shapley_90 : decode cX7_shapley 90 = .ok (.lstore_n 3, 1) := by decide +kernel
theorem dX7_shapley_91 : decode cX7_shapley 91 = .ok (.iinc 5 1, 3) := by decide +kernel
theorem dX7_shapley_94 : decode cX7_shapley 94 = .ok (.goto (-64), 3) := by decide +kernel
theorem dX7_shapley_97 : decode cX7_shapley 97 = .ok (.lload_n 3, 1) := by decide +kernel
theorem dX7_shapley_98 : decode cX7_shapley 98 = .ok (.ldc2_w 258, 3) := by decide +kernel
theorem dX7_shapley_101 : decode cX7_shapley 101 = .ok (.iload_n 2, 1) := by decide +kernel
theorem dX7_shapley_102 : decode cX7_shapley 102 = .ok (.invokestatic 260, 3) := by decide +kernel
theorem dX7_shapley_105 : decode cX7_shapley 105 = .ok (.lreturn, 1) := by decide +kernel
theorem dX7_power_0 : decode cX7_power 0 = .ok (.lconst 1, 1) := by decide +kernel
theorem dX7_power_1 : decode cX7_power 1 = .ok (.lstore_n 2, 1) := by decide +kernel
theorem dX7_power_2 : decode cX7_power 2 = .ok (.iconst 0, 1) := by decide +kernel
theorem dX7_power_3 : decode cX7_power 3 = .ok (.istore 4, 2) := by decide +kernel
theorem dX7_power_5 : decode cX7_power 5 = .ok (.iload 4, 2) := by decide +kernel
theorem dX7_power_7 : decode cX7_power 7 = .ok (.iload_n 1, 1) := by decide +kernel
theorem dX7_power_8 : decode cX7_power 8 = .ok (.if_icmp .ge 14, 3) := by decide +kernel
theorem dX7_power_11 : decode cX7_power 11 = .ok (.lload_n 2, 1) := by decide +kernel
theorem dX7_power_12 : decode cX7_power 12 = .ok (.iload_n 0, 1) := by decide +kernel
theorem dX7_power_13 : decode cX7_power 13 = .ok (.i2l, 1) := by decide +kernel
theorem dX7_power_14 : decode cX7_power 14 = .ok (.lmul, 1) := by decide +kernel
theorem dX7_power_15 : decode cX7_power 15 = .ok (.lstore_n 2, 1) := by decide +kernel
theorem dX7_power_16 : decode cX7_power 16 = .ok (.iinc 4 1, 3) := by decide +kernel
theorem dX7_power_19 : decode cX7_power 19 = .ok (.goto (-14), 3) := by decide +kernel
theorem dX7_power_22 : decode cX7_power 22 = .ok (.lload_n 2, 1) := by decide +kernel
theorem dX7_power_23 : decode cX7_power 23 = .ok (.lreturn, 1) := by decide +kernel
theorem dX7_hope_0 : decode cX7_hope 0 = .ok (.iload_n 1, 1) := by decide +kernel
theorem dX7_hope_1 : decode cX7_hope 1 = .ok (.i2l, 1) := by decide +kernel
theorem dX7_hope_2 : decode cX7_hope 2 = .ok (.lconst 0, 1) := by decide +kernel
theorem dX7_hope_3 : decode cX7_hope 3 = .ok (.ldc2_w 264, 3) := by decide +kernel
theorem dX7_hope_6 : decode cX7_hope 6 = .ok (.invokestatic 106, 3) := by decide +kernel
theorem dX7_hope_9 : decode cX7_hope 9 = .ok (.ifCond .eq 23, 3) := by decide +kernel
theorem dX7_hope_12 : decode cX7_hope 12 = .ok (.iload_n 2, 1) := by decide +kernel
theorem dX7_hope_13 : decode cX7_hope 13 = .ok (.i2l, 1) := by decide +kernel
theorem dX7_hope_14 : decode cX7_hope 14 = .ok (.lconst 0, 1) := by decide +kernel
theorem dX7_hope_15 : decode cX7_hope 15 = .ok (.lconst 1, 1) := by decide +kernel
theorem dX7_hope_16 : decode cX7_hope 16 = .ok (.invokestatic 106, 3) := by decide +kernel
theorem dX7_hope_19 : decode cX7_hope 19 = .ok (.ifCond .eq 13, 3) := by decide +kernel
theorem dX7_hope_22 : decode cX7_hope 22 = .ok (.iload_n 3, 1) := by decide +kernel
theorem dX7_hope_23 : decode cX7_hope 23 = .ok (.i2l, 1) := by decide +kernel
theorem dX7_hope_24 : decode cX7_hope 24 = .ok (.lconst 0, 1) := by decide +kernel
theorem dX7_hope_25 : decode cX7_hope 25 = .ok (.lconst 1, 1) := by decide +kernel
theorem dX7_hope_26 : decode cX7_hope 26 = .ok (.invokestatic 106, 3) := by decide +kernel
theorem dX7_hope_29 : decode cX7_hope 29 = .ok (.ifCond .ne 7, 3) := by decide +kernel
theorem dX7_hope_32 : decode cX7_hope 32 = .ok (.ldc2_w 253, 3) := by decide +kernel
theorem dX7_hope_35 : decode cX7_hope 35 = .ok (.lreturn, 1) := by decide +kernel
theorem dX7_hope_36 : decode cX7_hope 36 = .ok (.iconst 0, 1) := by decide +kernel
theorem dX7_hope_37 : decode cX7_hope 37 = .ok (.istore 4, 2) := by decide +kernel
theorem dX7_hope_39 : decode cX7_hope 39 = .ok (.iconst 0, 1) := by decide +kernel
theorem dX7_hope_40 : decode cX7_hope 40 = .ok (.istore 5, 2) := by decide +kernel
theorem dX7_hope_42 : decode cX7_hope 42 = .ok (.iload 5, 2) := by decide +kernel
theorem dX7_hope_44 : decode cX7_hope 44 = .ok (.aload_n 0, 1) := by decide +kernel
theorem dX7_hope_45 : decode cX7_hope 45 = .ok (.getfield 93, 3) := by decide +kernel
theorem dX7_hope_48 : decode cX7_hope 48 = .ok (.if_icmp .ge 29, 3) := by decide +kernel
theorem dX7_hope_51 : decode cX7_hope 51 = .ok (.iload 4, 2) := by decide +kernel
theorem dX7_hope_53 : decode cX7_hope 53 = .ok (.aload_n 0, 1) := by decide +kernel
theorem dX7_hope_54 : decode cX7_hope 54 = .ok (.getfield 22, 3) := by decide +kernel
theorem dX7_hope_57 : decode cX7_hope 57 = .ok (.iload 5, 2) := by decide +kernel
theorem dX7_hope_59 : decode cX7_hope 59 = .ok (.iaload, 1) := by decide +kernel
theorem dX7_hope_60 : decode cX7_hope 60 = .ok (.ifCond .ne 7, 3) := by decide +kernel
theorem dX7_hope_63 : decode cX7_hope 63 = .ok (.iconst 1, 1) := by decide +kernel
theorem dX7_hope_64 : decode cX7_hope 64 = .ok (.goto 4, 3) := by decide +kernel
theorem dX7_hope_67 : decode cX7_hope 67 = .ok (.iconst 0, 1) := by decide +kernel
theorem dX7_hope_68 : decode cX7_hope 68 = .ok (.iadd, 1) := by decide +kernel
theorem dX7_hope_69 : decode cX7_hope 69 = .ok (.istore 4, 2) := by decide +kernel
theorem dX7_hope_71 : decode cX7_hope 71 = .ok (.iinc 5 1, 3) := by decide +kernel
theorem dX7_hope_74 : decode cX7_hope 74 = .ok (.goto (-32), 3) := by decide +kernel
theorem dX7_hope_77 : decode cX7_hope 77 = .ok (.lconst 0, 1) := by decide +kernel
theorem dX7_hope_78 : decode cX7_hope 78 = .ok (.lstore 5, 2) := by decide +kernel
theorem dX7_hope_80 : decode cX7_hope 80 = .ok (.iconst 0, 1) := by decide +kernel
theorem dX7_hope_81 : decode cX7_hope 81 = .ok (.istore 7, 2) := by decide +kernel
theorem dX7_hope_83 : decode cX7_hope 83 = .ok (.iconst 1, 1) := by decide +kernel
theorem dX7_hope_84 : decode cX7_hope 84 = .ok (.istore 8, 2) := by decide +kernel
theorem dX7_hope_86 : decode cX7_hope 86 = .ok (.iconst 0, 1) := by decide +kernel
theorem dX7_hope_87 : decode cX7_hope 87 = .ok (.istore 9, 2) := by decide +kernel
theorem dX7_hope_89 : decode cX7_hope 89 = .ok (.iload 9, 2) := by decide +kernel
theorem dX7_hope_91 : decode cX7_hope 91 = .ok (.aload_n 0, 1) := by decide +kernel
theorem dX7_hope_92 : decode cX7_hope 92 = .ok (.getfield 93, 3) := by decide +kernel
theorem dX7_hope_95 : decode cX7_hope 95 = .ok (.if_icmp .ge 84, 3) := by decide +kernel
theorem dX7_hope_98 : decode cX7_hope 98 = .ok (.aload_n 0, 1) := by decide +kernel
theorem dX7_hope_99 : decode cX7_hope 99 = .ok (.getfield 25, 3) := by decide +kernel
theorem dX7_hope_102 : decode cX7_hope 102 = .ok (.iload 9, 2) := by decide +kernel
theorem dX7_hope_104 : decode cX7_hope 104 = .ok (.iaload, 1) := by decide +kernel
theorem dX7_hope_105 : decode cX7_hope 105 = .ok (.istore 10, 2) := by decide +kernel
theorem dX7_hope_107 : decode cX7_hope 107 = .ok (.iload 8, 2) := by decide +kernel
theorem dX7_hope_109 : decode cX7_hope 109 = .ok (.ifCond .eq 18, 3) := by decide +kernel
theorem dX7_hope_112 : decode cX7_hope 112 = .ok (.aload_n 0, 1) := by decide +kernel
theorem dX7_hope_113 : decode cX7_hope 113 = .ok (.getfield 22, 3) := by decide +kernel
theorem dX7_hope_116 : decode cX7_hope 116 = .ok (.iload 10, 2) := by decide +kernel
theorem dX7_hope_118 : decode cX7_hope 118 = .ok (.iaload, 1) := by decide +kernel
theorem dX7_hope_119 : decode cX7_hope 119 = .ok (.iconst 2, 1) := by decide +kernel
theorem dX7_hope_120 : decode cX7_hope 120 = .ok (.if_icmp .eq 7, 3) := by decide +kernel
theorem dX7_hope_123 : decode cX7_hope 123 = .ok (.iconst 1, 1) := by decide +kernel
theorem dX7_hope_124 : decode cX7_hope 124 = .ok (.goto 4, 3) := by decide +kernel
theorem dX7_hope_127 : decode cX7_hope 127 = .ok (.iconst 0, 1) := by decide +kernel
theorem dX7_hope_128 : decode cX7_hope 128 = .ok (.istore 8, 2) := by decide +kernel
theorem dX7_hope_130 : decode cX7_hope 130 = .ok (.iload 8, 2) := by decide +kernel
theorem dX7_hope_132 : decode cX7_hope 132 = .ok (.ifCond .eq 41, 3) := by decide +kernel
theorem dX7_hope_135 : decode cX7_hope 135 = .ok (.aload_n 0, 1) := by decide +kernel
theorem dX7_hope_136 : decode cX7_hope 136 = .ok (.getfield 22, 3) := by decide +kernel
theorem dX7_hope_139 : decode cX7_hope 139 = .ok (.iload 10, 2) := by decide +kernel
theorem dX7_hope_141 : decode cX7_hope 141 = .ok (.iaload, 1) := by decide +kernel
theorem dX7_hope_142 : decode cX7_hope 142 = .ok (.ifCond .ne 31, 3) := by decide +kernel
theorem dX7_hope_145 : decode cX7_hope 145 = .ok (.iinc 7 1, 3) := by decide +kernel
theorem dX7_hope_148 : decode cX7_hope 148 = .ok (.lload 5, 2) := by decide +kernel
theorem dX7_hope_150 : decode cX7_hope 150 = .ok (.bipush 10, 2) := by decide +kernel
theorem dX7_hope_152 : decode cX7_hope 152 = .ok (.iload_n 1, 1) := by decide +kernel
theorem dX7_hope_153 : decode cX7_hope 153 = .ok (.isub, 1) := by decide +kernel
theorem dX7_hope_154 : decode cX7_hope 154 = .ok (.iload 7, 2) := by decide +kernel
theorem dX7_hope_156 : decode cX7_hope 156 = .ok (.invokestatic 266, 3) := by decide +kernel
theorem dX7_hope_159 : decode cX7_hope 159 = .ok (.bipush 10, 2) := by decide +kernel
theorem dX7_hope_161 : decode cX7_hope 161 = .ok (.iload 4, 2) := by decide +kernel
theorem dX7_hope_163 : decode cX7_hope 163 = .ok (.iload 7, 2) := by decide +kernel
theorem dX7_hope_165 : decode cX7_hope 165 = .ok (.isub, 1) := by decide +kernel
theorem dX7_hope_166 : decode cX7_hope 166 = .ok (.invokestatic 266, 3) := by decide +kernel
theorem dX7_hope_169 : decode cX7_hope 169 = .ok (.lmul, 1) := by decide +kernel
theorem dX7_hope_170 : decode cX7_hope 170 = .ok (.ladd, 1) := by decide +kernel
theorem dX7_hope_171 : decode cX7_hope 171 = .ok (.lstore 5, 2) := by decide +kernel
theorem dX7_hope_173 : decode cX7_hope 173 = .ok (.iinc 9 1, 3) := by decide +kernel
theorem dX7_hope_176 : decode cX7_hope 176 = .ok (.goto (-87), 3) := by decide +kernel
theorem dX7_hope_179 : decode cX7_hope 179 = .ok (.iload_n 2, 1) := by decide +kernel
theorem dX7_hope_180 : decode cX7_hope 180 = .ok (.iconst 1, 1) := by decide +kernel
theorem dX7_hope_181 : decode cX7_hope 181 = .ok (.if_icmp .ne 25, 3) := by decide +kernel
theorem dX7_hope_184 : decode cX7_hope 184 = .ok (.iload 7, 2) := by decide +kernel
theorem dX7_hope_186 : decode cX7_hope 186 = .ok (.iload 4, 2) := by decide +kernel
theorem dX7_hope_188 : decode cX7_hope 188 = .ok (.if_icmp .ne 15, 3) := by decide +kernel
theorem dX7_hope_191 : decode cX7_hope 191 = .ok (.bipush 10, 2) := by decide +kernel
theorem dX7_hope_193 : decode cX7_hope 193 = .ok (.iload_n 1, 1) := by decide +kernel
theorem dX7_hope_194 : decode cX7_hope 194 = .ok (.isub, 1) := by decide +kernel
theorem dX7_hope_195 : decode cX7_hope 195 = .ok (.iload 4, 2) := by decide +kernel
theorem dX7_hope_197 : decode cX7_hope 197 = .ok (.invokestatic 266, 3) := by decide +kernel
theorem dX7_hope_200 : decode cX7_hope 200 = .ok (.goto 4, 3) := by decide +kernel
theorem dX7_hope_203 : decode cX7_hope 203 = .ok (.lconst 0, 1) := by decide +kernel
theorem dX7_hope_204 : decode cX7_hope 204 = .ok (.lstore 5, 2) := by decide +kernel
theorem dX7_hope_206 : decode cX7_hope 206 = .ok (.lload 5, 2) := by decide +kernel
theorem dX7_hope_208 : decode cX7_hope 208 = .ok (.bipush 10, 2) := by decide +kernel
theorem dX7_hope_210 : decode cX7_hope 210 = .ok (.iload 4, 2) := by decide +kernel
theorem dX7_hope_212 : decode cX7_hope 212 = .ok (.invokestatic 266, 3) := by decide +kernel
theorem dX7_hope_215 : decode cX7_hope 215 = .ok (.iload_n 3, 1) := by decide +kernel
theorem dX7_hope_216 : decode cX7_hope 216 = .ok (.invokestatic 260, 3) := by decide +kernel
theorem dX7_hope_219 : decode cX7_hope 219 = .ok (.lreturn, 1) := by decide +kernel
theorem dX7_year_0 : decode cX7_year 0 = .ok (.iload_n 1, 1) := by decide +kernel
theorem dX7_year_1 : decode cX7_year 1 = .ok (.i2l, 1) := by decide +kernel
theorem dX7_year_2 : decode cX7_year 2 = .ok (.lconst 0, 1) := by decide +kernel
theorem dX7_year_3 : decode cX7_year 3 = .ok (.ldc2_w 270, 3) := by decide +kernel
theorem dX7_year_6 : decode cX7_year 6 = .ok (.invokestatic 106, 3) := by decide +kernel
theorem dX7_year_9 : decode cX7_year 9 = .ok (.ifCond .eq 27, 3) := by decide +kernel
theorem dX7_year_12 : decode cX7_year 12 = .ok (.iload_n 2, 1) := by decide +kernel
theorem dX7_year_13 : decode cX7_year 13 = .ok (.i2l, 1) := by decide +kernel
theorem dX7_year_14 : decode cX7_year 14 = .ok (.lconst 1, 1) := by decide +kernel
theorem dX7_year_15 : decode cX7_year 15 = .ok (.ldc2_w 242, 3) := by decide +kernel
theorem dX7_year_18 : decode cX7_year 18 = .ok (.invokestatic 106, 3) := by decide +kernel
theorem dX7_year_21 : decode cX7_year 21 = .ok (.ifCond .eq 15, 3) := by decide +kernel
theorem dX7_year_24 : decode cX7_year 24 = .ok (.iload_n 3, 1) := by decide +kernel
theorem dX7_year_25 : decode cX7_year 25 = .ok (.i2l, 1) := by decide +kernel
theorem dX7_year_26 : decode cX7_year 26 = .ok (.lconst 0, 1) := by decide +kernel
theorem dX7_year_27 : decode cX7_year 27 = .ok (.ldc2_w 201, 3) := by decide +kernel
theorem dX7_year_30 : decode cX7_year 30 = .ok (.invokestatic 106, 3) := by decide +kernel
theorem dX7_year_33 : decode cX7_year 33 = .ok (.ifCond .ne 6, 3) := by decide +kernel
theorem dX7_year_36 : decode cX7_year 36 = .ok (.bipush (-2), 2) := by decide +kernel
theorem dX7_year_38 : decode cX7_year 38 = .ok (.ireturn, 1) := by decide +kernel
theorem dX7_year_39 : decode cX7_year 39 = .ok (.aload_n 0, 1) := by decide +kernel
theorem dX7_year_40 : decode cX7_year 40 = .ok (.invokevirtual 179, 3) := by decide +kernel
theorem dX7_year_43 : decode cX7_year 43 = .ok (.aload_n 0, 1) := by decide +kernel
theorem dX7_year_44 : decode cX7_year 44 = .ok (.invokevirtual 182, 3) := by decide +kernel
theorem dX7_year_47 : decode cX7_year 47 = .ok (.aload_n 0, 1) := by decide +kernel
theorem dX7_year_48 : decode cX7_year 48 = .ok (.iconst 0, 1) := by decide +kernel
theorem dX7_year_49 : decode cX7_year 49 = .ok (.putfield 152, 3) := by decide +kernel
theorem dX7_year_52 : decode cX7_year 52 = .ok (.aload_n 0, 1) := by decide +kernel
theorem dX7_year_53 : decode cX7_year 53 = .ok (.iconst 0, 1) := by decide +kernel
theorem dX7_year_54 : decode cX7_year 54 = .ok (.putfield 155, 3) := by decide +kernel
theorem dX7_year_57 : decode cX7_year 57 = .ok (.iload_n 1, 1) := by decide +kernel
theorem dX7_year_58 : decode cX7_year 58 = .ok (.istore 4, 2) := by decide +kernel
theorem dX7_year_60 : decode cX7_year 60 = .ok (.iconst 0, 1) := by decide +kernel
theorem dX7_year_61 : decode cX7_year 61 = .ok (.istore 5, 2) := by decide +kernel
theorem dX7_year_63 : decode cX7_year 63 = .ok (.iconst 0, 1) := by decide +kernel
theorem dX7_year_64 : decode cX7_year 64 = .ok (.istore 6, 2) := by decide +kernel
theorem dX7_year_66 : decode cX7_year 66 = .ok (.iconst 1, 1) := by decide +kernel
theorem dX7_year_67 : decode cX7_year 67 = .ok (.istore 7, 2) := by decide +kernel
theorem dX7_year_69 : decode cX7_year 69 = .ok (.iload 7, 2) := by decide +kernel
theorem dX7_year_71 : decode cX7_year 71 = .ok (.iload_n 2, 1) := by decide +kernel
theorem dX7_year_72 : decode cX7_year 72 = .ok (.if_icmp .gt 83, 3) := by decide +kernel
theorem dX7_year_75 : decode cX7_year 75 = .ok (.ldc2_w 272, 3) := by decide +kernel
theorem dX7_year_78 : decode cX7_year 78 = .ok (.iload 4, 2) := by decide +kernel
theorem dX7_year_80 : decode cX7_year 80 = .ok (.i2l, 1) := by decide +kernel
theorem dX7_year_81 : decode cX7_year 81 = .ok (.lmul, 1) := by decide +kernel
theorem dX7_year_82 : decode cX7_year 82 = .ok (.ldc2_w 274, 3) := by decide +kernel
theorem dX7_year_85 : decode cX7_year 85 = .ok (.ladd, 1) := by decide +kernel
theorem dX7_year_86 : decode cX7_year 86 = .ok (.ldc2_w 276, 3) := by decide +kernel
theorem dX7_year_89 : decode cX7_year 89 = .ok (.lrem, 1) := by decide +kernel
theorem dX7_year_90 : decode cX7_year 90 = .ok (.l2i, 1) := by decide +kernel
theorem dX7_year_91 : decode cX7_year 91 = .ok (.istore 4, 2) := by decide +kernel
theorem dX7_year_93 : decode cX7_year 93 = .ok (.aload_n 0, 1) := by decide +kernel
theorem dX7_year_94 : decode cX7_year 94 = .ok (.dup, 1) := by decide +kernel
theorem dX7_year_95 : decode cX7_year 95 = .ok (.getfield 97, 3) := by decide +kernel
theorem dX7_year_98 : decode cX7_year 98 = .ok (.iconst 1, 1) := by decide +kernel
theorem dX7_year_99 : decode cX7_year 99 = .ok (.iload 4, 2) := by decide +kernel
theorem dX7_year_101 : decode cX7_year 101 = .ok (.bipush 6, 2) := by decide +kernel
theorem dX7_year_103 : decode cX7_year 103 = .ok (.irem, 1) := by decide +kernel
theorem dX7_year_104 : decode cX7_year 104 = .ok (.ishl, 1) := by decide +kernel
theorem dX7_year_105 : decode cX7_year 105 = .ok (.ixor, 1) := by decide +kernel
theorem dX7_year_106 : decode cX7_year 106 = .ok (.putfield 97, 3) := by decide +kernel
theorem dX7_year_109 : decode cX7_year 109 = .ok (.aload_n 0, 1) := by decide +kernel
theorem dX7_year_110 : decode cX7_year 110 = .ok (.getfield 155, 3) := by decide +kernel
theorem dX7_year_113 : decode cX7_year 113 = .ok (.istore 8, 2) := by decide +kernel
theorem dX7_year_115 : decode cX7_year 115 = .ok (.aload_n 0, 1) := by decide +kernel
theorem dX7_year_116 : decode cX7_year 116 = .ok (.invokevirtual 158, 3) := by decide +kernel
theorem dX7_year_119 : decode cX7_year 119 = .ok (.aload_n 0, 1) := by decide +kernel
theorem dX7_year_120 : decode cX7_year 120 = .ok (.getfield 155, 3) := by decide +kernel
theorem dX7_year_123 : decode cX7_year 123 = .ok (.iload 8, 2) := by decide +kernel
theorem dX7_year_125 : decode cX7_year 125 = .ok (.if_icmp .le 8, 3) := by decide +kernel
theorem dX7_year_128 : decode cX7_year 128 = .ok (.iload 7, 2) := by decide +kernel
theorem dX7_year_130 : decode cX7_year 130 = .ok (.goto 5, 3) := by decide +kernel
theorem dX7_year_133 : decode cX7_year 133 = .ok (.iload 5, 2) := by decide +kernel
theorem dX7_year_135 : decode cX7_year 135 = .ok (.istore 5, 2) := by decide +kernel
theorem dX7_year_137 : decode cX7_year 137 = .ok (.iload 6, 2) := by decide +kernel
theorem dX7_year_139 : decode cX7_year 139 = .ok (.aload_n 0, 1) := by decide +kernel
theorem dX7_year_140 : decode cX7_year 140 = .ok (.getfield 97, 3) := by decide +kernel
theorem dX7_year_143 : decode cX7_year 143 = .ok (.invokestatic 230, 3) := by decide +kernel
theorem dX7_year_146 : decode cX7_year 146 = .ok (.iadd, 1) := by decide +kernel
theorem dX7_year_147 : decode cX7_year 147 = .ok (.istore 6, 2) := by decide +kernel
theorem dX7_year_149 : decode cX7_year 149 = .ok (.iinc 7 1, 3) := by decide +kernel
theorem dX7_year_152 : decode cX7_year 152 = .ok (.goto (-83), 3) := by decide +kernel
theorem dX7_year_155 : decode cX7_year 155 = .ok (.aload_n 0, 1) := by decide +kernel
theorem dX7_year_156 : decode cX7_year 156 = .ok (.invokevirtual 195, 3) := by decide +kernel
theorem dX7_year_159 : decode cX7_year 159 = .ok (.iload_n 3, 1) := by decide +kernel
theorem dX7_year_160 : decode cX7_year 160 = .ok (.ifCond .ne 10, 3) := by decide +kernel
theorem dX7_year_163 : decode cX7_year 163 = .ok (.aload_n 0, 1) := by decide +kernel
theorem dX7_year_164 : decode cX7_year 164 = .ok (.getfield 155, 3) := by decide +kernel
theorem dX7_year_167 : decode cX7_year 167 = .ok (.goto 15, 3) := by decide +kernel
theorem dX7_year_170 : decode cX7_year 170 = .ok (.iload_n 3, 1) := by decide +kernel
theorem dX7_year_171 : decode cX7_year 171 = .ok (.iconst 1, 1) := by decide +kernel
theorem dX7_year_172 : decode cX7_year 172 = .ok (.if_icmp .ne 8, 3) := by decide +kernel
theorem dX7_year_175 : decode cX7_year 175 = .ok (.iload 5, 2) := by decide +kernel
theorem dX7_year_177 : decode cX7_year 177 = .ok (.goto 5, 3) := by decide +kernel
theorem dX7_year_180 : decode cX7_year 180 = .ok (.iload 6, 2) := by decide +kernel
theorem dX7_year_182 : decode cX7_year 182 = .ok (.ireturn, 1) := by decide +kernel
theorem dX7_pass_0 : decode cX7_pass 0 = .ok (.aload_n 0, 1) := by decide +kernel
theorem dX7_pass_1 : decode cX7_pass 1 = .ok (.getfield 278, 3) := by decide +kernel
theorem dX7_pass_4 : decode cX7_pass 4 = .ok (.ifCond .eq 7, 3) := by decide +kernel
theorem dX7_pass_7 : decode cX7_pass 7 = .ok (.iload_n 1, 1) := by decide +kernel
theorem dX7_pass_8 : decode cX7_pass 8 = .ok (.goto 12, 3) := by decide +kernel
theorem dX7_pass_11 : decode cX7_pass 11 = .ok (.aload_n 0, 1) := by decide +kernel
theorem dX7_pass_12 : decode cX7_pass 12 = .ok (.getfield 82, 3) := by decide +kernel
theorem dX7_pass_15 : decode cX7_pass 15 = .ok (.aload_n 0, 1) := by decide +kernel
theorem dX7_pass_16 : decode cX7_pass 16 = .ok (.getfield 281, 3) := by decide +kernel
theorem dX7_pass_19 : decode cX7_pass 19 = .ok (.iaload, 1) := by decide +kernel
theorem dX7_pass_20 : decode cX7_pass 20 = .ok (.istore_n 2, 1) := by decide +kernel
theorem dX7_pass_21 : decode cX7_pass 21 = .ok (.aload_n 0, 1) := by decide +kernel
theorem dX7_pass_22 : decode cX7_pass 22 = .ok (.getfield 82, 3) := by decide +kernel
theorem dX7_pass_25 : decode cX7_pass 25 = .ok (.aload_n 0, 1) := by decide +kernel
theorem dX7_pass_26 : decode cX7_pass 26 = .ok (.getfield 281, 3) := by decide +kernel
theorem dX7_pass_29 : decode cX7_pass 29 = .ok (.iload_n 2, 1) := by decide +kernel
theorem dX7_pass_30 : decode cX7_pass 30 = .ok (.iastore, 1) := by decide +kernel
theorem dX7_pass_31 : decode cX7_pass 31 = .ok (.aload_n 0, 1) := by decide +kernel
theorem dX7_pass_32 : decode cX7_pass 32 = .ok (.dup, 1) := by decide +kernel
theorem dX7_pass_33 : decode cX7_pass 33 = .ok (.getfield 281, 3) := by decide +kernel
theorem dX7_pass_36 : decode cX7_pass 36 = .ok (.iconst 1, 1) := by decide +kernel
theorem dX7_pass_37 : decode cX7_pass 37 = .ok (.iadd, 1) := by decide +kernel
theorem dX7_pass_38 : decode cX7_pass 38 = .ok (.putfield 281, 3) := by decide +kernel
theorem dX7_pass_41 : decode cX7_pass 41 = .ok (.iload_n 2, 1) := by decide +kernel
theorem dX7_pass_42 : decode cX7_pass 42 = .ok (.ireturn, 1) := by decide +kernel
theorem dX7_passAll_0 : decode cX7_passAll 0 = .ok (.aload_n 0, 1) := by decide +kernel
theorem dX7_passAll_1 : decode cX7_passAll 1 = .ok (.aload_n 0, 1) := by decide +kernel
theorem dX7_passAll_2 : decode cX7_passAll 2 = .ok (.aload_n 0, 1) := by decide +kernel
theorem dX7_passAll_3 : decode cX7_passAll 3 = .ok (.getfield 93, 3) := by decide +kernel
theorem dX7_passAll_6 : decode cX7_passAll 6 = .ok (.invokevirtual 284, 3) := by decide +kernel
theorem dX7_passAll_9 : decode cX7_passAll 9 = .ok (.putfield 93, 3) := by decide +kernel
theorem dX7_passAll_12 : decode cX7_passAll 12 = .ok (.aload_n 0, 1) := by decide +kernel
theorem dX7_passAll_13 : decode cX7_passAll 13 = .ok (.aload_n 0, 1) := by decide +kernel
theorem dX7_passAll_14 : decode cX7_passAll 14 = .ok (.aload_n 0, 1) := by decide +kernel
theorem dX7_passAll_15 : decode cX7_passAll 15 = .ok (.getfield 97, 3) := by decide +kernel
theorem dX7_passAll_18 : decode cX7_passAll 18 = .ok (.invokevirtual 284, 3) := by decide +kernel
theorem dX7_passAll_21 : decode cX7_passAll 21 = .ok (.putfield 97, 3) := by decide +kernel
theorem dX7_passAll_24 : decode cX7_passAll 24 = .ok (.aload_n 0, 1) := by decide +kernel
theorem dX7_passAll_25 : decode cX7_passAll 25 = .ok (.aload_n 0, 1) := by decide +kernel
theorem dX7_passAll_26 : decode cX7_passAll 26 = .ok (.aload_n 0, 1) := by decide +kernel
theorem dX7_passAll_27 : decode cX7_passAll 27 = .ok (.getfield 100, 3) := by decide +kernel
theorem dX7_passAll_30 : decode cX7_passAll 30 = .ok (.invokevirtual 284, 3) := by decide +kernel
theorem dX7_passAll_33 : decode cX7_passAll 33 = .ok (.putfield 100, 3) := by decide +kernel
theorem dX7_passAll_36 : decode cX7_passAll 36 = .ok (.aload_n 0, 1) := by decide +kernel
theorem dX7_passAll_37 : decode cX7_passAll 37 = .ok (.aload_n 0, 1) := by decide +kernel
theorem dX7_passAll_38 : decode cX7_passAll 38 = .ok (.aload_n 0, 1) := by decide +kernel
theorem dX7_passAll_39 : decode cX7_passAll 39 = .ok (.getfield 103, 3) := by decide +kernel
theorem dX7_passAll_42 : decode cX7_passAll 42 = .ok (.invokevirtual 284, 3) := by decide +kernel
theorem dX7_passAll_45 : decode cX7_passAll 45 = .ok (.putfield 103, 3) := by decide +kernel
theorem dX7_passAll_48 : decode cX7_passAll 48 = .ok (.iconst 0, 1) := by decide +kernel
theorem dX7_passAll_49 : decode cX7_passAll 49 = .ok (.istore_n 1, 1) := by decide +kernel
theorem dX7_passAll_50 : decode cX7_passAll 50 = .ok (.iload_n 1, 1) := by decide +kernel
theorem dX7_passAll_51 : decode cX7_passAll 51 = .ok (.bipush 7, 2) := by decide +kernel
theorem dX7_passAll_53 : decode cX7_passAll 53 = .ok (.if_icmp .ge 137, 3) := by decide +kernel
theorem dX7_passAll_56 : decode cX7_passAll 56 = .ok (.aload_n 0, 1) := by decide +kernel
theorem dX7_passAll_57 : decode cX7_passAll 57 = .ok (.getfield 7, 3) := by decide +kernel
theorem dX7_passAll_60 : decode cX7_passAll 60 = .ok (.iload_n 1, 1) := by decide +kernel
theorem dX7_passAll_61 : decode cX7_passAll 61 = .ok (.aload_n 0, 1) := by decide +kernel
theorem dX7_passAll_62 : decode cX7_passAll 62 = .ok (.aload_n 0, 1) := by decide +kernel
theorem dX7_passAll_63 : decode cX7_passAll 63 = .ok (.getfield 7, 3) := by decide +kernel
theorem dX7_passAll_66 : decode cX7_passAll 66 = .ok (.iload_n 1, 1) := by decide +kernel
theorem dX7_passAll_67 : decode cX7_passAll 67 = .ok (.iaload, 1) := by decide +kernel
theorem dX7_passAll_68 : decode cX7_passAll 68 = .ok (.invokevirtual 284, 3) := by decide +kernel
theorem dX7_passAll_71 : decode cX7_passAll 71 = .ok (.iastore, 1) := by decide +kernel
theorem dX7_passAll_72 : decode cX7_passAll 72 = .ok (.aload_n 0, 1) := by decide +kernel
theorem dX7_passAll_73 : decode cX7_passAll 73 = .ok (.getfield 13, 3) := by decide +kernel
theorem dX7_passAll_76 : decode cX7_passAll 76 = .ok (.iload_n 1, 1) := by decide +kernel
theorem dX7_passAll_77 : decode cX7_passAll 77 = .ok (.aload_n 0, 1) := by decide +kernel
theorem dX7_passAll_78 : decode cX7_passAll 78 = .ok (.aload_n 0, 1) := by decide +kernel
theorem dX7_passAll_79 : decode cX7_passAll 79 = .ok (.getfield 13, 3) := by decide +kernel
theorem dX7_passAll_82 : decode cX7_passAll 82 = .ok (.iload_n 1, 1) := by decide +kernel
theorem dX7_passAll_83 : decode cX7_passAll 83 = .ok (.iaload, 1) := by decide +kernel
theorem dX7_passAll_84 : decode cX7_passAll 84 = .ok (.invokevirtual 284, 3) := by decide +kernel
theorem dX7_passAll_87 : decode cX7_passAll 87 = .ok (.iastore, 1) := by decide +kernel
theorem dX7_passAll_88 : decode cX7_passAll 88 = .ok (.aload_n 0, 1) := by decide +kernel
theorem dX7_passAll_89 : decode cX7_passAll 89 = .ok (.getfield 16, 3) := by decide +kernel
theorem dX7_passAll_92 : decode cX7_passAll 92 = .ok (.iload_n 1, 1) := by decide +kernel
theorem dX7_passAll_93 : decode cX7_passAll 93 = .ok (.aload_n 0, 1) := by decide +kernel
theorem dX7_passAll_94 : decode cX7_passAll 94 = .ok (.aload_n 0, 1) := by decide +kernel
theorem dX7_passAll_95 : decode cX7_passAll 95 = .ok (.getfield 16, 3) := by decide +kernel
theorem dX7_passAll_98 : decode cX7_passAll 98 = .ok (.iload_n 1, 1) := by decide +kernel
theorem dX7_passAll_99 : decode cX7_passAll 99 = .ok (.iaload, 1) := by decide +kernel
theorem dX7_passAll_100 : decode cX7_passAll 100 = .ok (.invokevirtual 284, 3) := by decide +kernel
theorem dX7_passAll_103 : decode cX7_passAll 103 = .ok (.iastore, 1) := by decide +kernel
theorem dX7_passAll_104 : decode cX7_passAll 104 = .ok (.aload_n 0, 1) := by decide +kernel
theorem dX7_passAll_105 : decode cX7_passAll 105 = .ok (.getfield 19, 3) := by decide +kernel
theorem dX7_passAll_108 : decode cX7_passAll 108 = .ok (.iload_n 1, 1) := by decide +kernel
theorem dX7_passAll_109 : decode cX7_passAll 109 = .ok (.aload_n 0, 1) := by decide +kernel
theorem dX7_passAll_110 : decode cX7_passAll 110 = .ok (.aload_n 0, 1) := by decide +kernel
theorem dX7_passAll_111 : decode cX7_passAll 111 = .ok (.getfield 19, 3) := by decide +kernel
theorem dX7_passAll_114 : decode cX7_passAll 114 = .ok (.iload_n 1, 1) := by decide +kernel
theorem dX7_passAll_115 : decode cX7_passAll 115 = .ok (.iaload, 1) := by decide +kernel
theorem dX7_passAll_116 : decode cX7_passAll 116 = .ok (.invokevirtual 284, 3) := by decide +kernel
theorem dX7_passAll_119 : decode cX7_passAll 119 = .ok (.iastore, 1) := by decide +kernel
theorem dX7_passAll_120 : decode cX7_passAll 120 = .ok (.aload_n 0, 1) := by decide +kernel
theorem dX7_passAll_121 : decode cX7_passAll 121 = .ok (.getfield 22, 3) := by decide +kernel
theorem dX7_passAll_124 : decode cX7_passAll 124 = .ok (.iload_n 1, 1) := by decide +kernel
theorem dX7_passAll_125 : decode cX7_passAll 125 = .ok (.aload_n 0, 1) := by decide +kernel
theorem dX7_passAll_126 : decode cX7_passAll 126 = .ok (.aload_n 0, 1) := by decide +kernel
theorem dX7_passAll_127 : decode cX7_passAll 127 = .ok (.getfield 22, 3) := by decide +kernel
theorem dX7_passAll_130 : decode cX7_passAll 130 = .ok (.iload_n 1, 1) := by decide +kernel
theorem dX7_passAll_131 : decode cX7_passAll 131 = .ok (.iaload, 1) := by decide +kernel
theorem dX7_passAll_132 : decode cX7_passAll 132 = .ok (.invokevirtual 284, 3) := by decide +kernel
theorem dX7_passAll_135 : decode cX7_passAll 135 = .ok (.iastore, 1) := by decide +kernel
theorem dX7_passAll_136 : decode cX7_passAll 136 = .ok (.aload_n 0, 1) := by decide +kernel
theorem dX7_passAll_137 : decode cX7_passAll 137 = .ok (.getfield 25, 3) := by decide +kernel
theorem dX7_passAll_140 : decode cX7_passAll 140 = .ok (.iload_n 1, 1) := by decide +kernel
theorem dX7_passAll_141 : decode cX7_passAll 141 = .ok (.aload_n 0, 1) := by decide +kernel
theorem dX7_passAll_142 : decode cX7_passAll 142 = .ok (.aload_n 0, 1) := by decide +kernel
theorem dX7_passAll_143 : decode cX7_passAll 143 = .ok (.getfield 25, 3) := by decide +kernel
theorem dX7_passAll_146 : decode cX7_passAll 146 = .ok (.iload_n 1, 1) := by decide +kernel
theorem dX7_passAll_147 : decode cX7_passAll 147 = .ok (.iaload, 1) := by decide +kernel
theorem dX7_passAll_148 : decode cX7_passAll 148 = .ok (.invokevirtual 284, 3) := by decide +kernel
theorem dX7_passAll_151 : decode cX7_passAll 151 = .ok (.iastore, 1) := by decide +kernel
theorem dX7_passAll_152 : decode cX7_passAll 152 = .ok (.aload_n 0, 1) := by decide +kernel
theorem dX7_passAll_153 : decode cX7_passAll 153 = .ok (.getfield 37, 3) := by decide +kernel
theorem dX7_passAll_156 : decode cX7_passAll 156 = .ok (.iload_n 1, 1) := by decide +kernel
theorem dX7_passAll_157 : decode cX7_passAll 157 = .ok (.aload_n 0, 1) := by decide +kernel
theorem dX7_passAll_158 : decode cX7_passAll 158 = .ok (.aload_n 0, 1) := by decide +kernel
theorem dX7_passAll_159 : decode cX7_passAll 159 = .ok (.getfield 37, 3) := by decide +kernel
theorem dX7_passAll_162 : decode cX7_passAll 162 = .ok (.iload_n 1, 1) := by decide +kernel
theorem dX7_passAll_163 : decode cX7_passAll 163 = .ok (.iaload, 1) := by decide +kernel
theorem dX7_passAll_164 : decode cX7_passAll 164 = .ok (.invokevirtual 284, 3) := by decide +kernel
theorem dX7_passAll_167 : decode cX7_passAll 167 = .ok (.iastore, 1) := by decide +kernel
theorem dX7_passAll_168 : decode cX7_passAll 168 = .ok (.aload_n 0, 1) := by decide +kernel
theorem dX7_passAll_169 : decode cX7_passAll 169 = .ok (.getfield 40, 3) := by decide +kernel
theorem dX7_passAll_172 : decode cX7_passAll 172 = .ok (.iload_n 1, 1) := by decide +kernel
theorem dX7_passAll_173 : decode cX7_passAll 173 = .ok (.aload_n 0, 1) := by decide +kernel
theorem dX7_passAll_174 : decode cX7_passAll 174 = .ok (.aload_n 0, 1) := by decide +kernel
theorem dX7_passAll_175 : decode cX7_passAll 175 = .ok (.getfield 40, 3) := by decide +kernel
theorem dX7_passAll_178 : decode cX7_passAll 178 = .ok (.iload_n 1, 1) := by decide +kernel
theorem dX7_passAll_179 : decode cX7_passAll 179 = .ok (.iaload, 1) := by decide +kernel
theorem dX7_passAll_180 : decode cX7_passAll 180 = .ok (.invokevirtual 284, 3) := by decide +kernel
theorem dX7_passAll_183 : decode cX7_passAll 183 = .ok (.iastore, 1) := by decide +kernel
theorem dX7_passAll_184 : decode cX7_passAll 184 = .ok (.iinc 1 1, 3) := by decide +kernel
theorem dX7_passAll_187 : decode cX7_passAll 187 = .ok (.goto (-137), 3) := by decide +kernel
theorem dX7_passAll_190 : decode cX7_passAll 190 = .ok (.iconst 0, 1) := by decide +kernel
theorem dX7_passAll_191 : decode cX7_passAll 191 = .ok (.istore_n 1, 1) := by decide +kernel
theorem dX7_passAll_192 : decode cX7_passAll 192 = .ok (.iload_n 1, 1) := by decide +kernel
theorem dX7_passAll_193 : decode cX7_passAll 193 = .ok (.bipush 12, 2) := by decide +kernel
theorem dX7_passAll_195 : decode cX7_passAll 195 = .ok (.if_icmp .ge 57, 3) := by decide +kernel
theorem dX7_passAll_198 : decode cX7_passAll 198 = .ok (.aload_n 0, 1) := by decide +kernel
theorem dX7_passAll_199 : decode cX7_passAll 199 = .ok (.getfield 28, 3) := by decide +kernel
theorem dX7_passAll_202 : decode cX7_passAll 202 = .ok (.iload_n 1, 1) := by decide +kernel
theorem dX7_passAll_203 : decode cX7_passAll 203 = .ok (.aload_n 0, 1) := by decide +kernel
theorem dX7_passAll_204 : decode cX7_passAll 204 = .ok (.aload_n 0, 1) := by decide +kernel
theorem dX7_passAll_205 : decode cX7_passAll 205 = .ok (.getfield 28, 3) := by decide +kernel
theorem dX7_passAll_208 : decode cX7_passAll 208 = .ok (.iload_n 1, 1) := by decide +kernel
theorem dX7_passAll_209 : decode cX7_passAll 209 = .ok (.iaload, 1) := by decide +kernel
theorem dX7_passAll_210 : decode cX7_passAll 210 = .ok (.invokevirtual 284, 3) := by decide +kernel
theorem dX7_passAll_213 : decode cX7_passAll 213 = .ok (.iastore, 1) := by decide +kernel
theorem dX7_passAll_214 : decode cX7_passAll 214 = .ok (.aload_n 0, 1) := by decide +kernel
theorem dX7_passAll_215 : decode cX7_passAll 215 = .ok (.getfield 31, 3) := by decide +kernel
theorem dX7_passAll_218 : decode cX7_passAll 218 = .ok (.iload_n 1, 1) := by decide +kernel
theorem dX7_passAll_219 : decode cX7_passAll 219 = .ok (.aload_n 0, 1) := by decide +kernel
theorem dX7_passAll_220 : decode cX7_passAll 220 = .ok (.aload_n 0, 1) := by decide +kernel
theorem dX7_passAll_221 : decode cX7_passAll 221 = .ok (.getfield 31, 3) := by decide +kernel
theorem dX7_passAll_224 : decode cX7_passAll 224 = .ok (.iload_n 1, 1) := by decide +kernel
theorem dX7_passAll_225 : decode cX7_passAll 225 = .ok (.iaload, 1) := by decide +kernel
theorem dX7_passAll_226 : decode cX7_passAll 226 = .ok (.invokevirtual 284, 3) := by decide +kernel
theorem dX7_passAll_229 : decode cX7_passAll 229 = .ok (.iastore, 1) := by decide +kernel
theorem dX7_passAll_230 : decode cX7_passAll 230 = .ok (.aload_n 0, 1) := by decide +kernel
theorem dX7_passAll_231 : decode cX7_passAll 231 = .ok (.getfield 34, 3) := by decide +kernel
theorem dX7_passAll_234 : decode cX7_passAll 234 = .ok (.iload_n 1, 1) := by decide +kernel
theorem dX7_passAll_235 : decode cX7_passAll 235 = .ok (.aload_n 0, 1) := by decide +kernel
theorem dX7_passAll_236 : decode cX7_passAll 236 = .ok (.aload_n 0, 1) := by decide +kernel
theorem dX7_passAll_237 : decode cX7_passAll 237 = .ok (.getfield 34, 3) := by decide +kernel
theorem dX7_passAll_240 : decode cX7_passAll 240 = .ok (.iload_n 1, 1) := by decide +kernel
theorem dX7_passAll_241 : decode cX7_passAll 241 = .ok (.iaload, 1) := by decide +kernel
theorem dX7_passAll_242 : decode cX7_passAll 242 = .ok (.invokevirtual 284, 3) := by decide +kernel
theorem dX7_passAll_245 : decode cX7_passAll 245 = .ok (.iastore, 1) := by decide +kernel
theorem dX7_passAll_246 : decode cX7_passAll 246 = .ok (.iinc 1 1, 3) := by decide +kernel
theorem dX7_passAll_249 : decode cX7_passAll 249 = .ok (.goto (-57), 3) := by decide +kernel
theorem dX7_passAll_252 : decode cX7_passAll 252 = .ok (.return_, 1) := by decide +kernel
theorem dX7_image_0 : decode cX7_image 0 = .ok (.iload_n 1, 1) := by decide +kernel
theorem dX7_image_1 : decode cX7_image 1 = .ok (.i2l, 1) := by decide +kernel
theorem dX7_image_2 : decode cX7_image 2 = .ok (.lconst 0, 1) := by decide +kernel
theorem dX7_image_3 : decode cX7_image 3 = .ok (.lconst 1, 1) := by decide +kernel
theorem dX7_image_4 : decode cX7_image 4 = .ok (.invokestatic 106, 3) := by decide +kernel
theorem dX7_image_7 : decode cX7_image 7 = .ok (.ifCond .ne 6, 3) := by decide +kernel
theorem dX7_image_10 : decode cX7_image 10 = .ok (.bipush (-2), 2) := by decide +kernel
theorem dX7_image_12 : decode cX7_image 12 = .ok (.ireturn, 1) := by decide +kernel
theorem dX7_image_13 : decode cX7_image 13 = .ok (.aload_n 0, 1) := by decide +kernel
theorem dX7_image_14 : decode cX7_image 14 = .ok (.bipush 120, 2) := by decide +kernel
theorem dX7_image_16 : decode cX7_image 16 = .ok (.iload_n 1, 1) := by decide +kernel
theorem dX7_image_17 : decode cX7_image 17 = .ok (.imul, 1) := by decide +kernel
theorem dX7_image_18 : decode cX7_image 18 = .ok (.putfield 281, 3) := by decide +kernel
theorem dX7_image_21 : decode cX7_image 21 = .ok (.aload_n 0, 1) := by decide +kernel
theorem dX7_image_22 : decode cX7_image 22 = .ok (.iconst 1, 1) := by decide +kernel
theorem dX7_image_23 : decode cX7_image 23 = .ok (.putfield 278, 3) := by decide +kernel
theorem dX7_image_26 : decode cX7_image 26 = .ok (.aload_n 0, 1) := by decide +kernel
theorem dX7_image_27 : decode cX7_image 27 = .ok (.invokevirtual 287, 3) := by decide +kernel
theorem dX7_image_30 : decode cX7_image 30 = .ok (.aload_n 0, 1) := by decide +kernel
theorem dX7_image_31 : decode cX7_image 31 = .ok (.getfield 85, 3) := by decide +kernel
theorem dX7_image_34 : decode cX7_image 34 = .ok (.iload_n 1, 1) := by decide +kernel
theorem dX7_image_35 : decode cX7_image 35 = .ok (.iconst 1, 1) := by decide +kernel
theorem dX7_image_36 : decode cX7_image 36 = .ok (.bastore, 1) := by decide +kernel
theorem dX7_image_37 : decode cX7_image 37 = .ok (.iconst 1, 1) := by decide +kernel
theorem dX7_image_38 : decode cX7_image 38 = .ok (.ireturn, 1) := by decide +kernel
theorem dX7_restore_0 : decode cX7_restore 0 = .ok (.iload_n 1, 1) := by decide +kernel
theorem dX7_restore_1 : decode cX7_restore 1 = .ok (.i2l, 1) := by decide +kernel
theorem dX7_restore_2 : decode cX7_restore 2 = .ok (.lconst 0, 1) := by decide +kernel
theorem dX7_restore_3 : decode cX7_restore 3 = .ok (.lconst 1, 1) := by decide +kernel
theorem dX7_restore_4 : decode cX7_restore 4 = .ok (.invokestatic 106, 3) := by decide +kernel
theorem dX7_restore_7 : decode cX7_restore 7 = .ok (.ifCond .ne 6, 3) := by decide +kernel
theorem dX7_restore_10 : decode cX7_restore 10 = .ok (.bipush (-2), 2) := by decide +kernel
theorem dX7_restore_12 : decode cX7_restore 12 = .ok (.ireturn, 1) := by decide +kernel
theorem dX7_restore_13 : decode cX7_restore 13 = .ok (.aload_n 0, 1) := by decide +kernel
theorem dX7_restore_14 : decode cX7_restore 14 = .ok (.getfield 85, 3) := by decide +kernel
theorem dX7_restore_17 : decode cX7_restore 17 = .ok (.iload_n 1, 1) := by decide +kernel
theorem dX7_restore_18 : decode cX7_restore 18 = .ok (.baload, 1) := by decide +kernel
theorem dX7_restore_19 : decode cX7_restore 19 = .ok (.ifCond .ne 6, 3) := by decide +kernel
theorem dX7_restore_22 : decode cX7_restore 22 = .ok (.bipush (-3), 2) := by decide +kernel
theorem dX7_restore_24 : decode cX7_restore 24 = .ok (.ireturn, 1) := by decide +kernel
theorem dX7_restore_25 : decode cX7_restore 25 = .ok (.aload_n 0, 1) := by decide +kernel
theorem dX7_restore_26 : decode cX7_restore 26 = .ok (.bipush 120, 2) := by decide +kernel
theorem dX7_restore_28 : decode cX7_restore 28 = .ok (.iload_n 1, 1) := by decide +kernel
theorem dX7_restore_29 : decode cX7_restore 29 = .ok (.imul, 1) := by decide +kernel
theorem dX7_restore_30 : decode cX7_restore 30 = .ok (.putfield 281, 3) := by decide +kernel
theorem dX7_restore_33 : decode cX7_restore 33 = .ok (.aload_n 0, 1) := by decide +kernel
theorem dX7_restore_34 : decode cX7_restore 34 = .ok (.iconst 0, 1) := by decide +kernel
theorem dX7_restore_35 : decode cX7_restore 35 = .ok (.putfield 278, 3) := by decide +kernel
theorem dX7_restore_38 : decode cX7_restore 38 = .ok (.aload_n 0, 1) := by decide +kernel
theorem dX7_restore_39 : decode cX7_restore 39 = .ok (.invokevirtual 287, 3) := by decide +kernel
theorem dX7_restore_42 : decode cX7_restore 42 = .ok (.iconst 1, 1) := by decide +kernel
theorem dX7_restore_43 : decode cX7_restore 43 = .ok (.ireturn, 1) := by decide +kernel
theorem dX7_toldOfEgg_0 : decode cX7_toldOfEgg 0 = .ok (.aload_n 0, 1) := by decide +kernel
theorem dX7_toldOfEgg_1 : decode cX7_toldOfEgg 1 = .ok (.iload_n 1, 1) := by decide +kernel
theorem dX7_toldOfEgg_2 : decode cX7_toldOfEgg 2 = .ok (.invokevirtual 114, 3) := by decide +kernel
theorem dX7_toldOfEgg_5 : decode cX7_toldOfEgg 5 = .ok (.ifCond .ne 6, 3) := by decide +kernel
theorem dX7_toldOfEgg_8 : decode cX7_toldOfEgg 8 = .ok (.bipush (-2), 2) := by decide +kernel
theorem dX7_toldOfEgg_10 : decode cX7_toldOfEgg 10 = .ok (.ireturn, 1) := by decide +kernel
theorem dX7_toldOfEgg_11 : decode cX7_toldOfEgg 11 = .ok (.iload_n 2, 1) := by decide +kernel
theorem dX7_toldOfEgg_12 : decode cX7_toldOfEgg 12 = .ok (.tableswitch 71 0 4 #[36, 43, 50, 57, 64], 36) := by decide +kernel
theorem dX7_toldOfEgg_48 : decode cX7_toldOfEgg 48 = .ok (.aload_n 0, 1) := by decide +kernel
theorem dX7_toldOfEgg_49 : decode cX7_toldOfEgg 49 = .ok (.getfield 7, 3) := by decide +kernel
theorem dX7_toldOfEgg_52 : decode cX7_toldOfEgg 52 = .ok (.iload_n 1, 1) := by decide +kernel
theorem dX7_toldOfEgg_53 : decode cX7_toldOfEgg 53 = .ok (.iaload, 1) := by decide +kernel
theorem dX7_toldOfEgg_54 : decode cX7_toldOfEgg 54 = .ok (.ireturn, 1) := by decide +kernel
theorem dX7_toldOfEgg_55 : decode cX7_toldOfEgg 55 = .ok (.aload_n 0, 1) := by decide +kernel
theorem dX7_toldOfEgg_56 : decode cX7_toldOfEgg 56 = .ok (.getfield 13, 3) := by decide +kernel
theorem dX7_toldOfEgg_59 : decode cX7_toldOfEgg 59 = .ok (.iload_n 1, 1) := by decide +kernel
theorem dX7_toldOfEgg_60 : decode cX7_toldOfEgg 60 = .ok (.iaload, 1) := by decide +kernel
theorem dX7_toldOfEgg_61 : decode cX7_toldOfEgg 61 = .ok (.ireturn, 1) := by decide +kernel
theorem dX7_toldOfEgg_62 : decode cX7_toldOfEgg 62 = .ok (.aload_n 0, 1) := by decide +kernel
theorem dX7_toldOfEgg_63 : decode cX7_toldOfEgg 63 = .ok (.getfield 16, 3) := by decide +kernel
theorem dX7_toldOfEgg_66 : decode cX7_toldOfEgg 66 = .ok (.iload_n 1, 1) := by decide +kernel
theorem dX7_toldOfEgg_67 : decode cX7_toldOfEgg 67 = .ok (.iaload, 1) := by decide +kernel
theorem dX7_toldOfEgg_68 : decode cX7_toldOfEgg 68 = .ok (.ireturn, 1) := by decide +kernel
theorem dX7_toldOfEgg_69 : decode cX7_toldOfEgg 69 = .ok (.aload_n 0, 1) := by decide +kernel
theorem dX7_toldOfEgg_70 : decode cX7_toldOfEgg 70 = .ok (.getfield 19, 3) := by decide +kernel
theorem dX7_toldOfEgg_73 : decode cX7_toldOfEgg 73 = .ok (.iload_n 1, 1) := by decide +kernel
theorem dX7_toldOfEgg_74 : decode cX7_toldOfEgg 74 = .ok (.iaload, 1) := by decide +kernel
theorem dX7_toldOfEgg_75 : decode cX7_toldOfEgg 75 = .ok (.ireturn, 1) := by decide +kernel
theorem dX7_toldOfEgg_76 : decode cX7_toldOfEgg 76 = .ok (.aload_n 0, 1) := by decide +kernel
theorem dX7_toldOfEgg_77 : decode cX7_toldOfEgg 77 = .ok (.getfield 22, 3) := by decide +kernel
theorem dX7_toldOfEgg_80 : decode cX7_toldOfEgg 80 = .ok (.iload_n 1, 1) := by decide +kernel
theorem dX7_toldOfEgg_81 : decode cX7_toldOfEgg 81 = .ok (.iaload, 1) := by decide +kernel
theorem dX7_toldOfEgg_82 : decode cX7_toldOfEgg 82 = .ok (.ireturn, 1) := by decide +kernel
theorem dX7_toldOfEgg_83 : decode cX7_toldOfEgg 83 = .ok (.bipush (-2), 2) := by decide +kernel
theorem dX7_toldOfEgg_85 : decode cX7_toldOfEgg 85 = .ok (.ireturn, 1) := by decide +kernel
theorem dX7_told_0 : decode cX7_told 0 = .ok (.iload_n 1, 1) := by decide +kernel
theorem dX7_told_1 : decode cX7_told 1 = .ok (.i2l, 1) := by decide +kernel
theorem dX7_told_2 : decode cX7_told 2 = .ok (.ldc2_w 290, 3) := by decide +kernel
theorem dX7_told_5 : decode cX7_told 5 = .ok (.ldc2_w 292, 3) := by decide +kernel
theorem dX7_told_8 : decode cX7_told 8 = .ok (.invokestatic 106, 3) := by decide +kernel
theorem dX7_told_11 : decode cX7_told 11 = .ok (.ifCond .eq 18, 3) := by decide +kernel
theorem dX7_told_14 : decode cX7_told 14 = .ok (.aload_n 0, 1) := by decide +kernel
theorem dX7_told_15 : decode cX7_told 15 = .ok (.iload_n 1, 1) := by decide +kernel
theorem dX7_told_16 : decode cX7_told 16 = .ok (.bipush 10, 2) := by decide +kernel
theorem dX7_told_18 : decode cX7_told 18 = .ok (.idiv, 1) := by decide +kernel
theorem dX7_told_19 : decode cX7_told 19 = .ok (.iconst 2, 1) := by decide +kernel
theorem dX7_told_20 : decode cX7_told 20 = .ok (.isub, 1) := by decide +kernel
theorem dX7_told_21 : decode cX7_told 21 = .ok (.iload_n 1, 1) := by decide +kernel
theorem dX7_told_22 : decode cX7_told 22 = .ok (.bipush 10, 2) := by decide +kernel
theorem dX7_told_24 : decode cX7_told 24 = .ok (.irem, 1) := by decide +kernel
theorem dX7_told_25 : decode cX7_told 25 = .ok (.invokevirtual 294, 3) := by decide +kernel
theorem dX7_told_28 : decode cX7_told 28 = .ok (.ireturn, 1) := by decide +kernel
theorem dX7_told_29 : decode cX7_told 29 = .ok (.iload_n 1, 1) := by decide +kernel
theorem dX7_told_30 : decode cX7_told 30 = .ok (.i2l, 1) := by decide +kernel
theorem dX7_told_31 : decode cX7_told 31 = .ok (.ldc2_w 264, 3) := by decide +kernel
theorem dX7_told_34 : decode cX7_told 34 = .ok (.ldc2_w 297, 3) := by decide +kernel
theorem dX7_told_37 : decode cX7_told 37 = .ok (.aload_n 0, 1) := by decide +kernel
theorem dX7_told_38 : decode cX7_told 38 = .ok (.getfield 93, 3) := by decide +kernel
theorem dX7_told_41 : decode cX7_told 41 = .ok (.i2l, 1) := by decide +kernel
theorem dX7_told_42 : decode cX7_told 42 = .ok (.ladd, 1) := by decide +kernel
theorem dX7_told_43 : decode cX7_told 43 = .ok (.invokestatic 106, 3) := by decide +kernel
theorem dX7_told_46 : decode cX7_told 46 = .ok (.ifCond .eq 13, 3) := by decide +kernel
theorem dX7_told_49 : decode cX7_told 49 = .ok (.aload_n 0, 1) := by decide +kernel
theorem dX7_told_50 : decode cX7_told 50 = .ok (.getfield 25, 3) := by decide +kernel
theorem dX7_told_53 : decode cX7_told 53 = .ok (.iload_n 1, 1) := by decide +kernel
theorem dX7_told_54 : decode cX7_told 54 = .ok (.bipush 10, 2) := by decide +kernel
theorem dX7_told_56 : decode cX7_told 56 = .ok (.isub, 1) := by decide +kernel
theorem dX7_told_57 : decode cX7_told 57 = .ok (.iaload, 1) := by decide +kernel
theorem dX7_told_58 : decode cX7_told 58 = .ok (.ireturn, 1) := by decide +kernel
theorem dX7_told_59 : decode cX7_told 59 = .ok (.iload_n 1, 1) := by decide +kernel
theorem dX7_told_60 : decode cX7_told 60 = .ok (.ifCond .ne 10, 3) := by decide +kernel
theorem dX7_told_63 : decode cX7_told 63 = .ok (.aload_n 0, 1) := by decide +kernel
theorem dX7_told_64 : decode cX7_told 64 = .ok (.getfield 131, 3) := by decide +kernel
theorem dX7_told_67 : decode cX7_told 67 = .ok (.goto 53, 3) := by decide +kernel
theorem dX7_told_70 : decode cX7_told 70 = .ok (.iload_n 1, 1) := by decide +kernel
theorem dX7_told_71 : decode cX7_told 71 = .ok (.iconst 1, 1) := by decide +kernel
theorem dX7_told_72 : decode cX7_told 72 = .ok (.if_icmp .ne 10, 3) := by decide +kernel
theorem dX7_told_75 : decode cX7_told 75 = .ok (.aload_n 0, 1) := by decide +kernel
theorem dX7_told_76 : decode cX7_told 76 = .ok (.getfield 93, 3) := by decide +kernel
theorem dX7_told_79 : decode cX7_told 79 = .ok (.goto 41, 3) := by decide +kernel
theorem dX7_told_82 : decode cX7_told 82 = .ok (.iload_n 1, 1) := by decide +kernel
theorem dX7_told_83 : decode cX7_told 83 = .ok (.iconst 2, 1) := by decide +kernel
theorem dX7_told_84 : decode cX7_told 84 = .ok (.if_icmp .ne 10, 3) := by decide +kernel
theorem dX7_told_87 : decode cX7_told 87 = .ok (.aload_n 0, 1) := by decide +kernel
theorem dX7_told_88 : decode cX7_told 88 = .ok (.getfield 97, 3) := by decide +kernel
theorem dX7_told_91 : decode cX7_told 91 = .ok (.goto 29, 3) := by decide +kernel
theorem dX7_told_94 : decode cX7_told 94 = .ok (.iload_n 1, 1) := by decide +kernel
theorem dX7_told_95 : decode cX7_told 95 = .ok (.iconst 3, 1) := by decide +kernel
theorem dX7_told_96 : decode cX7_told 96 = .ok (.if_icmp .ne 10, 3) := by decide +kernel
theorem dX7_told_99 : decode cX7_told 99 = .ok (.aload_n 0, 1) := by decide +kernel
theorem dX7_told_100 : decode cX7_told 100 = .ok (.getfield 100, 3) := by decide +kernel
theorem dX7_told_103 : decode cX7_told 103 = .ok (.goto 17, 3) := by decide +kernel
theorem dX7_told_106 : decode cX7_told 106 = .ok (.iload_n 1, 1) := by decide +kernel
theorem dX7_told_107 : decode cX7_told 107 = .ok (.iconst 4, 1) := by decide +kernel
theorem dX7_told_108 : decode cX7_told 108 = .ok (.if_icmp .ne 10, 3) := by decide +kernel
theorem dX7_told_111 : decode cX7_told 111 = .ok (.aload_n 0, 1) := by decide +kernel
theorem dX7_told_112 : decode cX7_told 112 = .ok (.getfield 103, 3) := by decide +kernel
theorem dX7_told_115 : decode cX7_told 115 = .ok (.goto 5, 3) := by decide +kernel
theorem dX7_told_118 : decode cX7_told 118 = .ok (.bipush (-2), 2) := by decide +kernel
theorem dX7_told_120 : decode cX7_told 120 = .ok (.ireturn, 1) := by decide +kernel
theorem dJ6_bitCount_0f7a4_0 : decode cJ6_bitCount_0f7a4 0 = .ok (.iload_n 0, 1) := by decide +kernel
theorem dJ6_bitCount_0f7a4_1 : decode cJ6_bitCount_0f7a4 1 = .ok (.iload_n 0, 1) := by decide +kernel
theorem dJ6_bitCount_0f7a4_2 : decode cJ6_bitCount_0f7a4 2 = .ok (.iconst 1, 1) := by decide +kernel
theorem dJ6_bitCount_0f7a4_3 : decode cJ6_bitCount_0f7a4 3 = .ok (.iushr, 1) := by decide +kernel
theorem dJ6_bitCount_0f7a4_4 : decode cJ6_bitCount_0f7a4 4 = .ok (.ldc_w 265, 3) := by decide +kernel
theorem dJ6_bitCount_0f7a4_7 : decode cJ6_bitCount_0f7a4 7 = .ok (.iand, 1) := by decide +kernel
theorem dJ6_bitCount_0f7a4_8 : decode cJ6_bitCount_0f7a4 8 = .ok (.isub, 1) := by decide +kernel
theorem dJ6_bitCount_0f7a4_9 : decode cJ6_bitCount_0f7a4 9 = .ok (.istore_n 0, 1) := by decide +kernel
theorem dJ6_bitCount_0f7a4_10 : decode cJ6_bitCount_0f7a4 10 = .ok (.iload_n 0, 1) := by decide +kernel
theorem dJ6_bitCount_0f7a4_11 : decode cJ6_bitCount_0f7a4 11 = .ok (.ldc_w 266, 3) := by decide +kernel
theorem dJ6_bitCount_0f7a4_14 : decode cJ6_bitCount_0f7a4 14 = .ok (.iand, 1) := by decide +kernel
theorem dJ6_bitCount_0f7a4_15 : decode cJ6_bitCount_0f7a4 15 = .ok (.iload_n 0, 1) := by decide +kernel
theorem dJ6_bitCount_0f7a4_16 : decode cJ6_bitCount_0f7a4 16 = .ok (.iconst 2, 1) := by decide +kernel
theorem dJ6_bitCount_0f7a4_17 : decode cJ6_bitCount_0f7a4 17 = .ok (.iushr, 1) := by decide +kernel
theorem dJ6_bitCount_0f7a4_18 : decode cJ6_bitCount_0f7a4 18 = .ok (.ldc_w 266, 3) := by decide +kernel
theorem dJ6_bitCount_0f7a4_21 : decode cJ6_bitCount_0f7a4 21 = .ok (.iand, 1) := by decide +kernel
theorem dJ6_bitCount_0f7a4_22 : decode cJ6_bitCount_0f7a4 22 = .ok (.iadd, 1) := by decide +kernel
theorem dJ6_bitCount_0f7a4_23 : decode cJ6_bitCount_0f7a4 23 = .ok (.istore_n 0, 1) := by decide +kernel
theorem dJ6_bitCount_0f7a4_24 : decode cJ6_bitCount_0f7a4 24 = .ok (.iload_n 0, 1) := by decide +kernel
theorem dJ6_bitCount_0f7a4_25 : decode cJ6_bitCount_0f7a4 25 = .ok (.iload_n 0, 1) := by decide +kernel
theorem dJ6_bitCount_0f7a4_26 : decode cJ6_bitCount_0f7a4 26 = .ok (.iconst 4, 1) := by decide +kernel
theorem dJ6_bitCount_0f7a4_27 : decode cJ6_bitCount_0f7a4 27 = .ok (.iushr, 1) := by decide +kernel
theorem dJ6_bitCount_0f7a4_28 : decode cJ6_bitCount_0f7a4 28 = .ok (.iadd, 1) := by decide +kernel
theorem dJ6_bitCount_0f7a4_29 : decode cJ6_bitCount_0f7a4 29 = .ok (.ldc_w 267, 3) := by decide +kernel
theorem dJ6_bitCount_0f7a4_32 : decode cJ6_bitCount_0f7a4 32 = .ok (.iand, 1) := by decide +kernel
theorem dJ6_bitCount_0f7a4_33 : decode cJ6_bitCount_0f7a4 33 = .ok (.istore_n 0, 1) := by decide +kernel
theorem dJ6_bitCount_0f7a4_34 : decode cJ6_bitCount_0f7a4 34 = .ok (.iload_n 0, 1) := by decide +kernel
theorem dJ6_bitCount_0f7a4_35 : decode cJ6_bitCount_0f7a4 35 = .ok (.iload_n 0, 1) := by decide +kernel
theorem dJ6_bitCount_0f7a4_36 : decode cJ6_bitCount_0f7a4 36 = .ok (.bipush 8, 2) := by decide +kernel
theorem dJ6_bitCount_0f7a4_38 : decode cJ6_bitCount_0f7a4 38 = .ok (.iushr, 1) := by decide +kernel
theorem dJ6_bitCount_0f7a4_39 : decode cJ6_bitCount_0f7a4 39 = .ok (.iadd, 1) := by decide +kernel
theorem dJ6_bitCount_0f7a4_40 : decode cJ6_bitCount_0f7a4 40 = .ok (.istore_n 0, 1) := by decide +kernel
theorem dJ6_bitCount_0f7a4_41 : decode cJ6_bitCount_0f7a4 41 = .ok (.iload_n 0, 1) := by decide +kernel
theorem dJ6_bitCount_0f7a4_42 : decode cJ6_bitCount_0f7a4 42 = .ok (.iload_n 0, 1) := by decide +kernel
theorem dJ6_bitCount_0f7a4_43 : decode cJ6_bitCount_0f7a4 43 = .ok (.bipush 16, 2) := by decide +kernel
theorem dJ6_bitCount_0f7a4_45 : decode cJ6_bitCount_0f7a4 45 = .ok (.iushr, 1) := by decide +kernel
theorem dJ6_bitCount_0f7a4_46 : decode cJ6_bitCount_0f7a4 46 = .ok (.iadd, 1) := by decide +kernel
theorem dJ6_bitCount_0f7a4_47 : decode cJ6_bitCount_0f7a4 47 = .ok (.istore_n 0, 1) := by decide +kernel
theorem dJ6_bitCount_0f7a4_48 : decode cJ6_bitCount_0f7a4 48 = .ok (.iload_n 0, 1) := by decide +kernel
theorem dJ6_bitCount_0f7a4_49 : decode cJ6_bitCount_0f7a4 49 = .ok (.bipush 63, 2) := by decide +kernel
theorem dJ6_bitCount_0f7a4_51 : decode cJ6_bitCount_0f7a4 51 = .ok (.iand, 1) := by decide +kernel
theorem dJ6_bitCount_0f7a4_52 : decode cJ6_bitCount_0f7a4 52 = .ok (.ireturn, 1) := by decide +kernel
theorem dJ9_max_7cf53_0 : decode cJ9_max_7cf53 0 = .ok (.iload_n 0, 1) := by decide +kernel
theorem dJ9_max_7cf53_1 : decode cJ9_max_7cf53 1 = .ok (.iload_n 1, 1) := by decide +kernel
theorem dJ9_max_7cf53_2 : decode cJ9_max_7cf53 2 = .ok (.if_icmp .lt 7, 3) := by decide +kernel
theorem dJ9_max_7cf53_5 : decode cJ9_max_7cf53 5 = .ok (.iload_n 0, 1) := by decide +kernel
theorem dJ9_max_7cf53_6 : decode cJ9_max_7cf53 6 = .ok (.goto 4, 3) := by decide +kernel
theorem dJ9_max_7cf53_9 : decode cJ9_max_7cf53 9 = .ok (.iload_n 1, 1) := by decide +kernel
theorem dJ9_max_7cf53_10 : decode cJ9_max_7cf53 10 = .ok (.ireturn, 1) := by decide +kernel
theorem dJ9_min_7cf53_0 : decode cJ9_min_7cf53 0 = .ok (.iload_n 0, 1) := by decide +kernel
theorem dJ9_min_7cf53_1 : decode cJ9_min_7cf53 1 = .ok (.iload_n 1, 1) := by decide +kernel
theorem dJ9_min_7cf53_2 : decode cJ9_min_7cf53 2 = .ok (.if_icmp .gt 7, 3) := by decide +kernel
theorem dJ9_min_7cf53_5 : decode cJ9_min_7cf53 5 = .ok (.iload_n 0, 1) := by decide +kernel
theorem dJ9_min_7cf53_6 : decode cJ9_min_7cf53 6 = .ok (.goto 4, 3) := by decide +kernel
theorem dJ9_min_7cf53_9 : decode cJ9_min_7cf53 9 = .ok (.iload_n 1, 1) := by decide +kernel
theorem dJ9_min_7cf53_10 : decode cJ9_min_7cf53 10 = .ok (.ireturn, 1) := by decide +kernel
theorem dL_law_0 : decode cL_law 0 = .ok (.new 7, 3) := by decide +kernel
theorem dL_law_3 : decode cL_law 3 = .ok (.dup, 1) := by decide +kernel
theorem dL_law_4 : decode cL_law 4 = .ok (.invokespecial 9, 3) := by decide +kernel
theorem dL_law_7 : decode cL_law 7 = .ok (.astore_n 1, 1) := by decide +kernel
theorem dL_law_8 : decode cL_law 8 = .ok (.new 10, 3) := by decide +kernel
theorem dL_law_11 : decode cL_law 11 = .ok (.dup, 1) := by decide +kernel
theorem dL_law_12 : decode cL_law 12 = .ok (.invokespecial 12, 3) := by decide +kernel
theorem dL_law_15 : decode cL_law 15 = .ok (.astore_n 2, 1) := by decide +kernel
theorem dL_law_16 : decode cL_law 16 = .ok (.iconst 0, 1) := by decide +kernel
theorem dL_law_17 : decode cL_law 17 = .ok (.istore_n 3, 1) := by decide +kernel
theorem dL_law_18 : decode cL_law 18 = .ok (.iload_n 3, 1) := by decide +kernel
theorem dL_law_19 : decode cL_law 19 = .ok (.aload_n 0, 1) := by decide +kernel
theorem dL_law_20 : decode cL_law 20 = .ok (.arraylength, 1) := by decide +kernel
theorem dL_law_21 : decode cL_law 21 = .ok (.iconst 4, 1) := by decide +kernel
theorem dL_law_22 : decode cL_law 22 = .ok (.isub, 1) := by decide +kernel
theorem dL_law_23 : decode cL_law 23 = .ok (.if_icmp .gt 969, 3) := by decide +kernel
theorem dL_law_26 : decode cL_law 26 = .ok (.aload_n 0, 1) := by decide +kernel
theorem dL_law_27 : decode cL_law 27 = .ok (.iload_n 3, 1) := by decide +kernel
theorem dL_law_28 : decode cL_law 28 = .ok (.iaload, 1) := by decide +kernel
theorem dL_law_29 : decode cL_law 29 = .ok (.bipush 31, 2) := by decide +kernel
theorem dL_law_31 : decode cL_law 31 = .ok (.iand, 1) := by decide +kernel
theorem dL_law_32 : decode cL_law 32 = .ok (.tableswitch 954 0 29 #[136, 159, 202, 251, 274, 287, 310, 323, 346, 379, 402, 425, 438, 471, 514, 547, 570, 593, 616, 629, 662, 685, 708, 731, 764, 798, 842, 885, 908, 931], 136) := by decide +kernel
theorem dL_law_168 : decode cL_law 168 = .ok (.aload_n 1, 1) := by decide +kernel
theorem dL_law_169 : decode cL_law 169 = .ok (.aload_n 0, 1) := by decide +kernel
theorem dL_law_170 : decode cL_law 170 = .ok (.iload_n 3, 1) := by decide +kernel
theorem dL_law_171 : decode cL_law 171 = .ok (.iconst 1, 1) := by decide +kernel
theorem dL_law_172 : decode cL_law 172 = .ok (.iadd, 1) := by decide +kernel
theorem dL_law_173 : decode cL_law 173 = .ok (.iaload, 1) := by decide +kernel
theorem dL_law_174 : decode cL_law 174 = .ok (.invokevirtual 13, 3) := by decide +kernel
theorem dL_law_177 : decode cL_law 177 = .ok (.aload_n 2, 1) := by decide +kernel
theorem dL_law_178 : decode cL_law 178 = .ok (.aload_n 0, 1) := by decide +kernel
theorem dL_law_179 : decode cL_law 179 = .ok (.iload_n 3, 1) := by decide +kernel
theorem dL_law_180 : decode cL_law 180 = .ok (.iconst 1, 1) := by decide +kernel
theorem dL_law_181 : decode cL_law 181 = .ok (.iadd, 1) := by decide +kernel
theorem dL_law_182 : decode cL_law 182 = .ok (.iaload, 1) := by decide +kernel
theorem dL_law_183 : decode cL_law 183 = .ok (.invokevirtual 17, 3) := by decide +kernel
theorem dL_law_186 : decode cL_law 186 = .ok (.if_icmp .eq 800, 3) := by decide +kernel
theorem dL_law_189 : decode cL_law 189 = .ok (.iconst 0, 1) := by decide +kernel
theorem dL_law_190 : decode cL_law 190 = .ok (.ireturn, 1) := by decide +kernel
theorem dL_law_191 : decode cL_law 191 = .ok (.aload_n 1, 1) := by decide +kernel
theorem dL_law_192 : decode cL_law 192 = .ok (.aload_n 0, 1) := by decide +kernel
theorem dL_law_193 : decode cL_law 193 = .ok (.iload_n 3, 1) := by decide +kernel
theorem dL_law_194 : decode cL_law 194 = .ok (.iconst 1, 1) := by decide +kernel
theorem dL_law_195 : decode cL_law 195 = .ok (.iadd, 1) := by decide +kernel
theorem dL_law_196 : decode cL_law 196 = .ok (.iaload, 1) := by decide +kernel
theorem dL_law_197 : decode cL_law 197 = .ok (.aload_n 0, 1) := by decide +kernel
theorem dL_law_198 : decode cL_law 198 = .ok (.iload_n 3, 1) := by decide +kernel
theorem dL_law_199 : decode cL_law 199 = .ok (.iconst 2, 1) := by decide +kernel
theorem dL_law_200 : decode cL_law 200 = .ok (.iadd, 1) := by decide +kernel
theorem dL_law_201 : decode cL_law 201 = .ok (.iaload, 1) := by decide +kernel
theorem dL_law_202 : decode cL_law 202 = .ok (.aload_n 0, 1) := by decide +kernel
theorem dL_law_203 : decode cL_law 203 = .ok (.iload_n 3, 1) := by decide +kernel
theorem dL_law_204 : decode cL_law 204 = .ok (.iconst 3, 1) := by decide +kernel
theorem dL_law_205 : decode cL_law 205 = .ok (.iadd, 1) := by decide +kernel
theorem dL_law_206 : decode cL_law 206 = .ok (.iaload, 1) := by decide +kernel
theorem dL_law_207 : decode cL_law 207 = .ok (.invokevirtual 18, 3) := by decide +kernel
theorem dL_law_210 : decode cL_law 210 = .ok (.aload_n 2, 1) := by decide +kernel
theorem dL_law_211 : decode cL_law 211 = .ok (.aload_n 0, 1) := by decide +kernel
theorem dL_law_212 : decode cL_law 212 = .ok (.iload_n 3, 1) := by decide +kernel
theorem dL_law_213 : decode cL_law 213 = .ok (.iconst 1, 1) := by decide +kernel
theorem dL_law_214 : decode cL_law 214 = .ok (.iadd, 1) := by decide +kernel
theorem dL_law_215 : decode cL_law 215 = .ok (.iaload, 1) := by decide +kernel
theorem dL_law_216 : decode cL_law 216 = .ok (.aload_n 0, 1) := by decide +kernel
theorem dL_law_217 : decode cL_law 217 = .ok (.iload_n 3, 1) := by decide +kernel
theorem dL_law_218 : decode cL_law 218 = .ok (.iconst 2, 1) := by decide +kernel
theorem dL_law_219 : decode cL_law 219 = .ok (.iadd, 1) := by decide +kernel
theorem dL_law_220 : decode cL_law 220 = .ok (.iaload, 1) := by decide +kernel
theorem dL_law_221 : decode cL_law 221 = .ok (.aload_n 0, 1) := by decide +kernel
theorem dL_law_222 : decode cL_law 222 = .ok (.iload_n 3, 1) := by decide +kernel
theorem dL_law_223 : decode cL_law 223 = .ok (.iconst 3, 1) := by decide +kernel
theorem dL_law_224 : decode cL_law 224 = .ok (.iadd, 1) := by decide +kernel
theorem dL_law_225 : decode cL_law 225 = .ok (.iaload, 1) := by decide +kernel
theorem dL_law_226 : decode cL_law 226 = .ok (.invokevirtual 22, 3) := by decide +kernel
theorem dL_law_229 : decode cL_law 229 = .ok (.if_icmp .eq 757, 3) := by decide +kernel
theorem dL_law_232 : decode cL_law 232 = .ok (.iconst 0, 1) := by decide +kernel
theorem dL_law_233 : decode cL_law 233 = .ok (.ireturn, 1) := by decide +kernel
theorem dL_law_234 : decode cL_law 234 = .ok (.aload_n 1, 1) := by decide +kernel
theorem dL_law_235 : decode cL_law 235 = .ok (.aload_n 0, 1) := by decide +kernel
theorem dL_law_236 : decode cL_law 236 = .ok (.iload_n 3, 1) := by decide +kernel
theorem dL_law_237 : decode cL_law 237 = .ok (.iconst 1, 1) := by decide +kernel
theorem dL_law_238 : decode cL_law 238 = .ok (.iadd, 1) := by decide +kernel
theorem dL_law_239 : decode cL_law 239 = .ok (.iaload, 1) := by decide +kernel
theorem dL_law_240 : decode cL_law 240 = .ok (.aload_n 0, 1) := by decide +kernel
theorem dL_law_241 : decode cL_law 241 = .ok (.iload_n 3, 1) := by decide +kernel
theorem dL_law_242 : decode cL_law 242 = .ok (.iconst 2, 1) := by decide +kernel
theorem dL_law_243 : decode cL_law 243 = .ok (.iadd, 1) := by decide +kernel
theorem dL_law_244 : decode cL_law 244 = .ok (.iaload, 1) := by decide +kernel
theorem dL_law_245 : decode cL_law 245 = .ok (.ifCond .eq 7, 3) := by decide +kernel
theorem dL_law_248 : decode cL_law 248 = .ok (.iconst 1, 1) := by decide +kernel
theorem dL_law_249 : decode cL_law 249 = .ok (.goto 4, 3) := by decide +kernel
theorem dL_law_252 : decode cL_law 252 = .ok (.iconst 0, 1) := by decide +kernel
theorem dL_law_253 : decode cL_law 253 = .ok (.invokevirtual 23, 3) := by decide +kernel
theorem dL_law_256 : decode cL_law 256 = .ok (.aload_n 2, 1) := by decide +kernel
theorem dL_law_257 : decode cL_law 257 = .ok (.aload_n 0, 1) := by decide +kernel
theorem dL_law_258 : decode cL_law 258 = .ok (.iload_n 3, 1) := by decide +kernel
theorem dL_law_259 : decode cL_law 259 = .ok (.iconst 1, 1) := by decide +kernel
theorem dL_law_260 : decode cL_law 260 = .ok (.iadd, 1) := by decide +kernel
theorem dL_law_261 : decode cL_law 261 = .ok (.iaload, 1) := by decide +kernel
theorem dL_law_262 : decode cL_law 262 = .ok (.aload_n 0, 1) := by decide +kernel
theorem dL_law_263 : decode cL_law 263 = .ok (.iload_n 3, 1) := by decide +kernel
theorem dL_law_264 : decode cL_law 264 = .ok (.iconst 2, 1) := by decide +kernel
theorem dL_law_265 : decode cL_law 265 = .ok (.iadd, 1) := by decide +kernel
theorem dL_law_266 : decode cL_law 266 = .ok (.iaload, 1) := by decide +kernel
theorem dL_law_267 : decode cL_law 267 = .ok (.ifCond .eq 7, 3) := by decide +kernel
theorem dL_law_270 : decode cL_law 270 = .ok (.iconst 1, 1) := by decide +kernel
theorem dL_law_271 : decode cL_law 271 = .ok (.goto 4, 3) := by decide +kernel
theorem dL_law_274 : decode cL_law 274 = .ok (.iconst 0, 1) := by decide +kernel
theorem dL_law_275 : decode cL_law 275 = .ok (.invokevirtual 27, 3) := by decide +kernel
theorem dL_law_278 : decode cL_law 278 = .ok (.if_icmp .eq 708, 3) := by decide +kernel
theorem dL_law_281 : decode cL_law 281 = .ok (.iconst 0, 1) := by decide +kernel
theorem dL_law_282 : decode cL_law 282 = .ok (.ireturn, 1) := by decide +kernel
theorem dL_law_283 : decode cL_law 283 = .ok (.aload_n 1, 1) := by decide +kernel
theorem dL_law_284 : decode cL_law 284 = .ok (.aload_n 0, 1) := by decide +kernel
theorem dL_law_285 : decode cL_law 285 = .ok (.iload_n 3, 1) := by decide +kernel
theorem dL_law_286 : decode cL_law 286 = .ok (.iconst 1, 1) := by decide +kernel
theorem dL_law_287 : decode cL_law 287 = .ok (.iadd, 1) := by decide +kernel
theorem dL_law_288 : decode cL_law 288 = .ok (.iaload, 1) := by decide +kernel
theorem dL_law_289 : decode cL_law 289 = .ok (.invokevirtual 28, 3) := by decide +kernel
theorem dL_law_292 : decode cL_law 292 = .ok (.aload_n 2, 1) := by decide +kernel
theorem dL_law_293 : decode cL_law 293 = .ok (.aload_n 0, 1) := by decide +kernel
theorem dL_law_294 : decode cL_law 294 = .ok (.iload_n 3, 1) := by decide +kernel
theorem dL_law_295 : decode cL_law 295 = .ok (.iconst 1, 1) := by decide +kernel
theorem dL_law_296 : decode cL_law 296 = .ok (.iadd, 1) := by decide +kernel
theorem dL_law_297 : decode cL_law 297 = .ok (.iaload, 1) := by decide +kernel
theorem dL_law_298 : decode cL_law 298 = .ok (.invokevirtual 31, 3) := by decide +kernel
theorem dL_law_301 : decode cL_law 301 = .ok (.if_icmp .eq 685, 3) := by decide +kernel
theorem dL_law_304 : decode cL_law 304 = .ok (.iconst 0, 1) := by decide +kernel
theorem dL_law_305 : decode cL_law 305 = .ok (.ireturn, 1) := by decide +kernel
theorem dL_law_306 : decode cL_law 306 = .ok (.aload_n 1, 1) := by decide +kernel
theorem dL_law_307 : decode cL_law 307 = .ok (.invokevirtual 32, 3) := by decide +kernel
theorem dL_law_310 : decode cL_law 310 = .ok (.aload_n 2, 1) := by decide +kernel
theorem dL_law_311 : decode cL_law 311 = .ok (.invokevirtual 36, 3) := by decide +kernel
theorem dL_law_314 : decode cL_law 314 = .ok (.if_icmp .eq 672, 3) := by decide +kernel
theorem dL_law_317 : decode cL_law 317 = .ok (.iconst 0, 1) := by decide +kernel
theorem dL_law_318 : decode cL_law 318 = .ok (.ireturn, 1) := by decide +kernel
theorem dL_law_319 : decode cL_law 319 = .ok (.aload_n 1, 1) := by decide +kernel
theorem dL_law_320 : decode cL_law 320 = .ok (.aload_n 0, 1) := by decide +kernel
theorem dL_law_321 : decode cL_law 321 = .ok (.iload_n 3, 1) := by decide +kernel
theorem dL_law_322 : decode cL_law 322 = .ok (.iconst 1, 1) := by decide +kernel
theorem dL_law_323 : decode cL_law 323 = .ok (.iadd, 1) := by decide +kernel
theorem dL_law_324 : decode cL_law 324 = .ok (.iaload, 1) := by decide +kernel
theorem dL_law_325 : decode cL_law 325 = .ok (.invokevirtual 37, 3) := by decide +kernel
theorem dL_law_328 : decode cL_law 328 = .ok (.aload_n 2, 1) := by decide +kernel
theorem dL_law_329 : decode cL_law 329 = .ok (.aload_n 0, 1) := by decide +kernel
theorem dL_law_330 : decode cL_law 330 = .ok (.iload_n 3, 1) := by decide +kernel
theorem dL_law_331 : decode cL_law 331 = .ok (.iconst 1, 1) := by decide +kernel
theorem dL_law_332 : decode cL_law 332 = .ok (.iadd, 1) := by decide +kernel
theorem dL_law_333 : decode cL_law 333 = .ok (.iaload, 1) := by decide +kernel
theorem dL_law_334 : decode cL_law 334 = .ok (.invokevirtual 40, 3) := by decide +kernel
theorem dL_law_337 : decode cL_law 337 = .ok (.if_icmp .eq 649, 3) := by decide +kernel
theorem dL_law_340 : decode cL_law 340 = .ok (.iconst 0, 1) := by decide +kernel
theorem dL_law_341 : decode cL_law 341 = .ok (.ireturn, 1) := by decide +kernel
theorem dL_law_342 : decode cL_law 342 = .ok (.aload_n 1, 1) := by decide +kernel
theorem dL_law_343 : decode cL_law 343 = .ok (.invokevirtual 41, 3) := by decide +kernel
theorem dL_law_346 : decode cL_law 346 = .ok (.aload_n 2, 1) := by decide +kernel
theorem dL_law_347 : decode cL_law 347 = .ok (.invokevirtual 44, 3) := by decide +kernel
theorem dL_law_350 : decode cL_law 350 = .ok (.if_icmp .eq 636, 3) := by decide +kernel
theorem dL_law_353 : decode cL_law 353 = .ok (.iconst 0, 1) := by decide +kernel
theorem dL_law_354 : decode cL_law 354 = .ok (.ireturn, 1) := by decide +kernel
theorem dL_law_355 : decode cL_law 355 = .ok (.aload_n 1, 1) := by decide +kernel
theorem dL_law_356 : decode cL_law 356 = .ok (.aload_n 0, 1) := by decide +kernel
theorem dL_law_357 : decode cL_law 357 = .ok (.iload_n 3, 1) := by decide +kernel
theorem dL_law_358 : decode cL_law 358 = .ok (.iconst 1, 1) := by decide +kernel
theorem dL_law_359 : decode cL_law 359 = .ok (.iadd, 1) := by decide +kernel
theorem dL_law_360 : decode cL_law 360 = .ok (.iaload, 1) := by decide +kernel
theorem dL_law_361 : decode cL_law 361 = .ok (.invokevirtual 45, 3) := by decide +kernel
theorem dL_law_364 : decode cL_law 364 = .ok (.aload_n 2, 1) := by decide +kernel
theorem dL_law_365 : decode cL_law 365 = .ok (.aload_n 0, 1) := by decide +kernel
theorem dL_law_366 : decode cL_law 366 = .ok (.iload_n 3, 1) := by decide +kernel
theorem dL_law_367 : decode cL_law 367 = .ok (.iconst 1, 1) := by decide +kernel
theorem dL_law_368 : decode cL_law 368 = .ok (.iadd, 1) := by decide +kernel
theorem dL_law_369 : decode cL_law 369 = .ok (.iaload, 1) := by decide +kernel
theorem dL_law_370 : decode cL_law 370 = .ok (.invokevirtual 48, 3) := by decide +kernel
theorem dL_law_373 : decode cL_law 373 = .ok (.if_icmp .eq 613, 3) := by decide +kernel
theorem dL_law_376 : decode cL_law 376 = .ok (.iconst 0, 1) := by decide +kernel
theorem dL_law_377 : decode cL_law 377 = .ok (.ireturn, 1) := by decide +kernel
theorem dL_law_378 : decode cL_law 378 = .ok (.aload_n 1, 1) := by decide +kernel
theorem dL_law_379 : decode cL_law 379 = .ok (.aload_n 0, 1) := by decide +kernel
theorem dL_law_380 : decode cL_law 380 = .ok (.iload_n 3, 1) := by decide +kernel
theorem dL_law_381 : decode cL_law 381 = .ok (.iconst 1, 1) := by decide +kernel
theorem dL_law_382 : decode cL_law 382 = .ok (.iadd, 1) := by decide +kernel
theorem dL_law_383 : decode cL_law 383 = .ok (.iaload, 1) := by decide +kernel
theorem dL_law_384 : decode cL_law 384 = .ok (.aload_n 0, 1) := by decide +kernel
theorem dL_law_385 : decode cL_law 385 = .ok (.iload_n 3, 1) := by decide +kernel
theorem dL_law_386 : decode cL_law 386 = .ok (.iconst 2, 1) := by decide +kernel
theorem dL_law_387 : decode cL_law 387 = .ok (.iadd, 1) := by decide +kernel
theorem dL_law_388 : decode cL_law 388 = .ok (.iaload, 1) := by decide +kernel
theorem dL_law_389 : decode cL_law 389 = .ok (.invokevirtual 49, 3) := by decide +kernel
theorem dL_law_392 : decode cL_law 392 = .ok (.aload_n 2, 1) := by decide +kernel
theorem dL_law_393 : decode cL_law 393 = .ok (.aload_n 0, 1) := by decide +kernel
theorem dL_law_394 : decode cL_law 394 = .ok (.iload_n 3, 1) := by decide +kernel
theorem dL_law_395 : decode cL_law 395 = .ok (.iconst 1, 1) := by decide +kernel
theorem dL_law_396 : decode cL_law 396 = .ok (.iadd, 1) := by decide +kernel
theorem dL_law_397 : decode cL_law 397 = .ok (.iaload, 1) := by decide +kernel
theorem dL_law_398 : decode cL_law 398 = .ok (.aload_n 0, 1) := by decide +kernel
theorem dL_law_399 : decode cL_law 399 = .ok (.iload_n 3, 1) := by decide +kernel
theorem dL_law_400 : decode cL_law 400 = .ok (.iconst 2, 1) := by decide +kernel
theorem dL_law_401 : decode cL_law 401 = .ok (.iadd, 1) := by decide +kernel
theorem dL_law_402 : decode cL_law 402 = .ok (.iaload, 1) := by decide +kernel
theorem dL_law_403 : decode cL_law 403 = .ok (.invokevirtual 53, 3) := by decide +kernel
theorem dL_law_406 : decode cL_law 406 = .ok (.if_icmp .eq 580, 3) := by decide +kernel
theorem dL_law_409 : decode cL_law 409 = .ok (.iconst 0, 1) := by decide +kernel
theorem dL_law_410 : decode cL_law 410 = .ok (.ireturn, 1) := by decide +kernel
theorem dL_law_411 : decode cL_law 411 = .ok (.aload_n 1, 1) := by decide +kernel
theorem dL_law_412 : decode cL_law 412 = .ok (.aload_n 0, 1) := by decide +kernel
theorem dL_law_413 : decode cL_law 413 = .ok (.iload_n 3, 1) := by decide +kernel
theorem dL_law_414 : decode cL_law 414 = .ok (.iconst 1, 1) := by decide +kernel
theorem dL_law_415 : decode cL_law 415 = .ok (.iadd, 1) := by decide +kernel
theorem dL_law_416 : decode cL_law 416 = .ok (.iaload, 1) := by decide +kernel
theorem dL_law_417 : decode cL_law 417 = .ok (.invokevirtual 54, 3) := by decide +kernel
theorem dL_law_420 : decode cL_law 420 = .ok (.aload_n 2, 1) := by decide +kernel
theorem dL_law_421 : decode cL_law 421 = .ok (.aload_n 0, 1) := by decide +kernel
theorem dL_law_422 : decode cL_law 422 = .ok (.iload_n 3, 1) := by decide +kernel
theorem dL_law_423 : decode cL_law 423 = .ok (.iconst 1, 1) := by decide +kernel
theorem dL_law_424 : decode cL_law 424 = .ok (.iadd, 1) := by decide +kernel
theorem dL_law_425 : decode cL_law 425 = .ok (.iaload, 1) := by decide +kernel
theorem dL_law_426 : decode cL_law 426 = .ok (.invokevirtual 57, 3) := by decide +kernel
theorem dL_law_429 : decode cL_law 429 = .ok (.if_icmp .eq 557, 3) := by decide +kernel
theorem dL_law_432 : decode cL_law 432 = .ok (.iconst 0, 1) := by decide +kernel
theorem dL_law_433 : decode cL_law 433 = .ok (.ireturn, 1) := by decide +kernel
theorem dL_law_434 : decode cL_law 434 = .ok (.aload_n 1, 1) := by decide +kernel
theorem dL_law_435 : decode cL_law 435 = .ok (.aload_n 0, 1) := by decide +kernel
theorem dL_law_436 : decode cL_law 436 = .ok (.iload_n 3, 1) := by decide +kernel
theorem dL_law_437 : decode cL_law 437 = .ok (.iconst 1, 1) := by decide +kernel
theorem dL_law_438 : decode cL_law 438 = .ok (.iadd, 1) := by decide +kernel
theorem dL_law_439 : decode cL_law 439 = .ok (.iaload, 1) := by decide +kernel
theorem dL_law_440 : decode cL_law 440 = .ok (.invokevirtual 58, 3) := by decide +kernel
theorem dL_law_443 : decode cL_law 443 = .ok (.aload_n 2, 1) := by decide +kernel
theorem dL_law_444 : decode cL_law 444 = .ok (.aload_n 0, 1) := by decide +kernel
theorem dL_law_445 : decode cL_law 445 = .ok (.iload_n 3, 1) := by decide +kernel
theorem dL_law_446 : decode cL_law 446 = .ok (.iconst 1, 1) := by decide +kernel
theorem dL_law_447 : decode cL_law 447 = .ok (.iadd, 1) := by decide +kernel
theorem dL_law_448 : decode cL_law 448 = .ok (.iaload, 1) := by decide +kernel
theorem dL_law_449 : decode cL_law 449 = .ok (.invokevirtual 61, 3) := by decide +kernel
theorem dL_law_452 : decode cL_law 452 = .ok (.if_icmp .eq 534, 3) := by decide +kernel
theorem dL_law_455 : decode cL_law 455 = .ok (.iconst 0, 1) := by decide +kernel
theorem dL_law_456 : decode cL_law 456 = .ok (.ireturn, 1) := by decide +kernel
theorem dL_law_457 : decode cL_law 457 = .ok (.aload_n 1, 1) := by decide +kernel
theorem dL_law_458 : decode cL_law 458 = .ok (.invokevirtual 62, 3) := by decide +kernel
theorem dL_law_461 : decode cL_law 461 = .ok (.aload_n 2, 1) := by decide +kernel
theorem dL_law_462 : decode cL_law 462 = .ok (.invokevirtual 65, 3) := by decide +kernel
theorem dL_law_465 : decode cL_law 465 = .ok (.if_icmp .eq 521, 3) := by decide +kernel
theorem dL_law_468 : decode cL_law 468 = .ok (.iconst 0, 1) := by decide +kernel
theorem dL_law_469 : decode cL_law 469 = .ok (.ireturn, 1) := by decide +kernel
theorem dL_law_470 : decode cL_law 470 = .ok (.aload_n 1, 1) := by decide +kernel
theorem dL_law_471 : decode cL_law 471 = .ok (.aload_n 0, 1) := by decide +kernel
theorem dL_law_472 : decode cL_law 472 = .ok (.iload_n 3, 1) := by decide +kernel
theorem dL_law_473 : decode cL_law 473 = .ok (.iconst 1, 1) := by decide +kernel
theorem dL_law_474 : decode cL_law 474 = .ok (.iadd, 1) := by decide +kernel
theorem dL_law_475 : decode cL_law 475 = .ok (.iaload, 1) := by decide +kernel
theorem dL_law_476 : decode cL_law 476 = .ok (.aload_n 0, 1) := by decide +kernel
theorem dL_law_477 : decode cL_law 477 = .ok (.iload_n 3, 1) := by decide +kernel
theorem dL_law_478 : decode cL_law 478 = .ok (.iconst 2, 1) := by decide +kernel
theorem dL_law_479 : decode cL_law 479 = .ok (.iadd, 1) := by decide +kernel
theorem dL_law_480 : decode cL_law 480 = .ok (.iaload, 1) := by decide +kernel
theorem dL_law_481 : decode cL_law 481 = .ok (.invokevirtual 66, 3) := by decide +kernel
theorem dL_law_484 : decode cL_law 484 = .ok (.aload_n 2, 1) := by decide +kernel
theorem dL_law_485 : decode cL_law 485 = .ok (.aload_n 0, 1) := by decide +kernel
theorem dL_law_486 : decode cL_law 486 = .ok (.iload_n 3, 1) := by decide +kernel
theorem dL_law_487 : decode cL_law 487 = .ok (.iconst 1, 1) := by decide +kernel
theorem dL_law_488 : decode cL_law 488 = .ok (.iadd, 1) := by decide +kernel
theorem dL_law_489 : decode cL_law 489 = .ok (.iaload, 1) := by decide +kernel
theorem dL_law_490 : decode cL_law 490 = .ok (.aload_n 0, 1) := by decide +kernel
theorem dL_law_491 : decode cL_law 491 = .ok (.iload_n 3, 1) := by decide +kernel
theorem dL_law_492 : decode cL_law 492 = .ok (.iconst 2, 1) := by decide +kernel
theorem dL_law_493 : decode cL_law 493 = .ok (.iadd, 1) := by decide +kernel
theorem dL_law_494 : decode cL_law 494 = .ok (.iaload, 1) := by decide +kernel
theorem dL_law_495 : decode cL_law 495 = .ok (.invokevirtual 69, 3) := by decide +kernel
theorem dL_law_498 : decode cL_law 498 = .ok (.if_icmp .eq 488, 3) := by decide +kernel
theorem dL_law_501 : decode cL_law 501 = .ok (.iconst 0, 1) := by decide +kernel
theorem dL_law_502 : decode cL_law 502 = .ok (.ireturn, 1) := by decide +kernel
theorem dL_law_503 : decode cL_law 503 = .ok (.aload_n 1, 1) := by decide +kernel
theorem dL_law_504 : decode cL_law 504 = .ok (.aload_n 0, 1) := by decide +kernel
theorem dL_law_505 : decode cL_law 505 = .ok (.iload_n 3, 1) := by decide +kernel
theorem dL_law_506 : decode cL_law 506 = .ok (.iconst 1, 1) := by decide +kernel
theorem dL_law_507 : decode cL_law 507 = .ok (.iadd, 1) := by decide +kernel
theorem dL_law_508 : decode cL_law 508 = .ok (.iaload, 1) := by decide +kernel
theorem dL_law_509 : decode cL_law 509 = .ok (.aload_n 0, 1) := by decide +kernel
theorem dL_law_510 : decode cL_law 510 = .ok (.iload_n 3, 1) := by decide +kernel
theorem dL_law_511 : decode cL_law 511 = .ok (.iconst 2, 1) := by decide +kernel
theorem dL_law_512 : decode cL_law 512 = .ok (.iadd, 1) := by decide +kernel
theorem dL_law_513 : decode cL_law 513 = .ok (.iaload, 1) := by decide +kernel
theorem dL_law_514 : decode cL_law 514 = .ok (.aload_n 0, 1) := by decide +kernel
theorem dL_law_515 : decode cL_law 515 = .ok (.iload_n 3, 1) := by decide +kernel
theorem dL_law_516 : decode cL_law 516 = .ok (.iconst 3, 1) := by decide +kernel
theorem dL_law_517 : decode cL_law 517 = .ok (.iadd, 1) := by decide +kernel
theorem dL_law_518 : decode cL_law 518 = .ok (.iaload, 1) := by decide +kernel
theorem dL_law_519 : decode cL_law 519 = .ok (.invokevirtual 70, 3) := by decide +kernel
theorem dL_law_522 : decode cL_law 522 = .ok (.aload_n 2, 1) := by decide +kernel
theorem dL_law_523 : decode cL_law 523 = .ok (.aload_n 0, 1) := by decide +kernel
theorem dL_law_524 : decode cL_law 524 = .ok (.iload_n 3, 1) := by decide +kernel
theorem dL_law_525 : decode cL_law 525 = .ok (.iconst 1, 1) := by decide +kernel
theorem dL_law_526 : decode cL_law 526 = .ok (.iadd, 1) := by decide +kernel
theorem dL_law_527 : decode cL_law 527 = .ok (.iaload, 1) := by decide +kernel
theorem dL_law_528 : decode cL_law 528 = .ok (.aload_n 0, 1) := by decide +kernel
theorem dL_law_529 : decode cL_law 529 = .ok (.iload_n 3, 1) := by decide +kernel
theorem dL_law_530 : decode cL_law 530 = .ok (.iconst 2, 1) := by decide +kernel
theorem dL_law_531 : decode cL_law 531 = .ok (.iadd, 1) := by decide +kernel
theorem dL_law_532 : decode cL_law 532 = .ok (.iaload, 1) := by decide +kernel
theorem dL_law_533 : decode cL_law 533 = .ok (.aload_n 0, 1) := by decide +kernel
theorem dL_law_534 : decode cL_law 534 = .ok (.iload_n 3, 1) := by decide +kernel
theorem dL_law_535 : decode cL_law 535 = .ok (.iconst 3, 1) := by decide +kernel
theorem dL_law_536 : decode cL_law 536 = .ok (.iadd, 1) := by decide +kernel
theorem dL_law_537 : decode cL_law 537 = .ok (.iaload, 1) := by decide +kernel
theorem dL_law_538 : decode cL_law 538 = .ok (.invokevirtual 73, 3) := by decide +kernel
theorem dL_law_541 : decode cL_law 541 = .ok (.if_icmp .eq 445, 3) := by decide +kernel
theorem dL_law_544 : decode cL_law 544 = .ok (.iconst 0, 1) := by decide +kernel
theorem dL_law_545 : decode cL_law 545 = .ok (.ireturn, 1) := by decide +kernel
theorem dL_law_546 : decode cL_law 546 = .ok (.aload_n 1, 1) := by decide +kernel
theorem dL_law_547 : decode cL_law 547 = .ok (.aload_n 0, 1) := by decide +kernel
theorem dL_law_548 : decode cL_law 548 = .ok (.iload_n 3, 1) := by decide +kernel
theorem dL_law_549 : decode cL_law 549 = .ok (.iconst 1, 1) := by decide +kernel
theorem dL_law_550 : decode cL_law 550 = .ok (.iadd, 1) := by decide +kernel
theorem dL_law_551 : decode cL_law 551 = .ok (.iaload, 1) := by decide +kernel
theorem dL_law_552 : decode cL_law 552 = .ok (.aload_n 0, 1) := by decide +kernel
theorem dL_law_553 : decode cL_law 553 = .ok (.iload_n 3, 1) := by decide +kernel
theorem dL_law_554 : decode cL_law 554 = .ok (.iconst 2, 1) := by decide +kernel
theorem dL_law_555 : decode cL_law 555 = .ok (.iadd, 1) := by decide +kernel
theorem dL_law_556 : decode cL_law 556 = .ok (.iaload, 1) := by decide +kernel
theorem dL_law_557 : decode cL_law 557 = .ok (.invokevirtual 74, 3) := by decide +kernel
theorem dL_law_560 : decode cL_law 560 = .ok (.aload_n 2, 1) := by decide +kernel
theorem dL_law_561 : decode cL_law 561 = .ok (.aload_n 0, 1) := by decide +kernel
theorem dL_law_562 : decode cL_law 562 = .ok (.iload_n 3, 1) := by decide +kernel
theorem dL_law_563 : decode cL_law 563 = .ok (.iconst 1, 1) := by decide +kernel
theorem dL_law_564 : decode cL_law 564 = .ok (.iadd, 1) := by decide +kernel
theorem dL_law_565 : decode cL_law 565 = .ok (.iaload, 1) := by decide +kernel
theorem dL_law_566 : decode cL_law 566 = .ok (.aload_n 0, 1) := by decide +kernel
theorem dL_law_567 : decode cL_law 567 = .ok (.iload_n 3, 1) := by decide +kernel
theorem dL_law_568 : decode cL_law 568 = .ok (.iconst 2, 1) := by decide +kernel
theorem dL_law_569 : decode cL_law 569 = .ok (.iadd, 1) := by decide +kernel
theorem dL_law_570 : decode cL_law 570 = .ok (.iaload, 1) := by decide +kernel
theorem dL_law_571 : decode cL_law 571 = .ok (.invokevirtual 77, 3) := by decide +kernel
theorem dL_law_574 : decode cL_law 574 = .ok (.if_icmp .eq 412, 3) := by decide +kernel
theorem dL_law_577 : decode cL_law 577 = .ok (.iconst 0, 1) := by decide +kernel
theorem dL_law_578 : decode cL_law 578 = .ok (.ireturn, 1) := by decide +kernel
theorem dL_law_579 : decode cL_law 579 = .ok (.aload_n 1, 1) := by decide +kernel
theorem dL_law_580 : decode cL_law 580 = .ok (.aload_n 0, 1) := by decide +kernel
theorem dL_law_581 : decode cL_law 581 = .ok (.iload_n 3, 1) := by decide +kernel
theorem dL_law_582 : decode cL_law 582 = .ok (.iconst 1, 1) := by decide +kernel
theorem dL_law_583 : decode cL_law 583 = .ok (.iadd, 1) := by decide +kernel
theorem dL_law_584 : decode cL_law 584 = .ok (.iaload, 1) := by decide +kernel
theorem dL_law_585 : decode cL_law 585 = .ok (.invokevirtual 78, 3) := by decide +kernel
theorem dL_law_588 : decode cL_law 588 = .ok (.aload_n 2, 1) := by decide +kernel
theorem dL_law_589 : decode cL_law 589 = .ok (.aload_n 0, 1) := by decide +kernel
theorem dL_law_590 : decode cL_law 590 = .ok (.iload_n 3, 1) := by decide +kernel
theorem dL_law_591 : decode cL_law 591 = .ok (.iconst 1, 1) := by decide +kernel
theorem dL_law_592 : decode cL_law 592 = .ok (.iadd, 1) := by decide +kernel
theorem dL_law_593 : decode cL_law 593 = .ok (.iaload, 1) := by decide +kernel
theorem dL_law_594 : decode cL_law 594 = .ok (.invokevirtual 81, 3) := by decide +kernel
theorem dL_law_597 : decode cL_law 597 = .ok (.if_icmp .eq 389, 3) := by decide +kernel
theorem dL_law_600 : decode cL_law 600 = .ok (.iconst 0, 1) := by decide +kernel
theorem dL_law_601 : decode cL_law 601 = .ok (.ireturn, 1) := by decide +kernel
theorem dL_law_602 : decode cL_law 602 = .ok (.aload_n 1, 1) := by decide +kernel
theorem dL_law_603 : decode cL_law 603 = .ok (.aload_n 0, 1) := by decide +kernel
theorem dL_law_604 : decode cL_law 604 = .ok (.iload_n 3, 1) := by decide +kernel
theorem dL_law_605 : decode cL_law 605 = .ok (.iconst 1, 1) := by decide +kernel
theorem dL_law_606 : decode cL_law 606 = .ok (.iadd, 1) := by decide +kernel
theorem dL_law_607 : decode cL_law 607 = .ok (.iaload, 1) := by decide +kernel
theorem dL_law_608 : decode cL_law 608 = .ok (.invokevirtual 82, 3) := by decide +kernel
theorem dL_law_611 : decode cL_law 611 = .ok (.aload_n 2, 1) := by decide +kernel
theorem dL_law_612 : decode cL_law 612 = .ok (.aload_n 0, 1) := by decide +kernel
theorem dL_law_613 : decode cL_law 613 = .ok (.iload_n 3, 1) := by decide +kernel
theorem dL_law_614 : decode cL_law 614 = .ok (.iconst 1, 1) := by decide +kernel
theorem dL_law_615 : decode cL_law 615 = .ok (.iadd, 1) := by decide +kernel
theorem dL_law_616 : decode cL_law 616 = .ok (.iaload, 1) := by decide +kernel
theorem dL_law_617 : decode cL_law 617 = .ok (.invokevirtual 85, 3) := by decide +kernel
theorem dL_law_620 : decode cL_law 620 = .ok (.if_icmp .eq 366, 3) := by decide +kernel
theorem dL_law_623 : decode cL_law 623 = .ok (.iconst 0, 1) := by decide +kernel
theorem dL_law_624 : decode cL_law 624 = .ok (.ireturn, 1) := by decide +kernel
theorem dL_law_625 : decode cL_law 625 = .ok (.aload_n 1, 1) := by decide +kernel
theorem dL_law_626 : decode cL_law 626 = .ok (.aload_n 0, 1) := by decide +kernel
theorem dL_law_627 : decode cL_law 627 = .ok (.iload_n 3, 1) := by decide +kernel
theorem dL_law_628 : decode cL_law 628 = .ok (.iconst 1, 1) := by decide +kernel
theorem dL_law_629 : decode cL_law 629 = .ok (.iadd, 1) := by decide +kernel
theorem dL_law_630 : decode cL_law 630 = .ok (.iaload, 1) := by decide +kernel
theorem dL_law_631 : decode cL_law 631 = .ok (.invokevirtual 86, 3) := by decide +kernel
theorem dL_law_634 : decode cL_law 634 = .ok (.aload_n 2, 1) := by decide +kernel
theorem dL_law_635 : decode cL_law 635 = .ok (.aload_n 0, 1) := by decide +kernel
theorem dL_law_636 : decode cL_law 636 = .ok (.iload_n 3, 1) := by decide +kernel
theorem dL_law_637 : decode cL_law 637 = .ok (.iconst 1, 1) := by decide +kernel
theorem dL_law_638 : decode cL_law 638 = .ok (.iadd, 1) := by decide +kernel
theorem dL_law_639 : decode cL_law 639 = .ok (.iaload, 1) := by decide +kernel
theorem dL_law_640 : decode cL_law 640 = .ok (.invokevirtual 89, 3) := by decide +kernel
theorem dL_law_643 : decode cL_law 643 = .ok (.if_icmp .eq 343, 3) := by decide +kernel
theorem dL_law_646 : decode cL_law 646 = .ok (.iconst 0, 1) := by decide +kernel
theorem dL_law_647 : decode cL_law 647 = .ok (.ireturn, 1) := by decide +kernel
theorem dL_law_648 : decode cL_law 648 = .ok (.aload_n 1, 1) := by decide +kernel
theorem dL_law_649 : decode cL_law 649 = .ok (.invokevirtual 90, 3) := by decide +kernel
theorem dL_law_652 : decode cL_law 652 = .ok (.aload_n 2, 1) := by decide +kernel
theorem dL_law_653 : decode cL_law 653 = .ok (.invokevirtual 93, 3) := by decide +kernel
theorem dL_law_656 : decode cL_law 656 = .ok (.if_icmp .eq 330, 3) := by decide +kernel
theorem dL_law_659 : decode cL_law 659 = .ok (.iconst 0, 1) := by decide +kernel
theorem dL_law_660 : decode cL_law 660 = .ok (.ireturn, 1) := by decide +kernel
theorem dL_law_661 : decode cL_law 661 = .ok (.aload_n 1, 1) := by decide +kernel
theorem dL_law_662 : decode cL_law 662 = .ok (.aload_n 0, 1) := by decide +kernel
theorem dL_law_663 : decode cL_law 663 = .ok (.iload_n 3, 1) := by decide +kernel
theorem dL_law_664 : decode cL_law 664 = .ok (.iconst 1, 1) := by decide +kernel
theorem dL_law_665 : decode cL_law 665 = .ok (.iadd, 1) := by decide +kernel
theorem dL_law_666 : decode cL_law 666 = .ok (.iaload, 1) := by decide +kernel
theorem dL_law_667 : decode cL_law 667 = .ok (.aload_n 0, 1) := by decide +kernel
theorem dL_law_668 : decode cL_law 668 = .ok (.iload_n 3, 1) := by decide +kernel
theorem dL_law_669 : decode cL_law 669 = .ok (.iconst 2, 1) := by decide +kernel
theorem dL_law_670 : decode cL_law 670 = .ok (.iadd, 1) := by decide +kernel
theorem dL_law_671 : decode cL_law 671 = .ok (.iaload, 1) := by decide +kernel
theorem dL_law_672 : decode cL_law 672 = .ok (.invokevirtual 94, 3) := by decide +kernel
theorem dL_law_675 : decode cL_law 675 = .ok (.aload_n 2, 1) := by decide +kernel
theorem dL_law_676 : decode cL_law 676 = .ok (.aload_n 0, 1) := by decide +kernel
theorem dL_law_677 : decode cL_law 677 = .ok (.iload_n 3, 1) := by decide +kernel
theorem dL_law_678 : decode cL_law 678 = .ok (.iconst 1, 1) := by decide +kernel
theorem dL_law_679 : decode cL_law 679 = .ok (.iadd, 1) := by decide +kernel
theorem dL_law_680 : decode cL_law 680 = .ok (.iaload, 1) := by decide +kernel
theorem dL_law_681 : decode cL_law 681 = .ok (.aload_n 0, 1) := by decide +kernel
theorem dL_law_682 : decode cL_law 682 = .ok (.iload_n 3, 1) := by decide +kernel
theorem dL_law_683 : decode cL_law 683 = .ok (.iconst 2, 1) := by decide +kernel
theorem dL_law_684 : decode cL_law 684 = .ok (.iadd, 1) := by decide +kernel
theorem dL_law_685 : decode cL_law 685 = .ok (.iaload, 1) := by decide +kernel
theorem dL_law_686 : decode cL_law 686 = .ok (.invokevirtual 97, 3) := by decide +kernel
theorem dL_law_689 : decode cL_law 689 = .ok (.if_icmp .eq 297, 3) := by decide +kernel
theorem dL_law_692 : decode cL_law 692 = .ok (.iconst 0, 1) := by decide +kernel
theorem dL_law_693 : decode cL_law 693 = .ok (.ireturn, 1) := by decide +kernel
theorem dL_law_694 : decode cL_law 694 = .ok (.aload_n 1, 1) := by decide +kernel
theorem dL_law_695 : decode cL_law 695 = .ok (.aload_n 0, 1) := by decide +kernel
theorem dL_law_696 : decode cL_law 696 = .ok (.iload_n 3, 1) := by decide +kernel
theorem dL_law_697 : decode cL_law 697 = .ok (.iconst 1, 1) := by decide +kernel
theorem dL_law_698 : decode cL_law 698 = .ok (.iadd, 1) := by decide +kernel
theorem dL_law_699 : decode cL_law 699 = .ok (.iaload, 1) := by decide +kernel
theorem dL_law_700 : decode cL_law 700 = .ok (.invokevirtual 98, 3) := by decide +kernel
theorem dL_law_703 : decode cL_law 703 = .ok (.aload_n 2, 1) := by decide +kernel
theorem dL_law_704 : decode cL_law 704 = .ok (.aload_n 0, 1) := by decide +kernel
theorem dL_law_705 : decode cL_law 705 = .ok (.iload_n 3, 1) := by decide +kernel
theorem dL_law_706 : decode cL_law 706 = .ok (.iconst 1, 1) := by decide +kernel
theorem dL_law_707 : decode cL_law 707 = .ok (.iadd, 1) := by decide +kernel
theorem dL_law_708 : decode cL_law 708 = .ok (.iaload, 1) := by decide +kernel
theorem dL_law_709 : decode cL_law 709 = .ok (.invokevirtual 101, 3) := by decide +kernel
theorem dL_law_712 : decode cL_law 712 = .ok (.if_icmp .eq 274, 3) := by decide +kernel
theorem dL_law_715 : decode cL_law 715 = .ok (.iconst 0, 1) := by decide +kernel
theorem dL_law_716 : decode cL_law 716 = .ok (.ireturn, 1) := by decide +kernel
theorem dL_law_717 : decode cL_law 717 = .ok (.aload_n 1, 1) := by decide +kernel
theorem dL_law_718 : decode cL_law 718 = .ok (.aload_n 0, 1) := by decide +kernel
theorem dL_law_719 : decode cL_law 719 = .ok (.iload_n 3, 1) := by decide +kernel
theorem dL_law_720 : decode cL_law 720 = .ok (.iconst 1, 1) := by decide +kernel
theorem dL_law_721 : decode cL_law 721 = .ok (.iadd, 1) := by decide +kernel
theorem dL_law_722 : decode cL_law 722 = .ok (.iaload, 1) := by decide +kernel
theorem dL_law_723 : decode cL_law 723 = .ok (.invokevirtual 102, 3) := by decide +kernel
theorem dL_law_726 : decode cL_law 726 = .ok (.aload_n 2, 1) := by decide +kernel
theorem dL_law_727 : decode cL_law 727 = .ok (.aload_n 0, 1) := by decide +kernel
theorem dL_law_728 : decode cL_law 728 = .ok (.iload_n 3, 1) := by decide +kernel
theorem dL_law_729 : decode cL_law 729 = .ok (.iconst 1, 1) := by decide +kernel
theorem dL_law_730 : decode cL_law 730 = .ok (.iadd, 1) := by decide +kernel
theorem dL_law_731 : decode cL_law 731 = .ok (.iaload, 1) := by decide +kernel
theorem dL_law_732 : decode cL_law 732 = .ok (.invokevirtual 105, 3) := by decide +kernel
theorem dL_law_735 : decode cL_law 735 = .ok (.if_icmp .eq 251, 3) := by decide +kernel
theorem dL_law_738 : decode cL_law 738 = .ok (.iconst 0, 1) := by decide +kernel
theorem dL_law_739 : decode cL_law 739 = .ok (.ireturn, 1) := by decide +kernel
theorem dL_law_740 : decode cL_law 740 = .ok (.aload_n 1, 1) := by decide +kernel
theorem dL_law_741 : decode cL_law 741 = .ok (.aload_n 0, 1) := by decide +kernel
theorem dL_law_742 : decode cL_law 742 = .ok (.iload_n 3, 1) := by decide +kernel
theorem dL_law_743 : decode cL_law 743 = .ok (.iconst 1, 1) := by decide +kernel
theorem dL_law_744 : decode cL_law 744 = .ok (.iadd, 1) := by decide +kernel
theorem dL_law_745 : decode cL_law 745 = .ok (.iaload, 1) := by decide +kernel
theorem dL_law_746 : decode cL_law 746 = .ok (.invokevirtual 106, 3) := by decide +kernel
theorem dL_law_749 : decode cL_law 749 = .ok (.aload_n 2, 1) := by decide +kernel
theorem dL_law_750 : decode cL_law 750 = .ok (.aload_n 0, 1) := by decide +kernel
theorem dL_law_751 : decode cL_law 751 = .ok (.iload_n 3, 1) := by decide +kernel
theorem dL_law_752 : decode cL_law 752 = .ok (.iconst 1, 1) := by decide +kernel
theorem dL_law_753 : decode cL_law 753 = .ok (.iadd, 1) := by decide +kernel
theorem dL_law_754 : decode cL_law 754 = .ok (.iaload, 1) := by decide +kernel
theorem dL_law_755 : decode cL_law 755 = .ok (.invokevirtual 109, 3) := by decide +kernel
theorem dL_law_758 : decode cL_law 758 = .ok (.if_icmp .eq 228, 3) := by decide +kernel
theorem dL_law_761 : decode cL_law 761 = .ok (.iconst 0, 1) := by decide +kernel
theorem dL_law_762 : decode cL_law 762 = .ok (.ireturn, 1) := by decide +kernel
theorem dL_law_763 : decode cL_law 763 = .ok (.aload_n 1, 1) := by decide +kernel
theorem dL_law_764 : decode cL_law 764 = .ok (.aload_n 0, 1) := by decide +kernel
theorem dL_law_765 : decode cL_law 765 = .ok (.iload_n 3, 1) := by decide +kernel
theorem dL_law_766 : decode cL_law 766 = .ok (.iconst 1, 1) := by decide +kernel
theorem dL_law_767 : decode cL_law 767 = .ok (.iadd, 1) := by decide +kernel
theorem dL_law_768 : decode cL_law 768 = .ok (.iaload, 1) := by decide +kernel
theorem dL_law_769 : decode cL_law 769 = .ok (.aload_n 0, 1) := by decide +kernel
theorem dL_law_770 : decode cL_law 770 = .ok (.iload_n 3, 1) := by decide +kernel
theorem dL_law_771 : decode cL_law 771 = .ok (.iconst 2, 1) := by decide +kernel
theorem dL_law_772 : decode cL_law 772 = .ok (.iadd, 1) := by decide +kernel
theorem dL_law_773 : decode cL_law 773 = .ok (.iaload, 1) := by decide +kernel
theorem dL_law_774 : decode cL_law 774 = .ok (.invokevirtual 110, 3) := by decide +kernel
theorem dL_law_777 : decode cL_law 777 = .ok (.aload_n 2, 1) := by decide +kernel
theorem dL_law_778 : decode cL_law 778 = .ok (.aload_n 0, 1) := by decide +kernel
theorem dL_law_779 : decode cL_law 779 = .ok (.iload_n 3, 1) := by decide +kernel
theorem dL_law_780 : decode cL_law 780 = .ok (.iconst 1, 1) := by decide +kernel
theorem dL_law_781 : decode cL_law 781 = .ok (.iadd, 1) := by decide +kernel
theorem dL_law_782 : decode cL_law 782 = .ok (.iaload, 1) := by decide +kernel
theorem dL_law_783 : decode cL_law 783 = .ok (.aload_n 0, 1) := by decide +kernel
theorem dL_law_784 : decode cL_law 784 = .ok (.iload_n 3, 1) := by decide +kernel
theorem dL_law_785 : decode cL_law 785 = .ok (.iconst 2, 1) := by decide +kernel
theorem dL_law_786 : decode cL_law 786 = .ok (.iadd, 1) := by decide +kernel
theorem dL_law_787 : decode cL_law 787 = .ok (.iaload, 1) := by decide +kernel
theorem dL_law_788 : decode cL_law 788 = .ok (.invokevirtual 113, 3) := by decide +kernel
theorem dL_law_791 : decode cL_law 791 = .ok (.if_icmp .eq 195, 3) := by decide +kernel
theorem dL_law_794 : decode cL_law 794 = .ok (.iconst 0, 1) := by decide +kernel
theorem dL_law_795 : decode cL_law 795 = .ok (.ireturn, 1) := by decide +kernel
theorem dL_law_796 : decode cL_law 796 = .ok (.aload_n 1, 1) := by decide +kernel
theorem dL_law_797 : decode cL_law 797 = .ok (.aload_n 0, 1) := by decide +kernel
theorem dL_law_798 : decode cL_law 798 = .ok (.iload_n 3, 1) := by decide +kernel
theorem dL_law_799 : decode cL_law 799 = .ok (.iconst 1, 1) := by decide +kernel
theorem dL_law_800 : decode cL_law 800 = .ok (.iadd, 1) := by decide +kernel
theorem dL_law_801 : decode cL_law 801 = .ok (.iaload, 1) := by decide +kernel
theorem dL_law_802 : decode cL_law 802 = .ok (.aload_n 0, 1) := by decide +kernel
theorem dL_law_803 : decode cL_law 803 = .ok (.iload_n 3, 1) := by decide +kernel
theorem dL_law_804 : decode cL_law 804 = .ok (.iconst 2, 1) := by decide +kernel
theorem dL_law_805 : decode cL_law 805 = .ok (.iadd, 1) := by decide +kernel
theorem dL_law_806 : decode cL_law 806 = .ok (.iaload, 1) := by decide +kernel
theorem dL_law_807 : decode cL_law 807 = .ok (.invokevirtual 114, 3) := by decide +kernel
theorem dL_law_810 : decode cL_law 810 = .ok (.aload_n 2, 1) := by decide +kernel
theorem dL_law_811 : decode cL_law 811 = .ok (.aload_n 0, 1) := by decide +kernel
theorem dL_law_812 : decode cL_law 812 = .ok (.iload_n 3, 1) := by decide +kernel
theorem dL_law_813 : decode cL_law 813 = .ok (.iconst 1, 1) := by decide +kernel
theorem dL_law_814 : decode cL_law 814 = .ok (.iadd, 1) := by decide +kernel
theorem dL_law_815 : decode cL_law 815 = .ok (.iaload, 1) := by decide +kernel
theorem dL_law_816 : decode cL_law 816 = .ok (.aload_n 0, 1) := by decide +kernel
theorem dL_law_817 : decode cL_law 817 = .ok (.iload_n 3, 1) := by decide +kernel
theorem dL_law_818 : decode cL_law 818 = .ok (.iconst 2, 1) := by decide +kernel
theorem dL_law_819 : decode cL_law 819 = .ok (.iadd, 1) := by decide +kernel
theorem dL_law_820 : decode cL_law 820 = .ok (.iaload, 1) := by decide +kernel
theorem dL_law_821 : decode cL_law 821 = .ok (.invokevirtual 118, 3) := by decide +kernel
theorem dL_law_824 : decode cL_law 824 = .ok (.lcmp, 1) := by decide +kernel
theorem dL_law_825 : decode cL_law 825 = .ok (.ifCond .eq 161, 3) := by decide +kernel
theorem dL_law_828 : decode cL_law 828 = .ok (.iconst 0, 1) := by decide +kernel
theorem dL_law_829 : decode cL_law 829 = .ok (.ireturn, 1) := by decide +kernel
theorem dL_law_830 : decode cL_law 830 = .ok (.aload_n 1, 1) := by decide +kernel
theorem dL_law_831 : decode cL_law 831 = .ok (.aload_n 0, 1) := by decide +kernel
theorem dL_law_832 : decode cL_law 832 = .ok (.iload_n 3, 1) := by decide +kernel
theorem dL_law_833 : decode cL_law 833 = .ok (.iconst 1, 1) := by decide +kernel
theorem dL_law_834 : decode cL_law 834 = .ok (.iadd, 1) := by decide +kernel
theorem dL_law_835 : decode cL_law 835 = .ok (.iaload, 1) := by decide +kernel
theorem dL_law_836 : decode cL_law 836 = .ok (.aload_n 0, 1) := by decide +kernel
theorem dL_law_837 : decode cL_law 837 = .ok (.iload_n 3, 1) := by decide +kernel
theorem dL_law_838 : decode cL_law 838 = .ok (.iconst 2, 1) := by decide +kernel
theorem dL_law_839 : decode cL_law 839 = .ok (.iadd, 1) := by decide +kernel
theorem dL_law_840 : decode cL_law 840 = .ok (.iaload, 1) := by decide +kernel
theorem dL_law_841 : decode cL_law 841 = .ok (.aload_n 0, 1) := by decide +kernel
theorem dL_law_842 : decode cL_law 842 = .ok (.iload_n 3, 1) := by decide +kernel
theorem dL_law_843 : decode cL_law 843 = .ok (.iconst 3, 1) := by decide +kernel
theorem dL_law_844 : decode cL_law 844 = .ok (.iadd, 1) := by decide +kernel
theorem dL_law_845 : decode cL_law 845 = .ok (.iaload, 1) := by decide +kernel
theorem dL_law_846 : decode cL_law 846 = .ok (.invokevirtual 119, 3) := by decide +kernel
theorem dL_law_849 : decode cL_law 849 = .ok (.aload_n 2, 1) := by decide +kernel
theorem dL_law_850 : decode cL_law 850 = .ok (.aload_n 0, 1) := by decide +kernel
theorem dL_law_851 : decode cL_law 851 = .ok (.iload_n 3, 1) := by decide +kernel
theorem dL_law_852 : decode cL_law 852 = .ok (.iconst 1, 1) := by decide +kernel
theorem dL_law_853 : decode cL_law 853 = .ok (.iadd, 1) := by decide +kernel
theorem dL_law_854 : decode cL_law 854 = .ok (.iaload, 1) := by decide +kernel
theorem dL_law_855 : decode cL_law 855 = .ok (.aload_n 0, 1) := by decide +kernel
theorem dL_law_856 : decode cL_law 856 = .ok (.iload_n 3, 1) := by decide +kernel
theorem dL_law_857 : decode cL_law 857 = .ok (.iconst 2, 1) := by decide +kernel
theorem dL_law_858 : decode cL_law 858 = .ok (.iadd, 1) := by decide +kernel
theorem dL_law_859 : decode cL_law 859 = .ok (.iaload, 1) := by decide +kernel
theorem dL_law_860 : decode cL_law 860 = .ok (.aload_n 0, 1) := by decide +kernel
theorem dL_law_861 : decode cL_law 861 = .ok (.iload_n 3, 1) := by decide +kernel
theorem dL_law_862 : decode cL_law 862 = .ok (.iconst 3, 1) := by decide +kernel
theorem dL_law_863 : decode cL_law 863 = .ok (.iadd, 1) := by decide +kernel
theorem dL_law_864 : decode cL_law 864 = .ok (.iaload, 1) := by decide +kernel
theorem dL_law_865 : decode cL_law 865 = .ok (.invokevirtual 123, 3) := by decide +kernel
theorem dL_law_868 : decode cL_law 868 = .ok (.lcmp, 1) := by decide +kernel
theorem dL_law_869 : decode cL_law 869 = .ok (.ifCond .eq 117, 3) := by decide +kernel
theorem dL_law_872 : decode cL_law 872 = .ok (.iconst 0, 1) := by decide +kernel
theorem dL_law_873 : decode cL_law 873 = .ok (.ireturn, 1) := by decide +kernel
theorem dL_law_874 : decode cL_law 874 = .ok (.aload_n 1, 1) := by decide +kernel
theorem dL_law_875 : decode cL_law 875 = .ok (.aload_n 0, 1) := by decide +kernel
theorem dL_law_876 : decode cL_law 876 = .ok (.iload_n 3, 1) := by decide +kernel
theorem dL_law_877 : decode cL_law 877 = .ok (.iconst 1, 1) := by decide +kernel
theorem dL_law_878 : decode cL_law 878 = .ok (.iadd, 1) := by decide +kernel
theorem dL_law_879 : decode cL_law 879 = .ok (.iaload, 1) := by decide +kernel
theorem dL_law_880 : decode cL_law 880 = .ok (.aload_n 0, 1) := by decide +kernel
theorem dL_law_881 : decode cL_law 881 = .ok (.iload_n 3, 1) := by decide +kernel
theorem dL_law_882 : decode cL_law 882 = .ok (.iconst 2, 1) := by decide +kernel
theorem dL_law_883 : decode cL_law 883 = .ok (.iadd, 1) := by decide +kernel
theorem dL_law_884 : decode cL_law 884 = .ok (.iaload, 1) := by decide +kernel
theorem dL_law_885 : decode cL_law 885 = .ok (.aload_n 0, 1) := by decide +kernel
theorem dL_law_886 : decode cL_law 886 = .ok (.iload_n 3, 1) := by decide +kernel
theorem dL_law_887 : decode cL_law 887 = .ok (.iconst 3, 1) := by decide +kernel
theorem dL_law_888 : decode cL_law 888 = .ok (.iadd, 1) := by decide +kernel
theorem dL_law_889 : decode cL_law 889 = .ok (.iaload, 1) := by decide +kernel
theorem dL_law_890 : decode cL_law 890 = .ok (.invokevirtual 124, 3) := by decide +kernel
theorem dL_law_893 : decode cL_law 893 = .ok (.aload_n 2, 1) := by decide +kernel
theorem dL_law_894 : decode cL_law 894 = .ok (.aload_n 0, 1) := by decide +kernel
theorem dL_law_895 : decode cL_law 895 = .ok (.iload_n 3, 1) := by decide +kernel
theorem dL_law_896 : decode cL_law 896 = .ok (.iconst 1, 1) := by decide +kernel
theorem dL_law_897 : decode cL_law 897 = .ok (.iadd, 1) := by decide +kernel
theorem dL_law_898 : decode cL_law 898 = .ok (.iaload, 1) := by decide +kernel
theorem dL_law_899 : decode cL_law 899 = .ok (.aload_n 0, 1) := by decide +kernel
theorem dL_law_900 : decode cL_law 900 = .ok (.iload_n 3, 1) := by decide +kernel
theorem dL_law_901 : decode cL_law 901 = .ok (.iconst 2, 1) := by decide +kernel
theorem dL_law_902 : decode cL_law 902 = .ok (.iadd, 1) := by decide +kernel
theorem dL_law_903 : decode cL_law 903 = .ok (.iaload, 1) := by decide +kernel
theorem dL_law_904 : decode cL_law 904 = .ok (.aload_n 0, 1) := by decide +kernel
theorem dL_law_905 : decode cL_law 905 = .ok (.iload_n 3, 1) := by decide +kernel
theorem dL_law_906 : decode cL_law 906 = .ok (.iconst 3, 1) := by decide +kernel
theorem dL_law_907 : decode cL_law 907 = .ok (.iadd, 1) := by decide +kernel
theorem dL_law_908 : decode cL_law 908 = .ok (.iaload, 1) := by decide +kernel
theorem dL_law_909 : decode cL_law 909 = .ok (.invokevirtual 127, 3) := by decide +kernel
theorem dL_law_912 : decode cL_law 912 = .ok (.if_icmp .eq 74, 3) := by decide +kernel
theorem dL_law_915 : decode cL_law 915 = .ok (.iconst 0, 1) := by decide +kernel
theorem dL_law_916 : decode cL_law 916 = .ok (.ireturn, 1) := by decide +kernel
theorem dL_law_917 : decode cL_law 917 = .ok (.aload_n 1, 1) := by decide +kernel
theorem dL_law_918 : decode cL_law 918 = .ok (.aload_n 0, 1) := by decide +kernel
theorem dL_law_919 : decode cL_law 919 = .ok (.iload_n 3, 1) := by decide +kernel
theorem dL_law_920 : decode cL_law 920 = .ok (.iconst 1, 1) := by decide +kernel
theorem dL_law_921 : decode cL_law 921 = .ok (.iadd, 1) := by decide +kernel
theorem dL_law_922 : decode cL_law 922 = .ok (.iaload, 1) := by decide +kernel
theorem dL_law_923 : decode cL_law 923 = .ok (.invokevirtual 128, 3) := by decide +kernel
theorem dL_law_926 : decode cL_law 926 = .ok (.aload_n 2, 1) := by decide +kernel
theorem dL_law_927 : decode cL_law 927 = .ok (.aload_n 0, 1) := by decide +kernel
theorem dL_law_928 : decode cL_law 928 = .ok (.iload_n 3, 1) := by decide +kernel
theorem dL_law_929 : decode cL_law 929 = .ok (.iconst 1, 1) := by decide +kernel
theorem dL_law_930 : decode cL_law 930 = .ok (.iadd, 1) := by decide +kernel
theorem dL_law_931 : decode cL_law 931 = .ok (.iaload, 1) := by decide +kernel
theorem dL_law_932 : decode cL_law 932 = .ok (.invokevirtual 131, 3) := by decide +kernel
theorem dL_law_935 : decode cL_law 935 = .ok (.if_icmp .eq 51, 3) := by decide +kernel
theorem dL_law_938 : decode cL_law 938 = .ok (.iconst 0, 1) := by decide +kernel
theorem dL_law_939 : decode cL_law 939 = .ok (.ireturn, 1) := by decide +kernel
theorem dL_law_940 : decode cL_law 940 = .ok (.aload_n 1, 1) := by decide +kernel
theorem dL_law_941 : decode cL_law 941 = .ok (.aload_n 0, 1) := by decide +kernel
theorem dL_law_942 : decode cL_law 942 = .ok (.iload_n 3, 1) := by decide +kernel
theorem dL_law_943 : decode cL_law 943 = .ok (.iconst 1, 1) := by decide +kernel
theorem dL_law_944 : decode cL_law 944 = .ok (.iadd, 1) := by decide +kernel
theorem dL_law_945 : decode cL_law 945 = .ok (.iaload, 1) := by decide +kernel
theorem dL_law_946 : decode cL_law 946 = .ok (.invokevirtual 132, 3) := by decide +kernel
theorem dL_law_949 : decode cL_law 949 = .ok (.aload_n 2, 1) := by decide +kernel
theorem dL_law_950 : decode cL_law 950 = .ok (.aload_n 0, 1) := by decide +kernel
theorem dL_law_951 : decode cL_law 951 = .ok (.iload_n 3, 1) := by decide +kernel
theorem dL_law_952 : decode cL_law 952 = .ok (.iconst 1, 1) := by decide +kernel
theorem dL_law_953 : decode cL_law 953 = .ok (.iadd, 1) := by decide +kernel
theorem dL_law_954 : decode cL_law 954 = .ok (.iaload, 1) := by decide +kernel
theorem dL_law_955 : decode cL_law 955 = .ok (.invokevirtual 135, 3) := by decide +kernel
theorem dL_law_958 : decode cL_law 958 = .ok (.if_icmp .eq 28, 3) := by decide +kernel
theorem dL_law_961 : decode cL_law 961 = .ok (.iconst 0, 1) := by decide +kernel
theorem dL_law_962 : decode cL_law 962 = .ok (.ireturn, 1) := by decide +kernel
theorem dL_law_963 : decode cL_law 963 = .ok (.aload_n 1, 1) := by decide +kernel
theorem dL_law_964 : decode cL_law 964 = .ok (.aload_n 0, 1) := by decide +kernel
theorem dL_law_965 : decode cL_law 965 = .ok (.iload_n 3, 1) := by decide +kernel
theorem dL_law_966 : decode cL_law 966 = .ok (.iconst 1, 1) := by decide +kernel
theorem dL_law_967 : decode cL_law 967 = .ok (.iadd, 1) := by decide +kernel
theorem dL_law_968 : decode cL_law 968 = .ok (.iaload, 1) := by decide +kernel
theorem dL_law_969 : decode cL_law 969 = .ok (.invokevirtual 136, 3) := by decide +kernel
theorem dL_law_972 : decode cL_law 972 = .ok (.aload_n 2, 1) := by decide +kernel
theorem dL_law_973 : decode cL_law 973 = .ok (.aload_n 0, 1) := by decide +kernel
theorem dL_law_974 : decode cL_law 974 = .ok (.iload_n 3, 1) := by decide +kernel
theorem dL_law_975 : decode cL_law 975 = .ok (.iconst 1, 1) := by decide +kernel
theorem dL_law_976 : decode cL_law 976 = .ok (.iadd, 1) := by decide +kernel
theorem dL_law_977 : decode cL_law 977 = .ok (.iaload, 1) := by decide +kernel
theorem dL_law_978 : decode cL_law 978 = .ok (.invokevirtual 139, 3) := by decide +kernel
theorem dL_law_981 : decode cL_law 981 = .ok (.if_icmp .eq 5, 3) := by decide +kernel
theorem dL_law_984 : decode cL_law 984 = .ok (.iconst 0, 1) := by decide +kernel
theorem dL_law_985 : decode cL_law 985 = .ok (.ireturn, 1) := by decide +kernel
theorem dL_law_986 : decode cL_law 986 = .ok (.iinc 3 4, 3) := by decide +kernel
theorem dL_law_989 : decode cL_law 989 = .ok (.goto (-971), 3) := by decide +kernel
theorem dL_law_992 : decode cL_law 992 = .ok (.iconst 1, 1) := by decide +kernel
theorem dL_law_993 : decode cL_law 993 = .ok (.ireturn, 1) := by decide +kernel
