theorem dX6_told_150 : decode cX6_told 150 = .ok (.istore_n 3, 1) := by decide +kernel
theorem dX6_told_151 : decode cX6_told 151 = .ok (.aload_n 0, 1) := by decide +kernel
theorem dX6_told_152 : decode cX6_told 152 = .ok (.getfield 10, 3) := by decide +kernel
theorem dX6_told_155 : decode cX6_told 155 = .ok (.getfield 50, 3) := by decide +kernel
theorem dX6_told_158 : decode cX6_told 158 = .ok (.iload_n 2, 1) := by decide +kernel
theorem dX6_told_159 : decode cX6_told 159 = .ok (.invokevirtual 77, 3) := by decide +kernel
theorem dX6_told_162 : decode cX6_told 162 = .ok (.ifCond .eq 23, 3) := by decide +kernel
theorem dX6_told_165 : decode cX6_told 165 = .ok (.iload_n 3, 1) := by decide +kernel
theorem dX6_told_166 : decode cX6_told 166 = .ok (.iconst 5, 1) := by decide +kernel
theorem dX6_told_167 : decode cX6_told 167 = .ok (.if_icmp .ge 18, 3) := by decide +kernel
theorem dX6_told_170 : decode cX6_told 170 = .ok (.aload_n 0, 1) := by decide +kernel
theorem dX6_told_171 : decode cX6_told 171 = .ok (.getfield 10, 3) := by decide +kernel
theorem dX6_told_174 : decode cX6_told 174 = .ok (.getfield 50, 3) := by decide +kernel
theorem dX6_told_177 : decode cX6_told 177 = .ok (.iload_n 2, 1) := by decide +kernel
theorem dX6_told_178 : decode cX6_told 178 = .ok (.iload_n 3, 1) := by decide +kernel
theorem dX6_told_179 : decode cX6_told 179 = .ok (.invokevirtual 88, 3) := by decide +kernel
theorem dX6_told_182 : decode cX6_told 182 = .ok (.goto 5, 3) := by decide +kernel
theorem dX6_told_185 : decode cX6_told 185 = .ok (.bipush (-2), 2) := by decide +kernel
theorem dX6_told_187 : decode cX6_told 187 = .ok (.ireturn, 1) := by decide +kernel
theorem dX6_findFitting_0 : decode cX6_findFitting 0 = .ok (.aload_n 0, 1) := by decide +kernel
theorem dX6_findFitting_1 : decode cX6_findFitting 1 = .ok (.getfield 10, 3) := by decide +kernel
theorem dX6_findFitting_4 : decode cX6_findFitting 4 = .ok (.getfield 65, 3) := by decide +kernel
theorem dX6_findFitting_7 : decode cX6_findFitting 7 = .ok (.getfield 74, 3) := by decide +kernel
theorem dX6_findFitting_10 : decode cX6_findFitting 10 = .ok (.ifCond .le 7, 3) := by decide +kernel
theorem dX6_findFitting_13 : decode cX6_findFitting 13 = .ok (.iconst 1, 1) := by decide +kernel
theorem dX6_findFitting_14 : decode cX6_findFitting 14 = .ok (.goto 4, 3) := by decide +kernel
theorem dX6_findFitting_17 : decode cX6_findFitting 17 = .ok (.iconst 0, 1) := by decide +kernel
theorem dX6_findFitting_18 : decode cX6_findFitting 18 = .ok (.istore_n 1, 1) := by decide +kernel
theorem dX6_findFitting_19 : decode cX6_findFitting 19 = .ok (.iload_n 1, 1) := by decide +kernel
theorem dX6_findFitting_20 : decode cX6_findFitting 20 = .ok (.ifCond .eq 54, 3) := by decide +kernel
theorem dX6_findFitting_23 : decode cX6_findFitting 23 = .ok (.aload_n 0, 1) := by decide +kernel
theorem dX6_findFitting_24 : decode cX6_findFitting 24 = .ok (.getfield 25, 3) := by decide +kernel
theorem dX6_findFitting_27 : decode cX6_findFitting 27 = .ok (.aload_n 0, 1) := by decide +kernel
theorem dX6_findFitting_28 : decode cX6_findFitting 28 = .ok (.getfield 10, 3) := by decide +kernel
theorem dX6_findFitting_31 : decode cX6_findFitting 31 = .ok (.getfield 50, 3) := by decide +kernel
theorem dX6_findFitting_34 : decode cX6_findFitting 34 = .ok (.getfield 61, 3) := by decide +kernel
theorem dX6_findFitting_37 : decode cX6_findFitting 37 = .ok (.invokevirtual 113, 3) := by decide +kernel
theorem dX6_findFitting_40 : decode cX6_findFitting 40 = .ok (.bipush (-6), 2) := by decide +kernel
theorem dX6_findFitting_42 : decode cX6_findFitting 42 = .ok (.if_icmp .ne 13, 3) := by decide +kernel
theorem dX6_findFitting_45 : decode cX6_findFitting 45 = .ok (.aload_n 0, 1) := by decide +kernel
theorem dX6_findFitting_46 : decode cX6_findFitting 46 = .ok (.getfield 25, 3) := by decide +kernel
theorem dX6_findFitting_49 : decode cX6_findFitting 49 = .ok (.invokevirtual 257, 3) := by decide +kernel
theorem dX6_findFitting_52 : decode cX6_findFitting 52 = .ok (.ifCond .eq 6, 3) := by decide +kernel
theorem dX6_findFitting_55 : decode cX6_findFitting 55 = .ok (.bipush (-5), 2) := by decide +kernel
theorem dX6_findFitting_57 : decode cX6_findFitting 57 = .ok (.ireturn, 1) := by decide +kernel
theorem dX6_findFitting_58 : decode cX6_findFitting 58 = .ok (.aload_n 0, 1) := by decide +kernel
theorem dX6_findFitting_59 : decode cX6_findFitting 59 = .ok (.getfield 10, 3) := by decide +kernel
theorem dX6_findFitting_62 : decode cX6_findFitting 62 = .ok (.getfield 50, 3) := by decide +kernel
theorem dX6_findFitting_65 : decode cX6_findFitting 65 = .ok (.invokevirtual 116, 3) := by decide +kernel
theorem dX6_findFitting_68 : decode cX6_findFitting 68 = .ok (.ifCond .ne 6, 3) := by decide +kernel
theorem dX6_findFitting_71 : decode cX6_findFitting 71 = .ok (.bipush (-3), 2) := by decide +kernel
theorem dX6_findFitting_73 : decode cX6_findFitting 73 = .ok (.ireturn, 1) := by decide +kernel
theorem dX6_findFitting_74 : decode cX6_findFitting 74 = .ok (.aload_n 0, 1) := by decide +kernel
theorem dX6_findFitting_75 : decode cX6_findFitting 75 = .ok (.getfield 39, 3) := by decide +kernel
theorem dX6_findFitting_78 : decode cX6_findFitting 78 = .ok (.aload_n 0, 1) := by decide +kernel
theorem dX6_findFitting_79 : decode cX6_findFitting 79 = .ok (.getfield 10, 3) := by decide +kernel
theorem dX6_findFitting_82 : decode cX6_findFitting 82 = .ok (.getfield 50, 3) := by decide +kernel
theorem dX6_findFitting_85 : decode cX6_findFitting 85 = .ok (.getfield 61, 3) := by decide +kernel
theorem dX6_findFitting_88 : decode cX6_findFitting 88 = .ok (.invokevirtual 260, 3) := by decide +kernel
theorem dX6_findFitting_91 : decode cX6_findFitting 91 = .ok (.aload_n 0, 1) := by decide +kernel
theorem dX6_findFitting_92 : decode cX6_findFitting 92 = .ok (.getfield 39, 3) := by decide +kernel
theorem dX6_findFitting_95 : decode cX6_findFitting 95 = .ok (.aload_n 0, 1) := by decide +kernel
theorem dX6_findFitting_96 : decode cX6_findFitting 96 = .ok (.getfield 10, 3) := by decide +kernel
theorem dX6_findFitting_99 : decode cX6_findFitting 99 = .ok (.getfield 65, 3) := by decide +kernel
theorem dX6_findFitting_102 : decode cX6_findFitting 102 = .ok (.invokevirtual 263, 3) := by decide +kernel
theorem dX6_findFitting_105 : decode cX6_findFitting 105 = .ok (.iload_n 1, 1) := by decide +kernel
theorem dX6_findFitting_106 : decode cX6_findFitting 106 = .ok (.ifCond .eq 35, 3) := by decide +kernel
theorem dX6_findFitting_109 : decode cX6_findFitting 109 = .ok (.aload_n 0, 1) := by decide +kernel
theorem dX6_findFitting_110 : decode cX6_findFitting 110 = .ok (.getfield 39, 3) := by decide +kernel
theorem dX6_findFitting_113 : decode cX6_findFitting 113 = .ok (.aload_n 0, 1) := by decide +kernel
theorem dX6_findFitting_114 : decode cX6_findFitting 114 = .ok (.getfield 25, 3) := by decide +kernel
theorem dX6_findFitting_117 : decode cX6_findFitting 117 = .ok (.aload_n 0, 1) := by decide +kernel
theorem dX6_findFitting_118 : decode cX6_findFitting 118 = .ok (.getfield 10, 3) := by decide +kernel
theorem dX6_findFitting_121 : decode cX6_findFitting 121 = .ok (.getfield 50, 3) := by decide +kernel
theorem dX6_findFitting_124 : decode cX6_findFitting 124 = .ok (.invokevirtual 267, 3) := by decide +kernel
theorem dX6_findFitting_127 : decode cX6_findFitting 127 = .ok (.aload_n 0, 1) := by decide +kernel
theorem dX6_findFitting_128 : decode cX6_findFitting 128 = .ok (.getfield 39, 3) := by decide +kernel
theorem dX6_findFitting_131 : decode cX6_findFitting 131 = .ok (.aload_n 0, 1) := by decide +kernel
theorem dX6_findFitting_132 : decode cX6_findFitting 132 = .ok (.getfield 10, 3) := by decide +kernel
theorem dX6_findFitting_135 : decode cX6_findFitting 135 = .ok (.getfield 65, 3) := by decide +kernel
theorem dX6_findFitting_138 : decode cX6_findFitting 138 = .ok (.invokevirtual 271, 3) := by decide +kernel
theorem dX6_findFitting_141 : decode cX6_findFitting 141 = .ok (.aload_n 0, 1) := by decide +kernel
theorem dX6_findFitting_142 : decode cX6_findFitting 142 = .ok (.getfield 39, 3) := by decide +kernel
theorem dX6_findFitting_145 : decode cX6_findFitting 145 = .ok (.invokevirtual 274, 3) := by decide +kernel
theorem dX6_findFitting_148 : decode cX6_findFitting 148 = .ok (.iconst 0, 1) := by decide +kernel
theorem dX6_findFitting_149 : decode cX6_findFitting 149 = .ok (.ireturn, 1) := by decide +kernel
theorem dX6_isRest_0 : decode cX6_isRest 0 = .ok (.iconst 0, 1) := by decide +kernel
theorem dX6_isRest_1 : decode cX6_isRest 1 = .ok (.istore 4, 2) := by decide +kernel
theorem dX6_isRest_3 : decode cX6_isRest 3 = .ok (.iload 4, 2) := by decide +kernel
theorem dX6_isRest_5 : decode cX6_isRest 5 = .ok (.bipush 6, 2) := by decide +kernel
theorem dX6_isRest_7 : decode cX6_isRest 7 = .ok (.if_icmp .ge 52, 3) := by decide +kernel
theorem dX6_isRest_10 : decode cX6_isRest 10 = .ok (.iload_n 2, 1) := by decide +kernel
theorem dX6_isRest_11 : decode cX6_isRest 11 = .ok (.iload 4, 2) := by decide +kernel
theorem dX6_isRest_13 : decode cX6_isRest 13 = .ok (.invokestatic 99, 3) := by decide +kernel
theorem dX6_isRest_16 : decode cX6_isRest 16 = .ok (.ifCond .ne 6, 3) := by decide +kernel
theorem dX6_isRest_19 : decode cX6_isRest 19 = .ok (.goto 34, 3) := by decide +kernel
theorem dX6_isRest_22 : decode cX6_isRest 22 = .ok (.iload_n 1, 1) := by decide +kernel
theorem dX6_isRest_23 : decode cX6_isRest 23 = .ok (.iload 4, 2) := by decide +kernel
theorem dX6_isRest_25 : decode cX6_isRest 25 = .ok (.invokestatic 223, 3) := by decide +kernel
theorem dX6_isRest_28 : decode cX6_isRest 28 = .ok (.ixor, 1) := by decide +kernel
theorem dX6_isRest_29 : decode cX6_isRest 29 = .ok (.istore 5, 2) := by decide +kernel
theorem dX6_isRest_31 : decode cX6_isRest 31 = .ok (.aload_n 0, 1) := by decide +kernel
theorem dX6_isRest_32 : decode cX6_isRest 32 = .ok (.iload 4, 2) := by decide +kernel
theorem dX6_isRest_34 : decode cX6_isRest 34 = .ok (.iload 5, 2) := by decide +kernel
theorem dX6_isRest_36 : decode cX6_isRest 36 = .ok (.iload_n 3, 1) := by decide +kernel
theorem dX6_isRest_37 : decode cX6_isRest 37 = .ok (.invokevirtual 277, 3) := by decide +kernel
theorem dX6_isRest_40 : decode cX6_isRest 40 = .ok (.aload_n 0, 1) := by decide +kernel
theorem dX6_isRest_41 : decode cX6_isRest 41 = .ok (.iload 4, 2) := by decide +kernel
theorem dX6_isRest_43 : decode cX6_isRest 43 = .ok (.iload_n 1, 1) := by decide +kernel
theorem dX6_isRest_44 : decode cX6_isRest 44 = .ok (.iload_n 3, 1) := by decide +kernel
theorem dX6_isRest_45 : decode cX6_isRest 45 = .ok (.invokevirtual 277, 3) := by decide +kernel
theorem dX6_isRest_48 : decode cX6_isRest 48 = .ok (.if_icmp .le 5, 3) := by decide +kernel
theorem dX6_isRest_51 : decode cX6_isRest 51 = .ok (.iconst 0, 1) := by decide +kernel
theorem dX6_isRest_52 : decode cX6_isRest 52 = .ok (.ireturn, 1) := by decide +kernel
theorem dX6_isRest_53 : decode cX6_isRest 53 = .ok (.iinc 4 1, 3) := by decide +kernel
theorem dX6_isRest_56 : decode cX6_isRest 56 = .ok (.goto (-53), 3) := by decide +kernel
theorem dX6_isRest_59 : decode cX6_isRest 59 = .ok (.iconst 1, 1) := by decide +kernel
theorem dX6_isRest_60 : decode cX6_isRest 60 = .ok (.ireturn, 1) := by decide +kernel
theorem dX6_gainOf_0 : decode cX6_gainOf 0 = .ok (.aload_n 0, 1) := by decide +kernel
theorem dX6_gainOf_1 : decode cX6_gainOf 1 = .ok (.getfield 10, 3) := by decide +kernel
theorem dX6_gainOf_4 : decode cX6_gainOf 4 = .ok (.getfield 50, 3) := by decide +kernel
theorem dX6_gainOf_7 : decode cX6_gainOf 7 = .ok (.aload_n 0, 1) := by decide +kernel
theorem dX6_gainOf_8 : decode cX6_gainOf 8 = .ok (.getfield 10, 3) := by decide +kernel
theorem dX6_gainOf_11 : decode cX6_gainOf 11 = .ok (.getfield 50, 3) := by decide +kernel
theorem dX6_gainOf_14 : decode cX6_gainOf 14 = .ok (.iload_n 2, 1) := by decide +kernel
theorem dX6_gainOf_15 : decode cX6_gainOf 15 = .ok (.invokevirtual 281, 3) := by decide +kernel
theorem dX6_gainOf_18 : decode cX6_gainOf 18 = .ok (.iload_n 1, 1) := by decide +kernel
theorem dX6_gainOf_19 : decode cX6_gainOf 19 = .ok (.invokestatic 223, 3) := by decide +kernel
theorem dX6_gainOf_22 : decode cX6_gainOf 22 = .ok (.invokevirtual 284, 3) := by decide +kernel
theorem dX6_gainOf_25 : decode cX6_gainOf 25 = .ok (.istore 4, 2) := by decide +kernel
theorem dX6_gainOf_27 : decode cX6_gainOf 27 = .ok (.iload_n 2, 1) := by decide +kernel
theorem dX6_gainOf_28 : decode cX6_gainOf 28 = .ok (.iload_n 1, 1) := by decide +kernel
theorem dX6_gainOf_29 : decode cX6_gainOf 29 = .ok (.invokestatic 99, 3) := by decide +kernel
theorem dX6_gainOf_32 : decode cX6_gainOf 32 = .ok (.ifCond .eq 10, 3) := by decide +kernel
theorem dX6_gainOf_35 : decode cX6_gainOf 35 = .ok (.iload 4, 2) := by decide +kernel
theorem dX6_gainOf_37 : decode cX6_gainOf 37 = .ok (.iload_n 3, 1) := by decide +kernel
theorem dX6_gainOf_38 : decode cX6_gainOf 38 = .ok (.isub, 1) := by decide +kernel
theorem dX6_gainOf_39 : decode cX6_gainOf 39 = .ok (.goto 5, 3) := by decide +kernel
theorem dX6_gainOf_42 : decode cX6_gainOf 42 = .ok (.iload 4, 2) := by decide +kernel
theorem dX6_gainOf_44 : decode cX6_gainOf 44 = .ok (.ireturn, 1) := by decide +kernel
theorem dX6_worthIfHeated_0 : decode cX6_worthIfHeated 0 = .ok (.aload_n 0, 1) := by decide +kernel
theorem dX6_worthIfHeated_1 : decode cX6_worthIfHeated 1 = .ok (.getfield 10, 3) := by decide +kernel
theorem dX6_worthIfHeated_4 : decode cX6_worthIfHeated 4 = .ok (.getfield 50, 3) := by decide +kernel
theorem dX6_worthIfHeated_7 : decode cX6_worthIfHeated 7 = .ok (.aload_n 0, 1) := by decide +kernel
theorem dX6_worthIfHeated_8 : decode cX6_worthIfHeated 8 = .ok (.getfield 10, 3) := by decide +kernel
theorem dX6_worthIfHeated_11 : decode cX6_worthIfHeated 11 = .ok (.getfield 50, 3) := by decide +kernel
theorem dX6_worthIfHeated_14 : decode cX6_worthIfHeated 14 = .ok (.iload_n 1, 1) := by decide +kernel
theorem dX6_worthIfHeated_15 : decode cX6_worthIfHeated 15 = .ok (.invokevirtual 281, 3) := by decide +kernel
theorem dX6_worthIfHeated_18 : decode cX6_worthIfHeated 18 = .ok (.bipush 63, 2) := by decide +kernel
theorem dX6_worthIfHeated_20 : decode cX6_worthIfHeated 20 = .ok (.invokevirtual 284, 3) := by decide +kernel
theorem dX6_worthIfHeated_23 : decode cX6_worthIfHeated 23 = .ok (.ireturn, 1) := by decide +kernel
theorem dX6_isFactFor_0 : decode cX6_isFactFor 0 = .ok (.iload_n 0, 1) := by decide +kernel
theorem dX6_isFactFor_1 : decode cX6_isFactFor 1 = .ok (.tableswitch 62 0 3 #[31, 39, 47, 55], 31) := by decide +kernel
theorem dX6_isFactFor_32 : decode cX6_isFactFor 32 = .ok (.iload_n 1, 1) := by decide +kernel
theorem dX6_isFactFor_33 : decode cX6_isFactFor 33 = .ok (.iconst 1, 1) := by decide +kernel
theorem dX6_isFactFor_34 : decode cX6_isFactFor 34 = .ok (.bipush 9, 2) := by decide +kernel
theorem dX6_isFactFor_36 : decode cX6_isFactFor 36 = .ok (.invokestatic 57, 3) := by decide +kernel
theorem dX6_isFactFor_39 : decode cX6_isFactFor 39 = .ok (.ireturn, 1) := by decide +kernel
theorem dX6_isFactFor_40 : decode cX6_isFactFor 40 = .ok (.iload_n 1, 1) := by decide +kernel
theorem dX6_isFactFor_41 : decode cX6_isFactFor 41 = .ok (.iconst 0, 1) := by decide +kernel
theorem dX6_isFactFor_42 : decode cX6_isFactFor 42 = .ok (.bipush 9, 2) := by decide +kernel
theorem dX6_isFactFor_44 : decode cX6_isFactFor 44 = .ok (.invokestatic 57, 3) := by decide +kernel
theorem dX6_isFactFor_47 : decode cX6_isFactFor 47 = .ok (.ireturn, 1) := by decide +kernel
theorem dX6_isFactFor_48 : decode cX6_isFactFor 48 = .ok (.iload_n 1, 1) := by decide +kernel
theorem dX6_isFactFor_49 : decode cX6_isFactFor 49 = .ok (.iconst 0, 1) := by decide +kernel
theorem dX6_isFactFor_50 : decode cX6_isFactFor 50 = .ok (.bipush 99, 2) := by decide +kernel
theorem dX6_isFactFor_52 : decode cX6_isFactFor 52 = .ok (.invokestatic 57, 3) := by decide +kernel
theorem dX6_isFactFor_55 : decode cX6_isFactFor 55 = .ok (.ireturn, 1) := by decide +kernel
theorem dX6_isFactFor_56 : decode cX6_isFactFor 56 = .ok (.iload_n 1, 1) := by decide +kernel
theorem dX6_isFactFor_57 : decode cX6_isFactFor 57 = .ok (.iconst 0, 1) := by decide +kernel
theorem dX6_isFactFor_58 : decode cX6_isFactFor 58 = .ok (.iconst 5, 1) := by decide +kernel
theorem dX6_isFactFor_59 : decode cX6_isFactFor 59 = .ok (.invokestatic 57, 3) := by decide +kernel
theorem dX6_isFactFor_62 : decode cX6_isFactFor 62 = .ok (.ireturn, 1) := by decide +kernel
theorem dX6_isFactFor_63 : decode cX6_isFactFor 63 = .ok (.iconst 0, 1) := by decide +kernel
theorem dX6_isFactFor_64 : decode cX6_isFactFor 64 = .ok (.ireturn, 1) := by decide +kernel
theorem dX6_isHouseSign_0 : decode cX6_isHouseSign 0 = .ok (.iload_n 0, 1) := by decide +kernel
theorem dX6_isHouseSign_1 : decode cX6_isHouseSign 1 = .ok (.bipush 65, 2) := by decide +kernel
theorem dX6_isHouseSign_3 : decode cX6_isHouseSign 3 = .ok (.bipush 70, 2) := by decide +kernel
theorem dX6_isHouseSign_5 : decode cX6_isHouseSign 5 = .ok (.invokestatic 57, 3) := by decide +kernel
theorem dX6_isHouseSign_8 : decode cX6_isHouseSign 8 = .ok (.ireturn, 1) := by decide +kernel
theorem dX6_isWithin_0 : decode cX6_isWithin 0 = .ok (.iload_n 0, 1) := by decide +kernel
theorem dX6_isWithin_1 : decode cX6_isWithin 1 = .ok (.iload_n 1, 1) := by decide +kernel
theorem dX6_isWithin_2 : decode cX6_isWithin 2 = .ok (.if_icmp .lt 12, 3) := by decide +kernel
theorem dX6_isWithin_5 : decode cX6_isWithin 5 = .ok (.iload_n 0, 1) := by decide +kernel
theorem dX6_isWithin_6 : decode cX6_isWithin 6 = .ok (.iload_n 2, 1) := by decide +kernel
theorem dX6_isWithin_7 : decode cX6_isWithin 7 = .ok (.if_icmp .gt 7, 3) := by decide +kernel
theorem dX6_isWithin_10 : decode cX6_isWithin 10 = .ok (.iconst 1, 1) := by decide +kernel
theorem dX6_isWithin_11 : decode cX6_isWithin 11 = .ok (.goto 4, 3) := by decide +kernel
theorem dX6_isWithin_14 : decode cX6_isWithin 14 = .ok (.iconst 0, 1) := by decide +kernel
theorem dX6_isWithin_15 : decode cX6_isWithin 15 = .ok (.ireturn, 1) := by decide +kernel
theorem dX6_bit_0 : decode cX6_bit 0 = .ok (.iconst 1, 1) := by decide +kernel
theorem dX6_bit_1 : decode cX6_bit 1 = .ok (.iload_n 0, 1) := by decide +kernel
theorem dX6_bit_2 : decode cX6_bit 2 = .ok (.ishl, 1) := by decide +kernel
theorem dX6_bit_3 : decode cX6_bit 3 = .ok (.ireturn, 1) := by decide +kernel
theorem dX6_hasBit_0 : decode cX6_hasBit 0 = .ok (.iload_n 0, 1) := by decide +kernel
theorem dX6_hasBit_1 : decode cX6_hasBit 1 = .ok (.iload_n 1, 1) := by decide +kernel
theorem dX6_hasBit_2 : decode cX6_hasBit 2 = .ok (.ishr, 1) := by decide +kernel
theorem dX6_hasBit_3 : decode cX6_hasBit 3 = .ok (.iconst 1, 1) := by decide +kernel
theorem dX6_hasBit_4 : decode cX6_hasBit 4 = .ok (.iand, 1) := by decide +kernel
theorem dX6_hasBit_5 : decode cX6_hasBit 5 = .ok (.ifCond .eq 7, 3) := by decide +kernel
theorem dX6_hasBit_8 : decode cX6_hasBit 8 = .ok (.iconst 1, 1) := by decide +kernel
theorem dX6_hasBit_9 : decode cX6_hasBit 9 = .ok (.goto 4, 3) := by decide +kernel
theorem dX6_hasBit_12 : decode cX6_hasBit 12 = .ok (.iconst 0, 1) := by decide +kernel
theorem dX6_hasBit_13 : decode cX6_hasBit 13 = .ok (.ireturn, 1) := by decide +kernel
theorem dX6_at_0 : decode cX6_at 0 = .ok (.aload_n 0, 1) := by decide +kernel
theorem dX6_at_1 : decode cX6_at 1 = .ok (.ifnull 19, 3) := by decide +kernel
theorem dX6_at_4 : decode cX6_at 4 = .ok (.iload_n 1, 1) := by decide +kernel
theorem dX6_at_5 : decode cX6_at 5 = .ok (.ifCond .lt 15, 3) := by decide +kernel
theorem dX6_at_8 : decode cX6_at 8 = .ok (.iload_n 1, 1) := by decide +kernel
theorem dX6_at_9 : decode cX6_at 9 = .ok (.aload_n 0, 1) := by decide +kernel
theorem dX6_at_10 : decode cX6_at 10 = .ok (.arraylength, 1) := by decide +kernel
theorem dX6_at_11 : decode cX6_at 11 = .ok (.if_icmp .ge 9, 3) := by decide +kernel
theorem dX6_at_14 : decode cX6_at 14 = .ok (.aload_n 0, 1) := by decide +kernel
theorem dX6_at_15 : decode cX6_at 15 = .ok (.iload_n 1, 1) := by decide +kernel
theorem dX6_at_16 : decode cX6_at 16 = .ok (.iaload, 1) := by decide +kernel
theorem dX6_at_17 : decode cX6_at 17 = .ok (.goto 4, 3) := by decide +kernel
theorem dX6_at_20 : decode cX6_at 20 = .ok (.iconst 0, 1) := by decide +kernel
theorem dX6_at_21 : decode cX6_at 21 = .ok (.ireturn, 1) := by decide +kernel
theorem dX6_put_0 : decode cX6_put 0 = .ok (.aload_n 0, 1) := by decide +kernel
theorem dX6_put_1 : decode cX6_put 1 = .ok (.ifnull 17, 3) := by decide +kernel
theorem dX6_put_4 : decode cX6_put 4 = .ok (.iload_n 1, 1) := by decide +kernel
theorem dX6_put_5 : decode cX6_put 5 = .ok (.ifCond .lt 13, 3) := by decide +kernel
theorem dX6_put_8 : decode cX6_put 8 = .ok (.iload_n 1, 1) := by decide +kernel
theorem dX6_put_9 : decode cX6_put 9 = .ok (.aload_n 0, 1) := by decide +kernel
theorem dX6_put_10 : decode cX6_put 10 = .ok (.arraylength, 1) := by decide +kernel
theorem dX6_put_11 : decode cX6_put 11 = .ok (.if_icmp .ge 7, 3) := by decide +kernel
theorem dX6_put_14 : decode cX6_put 14 = .ok (.aload_n 0, 1) := by decide +kernel
theorem dX6_put_15 : decode cX6_put 15 = .ok (.iload_n 1, 1) := by decide +kernel
theorem dX6_put_16 : decode cX6_put 16 = .ok (.iload_n 2, 1) := by decide +kernel
theorem dX6_put_17 : decode cX6_put 17 = .ok (.iastore, 1) := by decide +kernel
theorem dX6_put_18 : decode cX6_put 18 = .ok (.return_, 1) := by decide +kernel
theorem dX6_putAll_0 : decode cX6_putAll 0 = .ok (.iconst 0, 1) := by decide +kernel
theorem dX6_putAll_1 : decode cX6_putAll 1 = .ok (.istore_n 2, 1) := by decide +kernel
theorem dX6_putAll_2 : decode cX6_putAll 2 = .ok (.aload_n 0, 1) := by decide +kernel
theorem dX6_putAll_3 : decode cX6_putAll 3 = .ok (.ifnull 19, 3) := by decide +kernel
theorem dX6_putAll_6 : decode cX6_putAll 6 = .ok (.iload_n 2, 1) := by decide +kernel
theorem dX6_putAll_7 : decode cX6_putAll 7 = .ok (.aload_n 0, 1) := by decide +kernel
theorem dX6_putAll_8 : decode cX6_putAll 8 = .ok (.arraylength, 1) := by decide +kernel
theorem dX6_putAll_9 : decode cX6_putAll 9 = .ok (.if_icmp .ge 13, 3) := by decide +kernel
theorem dX6_putAll_12 : decode cX6_putAll 12 = .ok (.aload_n 0, 1) := by decide +kernel
theorem dX6_putAll_13 : decode cX6_putAll 13 = .ok (.iload_n 2, 1) := by decide +kernel
theorem dX6_putAll_14 : decode cX6_putAll 14 = .ok (.iload_n 1, 1) := by decide +kernel
theorem dX6_putAll_15 : decode cX6_putAll 15 = .ok (.iastore, 1) := by decide +kernel
theorem dX6_putAll_16 : decode cX6_putAll 16 = .ok (.iinc 2 1, 3) := by decide +kernel
theorem dX6_putAll_19 : decode cX6_putAll 19 = .ok (.goto (-17), 3) := by decide +kernel
theorem dX6_putAll_22 : decode cX6_putAll 22 = .ok (.return_, 1) := by decide +kernel
theorem dX6_copyRow_0 : decode cX6_copyRow 0 = .ok (.aload_n 0, 1) := by decide +kernel
theorem dX6_copyRow_1 : decode cX6_copyRow 1 = .ok (.ifnull 7, 3) := by decide +kernel
theorem dX6_copyRow_4 : decode cX6_copyRow 4 = .ok (.aload_n 1, 1) := by decide +kernel
theorem dX6_copyRow_5 : decode cX6_copyRow 5 = .ok (.ifnonnull 4, 3) := by decide +kernel
theorem dX6_copyRow_8 : decode cX6_copyRow 8 = .ok (.return_, 1) := by decide +kernel
theorem dX6_copyRow_9 : decode cX6_copyRow 9 = .ok (.iconst 0, 1) := by decide +kernel
theorem dX6_copyRow_10 : decode cX6_copyRow 10 = .ok (.istore_n 2, 1) := by decide +kernel
theorem dX6_copyRow_11 : decode cX6_copyRow 11 = .ok (.iload_n 2, 1) := by decide +kernel
theorem dX6_copyRow_12 : decode cX6_copyRow 12 = .ok (.aload_n 0, 1) := by decide +kernel
theorem dX6_copyRow_13 : decode cX6_copyRow 13 = .ok (.arraylength, 1) := by decide +kernel
theorem dX6_copyRow_14 : decode cX6_copyRow 14 = .ok (.if_icmp .ge 21, 3) := by decide +kernel
theorem dX6_copyRow_17 : decode cX6_copyRow 17 = .ok (.iload_n 2, 1) := by decide +kernel
theorem dX6_copyRow_18 : decode cX6_copyRow 18 = .ok (.aload_n 1, 1) := by decide +kernel
theorem dX6_copyRow_19 : decode cX6_copyRow 19 = .ok (.arraylength, 1) := by decide +kernel
theorem dX6_copyRow_20 : decode cX6_copyRow 20 = .ok (.if_icmp .ge 15, 3) := by decide +kernel
theorem dX6_copyRow_23 : decode cX6_copyRow 23 = .ok (.aload_n 1, 1) := by decide +kernel
theorem dX6_copyRow_24 : decode cX6_copyRow 24 = .ok (.iload_n 2, 1) := by decide +kernel
theorem dX6_copyRow_25 : decode cX6_copyRow 25 = .ok (.aload_n 0, 1) := by decide +kernel
theorem dX6_copyRow_26 : decode cX6_copyRow 26 = .ok (.iload_n 2, 1) := by decide +kernel
theorem dX6_copyRow_27 : decode cX6_copyRow 27 = .ok (.iaload, 1) := by decide +kernel
theorem dX6_copyRow_28 : decode cX6_copyRow 28 = .ok (.iastore, 1) := by decide +kernel
theorem dX6_copyRow_29 : decode cX6_copyRow 29 = .ok (.iinc 2 1, 3) := by decide +kernel
theorem dX6_copyRow_32 : decode cX6_copyRow 32 = .ok (.goto (-21), 3) := by decide +kernel
theorem dX6_copyRow_35 : decode cX6_copyRow 35 = .ok (.return_, 1) := by decide +kernel
theorem dX6_lowest_0 : decode cX6_lowest 0 = .ok (.lload_n 0, 1) := by decide +kernel
theorem dX6_lowest_1 : decode cX6_lowest 1 = .ok (.lload_n 2, 1) := by decide +kernel
theorem dX6_lowest_2 : decode cX6_lowest 2 = .ok (.invokestatic 287, 3) := by decide +kernel
theorem dX6_lowest_5 : decode cX6_lowest 5 = .ok (.lstore 5, 2) := by decide +kernel
theorem dX6_lowest_7 : decode cX6_lowest 7 = .ok (.lload 5, 2) := by decide +kernel
theorem dX6_lowest_9 : decode cX6_lowest 9 = .ok (.lconst 0, 1) := by decide +kernel
theorem dX6_lowest_10 : decode cX6_lowest 10 = .ok (.lcmp, 1) := by decide +kernel
theorem dX6_lowest_11 : decode cX6_lowest 11 = .ok (.ifCond .ne 5, 3) := by decide +kernel
theorem dX6_lowest_14 : decode cX6_lowest 14 = .ok (.lconst 0, 1) := by decide +kernel
theorem dX6_lowest_15 : decode cX6_lowest 15 = .ok (.lreturn, 1) := by decide +kernel
theorem dX6_lowest_16 : decode cX6_lowest 16 = .ok (.iload 4, 2) := by decide +kernel
theorem dX6_lowest_18 : decode cX6_lowest 18 = .ok (.ifCond .ne 7, 3) := by decide +kernel
theorem dX6_lowest_21 : decode cX6_lowest 21 = .ok (.lload_n 0, 1) := by decide +kernel
theorem dX6_lowest_22 : decode cX6_lowest 22 = .ok (.goto 4, 3) := by decide +kernel
theorem dX6_lowest_25 : decode cX6_lowest 25 = .ok (.lload_n 2, 1) := by decide +kernel
theorem dX6_lowest_26 : decode cX6_lowest 26 = .ok (.lload 5, 2) := by decide +kernel
theorem dX6_lowest_28 : decode cX6_lowest 28 = .ok (.ldiv, 1) := by decide +kernel
theorem dX6_lowest_29 : decode cX6_lowest 29 = .ok (.lreturn, 1) := by decide +kernel
theorem dX6_commonDivisor_0 : decode cX6_commonDivisor 0 = .ok (.iconst 0, 1) := by decide +kernel
theorem dX6_commonDivisor_1 : decode cX6_commonDivisor 1 = .ok (.istore 4, 2) := by decide +kernel
theorem dX6_commonDivisor_3 : decode cX6_commonDivisor 3 = .ok (.iload 4, 2) := by decide +kernel
theorem dX6_commonDivisor_5 : decode cX6_commonDivisor 5 = .ok (.sipush 1000, 3) := by decide +kernel
theorem dX6_commonDivisor_8 : decode cX6_commonDivisor 8 = .ok (.if_icmp .ge 25, 3) := by decide +kernel
theorem dX6_commonDivisor_11 : decode cX6_commonDivisor 11 = .ok (.lload_n 2, 1) := by decide +kernel
theorem dX6_commonDivisor_12 : decode cX6_commonDivisor 12 = .ok (.lconst 0, 1) := by decide +kernel
theorem dX6_commonDivisor_13 : decode cX6_commonDivisor 13 = .ok (.lcmp, 1) := by decide +kernel
theorem dX6_commonDivisor_14 : decode cX6_commonDivisor 14 = .ok (.ifCond .eq 19, 3) := by decide +kernel
theorem dX6_commonDivisor_17 : decode cX6_commonDivisor 17 = .ok (.lload_n 0, 1) := by decide +kernel
theorem dX6_commonDivisor_18 : decode cX6_commonDivisor 18 = .ok (.lload_n 2, 1) := by decide +kernel
theorem dX6_commonDivisor_19 : decode cX6_commonDivisor 19 = .ok (.lrem, 1) := by decide +kernel
theorem dX6_commonDivisor_20 : decode cX6_commonDivisor 20 = .ok (.lstore 5, 2) := by decide +kernel
theorem dX6_commonDivisor_22 : decode cX6_commonDivisor 22 = .ok (.lload_n 2, 1) := by decide +kernel
theorem dX6_commonDivisor_23 : decode cX6_commonDivisor 23 = .ok (.lstore_n 0, 1) := by decide +kernel
theorem dX6_commonDivisor_24 : decode cX6_commonDivisor 24 = .ok (.lload 5, 2) := by decide +kernel
theorem dX6_commonDivisor_26 : decode cX6_commonDivisor 26 = .ok (.lstore_n 2, 1) := by decide +kernel
theorem dX6_commonDivisor_27 : decode cX6_commonDivisor 27 = .ok (.iinc 4 1, 3) := by decide +kernel
theorem dX6_commonDivisor_30 : decode cX6_commonDivisor 30 = .ok (.goto (-27), 3) := by decide +kernel
theorem dX6_commonDivisor_33 : decode cX6_commonDivisor 33 = .ok (.lload_n 0, 1) := by decide +kernel
theorem dX6_commonDivisor_34 : decode cX6_commonDivisor 34 = .ok (.lreturn, 1) := by decide +kernel
theorem dX7_init_0 : decode cX7_init 0 = .ok (.aload_n 0, 1) := by decide +kernel
theorem dX7_init_1 : decode cX7_init 1 = .ok (.invokespecial 1, 3) := by decide +kernel
theorem dX7_init_4 : decode cX7_init 4 = .ok (.aload_n 0, 1) := by decide +kernel
theorem dX7_init_5 : decode cX7_init 5 = .ok (.bipush 7, 2) := by decide +kernel
theorem dX7_init_7 : decode cX7_init 7 = .ok (.newarray .int, 2) := by decide +kernel
theorem dX7_init_9 : decode cX7_init 9 = .ok (.putfield 7, 3) := by decide +kernel
theorem dX7_init_12 : decode cX7_init 12 = .ok (.aload_n 0, 1) := by decide +kernel
theorem dX7_init_13 : decode cX7_init 13 = .ok (.bipush 7, 2) := by decide +kernel
theorem dX7_init_15 : decode cX7_init 15 = .ok (.newarray .int, 2) := by decide +kernel
theorem dX7_init_17 : decode cX7_init 17 = .ok (.putfield 13, 3) := by decide +kernel
theorem dX7_init_20 : decode cX7_init 20 = .ok (.aload_n 0, 1) := by decide +kernel
theorem dX7_init_21 : decode cX7_init 21 = .ok (.bipush 7, 2) := by decide +kernel
theorem dX7_init_23 : decode cX7_init 23 = .ok (.newarray .int, 2) := by decide +kernel
theorem dX7_init_25 : decode cX7_init 25 = .ok (.putfield 16, 3) := by decide +kernel
theorem dX7_init_28 : decode cX7_init 28 = .ok (.aload_n 0, 1) := by decide +kernel
theorem dX7_init_29 : decode cX7_init 29 = .ok (.bipush 7, 2) := by decide +kernel
theorem dX7_init_31 : decode cX7_init 31 = .ok (.newarray .int, 2) := by decide +kernel
theorem dX7_init_33 : decode cX7_init 33 = .ok (.putfield 19, 3) := by decide +kernel
theorem dX7_init_36 : decode cX7_init 36 = .ok (.aload_n 0, 1) := by decide +kernel
theorem dX7_init_37 : decode cX7_init 37 = .ok (.bipush 7, 2) := by decide +kernel
theorem dX7_init_39 : decode cX7_init 39 = .ok (.newarray .int, 2) := by decide +kernel
theorem dX7_init_41 : decode cX7_init 41 = .ok (.putfield 22, 3) := by decide +kernel
theorem dX7_init_44 : decode cX7_init 44 = .ok (.aload_n 0, 1) := by decide +kernel
theorem dX7_init_45 : decode cX7_init 45 = .ok (.bipush 7, 2) := by decide +kernel
theorem dX7_init_47 : decode cX7_init 47 = .ok (.newarray .int, 2) := by decide +kernel
theorem dX7_init_49 : decode cX7_init 49 = .ok (.putfield 25, 3) := by decide +kernel
theorem dX7_init_52 : decode cX7_init 52 = .ok (.aload_n 0, 1) := by decide +kernel
theorem dX7_init_53 : decode cX7_init 53 = .ok (.bipush 12, 2) := by decide +kernel
theorem dX7_init_55 : decode cX7_init 55 = .ok (.newarray .int, 2) := by decide +kernel
theorem dX7_init_57 : decode cX7_init 57 = .ok (.putfield 28, 3) := by decide +kernel
theorem dX7_init_60 : decode cX7_init 60 = .ok (.aload_n 0, 1) := by decide +kernel
theorem dX7_init_61 : decode cX7_init 61 = .ok (.bipush 12, 2) := by decide +kernel
theorem dX7_init_63 : decode cX7_init 63 = .ok (.newarray .int, 2) := by decide +kernel
theorem dX7_init_65 : decode cX7_init 65 = .ok (.putfield 31, 3) := by decide +kernel
theorem dX7_init_68 : decode cX7_init 68 = .ok (.aload_n 0, 1) := by decide +kernel
theorem dX7_init_69 : decode cX7_init 69 = .ok (.bipush 12, 2) := by decide +kernel
theorem dX7_init_71 : decode cX7_init 71 = .ok (.newarray .int, 2) := by decide +kernel
theorem dX7_init_73 : decode cX7_init 73 = .ok (.putfield 34, 3) := by decide +kernel
theorem dX7_init_76 : decode cX7_init 76 = .ok (.aload_n 0, 1) := by decide +kernel
theorem dX7_init_77 : decode cX7_init 77 = .ok (.bipush 7, 2) := by decide +kernel
theorem dX7_init_79 : decode cX7_init 79 = .ok (.newarray .int, 2) := by decide +kernel
theorem dX7_init_81 : decode cX7_init 81 = .ok (.putfield 37, 3) := by decide +kernel
theorem dX7_init_84 : decode cX7_init 84 = .ok (.aload_n 0, 1) := by decide +kernel
theorem dX7_init_85 : decode cX7_init 85 = .ok (.bipush 7, 2) := by decide +kernel
theorem dX7_init_87 : decode cX7_init 87 = .ok (.newarray .int, 2) := by decide +kernel
theorem dX7_init_89 : decode cX7_init 89 = .ok (.putfield 40, 3) := by decide +kernel
theorem dX7_init_92 : decode cX7_init 92 = .ok (.aload_n 0, 1) := by decide +kernel
theorem dX7_init_93 : decode cX7_init 93 = .ok (.bipush 60, 2) := by decide +kernel
theorem dX7_init_95 : decode cX7_init 95 = .ok (.newarray .int, 2) := by decide +kernel
theorem dX7_init_97 : decode cX7_init 97 = .ok (.putfield 43, 3) := by decide +kernel
theorem dX7_init_100 : decode cX7_init 100 = .ok (.aload_n 0, 1) := by decide +kernel
theorem dX7_init_101 : decode cX7_init 101 = .ok (.bipush 60, 2) := by decide +kernel
theorem dX7_init_103 : decode cX7_init 103 = .ok (.newarray .int, 2) := by decide +kernel
theorem dX7_init_105 : decode cX7_init 105 = .ok (.putfield 46, 3) := by decide +kernel
theorem dX7_init_108 : decode cX7_init 108 = .ok (.aload_n 0, 1) := by decide +kernel
theorem dX7_init_109 : decode cX7_init 109 = .ok (.bipush 60, 2) := by decide +kernel
theorem dX7_init_111 : decode cX7_init 111 = .ok (.newarray .int, 2) := by decide +kernel
theorem dX7_init_113 : decode cX7_init 113 = .ok (.putfield 49, 3) := by decide +kernel
theorem dX7_init_116 : decode cX7_init 116 = .ok (.aload_n 0, 1) := by decide +kernel
theorem dX7_init_117 : decode cX7_init 117 = .ok (.bipush 60, 2) := by decide +kernel
theorem dX7_init_119 : decode cX7_init 119 = .ok (.newarray .int, 2) := by decide +kernel
theorem dX7_init_121 : decode cX7_init 121 = .ok (.putfield 52, 3) := by decide +kernel
theorem dX7_init_124 : decode cX7_init 124 = .ok (.aload_n 0, 1) := by decide +kernel
theorem dX7_init_125 : decode cX7_init 125 = .ok (.bipush 7, 2) := by decide +kernel
theorem dX7_init_127 : decode cX7_init 127 = .ok (.newarray .int, 2) := by decide +kernel
theorem dX7_init_129 : decode cX7_init 129 = .ok (.putfield 55, 3) := by decide +kernel
theorem dX7_init_132 : decode cX7_init 132 = .ok (.aload_n 0, 1) := by decide +kernel
theorem dX7_init_133 : decode cX7_init 133 = .ok (.bipush 7, 2) := by decide +kernel
theorem dX7_init_135 : decode cX7_init 135 = .ok (.newarray .int, 2) := by decide +kernel
theorem dX7_init_137 : decode cX7_init 137 = .ok (.putfield 58, 3) := by decide +kernel
theorem dX7_init_140 : decode cX7_init 140 = .ok (.aload_n 0, 1) := by decide +kernel
theorem dX7_init_141 : decode cX7_init 141 = .ok (.bipush 22, 2) := by decide +kernel
theorem dX7_init_143 : decode cX7_init 143 = .ok (.newarray .int, 2) := by decide +kernel
theorem dX7_init_145 : decode cX7_init 145 = .ok (.putfield 61, 3) := by decide +kernel
theorem dX7_init_148 : decode cX7_init 148 = .ok (.aload_n 0, 1) := by decide +kernel
theorem dX7_init_149 : decode cX7_init 149 = .ok (.bipush 21, 2) := by decide +kernel
theorem dX7_init_151 : decode cX7_init 151 = .ok (.newarray .int, 2) := by decide +kernel
theorem dX7_init_153 : decode cX7_init 153 = .ok (.putfield 64, 3) := by decide +kernel
theorem dX7_init_156 : decode cX7_init 156 = .ok (.aload_n 0, 1) := by decide +kernel
theorem dX7_init_157 : decode cX7_init 157 = .ok (.bipush 7, 2) := by decide +kernel
theorem dX7_init_159 : decode cX7_init 159 = .ok (.newarray .int, 2) := by decide +kernel
theorem dX7_init_161 : decode cX7_init 161 = .ok (.putfield 67, 3) := by decide +kernel
theorem dX7_init_164 : decode cX7_init 164 = .ok (.aload_n 0, 1) := by decide +kernel
theorem dX7_init_165 : decode cX7_init 165 = .ok (.bipush 7, 2) := by decide +kernel
theorem dX7_init_167 : decode cX7_init 167 = .ok (.newarray .int, 2) := by decide +kernel
theorem dX7_init_169 : decode cX7_init 169 = .ok (.putfield 70, 3) := by decide +kernel
theorem dX7_init_172 : decode cX7_init 172 = .ok (.aload_n 0, 1) := by decide +kernel
theorem dX7_init_173 : decode cX7_init 173 = .ok (.bipush 49, 2) := by decide +kernel
theorem dX7_init_175 : decode cX7_init 175 = .ok (.newarray .int, 2) := by decide +kernel
theorem dX7_init_177 : decode cX7_init 177 = .ok (.putfield 73, 3) := by decide +kernel
theorem dX7_init_180 : decode cX7_init 180 = .ok (.aload_n 0, 1) := by decide +kernel
theorem dX7_init_181 : decode cX7_init 181 = .ok (.bipush 49, 2) := by decide +kernel
theorem dX7_init_183 : decode cX7_init 183 = .ok (.newarray .int, 2) := by decide +kernel
theorem dX7_init_185 : decode cX7_init 185 = .ok (.putfield 76, 3) := by decide +kernel
theorem dX7_init_188 : decode cX7_init 188 = .ok (.aload_n 0, 1) := by decide +kernel
theorem dX7_init_189 : decode cX7_init 189 = .ok (.bipush 6, 2) := by decide +kernel
theorem dX7_init_191 : decode cX7_init 191 = .ok (.newarray .int, 2) := by decide +kernel
theorem dX7_init_193 : decode cX7_init 193 = .ok (.putfield 79, 3) := by decide +kernel
theorem dX7_init_196 : decode cX7_init 196 = .ok (.aload_n 0, 1) := by decide +kernel
theorem dX7_init_197 : decode cX7_init 197 = .ok (.sipush 240, 3) := by decide +kernel
theorem dX7_init_200 : decode cX7_init 200 = .ok (.newarray .int, 2) := by decide +kernel
theorem dX7_init_202 : decode cX7_init 202 = .ok (.putfield 82, 3) := by decide +kernel
theorem dX7_init_205 : decode cX7_init 205 = .ok (.aload_n 0, 1) := by decide +kernel
theorem dX7_init_206 : decode cX7_init 206 = .ok (.iconst 2, 1) := by decide +kernel
theorem dX7_init_207 : decode cX7_init 207 = .ok (.newarray .boolean, 2) := by decide +kernel
theorem dX7_init_209 : decode cX7_init 209 = .ok (.putfield 85, 3) := by decide +kernel
theorem dX7_init_212 : decode cX7_init 212 = .ok (.aload_n 0, 1) := by decide +kernel
theorem dX7_init_213 : decode cX7_init 213 = .ok (.iconst 4, 1) := by decide +kernel
theorem dX7_init_214 : decode cX7_init 214 = .ok (.invokevirtual 89, 3) := by decide +kernel
theorem dX7_init_217 : decode cX7_init 217 = .ok (.return_, 1) := by decide +kernel
theorem dX7_in_0 : decode cX7_in 0 = .ok (.lload_n 0, 1) := by decide +kernel
theorem dX7_in_1 : decode cX7_in 1 = .ok (.lload_n 2, 1) := by decide +kernel
theorem dX7_in_2 : decode cX7_in 2 = .ok (.lcmp, 1) := by decide +kernel
theorem dX7_in_3 : decode cX7_in 3 = .ok (.ifCond .lt 14, 3) := by decide +kernel
theorem dX7_in_6 : decode cX7_in 6 = .ok (.lload_n 0, 1) := by decide +kernel
theorem dX7_in_7 : decode cX7_in 7 = .ok (.lload 4, 2) := by decide +kernel
theorem dX7_in_9 : decode cX7_in 9 = .ok (.lcmp, 1) := by decide +kernel
theorem dX7_in_10 : decode cX7_in 10 = .ok (.ifCond .gt 7, 3) := by decide +kernel
theorem dX7_in_13 : decode cX7_in 13 = .ok (.iconst 1, 1) := by decide +kernel
theorem dX7_in_14 : decode cX7_in 14 = .ok (.goto 4, 3) := by decide +kernel
theorem dX7_in_17 : decode cX7_in 17 = .ok (.iconst 0, 1) := by decide +kernel
theorem dX7_in_18 : decode cX7_in 18 = .ok (.ireturn, 1) := by decide +kernel
theorem dX7_ones_0 : decode cX7_ones 0 = .ok (.iconst 0, 1) := by decide +kernel
theorem dX7_ones_1 : decode cX7_ones 1 = .ok (.istore_n 1, 1) := by decide +kernel
theorem dX7_ones_2 : decode cX7_ones 2 = .ok (.iload_n 0, 1) := by decide +kernel
theorem dX7_ones_3 : decode cX7_ones 3 = .ok (.istore_n 2, 1) := by decide +kernel
theorem dX7_ones_4 : decode cX7_ones 4 = .ok (.iload_n 2, 1) := by decide +kernel
theorem dX7_ones_5 : decode cX7_ones 5 = .ok (.ifCond .eq 15, 3) := by decide +kernel
theorem dX7_ones_8 : decode cX7_ones 8 = .ok (.iinc 1 1, 3) := by decide +kernel
theorem dX7_ones_11 : decode cX7_ones 11 = .ok (.iload_n 2, 1) := by decide +kernel
theorem dX7_ones_12 : decode cX7_ones 12 = .ok (.iload_n 2, 1) := by decide +kernel
theorem dX7_ones_13 : decode cX7_ones 13 = .ok (.iconst 1, 1) := by decide +kernel
theorem dX7_ones_14 : decode cX7_ones 14 = .ok (.isub, 1) := by decide +kernel
theorem dX7_ones_15 : decode cX7_ones 15 = .ok (.iand, 1) := by decide +kernel
theorem dX7_ones_16 : decode cX7_ones 16 = .ok (.istore_n 2, 1) := by decide +kernel
theorem dX7_ones_17 : decode cX7_ones 17 = .ok (.goto (-13), 3) := by decide +kernel
theorem dX7_ones_20 : decode cX7_ones 20 = .ok (.iload_n 1, 1) := by decide +kernel
theorem dX7_ones_21 : decode cX7_ones 21 = .ok (.ireturn, 1) := by decide +kernel
theorem dX7_begin_0 : decode cX7_begin 0 = .ok (.aload_n 0, 1) := by decide +kernel
theorem dX7_begin_1 : decode cX7_begin 1 = .ok (.iload_n 1, 1) := by decide +kernel
theorem dX7_begin_2 : decode cX7_begin 2 = .ok (.putfield 93, 3) := by decide +kernel
theorem dX7_begin_5 : decode cX7_begin 5 = .ok (.aload_n 0, 1) := by decide +kernel
theorem dX7_begin_6 : decode cX7_begin 6 = .ok (.iconst 0, 1) := by decide +kernel
theorem dX7_begin_7 : decode cX7_begin 7 = .ok (.putfield 97, 3) := by decide +kernel
theorem dX7_begin_10 : decode cX7_begin 10 = .ok (.aload_n 0, 1) := by decide +kernel
theorem dX7_begin_11 : decode cX7_begin 11 = .ok (.iconst 0, 1) := by decide +kernel
theorem dX7_begin_12 : decode cX7_begin 12 = .ok (.putfield 100, 3) := by decide +kernel
theorem dX7_begin_15 : decode cX7_begin 15 = .ok (.aload_n 0, 1) := by decide +kernel
theorem dX7_begin_16 : decode cX7_begin 16 = .ok (.iconst 0, 1) := by decide +kernel
theorem dX7_begin_17 : decode cX7_begin 17 = .ok (.putfield 103, 3) := by decide +kernel
theorem dX7_begin_20 : decode cX7_begin 20 = .ok (.iconst 0, 1) := by decide +kernel
theorem dX7_begin_21 : decode cX7_begin 21 = .ok (.istore_n 2, 1) := by decide +kernel
theorem dX7_begin_22 : decode cX7_begin 22 = .ok (.iload_n 2, 1) := by decide +kernel
theorem dX7_begin_23 : decode cX7_begin 23 = .ok (.bipush 7, 2) := by decide +kernel
theorem dX7_begin_25 : decode cX7_begin 25 = .ok (.if_icmp .ge 54, 3) := by decide +kernel
theorem dX7_begin_28 : decode cX7_begin 28 = .ok (.aload_n 0, 1) := by decide +kernel
theorem dX7_begin_29 : decode cX7_begin 29 = .ok (.getfield 7, 3) := by decide +kernel
theorem dX7_begin_32 : decode cX7_begin 32 = .ok (.iload_n 2, 1) := by decide +kernel
theorem dX7_begin_33 : decode cX7_begin 33 = .ok (.iconst 3, 1) := by decide +kernel
theorem dX7_begin_34 : decode cX7_begin 34 = .ok (.iastore, 1) := by decide +kernel
theorem dX7_begin_35 : decode cX7_begin 35 = .ok (.aload_n 0, 1) := by decide +kernel
theorem dX7_begin_36 : decode cX7_begin 36 = .ok (.getfield 13, 3) := by decide +kernel
theorem dX7_begin_39 : decode cX7_begin 39 = .ok (.iload_n 2, 1) := by decide +kernel
theorem dX7_begin_40 : decode cX7_begin 40 = .ok (.iconst 0, 1) := by decide +kernel
theorem dX7_begin_41 : decode cX7_begin 41 = .ok (.iastore, 1) := by decide +kernel
theorem dX7_begin_42 : decode cX7_begin 42 = .ok (.aload_n 0, 1) := by decide +kernel
theorem dX7_begin_43 : decode cX7_begin 43 = .ok (.getfield 16, 3) := by decide +kernel
theorem dX7_begin_46 : decode cX7_begin 46 = .ok (.iload_n 2, 1) := by decide +kernel
theorem dX7_begin_47 : decode cX7_begin 47 = .ok (.iconst 1, 1) := by decide +kernel
theorem dX7_begin_48 : decode cX7_begin 48 = .ok (.iastore, 1) := by decide +kernel
theorem dX7_begin_49 : decode cX7_begin 49 = .ok (.aload_n 0, 1) := by decide +kernel
theorem dX7_begin_50 : decode cX7_begin 50 = .ok (.getfield 19, 3) := by decide +kernel
theorem dX7_begin_53 : decode cX7_begin 53 = .ok (.iload_n 2, 1) := by decide +kernel
theorem dX7_begin_54 : decode cX7_begin 54 = .ok (.iload_n 2, 1) := by decide +kernel
theorem dX7_begin_55 : decode cX7_begin 55 = .ok (.bipush 6, 2) := by decide +kernel
theorem dX7_begin_57 : decode cX7_begin 57 = .ok (.irem, 1) := by decide +kernel
theorem dX7_begin_58 : decode cX7_begin 58 = .ok (.iastore, 1) := by decide +kernel
theorem dX7_begin_59 : decode cX7_begin 59 = .ok (.aload_n 0, 1) := by decide +kernel
theorem dX7_begin_60 : decode cX7_begin 60 = .ok (.getfield 22, 3) := by decide +kernel
theorem dX7_begin_63 : decode cX7_begin 63 = .ok (.iload_n 2, 1) := by decide +kernel
theorem dX7_begin_64 : decode cX7_begin 64 = .ok (.iconst 0, 1) := by decide +kernel
theorem dX7_begin_65 : decode cX7_begin 65 = .ok (.iastore, 1) := by decide +kernel
theorem dX7_begin_66 : decode cX7_begin 66 = .ok (.aload_n 0, 1) := by decide +kernel
theorem dX7_begin_67 : decode cX7_begin 67 = .ok (.getfield 25, 3) := by decide +kernel
theorem dX7_begin_70 : decode cX7_begin 70 = .ok (.iload_n 2, 1) := by decide +kernel
theorem dX7_begin_71 : decode cX7_begin 71 = .ok (.iload_n 2, 1) := by decide +kernel
theorem dX7_begin_72 : decode cX7_begin 72 = .ok (.iastore, 1) := by decide +kernel
theorem dX7_begin_73 : decode cX7_begin 73 = .ok (.iinc 2 1, 3) := by decide +kernel
theorem dX7_begin_76 : decode cX7_begin 76 = .ok (.goto (-54), 3) := by decide +kernel
theorem dX7_begin_79 : decode cX7_begin 79 = .ok (.return_, 1) := by decide +kernel
theorem dX7_isEgg_0 : decode cX7_isEgg 0 = .ok (.iload_n 1, 1) := by decide +kernel
theorem dX7_isEgg_1 : decode cX7_isEgg 1 = .ok (.i2l, 1) := by decide +kernel
theorem dX7_isEgg_2 : decode cX7_isEgg 2 = .ok (.lconst 0, 1) := by decide +kernel
theorem dX7_isEgg_3 : decode cX7_isEgg 3 = .ok (.aload_n 0, 1) := by decide +kernel
theorem dX7_isEgg_4 : decode cX7_isEgg 4 = .ok (.getfield 93, 3) := by decide +kernel
theorem dX7_isEgg_7 : decode cX7_isEgg 7 = .ok (.iconst 1, 1) := by decide +kernel
theorem dX7_isEgg_8 : decode cX7_isEgg 8 = .ok (.isub, 1) := by decide +kernel
theorem dX7_isEgg_9 : decode cX7_isEgg 9 = .ok (.i2l, 1) := by decide +kernel
theorem dX7_isEgg_10 : decode cX7_isEgg 10 = .ok (.invokestatic 106, 3) := by decide +kernel
theorem dX7_isEgg_13 : decode cX7_isEgg 13 = .ok (.ireturn, 1) := by decide +kernel
theorem dX7_isHouse_0 : decode cX7_isHouse 0 = .ok (.iload_n 0, 1) := by decide +kernel
theorem dX7_isHouse_1 : decode cX7_isHouse 1 = .ok (.i2l, 1) := by decide +kernel
theorem dX7_isHouse_2 : decode cX7_isHouse 2 = .ok (.lconst 0, 1) := by decide +kernel
theorem dX7_isHouse_3 : decode cX7_isHouse 3 = .ok (.ldc2_w 110, 3) := by decide +kernel
theorem dX7_isHouse_6 : decode cX7_isHouse 6 = .ok (.invokestatic 106, 3) := by decide +kernel
theorem dX7_isHouse_9 : decode cX7_isHouse 9 = .ok (.ireturn, 1) := by decide +kernel
theorem dX7_areAllWhole_0 : decode cX7_areAllWhole 0 = .ok (.iconst 1, 1) := by decide +kernel
theorem dX7_areAllWhole_1 : decode cX7_areAllWhole 1 = .ok (.istore_n 1, 1) := by decide +kernel
theorem dX7_areAllWhole_2 : decode cX7_areAllWhole 2 = .ok (.iconst 0, 1) := by decide +kernel
theorem dX7_areAllWhole_3 : decode cX7_areAllWhole 3 = .ok (.istore_n 2, 1) := by decide +kernel
theorem dX7_areAllWhole_4 : decode cX7_areAllWhole 4 = .ok (.iload_n 2, 1) := by decide +kernel
theorem dX7_areAllWhole_5 : decode cX7_areAllWhole 5 = .ok (.aload_n 0, 1) := by decide +kernel
theorem dX7_areAllWhole_6 : decode cX7_areAllWhole 6 = .ok (.getfield 93, 3) := by decide +kernel
theorem dX7_areAllWhole_9 : decode cX7_areAllWhole 9 = .ok (.if_icmp .ge 28, 3) := by decide +kernel
theorem dX7_areAllWhole_12 : decode cX7_areAllWhole 12 = .ok (.iload_n 1, 1) := by decide +kernel
theorem dX7_areAllWhole_13 : decode cX7_areAllWhole 13 = .ok (.ifCond .eq 16, 3) := by decide +kernel
theorem dX7_areAllWhole_16 : decode cX7_areAllWhole 16 = .ok (.aload_n 0, 1) := by decide +kernel
theorem dX7_areAllWhole_17 : decode cX7_areAllWhole 17 = .ok (.getfield 22, 3) := by decide +kernel
theorem dX7_areAllWhole_20 : decode cX7_areAllWhole 20 = .ok (.iload_n 2, 1) := by decide +kernel
theorem dX7_areAllWhole_21 : decode cX7_areAllWhole 21 = .ok (.iaload, 1) := by decide +kernel
theorem dX7_areAllWhole_22 : decode cX7_areAllWhole 22 = .ok (.ifCond .ne 7, 3) := by decide +kernel
theorem dX7_areAllWhole_25 : decode cX7_areAllWhole 25 = .ok (.iconst 1, 1) := by decide +kernel
theorem dX7_areAllWhole_26 : decode cX7_areAllWhole 26 = .ok (.goto 4, 3) := by decide +kernel
theorem dX7_areAllWhole_29 : decode cX7_areAllWhole 29 = .ok (.iconst 0, 1) := by decide +kernel
theorem dX7_areAllWhole_30 : decode cX7_areAllWhole 30 = .ok (.istore_n 1, 1) := by decide +kernel
theorem dX7_areAllWhole_31 : decode cX7_areAllWhole 31 = .ok (.iinc 2 1, 3) := by decide +kernel
theorem dX7_areAllWhole_34 : decode cX7_areAllWhole 34 = .ok (.goto (-30), 3) := by decide +kernel
theorem dX7_areAllWhole_37 : decode cX7_areAllWhole 37 = .ok (.iload_n 1, 1) := by decide +kernel
theorem dX7_areAllWhole_38 : decode cX7_areAllWhole 38 = .ok (.ireturn, 1) := by decide +kernel
theorem dX7_eggs_0 : decode cX7_eggs 0 = .ok (.iload_n 1, 1) := by decide +kernel
theorem dX7_eggs_1 : decode cX7_eggs 1 = .ok (.i2l, 1) := by decide +kernel
theorem dX7_eggs_2 : decode cX7_eggs 2 = .ok (.lconst 1, 1) := by decide +kernel
theorem dX7_eggs_3 : decode cX7_eggs 3 = .ok (.ldc2_w 112, 3) := by decide +kernel
theorem dX7_eggs_6 : decode cX7_eggs 6 = .ok (.invokestatic 106, 3) := by decide +kernel
theorem dX7_eggs_9 : decode cX7_eggs 9 = .ok (.ifCond .ne 6, 3) := by decide +kernel
theorem dX7_eggs_12 : decode cX7_eggs 12 = .ok (.bipush (-2), 2) := by decide +kernel
theorem dX7_eggs_14 : decode cX7_eggs 14 = .ok (.ireturn, 1) := by decide +kernel
theorem dX7_eggs_15 : decode cX7_eggs 15 = .ok (.aload_n 0, 1) := by decide +kernel
theorem dX7_eggs_16 : decode cX7_eggs 16 = .ok (.getfield 93, 3) := by decide +kernel
theorem dX7_eggs_19 : decode cX7_eggs 19 = .ok (.istore_n 2, 1) := by decide +kernel
theorem dX7_eggs_20 : decode cX7_eggs 20 = .ok (.aload_n 0, 1) := by decide +kernel
theorem dX7_eggs_21 : decode cX7_eggs 21 = .ok (.iload_n 1, 1) := by decide +kernel
theorem dX7_eggs_22 : decode cX7_eggs 22 = .ok (.invokevirtual 89, 3) := by decide +kernel
theorem dX7_eggs_25 : decode cX7_eggs 25 = .ok (.iload_n 2, 1) := by decide +kernel
theorem dX7_eggs_26 : decode cX7_eggs 26 = .ok (.ireturn, 1) := by decide +kernel
theorem dX7_greatest_0 : decode cX7_greatest 0 = .ok (.iload_n 0, 1) := by decide +kernel
theorem dX7_greatest_1 : decode cX7_greatest 1 = .ok (.iconst 2, 1) := by decide +kernel
theorem dX7_greatest_2 : decode cX7_greatest 2 = .ok (.if_icmp .ne 8, 3) := by decide +kernel
theorem dX7_greatest_5 : decode cX7_greatest 5 = .ok (.bipush 99, 2) := by decide +kernel
theorem dX7_greatest_7 : decode cX7_greatest 7 = .ok (.goto 14, 3) := by decide +kernel
theorem dX7_greatest_10 : decode cX7_greatest 10 = .ok (.iload_n 0, 1) := by decide +kernel
theorem dX7_greatest_11 : decode cX7_greatest 11 = .ok (.iconst 3, 1) := by decide +kernel
theorem dX7_greatest_12 : decode cX7_greatest 12 = .ok (.if_icmp .ne 7, 3) := by decide +kernel
theorem dX7_greatest_15 : decode cX7_greatest 15 = .ok (.iconst 5, 1) := by decide +kernel
theorem dX7_greatest_16 : decode cX7_greatest 16 = .ok (.goto 5, 3) := by decide +kernel
theorem dX7_greatest_19 : decode cX7_greatest 19 = .ok (.bipush 9, 2) := by decide +kernel
theorem dX7_greatest_21 : decode cX7_greatest 21 = .ok (.ireturn, 1) := by decide +kernel
theorem dX7_egg_0 : decode cX7_egg 0 = .ok (.aload_n 0, 1) := by decide +kernel
theorem dX7_egg_1 : decode cX7_egg 1 = .ok (.iload_n 1, 1) := by decide +kernel
theorem dX7_egg_2 : decode cX7_egg 2 = .ok (.invokevirtual 114, 3) := by decide +kernel
theorem dX7_egg_5 : decode cX7_egg 5 = .ok (.ifCond .ne 5, 3) := by decide +kernel
theorem dX7_egg_8 : decode cX7_egg 8 = .ok (.iconst (-1), 1) := by decide +kernel
theorem dX7_egg_9 : decode cX7_egg 9 = .ok (.ireturn, 1) := by decide +kernel
theorem dX7_egg_10 : decode cX7_egg 10 = .ok (.iload_n 2, 1) := by decide +kernel
theorem dX7_egg_11 : decode cX7_egg 11 = .ok (.i2l, 1) := by decide +kernel
theorem dX7_egg_12 : decode cX7_egg 12 = .ok (.lconst 0, 1) := by decide +kernel
theorem dX7_egg_13 : decode cX7_egg 13 = .ok (.ldc2_w 118, 3) := by decide +kernel
theorem dX7_egg_16 : decode cX7_egg 16 = .ok (.invokestatic 106, 3) := by decide +kernel
theorem dX7_egg_19 : decode cX7_egg 19 = .ok (.ifCond .eq 25, 3) := by decide +kernel
theorem dX7_egg_22 : decode cX7_egg 22 = .ok (.iload_n 3, 1) := by decide +kernel
theorem dX7_egg_23 : decode cX7_egg 23 = .ok (.i2l, 1) := by decide +kernel
theorem dX7_egg_24 : decode cX7_egg 24 = .ok (.iload_n 2, 1) := by decide +kernel
theorem dX7_egg_25 : decode cX7_egg 25 = .ok (.ifCond .ne 7, 3) := by decide +kernel
theorem dX7_egg_28 : decode cX7_egg 28 = .ok (.lconst 1, 1) := by decide +kernel
theorem dX7_egg_29 : decode cX7_egg 29 = .ok (.goto 4, 3) := by decide +kernel
theorem dX7_egg_32 : decode cX7_egg 32 = .ok (.lconst 0, 1) := by decide +kernel
theorem dX7_egg_33 : decode cX7_egg 33 = .ok (.iload_n 2, 1) := by decide +kernel
theorem dX7_egg_34 : decode cX7_egg 34 = .ok (.invokestatic 120, 3) := by decide +kernel
theorem dX7_egg_37 : decode cX7_egg 37 = .ok (.i2l, 1) := by decide +kernel
theorem dX7_egg_38 : decode cX7_egg 38 = .ok (.invokestatic 106, 3) := by decide +kernel
theorem dX7_egg_41 : decode cX7_egg 41 = .ok (.ifCond .ne 6, 3) := by decide +kernel
theorem dX7_egg_44 : decode cX7_egg 44 = .ok (.bipush (-2), 2) := by decide +kernel
theorem dX7_egg_46 : decode cX7_egg 46 = .ok (.ireturn, 1) := by decide +kernel
theorem dX7_egg_47 : decode cX7_egg 47 = .ok (.iload_n 2, 1) := by decide +kernel
theorem dX7_egg_48 : decode cX7_egg 48 = .ok (.iconst 1, 1) := by decide +kernel
theorem dX7_egg_49 : decode cX7_egg 49 = .ok (.if_icmp .ne 15, 3) := by decide +kernel
theorem dX7_egg_52 : decode cX7_egg 52 = .ok (.aload_n 0, 1) := by decide +kernel
theorem dX7_egg_53 : decode cX7_egg 53 = .ok (.getfield 22, 3) := by decide +kernel
theorem dX7_egg_56 : decode cX7_egg 56 = .ok (.iload_n 1, 1) := by decide +kernel
theorem dX7_egg_57 : decode cX7_egg 57 = .ok (.iaload, 1) := by decide +kernel
theorem dX7_egg_58 : decode cX7_egg 58 = .ok (.ifCond .eq 6, 3) := by decide +kernel
theorem dX7_egg_61 : decode cX7_egg 61 = .ok (.bipush (-3), 2) := by decide +kernel
theorem dX7_egg_63 : decode cX7_egg 63 = .ok (.ireturn, 1) := by decide +kernel
theorem dX7_egg_64 : decode cX7_egg 64 = .ok (.iload_n 2, 1) := by decide +kernel
theorem dX7_egg_65 : decode cX7_egg 65 = .ok (.ifCond .ne 12, 3) := by decide +kernel
theorem dX7_egg_68 : decode cX7_egg 68 = .ok (.aload_n 0, 1) := by decide +kernel
theorem dX7_egg_69 : decode cX7_egg 69 = .ok (.getfield 7, 3) := by decide +kernel
theorem dX7_egg_72 : decode cX7_egg 72 = .ok (.iload_n 1, 1) := by decide +kernel
theorem dX7_egg_73 : decode cX7_egg 73 = .ok (.iaload, 1) := by decide +kernel
theorem dX7_egg_74 : decode cX7_egg 74 = .ok (.goto 37, 3) := by decide +kernel
theorem dX7_egg_77 : decode cX7_egg 77 = .ok (.iload_n 2, 1) := by decide +kernel
theorem dX7_egg_78 : decode cX7_egg 78 = .ok (.iconst 1, 1) := by decide +kernel
theorem dX7_egg_79 : decode cX7_egg 79 = .ok (.if_icmp .ne 12, 3) := by decide +kernel
theorem dX7_egg_82 : decode cX7_egg 82 = .ok (.aload_n 0, 1) := by decide +kernel
theorem dX7_egg_83 : decode cX7_egg 83 = .ok (.getfield 13, 3) := by decide +kernel
theorem dX7_egg_86 : decode cX7_egg 86 = .ok (.iload_n 1, 1) := by decide +kernel
theorem dX7_egg_87 : decode cX7_egg 87 = .ok (.iaload, 1) := by decide +kernel
theorem dX7_egg_88 : decode cX7_egg 88 = .ok (.goto 23, 3) := by decide +kernel
theorem dX7_egg_91 : decode cX7_egg 91 = .ok (.iload_n 2, 1) := by decide +kernel
theorem dX7_egg_92 : decode cX7_egg 92 = .ok (.iconst 2, 1) := by decide +kernel
theorem dX7_egg_93 : decode cX7_egg 93 = .ok (.if_icmp .ne 12, 3) := by decide +kernel
theorem dX7_egg_96 : decode cX7_egg 96 = .ok (.aload_n 0, 1) := by decide +kernel
theorem dX7_egg_97 : decode cX7_egg 97 = .ok (.getfield 16, 3) := by decide +kernel
theorem dX7_egg_100 : decode cX7_egg 100 = .ok (.iload_n 1, 1) := by decide +kernel
theorem dX7_egg_101 : decode cX7_egg 101 = .ok (.iaload, 1) := by decide +kernel
theorem dX7_egg_102 : decode cX7_egg 102 = .ok (.goto 9, 3) := by decide +kernel
theorem dX7_egg_105 : decode cX7_egg 105 = .ok (.aload_n 0, 1) := by decide +kernel
theorem dX7_egg_106 : decode cX7_egg 106 = .ok (.getfield 19, 3) := by decide +kernel
theorem dX7_egg_109 : decode cX7_egg 109 = .ok (.iload_n 1, 1) := by decide +kernel
theorem dX7_egg_110 : decode cX7_egg 110 = .ok (.iaload, 1) := by decide +kernel
theorem dX7_egg_111 : decode cX7_egg 111 = .ok (.istore 4, 2) := by decide +kernel
theorem dX7_egg_113 : decode cX7_egg 113 = .ok (.aload_n 0, 1) := by decide +kernel
theorem dX7_egg_114 : decode cX7_egg 114 = .ok (.getfield 7, 3) := by decide +kernel
theorem dX7_egg_117 : decode cX7_egg 117 = .ok (.iload_n 1, 1) := by decide +kernel
theorem dX7_egg_118 : decode cX7_egg 118 = .ok (.iload_n 2, 1) := by decide +kernel
theorem dX7_egg_119 : decode cX7_egg 119 = .ok (.ifCond .ne 7, 3) := by decide +kernel
theorem dX7_egg_122 : decode cX7_egg 122 = .ok (.iload_n 3, 1) := by decide +kernel
theorem dX7_egg_123 : decode cX7_egg 123 = .ok (.goto 9, 3) := by decide +kernel
theorem dX7_egg_126 : decode cX7_egg 126 = .ok (.aload_n 0, 1) := by decide +kernel
theorem dX7_egg_127 : decode cX7_egg 127 = .ok (.getfield 7, 3) := by decide +kernel
theorem dX7_egg_130 : decode cX7_egg 130 = .ok (.iload_n 1, 1) := by decide +kernel
theorem dX7_egg_131 : decode cX7_egg 131 = .ok (.iaload, 1) := by decide +kernel
theorem dX7_egg_132 : decode cX7_egg 132 = .ok (.iastore, 1) := by decide +kernel
theorem dX7_egg_133 : decode cX7_egg 133 = .ok (.aload_n 0, 1) := by decide +kernel
theorem dX7_egg_134 : decode cX7_egg 134 = .ok (.getfield 13, 3) := by decide +kernel
theorem dX7_egg_137 : decode cX7_egg 137 = .ok (.iload_n 1, 1) := by decide +kernel
theorem dX7_egg_138 : decode cX7_egg 138 = .ok (.iload_n 2, 1) := by decide +kernel
theorem dX7_egg_139 : decode cX7_egg 139 = .ok (.iconst 1, 1) := by decide +kernel
theorem dX7_egg_140 : decode cX7_egg 140 = .ok (.if_icmp .ne 7, 3) := by decide +kernel
theorem dX7_egg_143 : decode cX7_egg 143 = .ok (.iload_n 3, 1) := by decide +kernel
theorem dX7_egg_144 : decode cX7_egg 144 = .ok (.goto 9, 3) := by decide +kernel
theorem dX7_egg_147 : decode cX7_egg 147 = .ok (.aload_n 0, 1) := by decide +kernel
theorem dX7_egg_148 : decode cX7_egg 148 = .ok (.getfield 13, 3) := by decide +kernel
theorem dX7_egg_151 : decode cX7_egg 151 = .ok (.iload_n 1, 1) := by decide +kernel
theorem dX7_egg_152 : decode cX7_egg 152 = .ok (.iaload, 1) := by decide +kernel
theorem dX7_egg_153 : decode cX7_egg 153 = .ok (.iastore, 1) := by decide +kernel
theorem dX7_egg_154 : decode cX7_egg 154 = .ok (.aload_n 0, 1) := by decide +kernel
theorem dX7_egg_155 : decode cX7_egg 155 = .ok (.getfield 16, 3) := by decide +kernel
theorem dX7_egg_158 : decode cX7_egg 158 = .ok (.iload_n 1, 1) := by decide +kernel
theorem dX7_egg_159 : decode cX7_egg 159 = .ok (.iload_n 2, 1) := by decide +kernel
theorem dX7_egg_160 : decode cX7_egg 160 = .ok (.iconst 2, 1) := by decide +kernel
theorem dX7_egg_161 : decode cX7_egg 161 = .ok (.if_icmp .ne 7, 3) := by decide +kernel
theorem dX7_egg_164 : decode cX7_egg 164 = .ok (.iload_n 3, 1) := by decide +kernel
theorem dX7_egg_165 : decode cX7_egg 165 = .ok (.goto 9, 3) := by decide +kernel
theorem dX7_egg_168 : decode cX7_egg 168 = .ok (.aload_n 0, 1) := by decide +kernel
theorem dX7_egg_169 : decode cX7_egg 169 = .ok (.getfield 16, 3) := by decide +kernel
theorem dX7_egg_172 : decode cX7_egg 172 = .ok (.iload_n 1, 1) := by decide +kernel
theorem dX7_egg_173 : decode cX7_egg 173 = .ok (.iaload, 1) := by decide +kernel
theorem dX7_egg_174 : decode cX7_egg 174 = .ok (.iastore, 1) := by decide +kernel
theorem dX7_egg_175 : decode cX7_egg 175 = .ok (.aload_n 0, 1) := by decide +kernel
theorem dX7_egg_176 : decode cX7_egg 176 = .ok (.getfield 19, 3) := by decide +kernel
theorem dX7_egg_179 : decode cX7_egg 179 = .ok (.iload_n 1, 1) := by decide +kernel
theorem dX7_egg_180 : decode cX7_egg 180 = .ok (.iload_n 2, 1) := by decide +kernel
theorem dX7_egg_181 : decode cX7_egg 181 = .ok (.iconst 3, 1) := by decide +kernel
theorem dX7_egg_182 : decode cX7_egg 182 = .ok (.if_icmp .ne 7, 3) := by decide +kernel
theorem dX7_egg_185 : decode cX7_egg 185 = .ok (.iload_n 3, 1) := by decide +kernel
theorem dX7_egg_186 : decode cX7_egg 186 = .ok (.goto 9, 3) := by decide +kernel
theorem dX7_egg_189 : decode cX7_egg 189 = .ok (.aload_n 0, 1) := by decide +kernel
theorem dX7_egg_190 : decode cX7_egg 190 = .ok (.getfield 19, 3) := by decide +kernel
theorem dX7_egg_193 : decode cX7_egg 193 = .ok (.iload_n 1, 1) := by decide +kernel
theorem dX7_egg_194 : decode cX7_egg 194 = .ok (.iaload, 1) := by decide +kernel
theorem dX7_egg_195 : decode cX7_egg 195 = .ok (.iastore, 1) := by decide +kernel
theorem dX7_egg_196 : decode cX7_egg 196 = .ok (.iload 4, 2) := by decide +kernel
theorem dX7_egg_198 : decode cX7_egg 198 = .ok (.ireturn, 1) := by decide +kernel
theorem dX7_stove_0 : decode cX7_stove 0 = .ok (.iload_n 1, 1) := by decide +kernel
theorem dX7_stove_1 : decode cX7_stove 1 = .ok (.invokestatic 124, 3) := by decide +kernel
theorem dX7_stove_4 : decode cX7_stove 4 = .ok (.ifCond .ne 5, 3) := by decide +kernel
theorem dX7_stove_7 : decode cX7_stove 7 = .ok (.iconst (-1), 1) := by decide +kernel
theorem dX7_stove_8 : decode cX7_stove 8 = .ok (.ireturn, 1) := by decide +kernel
theorem dX7_stove_9 : decode cX7_stove 9 = .ok (.aload_n 0, 1) := by decide +kernel
theorem dX7_stove_10 : decode cX7_stove 10 = .ok (.iload_n 2, 1) := by decide +kernel
theorem dX7_stove_11 : decode cX7_stove 11 = .ok (.ifCond .eq 14, 3) := by decide +kernel
theorem dX7_stove_14 : decode cX7_stove 14 = .ok (.aload_n 0, 1) := by decide +kernel
theorem dX7_stove_15 : decode cX7_stove 15 = .ok (.getfield 97, 3) := by decide +kernel
theorem dX7_stove_18 : decode cX7_stove 18 = .ok (.iconst 1, 1) := by decide +kernel
theorem dX7_stove_19 : decode cX7_stove 19 = .ok (.iload_n 1, 1) := by decide +kernel
theorem dX7_stove_20 : decode cX7_stove 20 = .ok (.ishl, 1) := by decide +kernel
theorem dX7_stove_21 : decode cX7_stove 21 = .ok (.ior, 1) := by decide +kernel
theorem dX7_stove_22 : decode cX7_stove 22 = .ok (.goto 13, 3) := by decide +kernel
theorem dX7_stove_25 : decode cX7_stove 25 = .ok (.aload_n 0, 1) := by decide +kernel
theorem dX7_stove_26 : decode cX7_stove 26 = .ok (.getfield 97, 3) := by decide +kernel
theorem dX7_stove_29 : decode cX7_stove 29 = .ok (.iconst 1, 1) := by decide +kernel
theorem dX7_stove_30 : decode cX7_stove 30 = .ok (.iload_n 1, 1) := by decide +kernel
theorem dX7_stove_31 : decode cX7_stove 31 = .ok (.ishl, 1) := by decide +kernel
theorem dX7_stove_32 : decode cX7_stove 32 = .ok (.iconst (-1), 1) := by decide +kernel
theorem dX7_stove_33 : decode cX7_stove 33 = .ok (.ixor, 1) := by decide +kernel
theorem dX7_stove_34 : decode cX7_stove 34 = .ok (.iand, 1) := by decide +kernel
theorem dX7_stove_35 : decode cX7_stove 35 = .ok (.putfield 97, 3) := by decide +kernel
theorem dX7_stove_38 : decode cX7_stove 38 = .ok (.aload_n 0, 1) := by decide +kernel
theorem dX7_stove_39 : decode cX7_stove 39 = .ok (.getfield 97, 3) := by decide +kernel
theorem dX7_stove_42 : decode cX7_stove 42 = .ok (.ireturn, 1) := by decide +kernel
theorem dX7_say_0 : decode cX7_say 0 = .ok (.iload_n 1, 1) := by decide +kernel
theorem dX7_say_1 : decode cX7_say 1 = .ok (.i2l, 1) := by decide +kernel
theorem dX7_say_2 : decode cX7_say 2 = .ok (.ldc2_w 127, 3) := by decide +kernel
theorem dX7_say_5 : decode cX7_say 5 = .ok (.ldc2_w 129, 3) := by decide +kernel
theorem dX7_say_8 : decode cX7_say 8 = .ok (.invokestatic 106, 3) := by decide +kernel
theorem dX7_say_11 : decode cX7_say 11 = .ok (.ifCond .ne 6, 3) := by decide +kernel
theorem dX7_say_14 : decode cX7_say 14 = .ok (.bipush (-2), 2) := by decide +kernel
theorem dX7_say_16 : decode cX7_say 16 = .ok (.ireturn, 1) := by decide +kernel
theorem dX7_say_17 : decode cX7_say 17 = .ok (.aload_n 0, 1) := by decide +kernel
theorem dX7_say_18 : decode cX7_say 18 = .ok (.getfield 131, 3) := by decide +kernel
theorem dX7_say_21 : decode cX7_say 21 = .ok (.bipush 60, 2) := by decide +kernel
theorem dX7_say_23 : decode cX7_say 23 = .ok (.if_icmp .ne 6, 3) := by decide +kernel
theorem dX7_say_26 : decode cX7_say 26 = .ok (.bipush (-4), 2) := by decide +kernel
theorem dX7_say_28 : decode cX7_say 28 = .ok (.ireturn, 1) := by decide +kernel
theorem dX7_say_29 : decode cX7_say 29 = .ok (.aload_n 0, 1) := by decide +kernel
theorem dX7_say_30 : decode cX7_say 30 = .ok (.getfield 43, 3) := by decide +kernel
theorem dX7_say_33 : decode cX7_say 33 = .ok (.aload_n 0, 1) := by decide +kernel
theorem dX7_say_34 : decode cX7_say 34 = .ok (.getfield 131, 3) := by decide +kernel
theorem dX7_say_37 : decode cX7_say 37 = .ok (.iload_n 1, 1) := by decide +kernel
theorem dX7_say_38 : decode cX7_say 38 = .ok (.iastore, 1) := by decide +kernel
theorem dX7_say_39 : decode cX7_say 39 = .ok (.aload_n 0, 1) := by decide +kernel
theorem dX7_say_40 : decode cX7_say 40 = .ok (.dup, 1) := by decide +kernel
theorem dX7_say_41 : decode cX7_say 41 = .ok (.getfield 131, 3) := by decide +kernel
theorem dX7_say_44 : decode cX7_say 44 = .ok (.iconst 1, 1) := by decide +kernel
theorem dX7_say_45 : decode cX7_say 45 = .ok (.iadd, 1) := by decide +kernel
theorem dX7_say_46 : decode cX7_say 46 = .ok (.putfield 131, 3) := by decide +kernel
theorem dX7_say_49 : decode cX7_say 49 = .ok (.aload_n 0, 1) := by decide +kernel
theorem dX7_say_50 : decode cX7_say 50 = .ok (.getfield 131, 3) := by decide +kernel
theorem dX7_say_53 : decode cX7_say 53 = .ok (.ireturn, 1) := by decide +kernel
theorem dX7_wipe_0 : decode cX7_wipe 0 = .ok (.aload_n 0, 1) := by decide +kernel
theorem dX7_wipe_1 : decode cX7_wipe 1 = .ok (.getfield 131, 3) := by decide +kernel
theorem dX7_wipe_4 : decode cX7_wipe 4 = .ok (.istore_n 1, 1) := by decide +kernel
theorem dX7_wipe_5 : decode cX7_wipe 5 = .ok (.aload_n 0, 1) := by decide +kernel
theorem dX7_wipe_6 : decode cX7_wipe 6 = .ok (.iconst 0, 1) := by decide +kernel
theorem dX7_wipe_7 : decode cX7_wipe 7 = .ok (.putfield 131, 3) := by decide +kernel
theorem dX7_wipe_10 : decode cX7_wipe 10 = .ok (.iload_n 1, 1) := by decide +kernel
theorem dX7_wipe_11 : decode cX7_wipe 11 = .ok (.ireturn, 1) := by decide +kernel
theorem dX7_faultOfOrder_0 : decode cX7_faultOfOrder 0 = .ok (.iconst 0, 1) := by decide +kernel
theorem dX7_faultOfOrder_1 : decode cX7_faultOfOrder 1 = .ok (.istore_n 1, 1) := by decide +kernel
theorem dX7_faultOfOrder_2 : decode cX7_faultOfOrder 2 = .ok (.iconst 0, 1) := by decide +kernel
theorem dX7_faultOfOrder_3 : decode cX7_faultOfOrder 3 = .ok (.istore_n 2, 1) := by decide +kernel
theorem dX7_faultOfOrder_4 : decode cX7_faultOfOrder 4 = .ok (.iload_n 2, 1) := by decide +kernel
theorem dX7_faultOfOrder_5 : decode cX7_faultOfOrder 5 = .ok (.aload_n 0, 1) := by decide +kernel
theorem dX7_faultOfOrder_6 : decode cX7_faultOfOrder 6 = .ok (.getfield 131, 3) := by decide +kernel
theorem dX7_faultOfOrder_9 : decode cX7_faultOfOrder 9 = .ok (.if_icmp .ge 44, 3) := by decide +kernel
theorem dX7_faultOfOrder_12 : decode cX7_faultOfOrder 12 = .ok (.aload_n 0, 1) := by decide +kernel
theorem dX7_faultOfOrder_13 : decode cX7_faultOfOrder 13 = .ok (.getfield 43, 3) := by decide +kernel
theorem dX7_faultOfOrder_16 : decode cX7_faultOfOrder 16 = .ok (.iload_n 2, 1) := by decide +kernel
theorem dX7_faultOfOrder_17 : decode cX7_faultOfOrder 17 = .ok (.iaload, 1) := by decide +kernel
theorem dX7_faultOfOrder_18 : decode cX7_faultOfOrder 18 = .ok (.bipush 48, 2) := by decide +kernel
theorem dX7_faultOfOrder_20 : decode cX7_faultOfOrder 20 = .ok (.isub, 1) := by decide +kernel
theorem dX7_faultOfOrder_21 : decode cX7_faultOfOrder 21 = .ok (.istore_n 3, 1) := by decide +kernel
theorem dX7_faultOfOrder_22 : decode cX7_faultOfOrder 22 = .ok (.aload_n 0, 1) := by decide +kernel
theorem dX7_faultOfOrder_23 : decode cX7_faultOfOrder 23 = .ok (.iload_n 3, 1) := by decide +kernel
theorem dX7_faultOfOrder_24 : decode cX7_faultOfOrder 24 = .ok (.invokevirtual 114, 3) := by decide +kernel
theorem dX7_faultOfOrder_27 : decode cX7_faultOfOrder 27 = .ok (.ifCond .eq 12, 3) := by decide +kernel
theorem dX7_faultOfOrder_30 : decode cX7_faultOfOrder 30 = .ok (.iload_n 1, 1) := by decide +kernel
theorem dX7_faultOfOrder_31 : decode cX7_faultOfOrder 31 = .ok (.iload_n 3, 1) := by decide +kernel
theorem dX7_faultOfOrder_32 : decode cX7_faultOfOrder 32 = .ok (.ishr, 1) := by decide +kernel
theorem dX7_faultOfOrder_33 : decode cX7_faultOfOrder 33 = .ok (.iconst 1, 1) := by decide +kernel
theorem dX7_faultOfOrder_34 : decode cX7_faultOfOrder 34 = .ok (.iand, 1) := by decide +kernel
theorem dX7_faultOfOrder_35 : decode cX7_faultOfOrder 35 = .ok (.iconst 1, 1) := by decide +kernel
theorem dX7_faultOfOrder_36 : decode cX7_faultOfOrder 36 = .ok (.if_icmp .ne 5, 3) := by decide +kernel
theorem dX7_faultOfOrder_39 : decode cX7_faultOfOrder 39 = .ok (.iload_n 2, 1) := by decide +kernel
theorem dX7_faultOfOrder_40 : decode cX7_faultOfOrder 40 = .ok (.ireturn, 1) := by decide +kernel
theorem dX7_faultOfOrder_41 : decode cX7_faultOfOrder 41 = .ok (.iload_n 1, 1) := by decide +kernel
theorem dX7_faultOfOrder_42 : decode cX7_faultOfOrder 42 = .ok (.iconst 1, 1) := by decide +kernel
theorem dX7_faultOfOrder_43 : decode cX7_faultOfOrder 43 = .ok (.iload_n 3, 1) := by decide +kernel
theorem dX7_faultOfOrder_44 : decode cX7_faultOfOrder 44 = .ok (.ishl, 1) := by decide +kernel
theorem dX7_faultOfOrder_45 : decode cX7_faultOfOrder 45 = .ok (.ior, 1) := by decide +kernel
theorem dX7_faultOfOrder_46 : decode cX7_faultOfOrder 46 = .ok (.istore_n 1, 1) := by decide +kernel
theorem dX7_faultOfOrder_47 : decode cX7_faultOfOrder 47 = .ok (.iinc 2 1, 3) := by decide +kernel
theorem dX7_faultOfOrder_50 : decode cX7_faultOfOrder 50 = .ok (.goto (-46), 3) := by decide +kernel
theorem dX7_faultOfOrder_53 : decode cX7_faultOfOrder 53 = .ok (.aload_n 0, 1) := by decide +kernel
theorem dX7_faultOfOrder_54 : decode cX7_faultOfOrder 54 = .ok (.getfield 131, 3) := by decide +kernel
theorem dX7_faultOfOrder_57 : decode cX7_faultOfOrder 57 = .ok (.aload_n 0, 1) := by decide +kernel
theorem dX7_faultOfOrder_58 : decode cX7_faultOfOrder 58 = .ok (.getfield 93, 3) := by decide +kernel
theorem dX7_faultOfOrder_61 : decode cX7_faultOfOrder 61 = .ok (.if_icmp .ge 10, 3) := by decide +kernel
theorem dX7_faultOfOrder_64 : decode cX7_faultOfOrder 64 = .ok (.aload_n 0, 1) := by decide +kernel
theorem dX7_faultOfOrder_65 : decode cX7_faultOfOrder 65 = .ok (.getfield 131, 3) := by decide +kernel
theorem dX7_faultOfOrder_68 : decode cX7_faultOfOrder 68 = .ok (.goto 5, 3) := by decide +kernel
theorem dX7_faultOfOrder_71 : decode cX7_faultOfOrder 71 = .ok (.bipush (-6), 2) := by decide +kernel
theorem dX7_faultOfOrder_73 : decode cX7_faultOfOrder 73 = .ok (.ireturn, 1) := by decide +kernel
theorem dX7_faultOfWeek_0 : decode cX7_faultOfWeek 0 = .ok (.aload_n 0, 1) := by decide +kernel
theorem dX7_faultOfWeek_1 : decode cX7_faultOfWeek 1 = .ok (.iconst 0, 1) := by decide +kernel
theorem dX7_faultOfWeek_2 : decode cX7_faultOfWeek 2 = .ok (.putfield 134, 3) := by decide +kernel
theorem dX7_faultOfWeek_5 : decode cX7_faultOfWeek 5 = .ok (.aload_n 0, 1) := by decide +kernel
theorem dX7_faultOfWeek_6 : decode cX7_faultOfWeek 6 = .ok (.iconst 0, 1) := by decide +kernel
theorem dX7_faultOfWeek_7 : decode cX7_faultOfWeek 7 = .ok (.putfield 137, 3) := by decide +kernel
theorem dX7_faultOfWeek_10 : decode cX7_faultOfWeek 10 = .ok (.iconst 0, 1) := by decide +kernel
theorem dX7_faultOfWeek_11 : decode cX7_faultOfWeek 11 = .ok (.istore_n 1, 1) := by decide +kernel
theorem dX7_faultOfWeek_12 : decode cX7_faultOfWeek 12 = .ok (.iconst 0, 1) := by decide +kernel
theorem dX7_faultOfWeek_13 : decode cX7_faultOfWeek 13 = .ok (.istore_n 2, 1) := by decide +kernel
theorem dX7_faultOfWeek_14 : decode cX7_faultOfWeek 14 = .ok (.iload_n 2, 1) := by decide +kernel
theorem dX7_faultOfWeek_15 : decode cX7_faultOfWeek 15 = .ok (.aload_n 0, 1) := by decide +kernel
theorem dX7_faultOfWeek_16 : decode cX7_faultOfWeek 16 = .ok (.getfield 131, 3) := by decide +kernel
theorem dX7_faultOfWeek_19 : decode cX7_faultOfWeek 19 = .ok (.if_icmp .ge 225, 3) := by decide +kernel
theorem dX7_faultOfWeek_22 : decode cX7_faultOfWeek 22 = .ok (.aload_n 0, 1) := by decide +kernel
theorem dX7_faultOfWeek_23 : decode cX7_faultOfWeek 23 = .ok (.getfield 43, 3) := by decide +kernel
theorem dX7_faultOfWeek_26 : decode cX7_faultOfWeek 26 = .ok (.iload_n 2, 1) := by decide +kernel
theorem dX7_faultOfWeek_27 : decode cX7_faultOfWeek 27 = .ok (.iaload, 1) := by decide +kernel
theorem dX7_faultOfWeek_28 : decode cX7_faultOfWeek 28 = .ok (.istore_n 3, 1) := by decide +kernel
theorem dX7_faultOfWeek_29 : decode cX7_faultOfWeek 29 = .ok (.iload_n 3, 1) := by decide +kernel
theorem dX7_faultOfWeek_30 : decode cX7_faultOfWeek 30 = .ok (.bipush 65, 2) := by decide +kernel
theorem dX7_faultOfWeek_32 : decode cX7_faultOfWeek 32 = .ok (.isub, 1) := by decide +kernel
theorem dX7_faultOfWeek_33 : decode cX7_faultOfWeek 33 = .ok (.invokestatic 124, 3) := by decide +kernel
theorem dX7_faultOfWeek_36 : decode cX7_faultOfWeek 36 = .ok (.istore 4, 2) := by decide +kernel
theorem dX7_faultOfWeek_38 : decode cX7_faultOfWeek 38 = .ok (.iload 4, 2) := by decide +kernel
theorem dX7_faultOfWeek_40 : decode cX7_faultOfWeek 40 = .ok (.ifCond .ne 39, 3) := by decide +kernel
theorem dX7_faultOfWeek_43 : decode cX7_faultOfWeek 43 = .ok (.iload_n 1, 1) := by decide +kernel
theorem dX7_faultOfWeek_44 : decode cX7_faultOfWeek 44 = .ok (.ifCond .eq 18, 3) := by decide +kernel
theorem dX7_faultOfWeek_47 : decode cX7_faultOfWeek 47 = .ok (.iload_n 3, 1) := by decide +kernel
theorem dX7_faultOfWeek_48 : decode cX7_faultOfWeek 48 = .ok (.bipush 33, 2) := by decide +kernel
theorem dX7_faultOfWeek_50 : decode cX7_faultOfWeek 50 = .ok (.if_icmp .eq 29, 3) := by decide +kernel
theorem dX7_faultOfWeek_53 : decode cX7_faultOfWeek 53 = .ok (.iload_n 3, 1) := by decide +kernel
theorem dX7_faultOfWeek_54 : decode cX7_faultOfWeek 54 = .ok (.bipush 43, 2) := by decide +kernel
theorem dX7_faultOfWeek_56 : decode cX7_faultOfWeek 56 = .ok (.if_icmp .ne 27, 3) := by decide +kernel
theorem dX7_faultOfWeek_59 : decode cX7_faultOfWeek 59 = .ok (.goto 20, 3) := by decide +kernel
theorem dX7_faultOfWeek_62 : decode cX7_faultOfWeek 62 = .ok (.iload_n 3, 1) := by decide +kernel
theorem dX7_faultOfWeek_63 : decode cX7_faultOfWeek 63 = .ok (.bipush 46, 2) := by decide +kernel
theorem dX7_faultOfWeek_65 : decode cX7_faultOfWeek 65 = .ok (.if_icmp .eq 14, 3) := by decide +kernel
theorem dX7_faultOfWeek_68 : decode cX7_faultOfWeek 68 = .ok (.aload_n 0, 1) := by decide +kernel
theorem dX7_faultOfWeek_69 : decode cX7_faultOfWeek 69 = .ok (.iload_n 3, 1) := by decide +kernel
theorem dX7_faultOfWeek_70 : decode cX7_faultOfWeek 70 = .ok (.bipush 48, 2) := by decide +kernel
theorem dX7_faultOfWeek_72 : decode cX7_faultOfWeek 72 = .ok (.isub, 1) := by decide +kernel
theorem dX7_faultOfWeek_73 : decode cX7_faultOfWeek 73 = .ok (.invokevirtual 114, 3) := by decide +kernel
theorem dX7_faultOfWeek_76 : decode cX7_faultOfWeek 76 = .ok (.ifCond .eq 7, 3) := by decide +kernel
theorem dX7_faultOfWeek_79 : decode cX7_faultOfWeek 79 = .ok (.iconst 1, 1) := by decide +kernel
theorem dX7_faultOfWeek_80 : decode cX7_faultOfWeek 80 = .ok (.goto 4, 3) := by decide +kernel
theorem dX7_faultOfWeek_83 : decode cX7_faultOfWeek 83 = .ok (.iconst 0, 1) := by decide +kernel
theorem dX7_faultOfWeek_84 : decode cX7_faultOfWeek 84 = .ok (.istore 5, 2) := by decide +kernel
theorem dX7_faultOfWeek_86 : decode cX7_faultOfWeek 86 = .ok (.iload 5, 2) := by decide +kernel
theorem dX7_faultOfWeek_88 : decode cX7_faultOfWeek 88 = .ok (.ifCond .ne 5, 3) := by decide +kernel
theorem dX7_faultOfWeek_91 : decode cX7_faultOfWeek 91 = .ok (.iload_n 2, 1) := by decide +kernel
theorem dX7_faultOfWeek_92 : decode cX7_faultOfWeek 92 = .ok (.ireturn, 1) := by decide +kernel
theorem dX7_faultOfWeek_93 : decode cX7_faultOfWeek 93 = .ok (.iload_n 1, 1) := by decide +kernel
theorem dX7_faultOfWeek_94 : decode cX7_faultOfWeek 94 = .ok (.ifCond .ne 18, 3) := by decide +kernel
theorem dX7_faultOfWeek_97 : decode cX7_faultOfWeek 97 = .ok (.aload_n 0, 1) := by decide +kernel
theorem dX7_faultOfWeek_98 : decode cX7_faultOfWeek 98 = .ok (.iload_n 3, 1) := by decide +kernel
theorem dX7_faultOfWeek_99 : decode cX7_faultOfWeek 99 = .ok (.bipush 48, 2) := by decide +kernel
theorem dX7_faultOfWeek_101 : decode cX7_faultOfWeek 101 = .ok (.isub, 1) := by decide +kernel
theorem dX7_faultOfWeek_102 : decode cX7_faultOfWeek 102 = .ok (.invokevirtual 114, 3) := by decide +kernel
theorem dX7_faultOfWeek_105 : decode cX7_faultOfWeek 105 = .ok (.ifCond .eq 7, 3) := by decide +kernel
theorem dX7_faultOfWeek_108 : decode cX7_faultOfWeek 108 = .ok (.iconst 1, 1) := by decide +kernel
theorem dX7_faultOfWeek_109 : decode cX7_faultOfWeek 109 = .ok (.goto 4, 3) := by decide +kernel
theorem dX7_faultOfWeek_112 : decode cX7_faultOfWeek 112 = .ok (.iconst 0, 1) := by decide +kernel
theorem dX7_faultOfWeek_113 : decode cX7_faultOfWeek 113 = .ok (.istore 6, 2) := by decide +kernel
theorem dX7_faultOfWeek_115 : decode cX7_faultOfWeek 115 = .ok (.iload 6, 2) := by decide +kernel
theorem dX7_faultOfWeek_117 : decode cX7_faultOfWeek 117 = .ok (.ifCond .eq 19, 3) := by decide +kernel
theorem dX7_faultOfWeek_120 : decode cX7_faultOfWeek 120 = .ok (.aload_n 0, 1) := by decide +kernel
theorem dX7_faultOfWeek_121 : decode cX7_faultOfWeek 121 = .ok (.getfield 49, 3) := by decide +kernel
theorem dX7_faultOfWeek_124 : decode cX7_faultOfWeek 124 = .ok (.aload_n 0, 1) := by decide +kernel
theorem dX7_faultOfWeek_125 : decode cX7_faultOfWeek 125 = .ok (.getfield 134, 3) := by decide +kernel
theorem dX7_faultOfWeek_128 : decode cX7_faultOfWeek 128 = .ok (.iload_n 3, 1) := by decide +kernel
theorem dX7_faultOfWeek_129 : decode cX7_faultOfWeek 129 = .ok (.bipush 48, 2) := by decide +kernel
theorem dX7_faultOfWeek_131 : decode cX7_faultOfWeek 131 = .ok (.isub, 1) := by decide +kernel
theorem dX7_faultOfWeek_132 : decode cX7_faultOfWeek 132 = .ok (.iastore, 1) := by decide +kernel
theorem dX7_faultOfWeek_133 : decode cX7_faultOfWeek 133 = .ok (.goto 102, 3) := by decide +kernel
theorem dX7_faultOfWeek_136 : decode cX7_faultOfWeek 136 = .ok (.aload_n 0, 1) := by decide +kernel
theorem dX7_faultOfWeek_137 : decode cX7_faultOfWeek 137 = .ok (.getfield 46, 3) := by decide +kernel
theorem dX7_faultOfWeek_140 : decode cX7_faultOfWeek 140 = .ok (.aload_n 0, 1) := by decide +kernel
theorem dX7_faultOfWeek_141 : decode cX7_faultOfWeek 141 = .ok (.getfield 134, 3) := by decide +kernel
theorem dX7_faultOfWeek_144 : decode cX7_faultOfWeek 144 = .ok (.iload_n 3, 1) := by decide +kernel
theorem dX7_faultOfWeek_145 : decode cX7_faultOfWeek 145 = .ok (.bipush 46, 2) := by decide +kernel
theorem dX7_faultOfWeek_147 : decode cX7_faultOfWeek 147 = .ok (.if_icmp .ne 7, 3) := by decide +kernel
theorem dX7_faultOfWeek_150 : decode cX7_faultOfWeek 150 = .ok (.iconst 0, 1) := by decide +kernel
theorem dX7_faultOfWeek_151 : decode cX7_faultOfWeek 151 = .ok (.goto 31, 3) := by decide +kernel
theorem dX7_faultOfWeek_154 : decode cX7_faultOfWeek 154 = .ok (.iload 4, 2) := by decide +kernel
theorem dX7_faultOfWeek_156 : decode cX7_faultOfWeek 156 = .ok (.ifCond .eq 15, 3) := by decide +kernel
theorem dX7_faultOfWeek_159 : decode cX7_faultOfWeek 159 = .ok (.iload_n 1, 1) := by decide +kernel
theorem dX7_faultOfWeek_160 : decode cX7_faultOfWeek 160 = .ok (.ifCond .eq 7, 3) := by decide +kernel
theorem dX7_faultOfWeek_163 : decode cX7_faultOfWeek 163 = .ok (.iconst 2, 1) := by decide +kernel
theorem dX7_faultOfWeek_164 : decode cX7_faultOfWeek 164 = .ok (.goto 18, 3) := by decide +kernel
theorem dX7_faultOfWeek_167 : decode cX7_faultOfWeek 167 = .ok (.iconst 1, 1) := by decide +kernel
theorem dX7_faultOfWeek_168 : decode cX7_faultOfWeek 168 = .ok (.goto 14, 3) := by decide +kernel
theorem dX7_faultOfWeek_171 : decode cX7_faultOfWeek 171 = .ok (.iload_n 3, 1) := by decide +kernel
theorem dX7_faultOfWeek_172 : decode cX7_faultOfWeek 172 = .ok (.bipush 33, 2) := by decide +kernel
theorem dX7_faultOfWeek_174 : decode cX7_faultOfWeek 174 = .ok (.if_icmp .ne 7, 3) := by decide +kernel
theorem dX7_faultOfWeek_177 : decode cX7_faultOfWeek 177 = .ok (.iconst 3, 1) := by decide +kernel
theorem dX7_faultOfWeek_178 : decode cX7_faultOfWeek 178 = .ok (.goto 4, 3) := by decide +kernel
theorem dX7_faultOfWeek_181 : decode cX7_faultOfWeek 181 = .ok (.iconst 4, 1) := by decide +kernel
theorem dX7_faultOfWeek_182 : decode cX7_faultOfWeek 182 = .ok (.iastore, 1) := by decide +kernel
theorem dX7_faultOfWeek_183 : decode cX7_faultOfWeek 183 = .ok (.aload_n 0, 1) := by decide +kernel
theorem dX7_faultOfWeek_184 : decode cX7_faultOfWeek 184 = .ok (.getfield 52, 3) := by decide +kernel
theorem dX7_faultOfWeek_187 : decode cX7_faultOfWeek 187 = .ok (.aload_n 0, 1) := by decide +kernel
theorem dX7_faultOfWeek_188 : decode cX7_faultOfWeek 188 = .ok (.getfield 134, 3) := by decide +kernel
theorem dX7_faultOfWeek_191 : decode cX7_faultOfWeek 191 = .ok (.iload_n 3, 1) := by decide +kernel
theorem dX7_faultOfWeek_192 : decode cX7_faultOfWeek 192 = .ok (.bipush 65, 2) := by decide +kernel
theorem dX7_faultOfWeek_194 : decode cX7_faultOfWeek 194 = .ok (.isub, 1) := by decide +kernel
theorem dX7_faultOfWeek_195 : decode cX7_faultOfWeek 195 = .ok (.iastore, 1) := by decide +kernel
theorem dX7_faultOfWeek_196 : decode cX7_faultOfWeek 196 = .ok (.aload_n 0, 1) := by decide +kernel
theorem dX7_faultOfWeek_197 : decode cX7_faultOfWeek 197 = .ok (.aload_n 0, 1) := by decide +kernel
theorem dX7_faultOfWeek_198 : decode cX7_faultOfWeek 198 = .ok (.getfield 137, 3) := by decide +kernel
theorem dX7_faultOfWeek_201 : decode cX7_faultOfWeek 201 = .ok (.ifCond .ne 16, 3) := by decide +kernel
theorem dX7_faultOfWeek_204 : decode cX7_faultOfWeek 204 = .ok (.aload_n 0, 1) := by decide +kernel
theorem dX7_faultOfWeek_205 : decode cX7_faultOfWeek 205 = .ok (.getfield 46, 3) := by decide +kernel
theorem dX7_faultOfWeek_208 : decode cX7_faultOfWeek 208 = .ok (.aload_n 0, 1) := by decide +kernel
theorem dX7_faultOfWeek_209 : decode cX7_faultOfWeek 209 = .ok (.getfield 134, 3) := by decide +kernel
theorem dX7_faultOfWeek_212 : decode cX7_faultOfWeek 212 = .ok (.iaload, 1) := by decide +kernel
theorem dX7_faultOfWeek_213 : decode cX7_faultOfWeek 213 = .ok (.iconst 2, 1) := by decide +kernel
theorem dX7_faultOfWeek_214 : decode cX7_faultOfWeek 214 = .ok (.if_icmp .le 7, 3) := by decide +kernel
theorem dX7_faultOfWeek_217 : decode cX7_faultOfWeek 217 = .ok (.iconst 1, 1) := by decide +kernel
theorem dX7_faultOfWeek_218 : decode cX7_faultOfWeek 218 = .ok (.goto 4, 3) := by decide +kernel
theorem dX7_faultOfWeek_221 : decode cX7_faultOfWeek 221 = .ok (.iconst 0, 1) := by decide +kernel
theorem dX7_faultOfWeek_222 : decode cX7_faultOfWeek 222 = .ok (.putfield 137, 3) := by decide +kernel
theorem dX7_faultOfWeek_225 : decode cX7_faultOfWeek 225 = .ok (.aload_n 0, 1) := by decide +kernel
theorem dX7_faultOfWeek_226 : decode cX7_faultOfWeek 226 = .ok (.dup, 1) := by decide +kernel
theorem dX7_faultOfWeek_227 : decode cX7_faultOfWeek 227 = .ok (.getfield 134, 3) := by decide +kernel
theorem dX7_faultOfWeek_230 : decode cX7_faultOfWeek 230 = .ok (.iconst 1, 1) := by decide +kernel
theorem dX7_faultOfWeek_231 : decode cX7_faultOfWeek 231 = .ok (.iadd, 1) := by decide +kernel
theorem dX7_faultOfWeek_232 : decode cX7_faultOfWeek 232 = .ok (.putfield 134, 3) := by decide +kernel
theorem dX7_faultOfWeek_235 : decode cX7_faultOfWeek 235 = .ok (.iload 6, 2) := by decide +kernel
theorem dX7_faultOfWeek_237 : decode cX7_faultOfWeek 237 = .ok (.istore_n 1, 1) := by decide +kernel
theorem dX7_faultOfWeek_238 : decode cX7_faultOfWeek 238 = .ok (.iinc 2 1, 3) := by decide +kernel
theorem dX7_faultOfWeek_241 : decode cX7_faultOfWeek 241 = .ok (.goto (-227), 3) := by decide +kernel
theorem dX7_faultOfWeek_244 : decode cX7_faultOfWeek 244 = .ok (.iload_n 1, 1) := by decide +kernel
theorem dX7_faultOfWeek_245 : decode cX7_faultOfWeek 245 = .ok (.ifCond .eq 10, 3) := by decide +kernel
theorem dX7_faultOfWeek_248 : decode cX7_faultOfWeek 248 = .ok (.aload_n 0, 1) := by decide +kernel
theorem dX7_faultOfWeek_249 : decode cX7_faultOfWeek 249 = .ok (.getfield 131, 3) := by decide +kernel
theorem dX7_faultOfWeek_252 : decode cX7_faultOfWeek 252 = .ok (.goto 5, 3) := by decide +kernel
theorem dX7_faultOfWeek_255 : decode cX7_faultOfWeek 255 = .ok (.bipush (-6), 2) := by decide +kernel
theorem dX7_faultOfWeek_257 : decode cX7_faultOfWeek 257 = .ok (.ireturn, 1) := by decide +kernel
theorem dX7_fault_0 : decode cX7_fault 0 = .ok (.iload_n 1, 1) := by decide +kernel
theorem dX7_fault_1 : decode cX7_fault 1 = .ok (.ifCond .ne 10, 3) := by decide +kernel
theorem dX7_fault_4 : decode cX7_fault 4 = .ok (.aload_n 0, 1) := by decide +kernel
theorem dX7_fault_5 : decode cX7_fault 5 = .ok (.invokevirtual 141, 3) := by decide +kernel
theorem dX7_fault_8 : decode cX7_fault 8 = .ok (.goto 17, 3) := by decide +kernel
theorem dX7_fault_11 : decode cX7_fault 11 = .ok (.iload_n 1, 1) := by decide +kernel
theorem dX7_fault_12 : decode cX7_fault 12 = .ok (.iconst 1, 1) := by decide +kernel
theorem dX7_fault_13 : decode cX7_fault 13 = .ok (.if_icmp .ne 10, 3) := by decide +kernel
theorem dX7_fault_16 : decode cX7_fault 16 = .ok (.aload_n 0, 1) := by decide +kernel
theorem dX7_fault_17 : decode cX7_fault 17 = .ok (.invokevirtual 145, 3) := by decide +kernel
theorem dX7_fault_20 : decode cX7_fault 20 = .ok (.goto 5, 3) := by decide +kernel
theorem dX7_fault_23 : decode cX7_fault 23 = .ok (.bipush (-2), 2) := by decide +kernel
theorem dX7_fault_25 : decode cX7_fault 25 = .ok (.ireturn, 1) := by decide +kernel
theorem dX7_order_0 : decode cX7_order 0 = .ok (.aload_n 0, 1) := by decide +kernel
theorem dX7_order_1 : decode cX7_order 1 = .ok (.invokevirtual 141, 3) := by decide +kernel
theorem dX7_order_4 : decode cX7_order 4 = .ok (.ifCond .lt 6, 3) := by decide +kernel
theorem dX7_order_7 : decode cX7_order 7 = .ok (.bipush (-5), 2) := by decide +kernel
theorem dX7_order_9 : decode cX7_order 9 = .ok (.ireturn, 1) := by decide +kernel
theorem dX7_order_10 : decode cX7_order 10 = .ok (.aload_n 0, 1) := by decide +kernel
theorem dX7_order_11 : decode cX7_order 11 = .ok (.invokevirtual 148, 3) := by decide +kernel
theorem dX7_order_14 : decode cX7_order 14 = .ok (.ifCond .ne 6, 3) := by decide +kernel
theorem dX7_order_17 : decode cX7_order 17 = .ok (.bipush (-3), 2) := by decide +kernel
theorem dX7_order_19 : decode cX7_order 19 = .ok (.ireturn, 1) := by decide +kernel
theorem dX7_order_20 : decode cX7_order 20 = .ok (.iconst 0, 1) := by decide +kernel
theorem dX7_order_21 : decode cX7_order 21 = .ok (.istore_n 1, 1) := by decide +kernel
theorem dX7_order_22 : decode cX7_order 22 = .ok (.iload_n 1, 1) := by decide +kernel
theorem dX7_order_23 : decode cX7_order 23 = .ok (.aload_n 0, 1) := by decide +kernel
theorem dX7_order_24 : decode cX7_order 24 = .ok (.getfield 93, 3) := by decide +kernel
theorem dX7_order_27 : decode cX7_order 27 = .ok (.if_icmp .ge 24, 3) := by decide +kernel
theorem dX7_order_30 : decode cX7_order 30 = .ok (.aload_n 0, 1) := by decide +kernel
theorem dX7_order_31 : decode cX7_order 31 = .ok (.getfield 25, 3) := by decide +kernel
theorem dX7_order_34 : decode cX7_order 34 = .ok (.iload_n 1, 1) := by decide +kernel
theorem dX7_order_35 : decode cX7_order 35 = .ok (.aload_n 0, 1) := by decide +kernel
theorem dX7_order_36 : decode cX7_order 36 = .ok (.getfield 43, 3) := by decide +kernel
theorem dX7_order_39 : decode cX7_order 39 = .ok (.iload_n 1, 1) := by decide +kernel
theorem dX7_order_40 : decode cX7_order 40 = .ok (.iaload, 1) := by decide +kernel
theorem dX7_order_41 : decode cX7_order 41 = .ok (.bipush 48, 2) := by decide +kernel
theorem dX7_order_43 : decode cX7_order 43 = .ok (.isub, 1) := by decide +kernel
theorem dX7_order_44 : decode cX7_order 44 = .ok (.iastore, 1) := by decide +kernel
theorem dX7_order_45 : decode cX7_order 45 = .ok (.iinc 1 1, 3) := by decide +kernel
theorem dX7_order_48 : decode cX7_order 48 = .ok (.goto (-26), 3) := by decide +kernel
theorem dX7_order_51 : decode cX7_order 51 = .ok (.aload_n 0, 1) := by decide +kernel
theorem dX7_order_52 : decode cX7_order 52 = .ok (.iconst 0, 1) := by decide +kernel
theorem dX7_order_53 : decode cX7_order 53 = .ok (.putfield 131, 3) := by decide +kernel
theorem dX7_order_56 : decode cX7_order 56 = .ok (.iconst 1, 1) := by decide +kernel
theorem dX7_order_57 : decode cX7_order 57 = .ok (.ireturn, 1) := by decide +kernel
theorem dX7_layOrder_0 : decode cX7_layOrder 0 = .ok (.iconst 0, 1) := by decide +kernel
theorem dX7_layOrder_1 : decode cX7_layOrder 1 = .ok (.istore_n 1, 1) := by decide +kernel
theorem dX7_layOrder_2 : decode cX7_layOrder 2 = .ok (.iload_n 1, 1) := by decide +kernel
theorem dX7_layOrder_3 : decode cX7_layOrder 3 = .ok (.bipush 7, 2) := by decide +kernel
theorem dX7_layOrder_5 : decode cX7_layOrder 5 = .ok (.if_icmp .ge 21, 3) := by decide +kernel
theorem dX7_layOrder_8 : decode cX7_layOrder 8 = .ok (.aload_n 0, 1) := by decide +kernel
theorem dX7_layOrder_9 : decode cX7_layOrder 9 = .ok (.getfield 55, 3) := by decide +kernel
theorem dX7_layOrder_12 : decode cX7_layOrder 12 = .ok (.iload_n 1, 1) := by decide +kernel
theorem dX7_layOrder_13 : decode cX7_layOrder 13 = .ok (.aload_n 0, 1) := by decide +kernel
theorem dX7_layOrder_14 : decode cX7_layOrder 14 = .ok (.getfield 25, 3) := by decide +kernel
theorem dX7_layOrder_17 : decode cX7_layOrder 17 = .ok (.iload_n 1, 1) := by decide +kernel
theorem dX7_layOrder_18 : decode cX7_layOrder 18 = .ok (.iaload, 1) := by decide +kernel
theorem dX7_layOrder_19 : decode cX7_layOrder 19 = .ok (.iastore, 1) := by decide +kernel
theorem dX7_layOrder_20 : decode cX7_layOrder 20 = .ok (.iinc 1 1, 3) := by decide +kernel
theorem dX7_layOrder_23 : decode cX7_layOrder 23 = .ok (.goto (-21), 3) := by decide +kernel
theorem dX7_layOrder_26 : decode cX7_layOrder 26 = .ok (.return_, 1) := by decide +kernel
theorem dX7_passHour_0 : decode cX7_passHour 0 = .ok (.aload_n 0, 1) := by decide +kernel
theorem dX7_passHour_1 : decode cX7_passHour 1 = .ok (.dup, 1) := by decide +kernel
theorem dX7_passHour_2 : decode cX7_passHour 2 = .ok (.getfield 152, 3) := by decide +kernel
theorem dX7_passHour_5 : decode cX7_passHour 5 = .ok (.iconst 1, 1) := by decide +kernel
theorem dX7_passHour_6 : decode cX7_passHour 6 = .ok (.iadd, 1) := by decide +kernel
theorem dX7_passHour_7 : decode cX7_passHour 7 = .ok (.putfield 152, 3) := by decide +kernel
theorem dX7_passHour_10 : decode cX7_passHour 10 = .ok (.iconst 0, 1) := by decide +kernel
theorem dX7_passHour_11 : decode cX7_passHour 11 = .ok (.istore_n 1, 1) := by decide +kernel
theorem dX7_passHour_12 : decode cX7_passHour 12 = .ok (.iload_n 1, 1) := by decide +kernel
theorem dX7_passHour_13 : decode cX7_passHour 13 = .ok (.aload_n 0, 1) := by decide +kernel
theorem dX7_passHour_14 : decode cX7_passHour 14 = .ok (.getfield 93, 3) := by decide +kernel
theorem dX7_passHour_17 : decode cX7_passHour 17 = .ok (.if_icmp .ge 70, 3) := by decide +kernel
theorem dX7_passHour_20 : decode cX7_passHour 20 = .ok (.aload_n 0, 1) := by decide +kernel
theorem dX7_passHour_21 : decode cX7_passHour 21 = .ok (.getfield 22, 3) := by decide +kernel
theorem dX7_passHour_24 : decode cX7_passHour 24 = .ok (.iload_n 1, 1) := by decide +kernel
theorem dX7_passHour_25 : decode cX7_passHour 25 = .ok (.iaload, 1) := by decide +kernel
theorem dX7_passHour_26 : decode cX7_passHour 26 = .ok (.ifCond .ne 24, 3) := by decide +kernel
theorem dX7_passHour_29 : decode cX7_passHour 29 = .ok (.aload_n 0, 1) := by decide +kernel
theorem dX7_passHour_30 : decode cX7_passHour 30 = .ok (.getfield 97, 3) := by decide +kernel
theorem dX7_passHour_33 : decode cX7_passHour 33 = .ok (.aload_n 0, 1) := by decide +kernel
theorem dX7_passHour_34 : decode cX7_passHour 34 = .ok (.getfield 19, 3) := by decide +kernel
theorem dX7_passHour_37 : decode cX7_passHour 37 = .ok (.iload_n 1, 1) := by decide +kernel
theorem dX7_passHour_38 : decode cX7_passHour 38 = .ok (.iaload, 1) := by decide +kernel
theorem dX7_passHour_39 : decode cX7_passHour 39 = .ok (.ishr, 1) := by decide +kernel
theorem dX7_passHour_40 : decode cX7_passHour 40 = .ok (.iconst 1, 1) := by decide +kernel
theorem dX7_passHour_41 : decode cX7_passHour 41 = .ok (.iand, 1) := by decide +kernel
theorem dX7_passHour_42 : decode cX7_passHour 42 = .ok (.iconst 1, 1) := by decide +kernel
theorem dX7_passHour_43 : decode cX7_passHour 43 = .ok (.if_icmp .ne 7, 3) := by decide +kernel
theorem dX7_passHour_46 : decode cX7_passHour 46 = .ok (.iconst 1, 1) := by decide +kernel
theorem dX7_passHour_47 : decode cX7_passHour 47 = .ok (.goto 4, 3) := by decide +kernel
theorem dX7_passHour_50 : decode cX7_passHour 50 = .ok (.iconst 0, 1) := by decide +kernel
theorem dX7_passHour_51 : decode cX7_passHour 51 = .ok (.istore_n 2, 1) := by decide +kernel
theorem dX7_passHour_52 : decode cX7_passHour 52 = .ok (.aload_n 0, 1) := by decide +kernel
theorem dX7_passHour_53 : decode cX7_passHour 53 = .ok (.getfield 13, 3) := by decide +kernel
theorem dX7_passHour_56 : decode cX7_passHour 56 = .ok (.iload_n 1, 1) := by decide +kernel
theorem dX7_passHour_57 : decode cX7_passHour 57 = .ok (.dup2, 1) := by decide +kernel
theorem dX7_passHour_58 : decode cX7_passHour 58 = .ok (.iaload, 1) := by decide +kernel
theorem dX7_passHour_59 : decode cX7_passHour 59 = .ok (.iload_n 2, 1) := by decide +kernel
theorem dX7_passHour_60 : decode cX7_passHour 60 = .ok (.ifCond .eq 18, 3) := by decide +kernel
theorem dX7_passHour_63 : decode cX7_passHour 63 = .ok (.aload_n 0, 1) := by decide +kernel
theorem dX7_passHour_64 : decode cX7_passHour 64 = .ok (.getfield 13, 3) := by decide +kernel
theorem dX7_passHour_67 : decode cX7_passHour 67 = .ok (.iload_n 1, 1) := by decide +kernel
theorem dX7_passHour_68 : decode cX7_passHour 68 = .ok (.iaload, 1) := by decide +kernel
theorem dX7_passHour_69 : decode cX7_passHour 69 = .ok (.bipush 9, 2) := by decide +kernel
theorem dX7_passHour_71 : decode cX7_passHour 71 = .ok (.if_icmp .ge 7, 3) := by decide +kernel
theorem dX7_passHour_74 : decode cX7_passHour 74 = .ok (.iconst 1, 1) := by decide +kernel
theorem dX7_passHour_75 : decode cX7_passHour 75 = .ok (.goto 4, 3) := by decide +kernel
theorem dX7_passHour_78 : decode cX7_passHour 78 = .ok (.iconst 0, 1) := by decide +kernel
theorem dX7_passHour_79 : decode cX7_passHour 79 = .ok (.iadd, 1) := by decide +kernel
theorem dX7_passHour_80 : decode cX7_passHour 80 = .ok (.iastore, 1) := by decide +kernel
theorem dX7_passHour_81 : decode cX7_passHour 81 = .ok (.iinc 1 1, 3) := by decide +kernel
theorem dX7_passHour_84 : decode cX7_passHour 84 = .ok (.goto (-72), 3) := by decide +kernel
theorem dX7_passHour_87 : decode cX7_passHour 87 = .ok (.iconst 1, 1) := by decide +kernel
theorem dX7_passHour_88 : decode cX7_passHour 88 = .ok (.istore_n 1, 1) := by decide +kernel
theorem dX7_passHour_89 : decode cX7_passHour 89 = .ok (.iconst 0, 1) := by decide +kernel
theorem dX7_passHour_90 : decode cX7_passHour 90 = .ok (.istore_n 2, 1) := by decide +kernel
theorem dX7_passHour_91 : decode cX7_passHour 91 = .ok (.iload_n 2, 1) := by decide +kernel
theorem dX7_passHour_92 : decode cX7_passHour 92 = .ok (.aload_n 0, 1) := by decide +kernel
theorem dX7_passHour_93 : decode cX7_passHour 93 = .ok (.getfield 93, 3) := by decide +kernel
theorem dX7_passHour_96 : decode cX7_passHour 96 = .ok (.if_icmp .ge 87, 3) := by decide +kernel
theorem dX7_passHour_99 : decode cX7_passHour 99 = .ok (.iload_n 1, 1) := by decide +kernel
theorem dX7_passHour_100 : decode cX7_passHour 100 = .ok (.ifCond .eq 83, 3) := by decide +kernel
theorem dX7_passHour_103 : decode cX7_passHour 103 = .ok (.aload_n 0, 1) := by decide +kernel
theorem dX7_passHour_104 : decode cX7_passHour 104 = .ok (.getfield 55, 3) := by decide +kernel
theorem dX7_passHour_107 : decode cX7_passHour 107 = .ok (.iload_n 2, 1) := by decide +kernel
theorem dX7_passHour_108 : decode cX7_passHour 108 = .ok (.iaload, 1) := by decide +kernel
theorem dX7_passHour_109 : decode cX7_passHour 109 = .ok (.istore_n 3, 1) := by decide +kernel
theorem dX7_passHour_110 : decode cX7_passHour 110 = .ok (.aload_n 0, 1) := by decide +kernel
theorem dX7_passHour_111 : decode cX7_passHour 111 = .ok (.getfield 22, 3) := by decide +kernel
theorem dX7_passHour_114 : decode cX7_passHour 114 = .ok (.iload_n 3, 1) := by decide +kernel
theorem dX7_passHour_115 : decode cX7_passHour 115 = .ok (.iaload, 1) := by decide +kernel
theorem dX7_passHour_116 : decode cX7_passHour 116 = .ok (.ifCond .ne 45, 3) := by decide +kernel
theorem dX7_passHour_119 : decode cX7_passHour 119 = .ok (.aload_n 0, 1) := by decide +kernel
theorem dX7_passHour_120 : decode cX7_passHour 120 = .ok (.getfield 13, 3) := by decide +kernel
theorem dX7_passHour_123 : decode cX7_passHour 123 = .ok (.iload_n 3, 1) := by decide +kernel
theorem dX7_passHour_124 : decode cX7_passHour 124 = .ok (.iaload, 1) := by decide +kernel
theorem dX7_passHour_125 : decode cX7_passHour 125 = .ok (.aload_n 0, 1) := by decide +kernel
theorem dX7_passHour_126 : decode cX7_passHour 126 = .ok (.getfield 7, 3) := by decide +kernel
theorem dX7_passHour_129 : decode cX7_passHour 129 = .ok (.iload_n 3, 1) := by decide +kernel
theorem dX7_passHour_130 : decode cX7_passHour 130 = .ok (.iaload, 1) := by decide +kernel
theorem dX7_passHour_131 : decode cX7_passHour 131 = .ok (.if_icmp .lt 30, 3) := by decide +kernel
theorem dX7_passHour_134 : decode cX7_passHour 134 = .ok (.aload_n 0, 1) := by decide +kernel
theorem dX7_passHour_135 : decode cX7_passHour 135 = .ok (.getfield 22, 3) := by decide +kernel
theorem dX7_passHour_138 : decode cX7_passHour 138 = .ok (.iload_n 3, 1) := by decide +kernel
theorem dX7_passHour_139 : decode cX7_passHour 139 = .ok (.iconst 1, 1) := by decide +kernel
theorem dX7_passHour_140 : decode cX7_passHour 140 = .ok (.iastore, 1) := by decide +kernel
theorem dX7_passHour_141 : decode cX7_passHour 141 = .ok (.aload_n 0, 1) := by decide +kernel
theorem dX7_passHour_142 : decode cX7_passHour 142 = .ok (.dup, 1) := by decide +kernel
theorem dX7_passHour_143 : decode cX7_passHour 143 = .ok (.getfield 155, 3) := by decide +kernel
theorem dX7_passHour_146 : decode cX7_passHour 146 = .ok (.iconst 1, 1) := by decide +kernel
theorem dX7_passHour_147 : decode cX7_passHour 147 = .ok (.iadd, 1) := by decide +kernel
theorem dX7_passHour_148 : decode cX7_passHour 148 = .ok (.putfield 155, 3) := by decide +kernel
theorem dX7_passHour_151 : decode cX7_passHour 151 = .ok (.aload_n 0, 1) := by decide +kernel
theorem dX7_passHour_152 : decode cX7_passHour 152 = .ok (.getfield 58, 3) := by decide +kernel
theorem dX7_passHour_155 : decode cX7_passHour 155 = .ok (.iload_n 3, 1) := by decide +kernel
theorem dX7_passHour_156 : decode cX7_passHour 156 = .ok (.aload_n 0, 1) := by decide +kernel
theorem dX7_passHour_157 : decode cX7_passHour 157 = .ok (.getfield 152, 3) := by decide +kernel
theorem dX7_passHour_160 : decode cX7_passHour 160 = .ok (.iastore, 1) := by decide +kernel
theorem dX7_passHour_161 : decode cX7_passHour 161 = .ok (.aload_n 0, 1) := by decide +kernel
theorem dX7_passHour_162 : decode cX7_passHour 162 = .ok (.getfield 22, 3) := by decide +kernel
theorem dX7_passHour_165 : decode cX7_passHour 165 = .ok (.iload_n 3, 1) := by decide +kernel
theorem dX7_passHour_166 : decode cX7_passHour 166 = .ok (.iaload, 1) := by decide +kernel
theorem dX7_passHour_167 : decode cX7_passHour 167 = .ok (.iconst 1, 1) := by decide +kernel
theorem dX7_passHour_168 : decode cX7_passHour 168 = .ok (.if_icmp .ne 7, 3) := by decide +kernel
theorem dX7_passHour_171 : decode cX7_passHour 171 = .ok (.iconst 1, 1) := by decide +kernel
theorem dX7_passHour_172 : decode cX7_passHour 172 = .ok (.goto 4, 3) := by decide +kernel
theorem dX7_passHour_175 : decode cX7_passHour 175 = .ok (.iconst 0, 1) := by decide +kernel
theorem dX7_passHour_176 : decode cX7_passHour 176 = .ok (.istore_n 1, 1) := by decide +kernel
theorem dX7_passHour_177 : decode cX7_passHour 177 = .ok (.iinc 2 1, 3) := by decide +kernel
theorem dX7_passHour_180 : decode cX7_passHour 180 = .ok (.goto (-89), 3) := by decide +kernel
theorem dX7_passHour_183 : decode cX7_passHour 183 = .ok (.return_, 1) := by decide +kernel
theorem dX7_whyNot_0 : decode cX7_whyNot 0 = .ok (.aload_n 0, 1) := by decide +kernel
theorem dX7_whyNot_1 : decode cX7_whyNot 1 = .ok (.getfield 49, 3) := by decide +kernel
theorem dX7_whyNot_4 : decode cX7_whyNot 4 = .ok (.iload_n 1, 1) := by decide +kernel
theorem dX7_whyNot_5 : decode cX7_whyNot 5 = .ok (.iaload, 1) := by decide +kernel
theorem dX7_whyNot_6 : decode cX7_whyNot 6 = .ok (.istore_n 2, 1) := by decide +kernel
theorem dX7_whyNot_7 : decode cX7_whyNot 7 = .ok (.aload_n 0, 1) := by decide +kernel
theorem dX7_whyNot_8 : decode cX7_whyNot 8 = .ok (.getfield 46, 3) := by decide +kernel
theorem dX7_whyNot_11 : decode cX7_whyNot 11 = .ok (.iload_n 1, 1) := by decide +kernel
theorem dX7_whyNot_12 : decode cX7_whyNot 12 = .ok (.iaload, 1) := by decide +kernel
theorem dX7_whyNot_13 : decode cX7_whyNot 13 = .ok (.iconst 2, 1) := by decide +kernel
theorem dX7_whyNot_14 : decode cX7_whyNot 14 = .ok (.if_icmp .ge 5, 3) := by decide +kernel
theorem dX7_whyNot_17 : decode cX7_whyNot 17 = .ok (.iconst 0, 1) := by decide +kernel
theorem dX7_whyNot_18 : decode cX7_whyNot 18 = .ok (.ireturn, 1) := by decide +kernel
theorem dX7_whyNot_19 : decode cX7_whyNot 19 = .ok (.aload_n 0, 1) := by decide +kernel
theorem dX7_whyNot_20 : decode cX7_whyNot 20 = .ok (.getfield 22, 3) := by decide +kernel
theorem dX7_whyNot_23 : decode cX7_whyNot 23 = .ok (.iload_n 2, 1) := by decide +kernel
theorem dX7_whyNot_24 : decode cX7_whyNot 24 = .ok (.iaload, 1) := by decide +kernel
theorem dX7_whyNot_25 : decode cX7_whyNot 25 = .ok (.iconst 1, 1) := by decide +kernel
theorem dX7_whyNot_26 : decode cX7_whyNot 26 = .ok (.if_icmp .ne 5, 3) := by decide +kernel
theorem dX7_whyNot_29 : decode cX7_whyNot 29 = .ok (.iconst 1, 1) := by decide +kernel
theorem dX7_whyNot_30 : decode cX7_whyNot 30 = .ok (.ireturn, 1) := by decide +kernel
theorem dX7_whyNot_31 : decode cX7_whyNot 31 = .ok (.aload_n 0, 1) := by decide +kernel
theorem dX7_whyNot_32 : decode cX7_whyNot 32 = .ok (.getfield 46, 3) := by decide +kernel
theorem dX7_whyNot_35 : decode cX7_whyNot 35 = .ok (.iload_n 1, 1) := by decide +kernel
theorem dX7_whyNot_36 : decode cX7_whyNot 36 = .ok (.iaload, 1) := by decide +kernel
theorem dX7_whyNot_37 : decode cX7_whyNot 37 = .ok (.iconst 4, 1) := by decide +kernel
theorem dX7_whyNot_38 : decode cX7_whyNot 38 = .ok (.if_icmp .ne 20, 3) := by decide +kernel
theorem dX7_whyNot_41 : decode cX7_whyNot 41 = .ok (.aload_n 0, 1) := by decide +kernel
theorem dX7_whyNot_42 : decode cX7_whyNot 42 = .ok (.getfield 22, 3) := by decide +kernel
theorem dX7_whyNot_45 : decode cX7_whyNot 45 = .ok (.iload_n 2, 1) := by decide +kernel
theorem dX7_whyNot_46 : decode cX7_whyNot 46 = .ok (.iaload, 1) := by decide +kernel
theorem dX7_whyNot_47 : decode cX7_whyNot 47 = .ok (.ifCond .ne 7, 3) := by decide +kernel
theorem dX7_whyNot_50 : decode cX7_whyNot 50 = .ok (.iconst 3, 1) := by decide +kernel
theorem dX7_whyNot_51 : decode cX7_whyNot 51 = .ok (.goto 22, 3) := by decide +kernel
theorem dX7_whyNot_54 : decode cX7_whyNot 54 = .ok (.iconst 0, 1) := by decide +kernel
theorem dX7_whyNot_55 : decode cX7_whyNot 55 = .ok (.goto 18, 3) := by decide +kernel
theorem dX7_whyNot_58 : decode cX7_whyNot 58 = .ok (.aload_n 0, 1) := by decide +kernel
theorem dX7_whyNot_59 : decode cX7_whyNot 59 = .ok (.getfield 22, 3) := by decide +kernel
theorem dX7_whyNot_62 : decode cX7_whyNot 62 = .ok (.iload_n 2, 1) := by decide +kernel
theorem dX7_whyNot_63 : decode cX7_whyNot 63 = .ok (.iaload, 1) := by decide +kernel
theorem dX7_whyNot_64 : decode cX7_whyNot 64 = .ok (.iconst 2, 1) := by decide +kernel
theorem dX7_whyNot_65 : decode cX7_whyNot 65 = .ok (.if_icmp .ne 7, 3) := by decide +kernel
theorem dX7_whyNot_68 : decode cX7_whyNot 68 = .ok (.iconst 2, 1) := by decide +kernel
theorem dX7_whyNot_69 : decode cX7_whyNot 69 = .ok (.goto 4, 3) := by decide +kernel
theorem dX7_whyNot_72 : decode cX7_whyNot 72 = .ok (.iconst 0, 1) := by decide +kernel
theorem dX7_whyNot_73 : decode cX7_whyNot 73 = .ok (.ireturn, 1) := by decide +kernel
theorem dX7_happen_0 : decode cX7_happen 0 = .ok (.aload_n 0, 1) := by decide +kernel
theorem dX7_happen_1 : decode cX7_happen 1 = .ok (.getfield 49, 3) := by decide +kernel
theorem dX7_happen_4 : decode cX7_happen 4 = .ok (.iload_n 1, 1) := by decide +kernel
theorem dX7_happen_5 : decode cX7_happen 5 = .ok (.iaload, 1) := by decide +kernel
theorem dX7_happen_6 : decode cX7_happen 6 = .ok (.istore_n 2, 1) := by decide +kernel
theorem dX7_happen_7 : decode cX7_happen 7 = .ok (.aload_n 0, 1) := by decide +kernel
theorem dX7_happen_8 : decode cX7_happen 8 = .ok (.getfield 46, 3) := by decide +kernel
theorem dX7_happen_11 : decode cX7_happen 11 = .ok (.iload_n 1, 1) := by decide +kernel
theorem dX7_happen_12 : decode cX7_happen 12 = .ok (.iaload, 1) := by decide +kernel
theorem dX7_happen_13 : decode cX7_happen 13 = .ok (.ifCond .ne 10, 3) := by decide +kernel
theorem dX7_happen_16 : decode cX7_happen 16 = .ok (.aload_n 0, 1) := by decide +kernel
theorem dX7_happen_17 : decode cX7_happen 17 = .ok (.invokevirtual 158, 3) := by decide +kernel
theorem dX7_happen_20 : decode cX7_happen 20 = .ok (.goto 101, 3) := by decide +kernel
theorem dX7_happen_23 : decode cX7_happen 23 = .ok (.aload_n 0, 1) := by decide +kernel
theorem dX7_happen_24 : decode cX7_happen 24 = .ok (.getfield 46, 3) := by decide +kernel
theorem dX7_happen_27 : decode cX7_happen 27 = .ok (.iload_n 1, 1) := by decide +kernel
theorem dX7_happen_28 : decode cX7_happen 28 = .ok (.iaload, 1) := by decide +kernel
theorem dX7_happen_29 : decode cX7_happen 29 = .ok (.iconst 1, 1) := by decide +kernel
theorem dX7_happen_30 : decode cX7_happen 30 = .ok (.if_icmp .ne 23, 3) := by decide +kernel
theorem dX7_happen_33 : decode cX7_happen 33 = .ok (.aload_n 0, 1) := by decide +kernel
theorem dX7_happen_34 : decode cX7_happen 34 = .ok (.dup, 1) := by decide +kernel
theorem dX7_happen_35 : decode cX7_happen 35 = .ok (.getfield 97, 3) := by decide +kernel
theorem dX7_happen_38 : decode cX7_happen 38 = .ok (.iconst 1, 1) := by decide +kernel
theorem dX7_happen_39 : decode cX7_happen 39 = .ok (.aload_n 0, 1) := by decide +kernel
theorem dX7_happen_40 : decode cX7_happen 40 = .ok (.getfield 52, 3) := by decide +kernel
theorem dX7_happen_43 : decode cX7_happen 43 = .ok (.iload_n 1, 1) := by decide +kernel
theorem dX7_happen_44 : decode cX7_happen 44 = .ok (.iaload, 1) := by decide +kernel
theorem dX7_happen_45 : decode cX7_happen 45 = .ok (.ishl, 1) := by decide +kernel
theorem dX7_happen_46 : decode cX7_happen 46 = .ok (.ixor, 1) := by decide +kernel
theorem dX7_happen_47 : decode cX7_happen 47 = .ok (.putfield 97, 3) := by decide +kernel
theorem dX7_happen_50 : decode cX7_happen 50 = .ok (.goto 71, 3) := by decide +kernel
theorem dX7_happen_53 : decode cX7_happen 53 = .ok (.aload_n 0, 1) := by decide +kernel
theorem dX7_happen_54 : decode cX7_happen 54 = .ok (.getfield 46, 3) := by decide +kernel
theorem dX7_happen_57 : decode cX7_happen 57 = .ok (.iload_n 1, 1) := by decide +kernel
theorem dX7_happen_58 : decode cX7_happen 58 = .ok (.iaload, 1) := by decide +kernel
theorem dX7_happen_59 : decode cX7_happen 59 = .ok (.iconst 2, 1) := by decide +kernel
theorem dX7_happen_60 : decode cX7_happen 60 = .ok (.if_icmp .ne 18, 3) := by decide +kernel
theorem dX7_happen_63 : decode cX7_happen 63 = .ok (.aload_n 0, 1) := by decide +kernel
theorem dX7_happen_64 : decode cX7_happen 64 = .ok (.getfield 19, 3) := by decide +kernel
theorem dX7_happen_67 : decode cX7_happen 67 = .ok (.iload_n 2, 1) := by decide +kernel
theorem dX7_happen_68 : decode cX7_happen 68 = .ok (.aload_n 0, 1) := by decide +kernel
theorem dX7_happen_69 : decode cX7_happen 69 = .ok (.getfield 52, 3) := by decide +kernel
theorem dX7_happen_72 : decode cX7_happen 72 = .ok (.iload_n 1, 1) := by decide +kernel
theorem dX7_happen_73 : decode cX7_happen 73 = .ok (.iaload, 1) := by decide +kernel
theorem dX7_happen_74 : decode cX7_happen 74 = .ok (.iastore, 1) := by decide +kernel
theorem dX7_happen_75 : decode cX7_happen 75 = .ok (.goto 46, 3) := by decide +kernel
theorem dX7_happen_78 : decode cX7_happen 78 = .ok (.aload_n 0, 1) := by decide +kernel
theorem dX7_happen_79 : decode cX7_happen 79 = .ok (.getfield 22, 3) := by decide +kernel
theorem dX7_happen_82 : decode cX7_happen 82 = .ok (.iload_n 2, 1) := by decide +kernel
theorem dX7_happen_83 : decode cX7_happen 83 = .ok (.aload_n 0, 1) := by decide +kernel
theorem dX7_happen_84 : decode cX7_happen 84 = .ok (.getfield 46, 3) := by decide +kernel
theorem dX7_happen_87 : decode cX7_happen 87 = .ok (.iload_n 1, 1) := by decide +kernel
theorem dX7_happen_88 : decode cX7_happen 88 = .ok (.iaload, 1) := by decide +kernel
theorem dX7_happen_89 : decode cX7_happen 89 = .ok (.iconst 3, 1) := by decide +kernel
theorem dX7_happen_90 : decode cX7_happen 90 = .ok (.if_icmp .ne 7, 3) := by decide +kernel
theorem dX7_happen_93 : decode cX7_happen 93 = .ok (.iconst 2, 1) := by decide +kernel
theorem dX7_happen_94 : decode cX7_happen 94 = .ok (.goto 4, 3) := by decide +kernel
theorem dX7_happen_97 : decode cX7_happen 97 = .ok (.iconst 1, 1) := by decide +kernel
theorem dX7_happen_98 : decode cX7_happen 98 = .ok (.iastore, 1) := by decide +kernel
theorem dX7_happen_99 : decode cX7_happen 99 = .ok (.aload_n 0, 1) := by decide +kernel
theorem dX7_happen_100 : decode cX7_happen 100 = .ok (.getfield 58, 3) := by decide +kernel
theorem dX7_happen_103 : decode cX7_happen 103 = .ok (.iload_n 2, 1) := by decide +kernel
theorem dX7_happen_104 : decode cX7_happen 104 = .ok (.aload_n 0, 1) := by decide +kernel
theorem dX7_happen_105 : decode cX7_happen 105 = .ok (.getfield 46, 3) := by decide +kernel
theorem dX7_happen_108 : decode cX7_happen 108 = .ok (.iload_n 1, 1) := by decide +kernel
theorem dX7_happen_109 : decode cX7_happen 109 = .ok (.iaload, 1) := by decide +kernel
theorem dX7_happen_110 : decode cX7_happen 110 = .ok (.iconst 3, 1) := by decide +kernel
theorem dX7_happen_111 : decode cX7_happen 111 = .ok (.if_icmp .ne 8, 3) := by decide +kernel
theorem dX7_happen_114 : decode cX7_happen 114 = .ok (.bipush (-6), 2) := by decide +kernel
theorem dX7_happen_116 : decode cX7_happen 116 = .ok (.goto 4, 3) := by decide +kernel
theorem dX7_happen_119 : decode cX7_happen 119 = .ok (.iconst 0, 1) := by decide +kernel
theorem dX7_happen_120 : decode cX7_happen 120 = .ok (.iastore, 1) := by decide +kernel
theorem dX7_happen_121 : decode cX7_happen 121 = .ok (.return_, 1) := by decide +kernel
theorem dX7_goWeek_0 : decode cX7_goWeek 0 = .ok (.aload_n 0, 1) := by decide +kernel
theorem dX7_goWeek_1 : decode cX7_goWeek 1 = .ok (.bipush (-6), 2) := by decide +kernel
theorem dX7_goWeek_3 : decode cX7_goWeek 3 = .ok (.putfield 161, 3) := by decide +kernel
theorem dX7_goWeek_6 : decode cX7_goWeek 6 = .ok (.aload_n 0, 1) := by decide +kernel
theorem dX7_goWeek_7 : decode cX7_goWeek 7 = .ok (.bipush (-6), 2) := by decide +kernel
theorem dX7_goWeek_9 : decode cX7_goWeek 9 = .ok (.putfield 164, 3) := by decide +kernel
theorem dX7_goWeek_12 : decode cX7_goWeek 12 = .ok (.aload_n 0, 1) := by decide +kernel
theorem dX7_goWeek_13 : decode cX7_goWeek 13 = .ok (.iconst 0, 1) := by decide +kernel
theorem dX7_goWeek_14 : decode cX7_goWeek 14 = .ok (.putfield 152, 3) := by decide +kernel
theorem dX7_goWeek_17 : decode cX7_goWeek 17 = .ok (.aload_n 0, 1) := by decide +kernel
theorem dX7_goWeek_18 : decode cX7_goWeek 18 = .ok (.iconst 0, 1) := by decide +kernel
theorem dX7_goWeek_19 : decode cX7_goWeek 19 = .ok (.putfield 155, 3) := by decide +kernel
theorem dX7_goWeek_22 : decode cX7_goWeek 22 = .ok (.iconst 0, 1) := by decide +kernel
theorem dX7_goWeek_23 : decode cX7_goWeek 23 = .ok (.istore_n 1, 1) := by decide +kernel
theorem dX7_goWeek_24 : decode cX7_goWeek 24 = .ok (.iload_n 1, 1) := by decide +kernel
theorem dX7_goWeek_25 : decode cX7_goWeek 25 = .ok (.aload_n 0, 1) := by decide +kernel
theorem dX7_goWeek_26 : decode cX7_goWeek 26 = .ok (.getfield 93, 3) := by decide +kernel
theorem dX7_goWeek_29 : decode cX7_goWeek 29 = .ok (.if_icmp .ge 31, 3) := by decide +kernel
theorem dX7_goWeek_32 : decode cX7_goWeek 32 = .ok (.aload_n 0, 1) := by decide +kernel
theorem dX7_goWeek_33 : decode cX7_goWeek 33 = .ok (.getfield 58, 3) := by decide +kernel
theorem dX7_goWeek_36 : decode cX7_goWeek 36 = .ok (.iload_n 1, 1) := by decide +kernel
theorem dX7_goWeek_37 : decode cX7_goWeek 37 = .ok (.aload_n 0, 1) := by decide +kernel
theorem dX7_goWeek_38 : decode cX7_goWeek 38 = .ok (.getfield 22, 3) := by decide +kernel
theorem dX7_goWeek_41 : decode cX7_goWeek 41 = .ok (.iload_n 1, 1) := by decide +kernel
theorem dX7_goWeek_42 : decode cX7_goWeek 42 = .ok (.iaload, 1) := by decide +kernel
theorem dX7_goWeek_43 : decode cX7_goWeek 43 = .ok (.iconst 1, 1) := by decide +kernel
theorem dX7_goWeek_44 : decode cX7_goWeek 44 = .ok (.if_icmp .ne 7, 3) := by decide +kernel
theorem dX7_goWeek_47 : decode cX7_goWeek 47 = .ok (.iconst 0, 1) := by decide +kernel
theorem dX7_goWeek_48 : decode cX7_goWeek 48 = .ok (.goto 5, 3) := by decide +kernel
theorem dX7_goWeek_51 : decode cX7_goWeek 51 = .ok (.bipush (-6), 2) := by decide +kernel
theorem dX7_goWeek_53 : decode cX7_goWeek 53 = .ok (.iastore, 1) := by decide +kernel
theorem dX7_goWeek_54 : decode cX7_goWeek 54 = .ok (.iinc 1 1, 3) := by decide +kernel
theorem dX7_goWeek_57 : decode cX7_goWeek 57 = .ok (.goto (-33), 3) := by decide +kernel
theorem dX7_goWeek_60 : decode cX7_goWeek 60 = .ok (.iconst 0, 1) := by decide +kernel
theorem dX7_goWeek_61 : decode cX7_goWeek 61 = .ok (.istore_n 1, 1) := by decide +kernel
theorem dX7_goWeek_62 : decode cX7_goWeek 62 = .ok (.iload_n 1, 1) := by decide +kernel
theorem dX7_goWeek_63 : decode cX7_goWeek 63 = .ok (.aload_n 0, 1) := by decide +kernel
theorem dX7_goWeek_64 : decode cX7_goWeek 64 = .ok (.getfield 134, 3) := by decide +kernel
theorem dX7_goWeek_67 : decode cX7_goWeek 67 = .ok (.if_icmp .ge 59, 3) := by decide +kernel
theorem dX7_goWeek_70 : decode cX7_goWeek 70 = .ok (.aload_n 0, 1) := by decide +kernel
theorem dX7_goWeek_71 : decode cX7_goWeek 71 = .ok (.getfield 161, 3) := by decide +kernel
theorem dX7_goWeek_74 : decode cX7_goWeek 74 = .ok (.ifCond .ge 52, 3) := by decide +kernel
theorem dX7_goWeek_77 : decode cX7_goWeek 77 = .ok (.aload_n 0, 1) := by decide +kernel
theorem dX7_goWeek_78 : decode cX7_goWeek 78 = .ok (.iload_n 1, 1) := by decide +kernel
theorem dX7_goWeek_79 : decode cX7_goWeek 79 = .ok (.invokevirtual 167, 3) := by decide +kernel
theorem dX7_goWeek_82 : decode cX7_goWeek 82 = .ok (.istore_n 2, 1) := by decide +kernel
theorem dX7_goWeek_83 : decode cX7_goWeek 83 = .ok (.aload_n 0, 1) := by decide +kernel
theorem dX7_goWeek_84 : decode cX7_goWeek 84 = .ok (.iload_n 2, 1) := by decide +kernel
theorem dX7_goWeek_85 : decode cX7_goWeek 85 = .ok (.ifCond .le 7, 3) := by decide +kernel
theorem dX7_goWeek_88 : decode cX7_goWeek 88 = .ok (.iload_n 1, 1) := by decide +kernel
theorem dX7_goWeek_89 : decode cX7_goWeek 89 = .ok (.goto 5, 3) := by decide +kernel
theorem dX7_goWeek_92 : decode cX7_goWeek 92 = .ok (.bipush (-6), 2) := by decide +kernel
theorem dX7_goWeek_94 : decode cX7_goWeek 94 = .ok (.putfield 161, 3) := by decide +kernel
theorem dX7_goWeek_97 : decode cX7_goWeek 97 = .ok (.aload_n 0, 1) := by decide +kernel
theorem dX7_goWeek_98 : decode cX7_goWeek 98 = .ok (.iload_n 2, 1) := by decide +kernel
theorem dX7_goWeek_99 : decode cX7_goWeek 99 = .ok (.ifCond .le 7, 3) := by decide +kernel
theorem dX7_goWeek_102 : decode cX7_goWeek 102 = .ok (.iload_n 2, 1) := by decide +kernel
theorem dX7_goWeek_103 : decode cX7_goWeek 103 = .ok (.goto 5, 3) := by decide +kernel
theorem dX7_goWeek_106 : decode cX7_goWeek 106 = .ok (.bipush (-6), 2) := by decide +kernel
theorem dX7_goWeek_108 : decode cX7_goWeek 108 = .ok (.putfield 164, 3) := by decide +kernel
theorem dX7_goWeek_111 : decode cX7_goWeek 111 = .ok (.iload_n 2, 1) := by decide +kernel
theorem dX7_goWeek_112 : decode cX7_goWeek 112 = .ok (.ifCond .ne 8, 3) := by decide +kernel
theorem dX7_goWeek_115 : decode cX7_goWeek 115 = .ok (.aload_n 0, 1) := by decide +kernel
theorem dX7_goWeek_116 : decode cX7_goWeek 116 = .ok (.iload_n 1, 1) := by decide +kernel
theorem dX7_goWeek_117 : decode cX7_goWeek 117 = .ok (.invokevirtual 170, 3) := by decide +kernel
theorem dX7_goWeek_120 : decode cX7_goWeek 120 = .ok (.iinc 1 1, 3) := by decide +kernel
theorem dX7_goWeek_123 : decode cX7_goWeek 123 = .ok (.goto (-61), 3) := by decide +kernel
theorem dX7_goWeek_126 : decode cX7_goWeek 126 = .ok (.return_, 1) := by decide +kernel
theorem dX7_keepNow_0 : decode cX7_keepNow 0 = .ok (.iconst 0, 1) := by decide +kernel
theorem dX7_keepNow_1 : decode cX7_keepNow 1 = .ok (.istore_n 1, 1) := by decide +kernel
theorem dX7_keepNow_2 : decode cX7_keepNow 2 = .ok (.iload_n 1, 1) := by decide +kernel
theorem dX7_keepNow_3 : decode cX7_keepNow 3 = .ok (.bipush 7, 2) := by decide +kernel
theorem dX7_keepNow_5 : decode cX7_keepNow 5 = .ok (.if_icmp .ge 51, 3) := by decide +kernel
theorem dX7_keepNow_8 : decode cX7_keepNow 8 = .ok (.aload_n 0, 1) := by decide +kernel
theorem dX7_keepNow_9 : decode cX7_keepNow 9 = .ok (.getfield 61, 3) := by decide +kernel
theorem dX7_keepNow_12 : decode cX7_keepNow 12 = .ok (.iload_n 1, 1) := by decide +kernel
theorem dX7_keepNow_13 : decode cX7_keepNow 13 = .ok (.aload_n 0, 1) := by decide +kernel
theorem dX7_keepNow_14 : decode cX7_keepNow 14 = .ok (.getfield 13, 3) := by decide +kernel
theorem dX7_keepNow_17 : decode cX7_keepNow 17 = .ok (.iload_n 1, 1) := by decide +kernel
theorem dX7_keepNow_18 : decode cX7_keepNow 18 = .ok (.iaload, 1) := by decide +kernel
theorem dX7_keepNow_19 : decode cX7_keepNow 19 = .ok (.iastore, 1) := by decide +kernel
theorem dX7_keepNow_20 : decode cX7_keepNow 20 = .ok (.aload_n 0, 1) := by decide +kernel
theorem dX7_keepNow_21 : decode cX7_keepNow 21 = .ok (.getfield 61, 3) := by decide +kernel
theorem dX7_keepNow_24 : decode cX7_keepNow 24 = .ok (.bipush 7, 2) := by decide +kernel
theorem dX7_keepNow_26 : decode cX7_keepNow 26 = .ok (.iload_n 1, 1) := by decide +kernel
theorem dX7_keepNow_27 : decode cX7_keepNow 27 = .ok (.iadd, 1) := by decide +kernel
theorem dX7_keepNow_28 : decode cX7_keepNow 28 = .ok (.aload_n 0, 1) := by decide +kernel
theorem dX7_keepNow_29 : decode cX7_keepNow 29 = .ok (.getfield 19, 3) := by decide +kernel
theorem dX7_keepNow_32 : decode cX7_keepNow 32 = .ok (.iload_n 1, 1) := by decide +kernel
theorem dX7_keepNow_33 : decode cX7_keepNow 33 = .ok (.iaload, 1) := by decide +kernel
theorem dX7_keepNow_34 : decode cX7_keepNow 34 = .ok (.iastore, 1) := by decide +kernel
theorem dX7_keepNow_35 : decode cX7_keepNow 35 = .ok (.aload_n 0, 1) := by decide +kernel
theorem dX7_keepNow_36 : decode cX7_keepNow 36 = .ok (.getfield 61, 3) := by decide +kernel
theorem dX7_keepNow_39 : decode cX7_keepNow 39 = .ok (.bipush 14, 2) := by decide +kernel
theorem dX7_keepNow_41 : decode cX7_keepNow 41 = .ok (.iload_n 1, 1) := by decide +kernel
theorem dX7_keepNow_42 : decode cX7_keepNow 42 = .ok (.iadd, 1) := by decide +kernel
theorem dX7_keepNow_43 : decode cX7_keepNow 43 = .ok (.aload_n 0, 1) := by decide +kernel
theorem dX7_keepNow_44 : decode cX7_keepNow 44 = .ok (.getfield 22, 3) := by decide +kernel
theorem dX7_keepNow_47 : decode cX7_keepNow 47 = .ok (.iload_n 1, 1) := by decide +kernel
theorem dX7_keepNow_48 : decode cX7_keepNow 48 = .ok (.iaload, 1) := by decide +kernel
theorem dX7_keepNow_49 : decode cX7_keepNow 49 = .ok (.iastore, 1) := by decide +kernel
theorem dX7_keepNow_50 : decode cX7_keepNow 50 = .ok (.iinc 1 1, 3) := by decide +kernel
theorem dX7_keepNow_53 : decode cX7_keepNow 53 = .ok (.goto (-51), 3) := by decide +kernel
theorem dX7_keepNow_56 : decode cX7_keepNow 56 = .ok (.aload_n 0, 1) := by decide +kernel
theorem dX7_keepNow_57 : decode cX7_keepNow 57 = .ok (.getfield 61, 3) := by decide +kernel
theorem dX7_keepNow_60 : decode cX7_keepNow 60 = .ok (.bipush 21, 2) := by decide +kernel
theorem dX7_keepNow_62 : decode cX7_keepNow 62 = .ok (.aload_n 0, 1) := by decide +kernel
theorem dX7_keepNow_63 : decode cX7_keepNow 63 = .ok (.getfield 97, 3) := by decide +kernel
theorem dX7_keepNow_66 : decode cX7_keepNow 66 = .ok (.iastore, 1) := by decide +kernel
theorem dX7_keepNow_67 : decode cX7_keepNow 67 = .ok (.return_, 1) := by decide +kernel
theorem dX7_putBack_0 : decode cX7_putBack 0 = .ok (.iconst 0, 1) := by decide +kernel
theorem dX7_putBack_1 : decode cX7_putBack 1 = .ok (.istore_n 1, 1) := by decide +kernel
theorem dX7_putBack_2 : decode cX7_putBack 2 = .ok (.iload_n 1, 1) := by decide +kernel
theorem dX7_putBack_3 : decode cX7_putBack 3 = .ok (.bipush 7, 2) := by decide +kernel
theorem dX7_putBack_5 : decode cX7_putBack 5 = .ok (.if_icmp .ge 51, 3) := by decide +kernel
theorem dX7_putBack_8 : decode cX7_putBack 8 = .ok (.aload_n 0, 1) := by decide +kernel
theorem dX7_putBack_9 : decode cX7_putBack 9 = .ok (.getfield 13, 3) := by decide +kernel
theorem dX7_putBack_12 : decode cX7_putBack 12 = .ok (.iload_n 1, 1) := by decide +kernel
theorem dX7_putBack_13 : decode cX7_putBack 13 = .ok (.aload_n 0, 1) := by decide +kernel
theorem dX7_putBack_14 : decode cX7_putBack 14 = .ok (.getfield 61, 3) := by decide +kernel
theorem dX7_putBack_17 : decode cX7_putBack 17 = .ok (.iload_n 1, 1) := by decide +kernel
theorem dX7_putBack_18 : decode cX7_putBack 18 = .ok (.iaload, 1) := by decide +kernel
theorem dX7_putBack_19 : decode cX7_putBack 19 = .ok (.iastore, 1) := by decide +kernel
theorem dX7_putBack_20 : decode cX7_putBack 20 = .ok (.aload_n 0, 1) := by decide +kernel
theorem dX7_putBack_21 : decode cX7_putBack 21 = .ok (.getfield 19, 3) := by decide +kernel
theorem dX7_putBack_24 : decode cX7_putBack 24 = .ok (.iload_n 1, 1) := by decide +kernel
theorem dX7_putBack_25 : decode cX7_putBack 25 = .ok (.aload_n 0, 1) := by decide +kernel
theorem dX7_putBack_26 : decode cX7_putBack 26 = .ok (.getfield 61, 3) := by decide +kernel
theorem dX7_putBack_29 : decode cX7_putBack 29 = .ok (.bipush 7, 2) := by decide +kernel
theorem dX7_putBack_31 : decode cX7_putBack 31 = .ok (.iload_n 1, 1) := by decide +kernel
theorem dX7_putBack_32 : decode cX7_putBack 32 = .ok (.iadd, 1) := by decide +kernel
theorem dX7_putBack_33 : decode cX7_putBack 33 = .ok (.iaload, 1) := by decide +kernel
theorem dX7_putBack_34 : decode cX7_putBack 34 = .ok (.iastore, 1) := by decide +kernel
theorem dX7_putBack_35 : decode cX7_putBack 35 = .ok (.aload_n 0, 1) := by decide +kernel
theorem dX7_putBack_36 : decode cX7_putBack 36 = .ok (.getfield 22, 3) := by decide +kernel
theorem dX7_putBack_39 : decode cX7_putBack 39 = .ok (.iload_n 1, 1) := by decide +kernel
theorem dX7_putBack_40 : decode cX7_putBack 40 = .ok (.aload_n 0, 1) := by decide +kernel
theorem dX7_putBack_41 : decode cX7_putBack 41 = .ok (.getfield 61, 3) := by decide +kernel
theorem dX7_putBack_44 : decode cX7_putBack 44 = .ok (.bipush 14, 2) := by decide +kernel
theorem dX7_putBack_46 : decode cX7_putBack 46 = .ok (.iload_n 1, 1) := by decide +kernel
theorem dX7_putBack_47 : decode cX7_putBack 47 = .ok (.iadd, 1) := by decide +kernel
theorem dX7_putBack_48 : decode cX7_putBack 48 = .ok (.iaload, 1) := by decide +kernel
theorem dX7_putBack_49 : decode cX7_putBack 49 = .ok (.iastore, 1) := by decide +kernel
theorem dX7_putBack_50 : decode cX7_putBack 50 = .ok (.iinc 1 1, 3) := by decide +kernel
theorem dX7_putBack_53 : decode cX7_putBack 53 = .ok (.goto (-51), 3) := by decide +kernel
theorem dX7_putBack_56 : decode cX7_putBack 56 = .ok (.aload_n 0, 1) := by decide +kernel
theorem dX7_putBack_57 : decode cX7_putBack 57 = .ok (.aload_n 0, 1) := by decide +kernel
theorem dX7_putBack_58 : decode cX7_putBack 58 = .ok (.getfield 61, 3) := by decide +kernel
theorem dX7_putBack_61 : decode cX7_putBack 61 = .ok (.bipush 21, 2) := by decide +kernel
theorem dX7_putBack_63 : decode cX7_putBack 63 = .ok (.iaload, 1) := by decide +kernel
theorem dX7_putBack_64 : decode cX7_putBack 64 = .ok (.putfield 97, 3) := by decide +kernel
theorem dX7_putBack_67 : decode cX7_putBack 67 = .ok (.return_, 1) := by decide +kernel
theorem dX7_stateOf_0 : decode cX7_stateOf 0 = .ok (.iload_n 2, 1) := by decide +kernel
theorem dX7_stateOf_1 : decode cX7_stateOf 1 = .ok (.ifCond .ne 12, 3) := by decide +kernel
theorem dX7_stateOf_4 : decode cX7_stateOf 4 = .ok (.aload_n 0, 1) := by decide +kernel
theorem dX7_stateOf_5 : decode cX7_stateOf 5 = .ok (.getfield 13, 3) := by decide +kernel
theorem dX7_stateOf_8 : decode cX7_stateOf 8 = .ok (.iload_n 1, 1) := by decide +kernel
theorem dX7_stateOf_9 : decode cX7_stateOf 9 = .ok (.iaload, 1) := by decide +kernel
theorem dX7_stateOf_10 : decode cX7_stateOf 10 = .ok (.goto 23, 3) := by decide +kernel
theorem dX7_stateOf_13 : decode cX7_stateOf 13 = .ok (.iload_n 2, 1) := by decide +kernel
theorem dX7_stateOf_14 : decode cX7_stateOf 14 = .ok (.iconst 1, 1) := by decide +kernel
theorem dX7_stateOf_15 : decode cX7_stateOf 15 = .ok (.if_icmp .ne 12, 3) := by decide +kernel
theorem dX7_stateOf_18 : decode cX7_stateOf 18 = .ok (.aload_n 0, 1) := by decide +kernel
theorem dX7_stateOf_19 : decode cX7_stateOf 19 = .ok (.getfield 19, 3) := by decide +kernel
theorem dX7_stateOf_22 : decode cX7_stateOf 22 = .ok (.iload_n 1, 1) := by decide +kernel
theorem dX7_stateOf_23 : decode cX7_stateOf 23 = .ok (.iaload, 1) := by decide +kernel
theorem dX7_stateOf_24 : decode cX7_stateOf 24 = .ok (.goto 9, 3) := by decide +kernel
theorem dX7_stateOf_27 : decode cX7_stateOf 27 = .ok (.aload_n 0, 1) := by decide +kernel
theorem dX7_stateOf_28 : decode cX7_stateOf 28 = .ok (.getfield 22, 3) := by decide +kernel
theorem dX7_stateOf_31 : decode cX7_stateOf 31 = .ok (.iload_n 1, 1) := by decide +kernel
theorem dX7_stateOf_32 : decode cX7_stateOf 32 = .ok (.iaload, 1) := by decide +kernel
theorem dX7_stateOf_33 : decode cX7_stateOf 33 = .ok (.ireturn, 1) := by decide +kernel
theorem dX7_findStop_0 : decode cX7_findStop 0 = .ok (.aload_n 0, 1) := by decide +kernel
theorem dX7_findStop_1 : decode cX7_findStop 1 = .ok (.bipush (-6), 2) := by decide +kernel
theorem dX7_findStop_3 : decode cX7_findStop 3 = .ok (.putfield 173, 3) := by decide +kernel
theorem dX7_findStop_6 : decode cX7_findStop 6 = .ok (.aload_n 0, 1) := by decide +kernel
